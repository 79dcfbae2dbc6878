section
-- ===== PART A: goes FIRST, ahead of the names: the tables' words, and 'selects' of the private methods out of them =====
/-- a private method of a class that the tables say can be made, by its rows of tables_1 -/
def lw_okq (q : MethodName × Nat) : Prop := (q.1.cls ≠ "java/lang/invoke/MethodHandle" ∧ q.1.cls ≠ "java/lang/invoke/VarHandle") ∧ Cond.instantiable q.1.cls q.2 ∈ tables_1 ∧ Cond.privateMethod q.1 ∈ tables_1 ∧ Cond.instanceMethod q.1 ∈ tables_1
theorem lw_p0 : lw_okq (⟨"RefHeap", "collectWhole", "(Z)I"⟩, 11) := ⟨⟨by decide +kernel, by decide +kernel⟩, List.mem_of_getElem? (i := 16) (by decide +kernel), List.mem_of_getElem? (i := 113) (by decide +kernel), List.mem_of_getElem? (i := 114) (by decide +kernel)⟩
theorem lw_p1 : lw_okq (⟨"RefHeap", "carryOver", "()V"⟩, 11) := ⟨⟨by decide +kernel, by decide +kernel⟩, List.mem_of_getElem? (i := 16) (by decide +kernel), List.mem_of_getElem? (i := 117) (by decide +kernel), List.mem_of_getElem? (i := 118) (by decide +kernel)⟩
theorem lw_p2 : lw_okq (⟨"RefHeap", "reachFromRoots", "(Z)V"⟩, 11) := ⟨⟨by decide +kernel, by decide +kernel⟩, List.mem_of_getElem? (i := 16) (by decide +kernel), List.mem_of_getElem? (i := 129) (by decide +kernel), List.mem_of_getElem? (i := 130) (by decide +kernel)⟩
theorem lw_p3 : lw_okq (⟨"RefHeap", "letGoOfUnreached", "()V"⟩, 11) := ⟨⟨by decide +kernel, by decide +kernel⟩, List.mem_of_getElem? (i := 16) (by decide +kernel), List.mem_of_getElem? (i := 169) (by decide +kernel), List.mem_of_getElem? (i := 170) (by decide +kernel)⟩
theorem lw_p4 : lw_okq (⟨"RefHeap", "tellQueue", "(LRefHeap$Loose;)I"⟩, 11) := ⟨⟨by decide +kernel, by decide +kernel⟩, List.mem_of_getElem? (i := 16) (by decide +kernel), List.mem_of_getElem? (i := 183) (by decide +kernel), List.mem_of_getElem? (i := 184) (by decide +kernel)⟩
theorem lw_p5 : lw_okq (⟨"RefHeap", "freeUnreached", "()I"⟩, 11) := ⟨⟨by decide +kernel, by decide +kernel⟩, List.mem_of_getElem? (i := 16) (by decide +kernel), List.mem_of_getElem? (i := 191) (by decide +kernel), List.mem_of_getElem? (i := 192) (by decide +kernel)⟩
theorem lw_p6 : lw_okq (⟨"RefHeap", "checkRoot", "(I)V"⟩, 11) := ⟨⟨by decide +kernel, by decide +kernel⟩, List.mem_of_getElem? (i := 16) (by decide +kernel), List.mem_of_getElem? (i := 211) (by decide +kernel), List.mem_of_getElem? (i := 212) (by decide +kernel)⟩
theorem lw_p7 : lw_okq (⟨"java/lang/Throwable", "fillInStackTrace", "(I)Ljava/lang/Throwable;"⟩, 6) := ⟨⟨by decide +kernel, by decide +kernel⟩, List.mem_of_getElem? (i := 255) (by decide +kernel), List.mem_of_getElem? (i := 253) (by decide +kernel), List.mem_of_getElem? (i := 254) (by decide +kernel)⟩
theorem lw_p8 : lw_okq (⟨"RefHeap", "makeRoom", "(I)Z"⟩, 11) := ⟨⟨by decide +kernel, by decide +kernel⟩, List.mem_of_getElem? (i := 16) (by decide +kernel), List.mem_of_getElem? (i := 285) (by decide +kernel), List.mem_of_getElem? (i := 286) (by decide +kernel)⟩
theorem lw_p9 : lw_okq (⟨"RefHeap", "fits", "(I)Z"⟩, 11) := ⟨⟨by decide +kernel, by decide +kernel⟩, List.mem_of_getElem? (i := 16) (by decide +kernel), List.mem_of_getElem? (i := 289) (by decide +kernel), List.mem_of_getElem? (i := 290) (by decide +kernel)⟩
theorem lw_p10 : lw_okq (⟨"RefHeap", "keep", "(ILRefHeap$Thing;)I"⟩, 11) := ⟨⟨by decide +kernel, by decide +kernel⟩, List.mem_of_getElem? (i := 16) (by decide +kernel), List.mem_of_getElem? (i := 347) (by decide +kernel), List.mem_of_getElem? (i := 348) (by decide +kernel)⟩
theorem lw_p11 : lw_okq (⟨"RefHeap", "isCarryDue", "()Z"⟩, 11) := ⟨⟨by decide +kernel, by decide +kernel⟩, List.mem_of_getElem? (i := 16) (by decide +kernel), List.mem_of_getElem? (i := 351) (by decide +kernel), List.mem_of_getElem? (i := 352) (by decide +kernel)⟩
theorem lw_p12 : lw_okq (⟨"RefHeap", "checkRootOrNone", "(I)V"⟩, 11) := ⟨⟨by decide +kernel, by decide +kernel⟩, List.mem_of_getElem? (i := 16) (by decide +kernel), List.mem_of_getElem? (i := 402) (by decide +kernel), List.mem_of_getElem? (i := 403) (by decide +kernel)⟩
theorem lw_p13 : lw_okq (⟨"RefHeap", "objectAt", "(I)LRefHeap$Thing;"⟩, 11) := ⟨⟨by decide +kernel, by decide +kernel⟩, List.mem_of_getElem? (i := 16) (by decide +kernel), List.mem_of_getElem? (i := 406) (by decide +kernel), List.mem_of_getElem? (i := 407) (by decide +kernel)⟩
theorem lw_p14 : lw_okq (⟨"RefHeap", "lineAtOrNone", "(I)LRefHeap$Line;"⟩, 11) := ⟨⟨by decide +kernel, by decide +kernel⟩, List.mem_of_getElem? (i := 16) (by decide +kernel), List.mem_of_getElem? (i := 426) (by decide +kernel), List.mem_of_getElem? (i := 427) (by decide +kernel)⟩
theorem lw_p15 : lw_okq (⟨"RefHeap", "lineAt", "(I)LRefHeap$Line;"⟩, 11) := ⟨⟨by decide +kernel, by decide +kernel⟩, List.mem_of_getElem? (i := 16) (by decide +kernel), List.mem_of_getElem? (i := 430) (by decide +kernel), List.mem_of_getElem? (i := 431) (by decide +kernel)⟩
def lw_privs_1 : List (MethodName × Nat) := [(⟨"RefHeap", "collectWhole", "(Z)I"⟩, 11), (⟨"RefHeap", "carryOver", "()V"⟩, 11), (⟨"RefHeap", "reachFromRoots", "(Z)V"⟩, 11), (⟨"RefHeap", "letGoOfUnreached", "()V"⟩, 11), (⟨"RefHeap", "tellQueue", "(LRefHeap$Loose;)I"⟩, 11), (⟨"RefHeap", "freeUnreached", "()I"⟩, 11), (⟨"RefHeap", "checkRoot", "(I)V"⟩, 11), (⟨"java/lang/Throwable", "fillInStackTrace", "(I)Ljava/lang/Throwable;"⟩, 6), (⟨"RefHeap", "makeRoom", "(I)Z"⟩, 11), (⟨"RefHeap", "fits", "(I)Z"⟩, 11), (⟨"RefHeap", "keep", "(ILRefHeap$Thing;)I"⟩, 11), (⟨"RefHeap", "isCarryDue", "()Z"⟩, 11), (⟨"RefHeap", "checkRootOrNone", "(I)V"⟩, 11), (⟨"RefHeap", "objectAt", "(I)LRefHeap$Thing;"⟩, 11), (⟨"RefHeap", "lineAtOrNone", "(I)LRefHeap$Line;"⟩, 11), (⟨"RefHeap", "lineAt", "(I)LRefHeap$Line;"⟩, 11)]
theorem lw_r1 : ∀ q ∈ lw_privs_1, lw_okq q := List.forall_mem_cons.mpr ⟨lw_p0, List.forall_mem_cons.mpr ⟨lw_p1, List.forall_mem_cons.mpr ⟨lw_p2, List.forall_mem_cons.mpr ⟨lw_p3, List.forall_mem_cons.mpr ⟨lw_p4, List.forall_mem_cons.mpr ⟨lw_p5, List.forall_mem_cons.mpr ⟨lw_p6, List.forall_mem_cons.mpr ⟨lw_p7, List.forall_mem_cons.mpr ⟨lw_p8, List.forall_mem_cons.mpr ⟨lw_p9, List.forall_mem_cons.mpr ⟨lw_p10, List.forall_mem_cons.mpr ⟨lw_p11, List.forall_mem_cons.mpr ⟨lw_p12, List.forall_mem_cons.mpr ⟨lw_p13, List.forall_mem_cons.mpr ⟨lw_p14, List.forall_mem_cons.mpr ⟨lw_p15, fun _ h => absurd h List.not_mem_nil⟩⟩⟩⟩⟩⟩⟩⟩⟩⟩⟩⟩⟩⟩⟩⟩
theorem lw_p16 : lw_okq (⟨"RefHeap", "atOrNone", "(I)LRefHeap$Thing;"⟩, 11) := ⟨⟨by decide +kernel, by decide +kernel⟩, List.mem_of_getElem? (i := 16) (by decide +kernel), List.mem_of_getElem? (i := 480) (by decide +kernel), List.mem_of_getElem? (i := 481) (by decide +kernel)⟩
theorem lw_p17 : lw_okq (⟨"RefHeap", "putRoot", "(ILRefHeap$Thing;)I"⟩, 11) := ⟨⟨by decide +kernel, by decide +kernel⟩, List.mem_of_getElem? (i := 16) (by decide +kernel), List.mem_of_getElem? (i := 491) (by decide +kernel), List.mem_of_getElem? (i := 492) (by decide +kernel)⟩
theorem lw_p18 : lw_okq (⟨"RefHeap", "holderOfRef", "(II)LRefHeap$Holder;"⟩, 11) := ⟨⟨by decide +kernel, by decide +kernel⟩, List.mem_of_getElem? (i := 16) (by decide +kernel), List.mem_of_getElem? (i := 509) (by decide +kernel), List.mem_of_getElem? (i := 510) (by decide +kernel)⟩
theorem lw_p19 : lw_okq (⟨"RefHeap", "holderAt", "(I)LRefHeap$Holder;"⟩, 11) := ⟨⟨by decide +kernel, by decide +kernel⟩, List.mem_of_getElem? (i := 16) (by decide +kernel), List.mem_of_getElem? (i := 513) (by decide +kernel), List.mem_of_getElem? (i := 514) (by decide +kernel)⟩
theorem lw_p20 : lw_okq (⟨"RefHeap", "holderOfNumber", "(II)LRefHeap$Holder;"⟩, 11) := ⟨⟨by decide +kernel, by decide +kernel⟩, List.mem_of_getElem? (i := 16) (by decide +kernel), List.mem_of_getElem? (i := 533) (by decide +kernel), List.mem_of_getElem? (i := 534) (by decide +kernel)⟩
theorem lw_p21 : lw_okq (⟨"RefHeap", "pairAt", "(I)LRefHeap$Loose;"⟩, 11) := ⟨⟨by decide +kernel, by decide +kernel⟩, List.mem_of_getElem? (i := 16) (by decide +kernel), List.mem_of_getElem? (i := 552) (by decide +kernel), List.mem_of_getElem? (i := 553) (by decide +kernel)⟩
theorem lw_p22 : lw_okq (⟨"RefHeap", "looseAt", "(I)LRefHeap$Loose;"⟩, 11) := ⟨⟨by decide +kernel, by decide +kernel⟩, List.mem_of_getElem? (i := 16) (by decide +kernel), List.mem_of_getElem? (i := 556) (by decide +kernel), List.mem_of_getElem? (i := 557) (by decide +kernel)⟩
theorem lw_p23 : lw_okq (⟨"RefHeapModel", "none", "(I)Z"⟩, 35) := ⟨⟨by decide +kernel, by decide +kernel⟩, List.mem_of_getElem? (i := 672) (by decide +kernel), List.mem_of_getElem? (i := 789) (by decide +kernel), List.mem_of_getElem? (i := 790) (by decide +kernel)⟩
theorem lw_p24 : lw_okq (⟨"RefHeapModel", "bad", "()I"⟩, 35) := ⟨⟨by decide +kernel, by decide +kernel⟩, List.mem_of_getElem? (i := 672) (by decide +kernel), List.mem_of_getElem? (i := 793) (by decide +kernel), List.mem_of_getElem? (i := 794) (by decide +kernel)⟩
theorem lw_p25 : lw_okq (⟨"RefHeapModel", "make", "(III)I"⟩, 35) := ⟨⟨by decide +kernel, by decide +kernel⟩, List.mem_of_getElem? (i := 672) (by decide +kernel), List.mem_of_getElem? (i := 797) (by decide +kernel), List.mem_of_getElem? (i := 798) (by decide +kernel)⟩
theorem lw_p26 : lw_okq (⟨"RefHeapModel", "collectAll", "(Z)I"⟩, 35) := ⟨⟨by decide +kernel, by decide +kernel⟩, List.mem_of_getElem? (i := 672) (by decide +kernel), List.mem_of_getElem? (i := 804) (by decide +kernel), List.mem_of_getElem? (i := 805) (by decide +kernel)⟩
theorem lw_p27 : lw_okq (⟨"RefHeapModel", "reach", "(I)V"⟩, 35) := ⟨⟨by decide +kernel, by decide +kernel⟩, List.mem_of_getElem? (i := 672) (by decide +kernel), List.mem_of_getElem? (i := 808) (by decide +kernel), List.mem_of_getElem? (i := 809) (by decide +kernel)⟩
theorem lw_p28 : lw_okq (⟨"RefHeapModel", "spread", "(Z)V"⟩, 35) := ⟨⟨by decide +kernel, by decide +kernel⟩, List.mem_of_getElem? (i := 672) (by decide +kernel), List.mem_of_getElem? (i := 812) (by decide +kernel), List.mem_of_getElem? (i := 813) (by decide +kernel)⟩
theorem lw_p29 : lw_okq (⟨"RefHeapModel", "comes", "(I)Z"⟩, 35) := ⟨⟨by decide +kernel, by decide +kernel⟩, List.mem_of_getElem? (i := 672) (by decide +kernel), List.mem_of_getElem? (i := 816) (by decide +kernel), List.mem_of_getElem? (i := 817) (by decide +kernel)⟩
theorem lw_p30 : lw_okq (⟨"RefHeapModel", "cellsOf", "(I)I"⟩, 35) := ⟨⟨by decide +kernel, by decide +kernel⟩, List.mem_of_getElem? (i := 672) (by decide +kernel), List.mem_of_getElem? (i := 820) (by decide +kernel), List.mem_of_getElem? (i := 821) (by decide +kernel)⟩
theorem lw_p31 : lw_okq (⟨"RefHeapModel", "push", "()V"⟩, 35) := ⟨⟨by decide +kernel, by decide +kernel⟩, List.mem_of_getElem? (i := 672) (by decide +kernel), List.mem_of_getElem? (i := 824) (by decide +kernel), List.mem_of_getElem? (i := 825) (by decide +kernel)⟩
def lw_privs_2 : List (MethodName × Nat) := [(⟨"RefHeap", "atOrNone", "(I)LRefHeap$Thing;"⟩, 11), (⟨"RefHeap", "putRoot", "(ILRefHeap$Thing;)I"⟩, 11), (⟨"RefHeap", "holderOfRef", "(II)LRefHeap$Holder;"⟩, 11), (⟨"RefHeap", "holderAt", "(I)LRefHeap$Holder;"⟩, 11), (⟨"RefHeap", "holderOfNumber", "(II)LRefHeap$Holder;"⟩, 11), (⟨"RefHeap", "pairAt", "(I)LRefHeap$Loose;"⟩, 11), (⟨"RefHeap", "looseAt", "(I)LRefHeap$Loose;"⟩, 11), (⟨"RefHeapModel", "none", "(I)Z"⟩, 35), (⟨"RefHeapModel", "bad", "()I"⟩, 35), (⟨"RefHeapModel", "make", "(III)I"⟩, 35), (⟨"RefHeapModel", "collectAll", "(Z)I"⟩, 35), (⟨"RefHeapModel", "reach", "(I)V"⟩, 35), (⟨"RefHeapModel", "spread", "(Z)V"⟩, 35), (⟨"RefHeapModel", "comes", "(I)Z"⟩, 35), (⟨"RefHeapModel", "cellsOf", "(I)I"⟩, 35), (⟨"RefHeapModel", "push", "()V"⟩, 35)]
theorem lw_r2 : ∀ q ∈ lw_privs_2, lw_okq q := List.forall_mem_cons.mpr ⟨lw_p16, List.forall_mem_cons.mpr ⟨lw_p17, List.forall_mem_cons.mpr ⟨lw_p18, List.forall_mem_cons.mpr ⟨lw_p19, List.forall_mem_cons.mpr ⟨lw_p20, List.forall_mem_cons.mpr ⟨lw_p21, List.forall_mem_cons.mpr ⟨lw_p22, List.forall_mem_cons.mpr ⟨lw_p23, List.forall_mem_cons.mpr ⟨lw_p24, List.forall_mem_cons.mpr ⟨lw_p25, List.forall_mem_cons.mpr ⟨lw_p26, List.forall_mem_cons.mpr ⟨lw_p27, List.forall_mem_cons.mpr ⟨lw_p28, List.forall_mem_cons.mpr ⟨lw_p29, List.forall_mem_cons.mpr ⟨lw_p30, List.forall_mem_cons.mpr ⟨lw_p31, fun _ h => absurd h List.not_mem_nil⟩⟩⟩⟩⟩⟩⟩⟩⟩⟩⟩⟩⟩⟩⟩⟩
theorem lw_p32 : lw_okq (⟨"RefHeapModel", "made", "(II)I"⟩, 35) := ⟨⟨by decide +kernel, by decide +kernel⟩, List.mem_of_getElem? (i := 672) (by decide +kernel), List.mem_of_getElem? (i := 828) (by decide +kernel), List.mem_of_getElem? (i := 829) (by decide +kernel)⟩
theorem lw_p33 : lw_okq (⟨"RefHeapModel", "noneOrNull", "(I)Z"⟩, 35) := ⟨⟨by decide +kernel, by decide +kernel⟩, List.mem_of_getElem? (i := 672) (by decide +kernel), List.mem_of_getElem? (i := 844) (by decide +kernel), List.mem_of_getElem? (i := 845) (by decide +kernel)⟩
theorem lw_p34 : lw_okq (⟨"RefHeapModel", "is", "(II)Z"⟩, 35) := ⟨⟨by decide +kernel, by decide +kernel⟩, List.mem_of_getElem? (i := 672) (by decide +kernel), List.mem_of_getElem? (i := 848) (by decide +kernel), List.mem_of_getElem? (i := 849) (by decide +kernel)⟩
theorem lw_p35 : lw_okq (⟨"RefHeapModel", "wrong", "()I"⟩, 35) := ⟨⟨by decide +kernel, by decide +kernel⟩, List.mem_of_getElem? (i := 672) (by decide +kernel), List.mem_of_getElem? (i := 852) (by decide +kernel), List.mem_of_getElem? (i := 853) (by decide +kernel)⟩
theorem lw_p36 : lw_okq (⟨"RefHeapModel", "of", "(I)I"⟩, 35) := ⟨⟨by decide +kernel, by decide +kernel⟩, List.mem_of_getElem? (i := 672) (by decide +kernel), List.mem_of_getElem? (i := 856) (by decide +kernel), List.mem_of_getElem? (i := 857) (by decide +kernel)⟩
theorem lw_p37 : lw_okq (⟨"RefHeapModel", "makeLoose", "(IIIII)I"⟩, 35) := ⟨⟨by decide +kernel, by decide +kernel⟩, List.mem_of_getElem? (i := 672) (by decide +kernel), List.mem_of_getElem? (i := 860) (by decide +kernel), List.mem_of_getElem? (i := 861) (by decide +kernel)⟩
theorem lw_p38 : lw_okq (⟨"RefHeapModel", "comesTo", "(II)I"⟩, 35) := ⟨⟨by decide +kernel, by decide +kernel⟩, List.mem_of_getElem? (i := 672) (by decide +kernel), List.mem_of_getElem? (i := 872) (by decide +kernel), List.mem_of_getElem? (i := 873) (by decide +kernel)⟩
theorem lw_p39 : lw_okq (⟨"RefHeapModel", "noNumber", "(II)Z"⟩, 35) := ⟨⟨by decide +kernel, by decide +kernel⟩, List.mem_of_getElem? (i := 672) (by decide +kernel), List.mem_of_getElem? (i := 888) (by decide +kernel), List.mem_of_getElem? (i := 889) (by decide +kernel)⟩
theorem lw_p40 : lw_okq (⟨"RefHeapModel", "isLoose", "(I)Z"⟩, 35) := ⟨⟨by decide +kernel, by decide +kernel⟩, List.mem_of_getElem? (i := 672) (by decide +kernel), List.mem_of_getElem? (i := 900) (by decide +kernel), List.mem_of_getElem? (i := 901) (by decide +kernel)⟩
def lw_privs_3 : List (MethodName × Nat) := [(⟨"RefHeapModel", "made", "(II)I"⟩, 35), (⟨"RefHeapModel", "noneOrNull", "(I)Z"⟩, 35), (⟨"RefHeapModel", "is", "(II)Z"⟩, 35), (⟨"RefHeapModel", "wrong", "()I"⟩, 35), (⟨"RefHeapModel", "of", "(I)I"⟩, 35), (⟨"RefHeapModel", "makeLoose", "(IIIII)I"⟩, 35), (⟨"RefHeapModel", "comesTo", "(II)I"⟩, 35), (⟨"RefHeapModel", "noNumber", "(II)Z"⟩, 35), (⟨"RefHeapModel", "isLoose", "(I)Z"⟩, 35)]
theorem lw_r3 : ∀ q ∈ lw_privs_3, lw_okq q := List.forall_mem_cons.mpr ⟨lw_p32, List.forall_mem_cons.mpr ⟨lw_p33, List.forall_mem_cons.mpr ⟨lw_p34, List.forall_mem_cons.mpr ⟨lw_p35, List.forall_mem_cons.mpr ⟨lw_p36, List.forall_mem_cons.mpr ⟨lw_p37, List.forall_mem_cons.mpr ⟨lw_p38, List.forall_mem_cons.mpr ⟨lw_p39, List.forall_mem_cons.mpr ⟨lw_p40, fun _ h => absurd h List.not_mem_nil⟩⟩⟩⟩⟩⟩⟩⟩⟩
def lw_privs : List (MethodName × Nat) := lw_privs_1 ++ (lw_privs_2 ++ (lw_privs_3))
def lw_tbl : List Cond := k2_sels lw_privs ++ tables_1
theorem lw_privs_ok : ∀ q ∈ lw_privs, lw_okq q := by
  show ∀ q ∈ lw_privs_1 ++ (lw_privs_2 ++ (lw_privs_3)), lw_okq q
  exact List.forall_mem_append.mpr ⟨lw_r1, List.forall_mem_append.mpr ⟨lw_r2, lw_r3⟩⟩
end
section
/-! A thrown object is taken by a row of the walked method's own table, the rows ahead of it passed (their classes linked cold or warm). -/
section MKC
theorem mk_row {Q : Handler → Pre} {E : CtlPost} {e : Env} {d : Bool} {acts : List Action} {s : State} {f : JFrame} {a : Addr} {x : ExceptionTableEntry} {t : List ExceptionTableEntry} {c : ClassId} {cell : Cell} (hx : covers x f.pc = true) (h0 : x.catchType ≠ 0)
    (hl : s.vm.ClassLinks e.platform f.method.cls x.catchType c) (hcell : s.heap[a]? = some cell) (hobj : ∀ k, cell.vm ≠ .statics k)
    (hk : ∃ k, s.vm.classes[cell.cls]? = some k) (hc : ∃ k, s.vm.classes[c]? = some k) :
    wp (findHandler.go f a (x :: t)) Q E e d acts s ↔ (if s.vm.assignable cell.cls c = true then Q (.found x.handlerPc) d acts (s.setVm (s.vm.noted f.method.cls x.catchType (.cls c))) else wp (findHandler.go f a t) Q E e d acts (s.setVm (s.vm.noted f.method.cls x.catchType (.cls c)))) := by
  simp only [covers] at hx
  obtain ⟨ha, ht⟩ := (resolveClass_links e.toSetting hl).op (op := VmOp.resolveClass f.method.cls x.catchType) rfl
  have hal : s.vm.Alike (s.vm.noted f.method.cls x.catchType (.cls c)) := (Vm.Alike.refl s.vm).noted _ _ _
  obtain ⟨k1, hk1⟩ := hk
  obtain ⟨k2, hk2⟩ := hc
  obtain ⟨k1', hk1', -⟩ := hal.2.2 _ _ hk1
  obtain ⟨k2', hk2', -⟩ := hal.2.2 _ _ hk2
  have hsame : (s.vm.noted f.method.cls x.catchType (.cls c)).assignable cell.cls c = s.vm.assignable cell.cls c := hal.assignable ..
  by_cases hf : s.vm.assignable cell.cls c = true
  · rw [if_pos hf]
    simp [findHandler.go, hx, h0, ha, ht, hcell, hobj, hk1', hk2', hsame, hf, VmOp.dirties, VmOp.acts]
  · rw [if_neg hf]
    simp [findHandler.go, hx, h0, ha, ht, hcell, hobj, hk1', hk2', hsame, hf, VmOp.dirties, VmOp.acts]
def mk_Past (pl : Platform) (s₀ : State) (d : ClassId) (pc : Nat) (th : ClassId) (y : ExceptionTableEntry) : Prop :=
  covers y pc = false ∨ (y.catchType ≠ 0 ∧ ∃ c, s₀.vm.ClassLinks pl d y.catchType c ∧ s₀.vm.assignable th c = false)
theorem mk_find {e : Env} {s₀ : State} {f : JFrame} {a : Addr} {cell : Cell} (hobj : ∀ k, cell.vm ≠ .statics k) (hk0 : ∃ k, s₀.vm.classes[cell.cls]? = some k)
    (x : ExceptionTableEntry) (rest : List ExceptionTableEntry) (hx : covers x f.pc = true) (h0 : x.catchType ≠ 0) {cT : ClassId} (hT : s₀.vm.ClassLinks e.platform f.method.cls x.catchType cT) (hfit : s₀.vm.assignable cell.cls cT = true) :
    ∀ (pre : List ExceptionTableEntry) (S : State), s₀.WarmedH S.vm → S.heap[a]? = some cell → (∀ y ∈ pre, mk_Past e.platform s₀ f.method.cls f.pc cell.cls y) →
      ∃ vm', s₀.WarmedH vm' ∧ ∀ (Q : Handler → Pre) (E : CtlPost) (d : Bool) (acts : List Action), wp (findHandler.go f a (pre ++ x :: rest)) Q E e d acts S ↔ Q (.found x.handlerPc) d acts (S.setVm vm') := by
  obtain ⟨k0, hk0⟩ := hk0
  have one : ∀ (S : State), s₀.WarmedH S.vm → S.heap[a]? = some cell → ∀ (y : ExceptionTableEntry) (t : List ExceptionTableEntry) (c : ClassId), covers y f.pc = true → y.catchType ≠ 0 → s₀.vm.ClassLinks e.platform f.method.cls y.catchType c →
      s₀.WarmedH (S.vm.noted f.method.cls y.catchType (.cls c)) ∧ ∀ (Q : Handler → Pre) (E : CtlPost) (d : Bool) (acts : List Action), wp (findHandler.go f a (y :: t)) Q E e d acts S ↔ (if s₀.vm.assignable cell.cls c = true then Q (.found y.handlerPc) d acts (S.setVm (S.vm.noted f.method.cls y.catchType (.cls c))) else wp (findHandler.go f a t) Q E e d acts (S.setVm (S.vm.noted f.method.cls y.catchType (.cls c)))) := by
    intro S hW hcell y t c hcv hy0 hl
    obtain ⟨dk, _, _, kt, hd, _, _, _, _, hkt, _, hop⟩ := hl.here
    obtain ⟨k0', hk0', -⟩ := hW.alike.2.2 _ _ hk0
    obtain ⟨kt', hkt', -⟩ := hW.alike.2.2 _ _ hkt
    refine ⟨hW.noted hd hop (State.rightAt_cls hl), fun Q E d acts => ?_⟩
    rw [mk_row hcv hy0 (hW.classLinks hl) hcell hobj ⟨k0', hk0'⟩ ⟨kt', hkt'⟩, hW.alike.assignable]
  intro pre
  induction pre with
  | nil =>
    intro S hW hcell _
    obtain ⟨h1, h2⟩ := one S hW hcell x rest cT hx h0 hT
    exact ⟨_, h1, fun Q E d acts => by rw [List.nil_append, h2 Q E d acts, if_pos hfit]⟩
  | cons y ys ih =>
    intro S hW hcell hpass
    have hrest : ∀ z ∈ ys, mk_Past e.platform s₀ f.method.cls f.pc cell.cls z := fun z hz => hpass z (List.mem_cons_of_mem _ hz)
    by_cases hcov : covers y f.pc = true
    · rcases hpass y (List.mem_cons_self ..) with h | ⟨hy0, c, hl, hno⟩
      · rw [h] at hcov; cases hcov
      · obtain ⟨h1, h2⟩ := one S hW hcell y (ys ++ x :: rest) c hcov hy0 hl
        obtain ⟨vm', hW', hq⟩ := ih (S.setVm (S.vm.noted f.method.cls y.catchType (.cls c))) h1 hcell hrest
        exact ⟨vm', hW', fun Q E d acts => by
          rw [List.cons_append, h2 Q E d acts, if_neg (by rw [hno]; decide)]
          exact hq Q E d acts⟩
    · obtain ⟨vm', hW', hq⟩ := ih S hW hcell hrest
      exact ⟨vm', hW', fun Q E d acts => by
        rw [List.cons_append, W.findHandler_go_skip (by simpa using hcov)]
        exact hq Q E d acts⟩
variable {p : Program} {l : Launch} {e : Env} {R : Room} {s : State} {m₀ : MethodId} {args : Array Value} {below : List Frame} {meth : Method} {c : Code} {T : State} {locs : List Loc} {cells slots : Nat}
theorem mk_caught (X : Stand p l e R s m₀ args below meth c T locs cells slots) (a : Addr) {g : JFrame} (hg : g.method = m₀)
    {cell : Cell} (hcell : T.heap[a]? = some cell) (hobj : cell.vm.isStatics = false) (hk0 : ∃ k, s.vm.classes[cell.cls]? = some k)
    (pre : List ExceptionTableEntry) (x : ExceptionTableEntry) (rest : List ExceptionTableEntry) (hsplit : c.exceptionTable.toList = pre ++ x :: rest)
    (hpass : ∀ y ∈ pre, mk_Past e.platform s m₀.cls g.pc cell.cls y) (hx : covers x g.pc = true) (h0 : x.catchType ≠ 0) {cT : ClassId} (hT : s.vm.ClassLinks e.platform m₀.cls x.catchType cT) (hfit : s.vm.assignable cell.cls cT = true) :
    ∃ vm', Stand p l e R s m₀ args below meth c (T.setVm vm') locs cells slots ∧ Steps p.tables e below ((T.setTop g).pushFrame (.throwing a)) ((T.setVm vm').setTop { g with pc := x.handlerPc, stack := [.ref a] }) := by
  subst hg
  obtain ⟨vm', hW', hq⟩ := mk_find (e := e) (s₀ := s) (f := g) (a := a) (cell := cell) (VmData.ne_statics_of hobj) hk0 x rest hx h0 hT hfit pre ((T.setTop g).pushFrame (.throwing a)) X.warmed hcell hpass
  have hm : ((T.setTop g).pushFrame (.throwing a)).vm.method? g.method = some meth := X.method'
  have hfind : ∀ (Q : Handler → Pre) (E : CtlPost) (d : Bool) (acts : List Action), wp (findHandler g a) Q E e d acts ((T.setTop g).pushFrame (.throwing a)) ↔ Q (.found x.handlerPc) d acts (((T.setTop g).pushFrame (.throwing a)).setVm vm') := fun Q E d acts => by rw [W.findHandler_eq hm X.code, hsplit]; exact hq Q E d acts
  refine ⟨vm', X.noted hW', ?_⟩
  have hAt : At T g.method c below := X.here
  obtain ⟨hgo, hw⟩ := hAt.throwing a
  refine Steps.head hgo hw ?_
  have hst : ∀ r : List Frame, (stepThrowing e ((T.setTop g).pushFrame (.throwing a)) a (.java g :: r)).1 = (((T.setTop g).pushFrame (.throwing a)).setVm vm').setFrames (.java { g with pc := x.handlerPc, stack := [.ref a] } :: r) := by
    intro r
    simp only [stepThrowing, searchFrame, vmDo]
    generalize hr : Sem.go _ e false [] ((T.setTop g).pushFrame (.throwing a)) = res
    obtain ⟨as, rfl, ha⟩ := Sem.eq_ok_of hr (a := Handler.found x.handlerPc) (s' := ((T.setTop g).pushFrame (.throwing a)).setVm vm') (acts' := []) (by simp [hfind _ _ _ _])
    rfl
  rw [stepThread_throwing (frames_entered hAt.top _), hst]
  obtain ⟨g₀, hg⟩ := Option.isSome_iff_exists.mp hAt.top
  obtain ⟨r, hr⟩ := State.topJava?_eq_some.mp hg
  have hr' : (T.setVm vm').frames = .java g₀ :: r := hr
  rw [State.setTop_of_frames _ hr']
  have hsf : ∀ (u : State) (F G : List Frame), ((u.setFrames F).setVm vm').setFrames G = (u.setVm vm').setFrames G := fun u F G => by
    have h1 : (u.setFrames F).setVm vm' = (u.setVm vm').setFrames F := rfl
    rw [h1, State.setFrames_setFrames]
  rw [hr, List.tail_cons, State.pushFrame, hsf, State.setTop_of_frames _ hr, hsf]
  exact Steps.refl _
end MKC
end
section
/-! ===== BEGIN words of one list among another's, by their places ===== -/
theorem goodIn_r {big : List Cond} (ws : List Cond) (ps : List Nat) (hp : ws = ps.filterMap (fun i => big[i]?)) (h : ws.all goodWord = true) : GoodIn big ws := by
  intro w hw
  have h1 := List.all_eq_true.mp h w hw
  rw [hp] at hw
  obtain ⟨i, -, hi⟩ := List.mem_filterMap.mp hw
  have hm : w ∈ big := by first | exact List.mem_of_getElem? hi | exact List.getElem?_mem hi
  exact ⟨hm, good_of_word h1⟩
theorem goodIn_app {big a b : List Cond} (ha : GoodIn big a) (hb : GoodIn big b) : GoodIn big (a ++ b) := fun w h => (List.mem_append.mp h).elim (ha w) (hb w)
theorem goodIn_ca {big a b : List Cond} {c : Cond} (ha : GoodIn big (c :: a)) (hb : GoodIn big b) : GoodIn big (c :: (a ++ b)) := fun w h => (List.mem_cons.mp h).elim (fun e => ha w (List.mem_cons.mpr (Or.inl e))) (fun h => (List.mem_append.mp h).elim (fun h => ha w (List.mem_cons.mpr (Or.inr h))) (hb w))
theorem goodIn_sub {big ws : List Cond} (hm : ∀ w ∈ ws, w ∈ big) (h : ws.all goodWord = true) : GoodIn big ws := fun w hw => ⟨hm w hw, good_of_word (List.all_eq_true.mp h w hw)⟩
/-! ===== END ===== -/

/-! ===== BEGIN exceptions that leave a method, and their catching by the caller (launches without stack traces) ===== -/
section VXA
/-! The laws vx_back, vx_callV, vx_callS, vx_callSW, vx_throw0, vx_throwS follow proofs of the library, with one case more: JvmDerived/Free/Laws.lean (Back.of_free), Shelf42/LK1.lean (callV, callS), Shelf/KitTraced.lean (throwNew0V, throwNewS). -/
/-- where a method has thrown q: the class by its name, the cell, what was written, the world -/
def vx_T (XC : String → State → State → Prop) (st : State) (q : Addr) (t : State) (mc ms : Nat) (free : Addr → Prop) : Prop :=
  ∃ (E : String) (ce : Cell) (L : List Loc), XC E st t ∧ t.heap[q]? = some ce ∧ ce.vm = .none ∧ st.vm.findClass E = some ce.cls ∧ st.WarmedH t.vm ∧ st.sameButNew ({ t with vm := st.vm } : State) L mc ms ∧ ∀ z ∈ L, free z.base
def vx_Q (Qc : Array Value → State → Outcome → State → Prop) (XC : String → State → State → Prop) (mc ms : Nat) (free : Addr → Prop) : Array Value → State → Outcome → State → Prop := fun a st o t =>
  (Qc a st o t ∧ ∃ L, FrameEnd st o t L mc ms ∧ ∀ q ∈ L, free q.base) ∨ ∃ q, o = .threw q ∧ vx_T XC st q t mc ms free
/-- a callee that returns or throws -/
def vx_Met (l : Launch) (y : MethodName) (ws : List Cond) (rm : Room) (Pc : Array Value → State → Prop) (Qc : Array Value → State → Outcome → State → Prop) (XC : String → State → State → Prop) (mc ms : Nat) (free : Addr → Prop) : Prop :=
  MetFree l y (headSpec ws rm) Pc (fun _ _ _ _ _ => True) (vx_Q Qc XC mc ms free)
def vx_Post (XC : String → State → State → Prop) (mc ms : Nat) (free : Addr → Prop) : Pt → Array Value → Addr → Pt → Prop := fun A a q B =>
  ∃ (g : JFrame) (mk : MethodId) (t : State) (L : List Loc) (E : String) (ce : Cell), B.U.heap = t.heap ∧ B.U.vm = t.vm ∧ XC E (A.U.calling g mk a) t ∧ t.heap[q]? = some ce ∧ ce.vm = .none ∧ A.U.vm.findClass E = some ce.cls ∧ B.locs = A.locs ++ L ∧ (∀ z ∈ L, free z.base) ∧ B.cells = A.cells + mc ∧ B.slots = A.slots + ms
def vx_Back (l : Launch) (R : Room) (p : Program) (e : Env) (below : List Frame) (s : State) (sargs : Array Value) (y : MethodName) (len W9 : Nat)
    (Pre : Pt → Array Value → Prop) (Post : Pt → Array Value → Option Value → Pt → Prop) (PostX : Pt → Array Value → Addr → Pt → Prop) : Prop :=
  ∀ (m : MethodId) (meth : Method) (c : Code) (A : Pt) (g : JFrame) (ig : Instr) (mk : MethodId) (a : Array Value),
    Stand p l e R s m sargs below meth c A.U A.locs A.cells A.slots → g.method = m → g.locals.size = c.maxLocals → decode c.code g.pc = .ok (ig, len) →
    2 * g.monitorRoom + (g.stack.map fun v => v.category).sum ≤ W9 → A.U.methodNamed? y = some mk → Pre A a →
    (∃ (v : Option Value) (B : Pt), Stand p l e R s m sargs below meth c B.U B.locs B.cells B.slots ∧ Post A a v B ∧
      Steps p.tables e below (doInvoke e (A.U.setTop g) [] mk a).1 (B.U.setTop { g with pc := g.pc + len, stack := v.toList ++ g.stack })) ∨
    (∃ (q : Addr) (B : Pt), Stand p l e R s m sargs below meth c B.U B.locs B.cells B.slots ∧ PostX A a q B ∧
      Steps p.tables e below (doInvoke e (A.U.setTop g) [] mk a).1 ((B.U.setTop g).pushFrame (.throwing q)))
section Payer
variable {l : Launch} {R : Room} {p : Program} {e : Env} {below : List Frame} {s : State} {sargs : Array Value} {y : MethodName} {len W9 : Nat}
theorem vx_back {ws : List Cond} {rm : Room} {Pc : Array Value → State → Prop} {Qc : Array Value → State → Outcome → State → Prop} {XC : String → State → State → Prop} {mc ms : Nat} {free : Addr → Prop} {bytes : ByteArray} {maxL : Nat} {ret : Option FieldType}
    (hM : vx_Met l y ws rm Pc Qc XC mc ms free) (hblind : FrameBlind Pc) (hrc : rm.cells = mc) (hrs : rm.slots = ms)
    (hframes : rm.frames + 1 ≤ R.frames) (hlocals : W9 + (maxL + 11) + rm.locals ≤ R.locals)
    (hws : ∀ w ∈ ws, ∀ a' U, s.WarmedH U.vm → w.before a' U = true) (hcode : Cond.code y bytes maxL ret ∈ ws) (hinit : ∀ a' U, s.WarmedH U.vm → (Cond.initialized y.cls).before a' U = true) :
    vx_Back l R p e below s sargs y len W9 (PreOf R mc ms Pc) (PostOf Qc mc ms free) (vx_Post XC mc ms free) := by
  intro m meth c A g ig mk a X hg hsize hdg hW hn hp
  have h1 : (headSpec ws rm).pre.before a A.U = true := atoms_intro fun w hw => hws w hw _ _ X.warmed
  have h2 : (Cond.code y bytes maxL ret).before a A.U = true := hws _ hcode _ _ X.warmed
  have h3 : (Cond.initialized y.cls).before a A.U = true := hinit _ _ X.warmed
  have h4 : A.cells + (headSpec ws rm).room.cells ≤ R.cells := by rw [show (headSpec ws rm).room.cells = mc from hrc]; exact hp.1
  have h5 : A.slots + (headSpec ws rm).room.slots ≤ R.slots := by rw [show (headSpec ws rm).room.slots = ms from hrs]; exact hp.2.1
  have hPc : Pc a (A.U.calling g mk a) := hblind _ _ _ _ hp.2.2
  obtain ⟨U, Ls, c0, s0⟩ := A
  dsimp only [Pt.U, Pt.locs, Pt.cells, Pt.slots] at h1 h2 h3 h4 h5 X hn hPc ⊢
  obtain ⟨methY, cY, hmY, hcY, -, hlY, -, -, -, -⟩ := Cond.code_spec hn h2
  obtain ⟨kY, hkY, -⟩ := className_of_methodNamed hn
  have hinitY : kY.init = .initialized := Cond.initialized_spec (findClass_of_methodNamed hn) hkY h3
  have h : At U g.method c below := by rw [hg]; exact X.here
  have hlocals9 : W9 + (maxL + 11) + (headSpec ws rm).room.locals ≤ R.locals := hlocals
  have happ : (headSpec ws rm).appliesLoose y e.platform (U.calling g mk a) = true :=
    Spec.appliesLoose_calling (g := g) h hdg hn hkY hinitY
      (X.room_calling (g := g) (R' := (headSpec ws rm).room) hsize hmY hcY hframes (by rw [hlY]; omega) h4 h5) h1
  obtain ⟨mid, hmid⟩ := h.above
  have hfr : (U.setTop g).frames = (.java g :: mid) ++ below := by rw [State.frames_setTop' g h.top, hmid]; rfl
  obtain ⟨o, s₂, hsteps, -, hend, hq⟩ := Steps.callFree hM p X.admits X.cas X.clock (acts := []) hfr happ hPc trivial
  have hq' : vx_Q Qc XC mc ms free a (U.calling g mk a) o s₂ := hq
  rw [State.frames_setTop' g h.top] at hend
  obtain ⟨g₀, hg0⟩ := Option.isSome_iff_exists.mp h.top
  obtain ⟨r, hr⟩ := State.topJava?_eq_some.mp hg0
  have hr' : (({ U with heap := s₂.heap, slotsUsed := s₂.slotsUsed } : State).setVm s₂.vm).frames = .java g₀ :: r := hr
  rcases hq' with ⟨hqc, L, hfe, hL⟩ | ⟨q, rfl, E, ce, L, hx, hce, hcv, hcl, hW₂, hsm, hL⟩
  · obtain ⟨⟨v, rfl⟩, hW₂, e2, q2, q3, q4, q5, q6⟩ := id hfe
    have e3 : s₂ = ({ (U.calling g mk a).setFrames s₂.frames with heap := s₂.heap, slotsUsed := s₂.slotsUsed } : State).setVm s₂.vm := by
      have : s₂ = ({ s₂ with vm := (U.calling g mk a).vm } : State).setVm s₂.vm := rfl
      rw [e2] at this
      exact this
    obtain ⟨c₂, i₂, len₂, hc₂, hd₂, hf₂⟩ := hend
    have hW' : U.WarmedH s₂.vm := hW₂
    have hcc : c₂ = c := by
      have h1 : s₂.code? g.method = U.code? g.method := by
        rw [State.code?_eq, State.code?_eq, hW'.alike.method?]
      exact Option.some.inj (hc₂.symm.trans (h1.trans h.code))
    subst hcc
    have hlen : len₂ = len := by rw [hdg] at hd₂; cases hd₂; rfl
    subst hlen
    have hs₂ : s₂ = (({ U with heap := s₂.heap, slotsUsed := s₂.slotsUsed } : State).setVm s₂.vm).setTop { g with pc := g.pc + len₂, stack := v.toList ++ g.stack } := by
      refine e3.trans ?_
      rw [hf₂, State.calling_eq h.top, State.setFrames_setFrames, State.setTop_of_frames _ hr', hr]
      rfl
    have hsame : U.sameButNew ({ U with heap := s₂.heap, slotsUsed := s₂.slotsUsed } : State) L mc ms := by
      refine ⟨?_, q2, q3, q4, q5, q6⟩
      obtain ⟨t, ht, -⟩ := State.frames_cons hr
      show ({ U with heap := s₂.heap, slotsUsed := s₂.slotsUsed } : State) = { U.setFrames U.frames with heap := s₂.heap, slotsUsed := s₂.slotsUsed }
      rw [State.setFrames_self ht]
    subst hg
    refine Or.inl ⟨v, ⟨(({ U with heap := s₂.heap, slotsUsed := s₂.slotsUsed } : State).setVm s₂.vm), Ls ++ L, c0 + mc, s0 + ms⟩,
      ⟨X.admits, X.cas, X.clock, X.frames, X.room, X.hears, X.method, X.code, (X.here.setHeapUsed s₂.heap s₂.slotsUsed).setVm hW'.alike, X.tail, State.WarmedH.trans X.warmed hW', X.limits, X.bytes, X.same.trans (hsame.setVm s.vm)⟩,
      ⟨g, mk, s₂, L, rfl, rfl, hqc, rfl, hL, rfl, rfl⟩, ?_⟩
    show Steps p.tables e below _ ((({ U with heap := s₂.heap, slotsUsed := s₂.slotsUsed } : State).setVm s₂.vm).setTop { g with pc := g.pc + len₂, stack := v.toList ++ g.stack })
    rw [← hs₂]
    exact hsteps
  · obtain ⟨e2, q2, q3, q4, q5, q6⟩ := id hsm
    have e3 : s₂ = ({ (U.calling g mk a).setFrames s₂.frames with heap := s₂.heap, slotsUsed := s₂.slotsUsed } : State).setVm s₂.vm := by
      have : s₂ = ({ s₂ with vm := (U.calling g mk a).vm } : State).setVm s₂.vm := rfl
      rw [e2] at this
      exact this
    have hf₂ : s₂.frames = .throwing q :: .java g :: U.frames.tail := hend
    have hW' : U.WarmedH s₂.vm := hW₂
    have hs₂ : s₂ = ((({ U with heap := s₂.heap, slotsUsed := s₂.slotsUsed } : State).setVm s₂.vm).setTop g).pushFrame (.throwing q) := by
      refine e3.trans ?_
      rw [hf₂, State.calling_eq h.top, State.setFrames_setFrames, State.pushFrame, State.frames_setTop _ hr', State.setTop_of_frames _ hr', State.setFrames_setFrames, hr]
      rfl
    have hsame : U.sameButNew ({ U with heap := s₂.heap, slotsUsed := s₂.slotsUsed } : State) L mc ms := by
      refine ⟨?_, q2, q3, q4, q5, q6⟩
      obtain ⟨t, ht, -⟩ := State.frames_cons hr
      show ({ U with heap := s₂.heap, slotsUsed := s₂.slotsUsed } : State) = { U.setFrames U.frames with heap := s₂.heap, slotsUsed := s₂.slotsUsed }
      rw [State.setFrames_self ht]
    subst hg
    refine Or.inr ⟨q, ⟨(({ U with heap := s₂.heap, slotsUsed := s₂.slotsUsed } : State).setVm s₂.vm), Ls ++ L, c0 + mc, s0 + ms⟩,
      ⟨X.admits, X.cas, X.clock, X.frames, X.room, X.hears, X.method, X.code, (X.here.setHeapUsed s₂.heap s₂.slotsUsed).setVm hW'.alike, X.tail, State.WarmedH.trans X.warmed hW', X.limits, X.bytes, X.same.trans (hsame.setVm s.vm)⟩,
      ⟨g, mk, s₂, L, E, ce, rfl, rfl, hx, hce, hcv, hcl, rfl, hL, rfl, rfl⟩, ?_⟩
    show Steps p.tables e below _ (((({ U with heap := s₂.heap, slotsUsed := s₂.slotsUsed } : State).setVm s₂.vm).setTop g).pushFrame (.throwing q))
    rw [← hs₂]
    exact hsteps
end Payer
section Calls
variable {p : Program} {l : Launch} {e : Env} {R : Room} {s : State} {m : MethodId} {args : Array Value} {below : List Frame} {meth : Method} {c : Code} {T : State} {locs : List Loc} {cells slots : Nat}
theorem vx_callV (X : Stand p l e R s m args below meth c T locs cells slots) (hexec : p.tables.exec = Jvm.exec) {own C : String} {index : Nat} {y : MethodName} {bytes : ByteArray} {maxL : Nat} {ret : Option FieldType}
    (hown : s.vm.findClass own = some m.cls) (hlink : (Cond.methodLink own index y).before args s = true) (hinst : (Cond.instanceMethod y).before args s = true) (hsel : (Cond.selects C y y).before args s = true)
    (hcode : (Cond.code y bytes maxL ret).before args s = true) (hy : y.cls ≠ "java/lang/invoke/MethodHandle" ∧ y.cls ≠ "java/lang/invoke/VarHandle")
    {W9 : Nat} {Pre : Pt → Array Value → Prop} {Post : Pt → Array Value → Option Value → Pt → Prop} {PostX : Pt → Array Value → Addr → Pt → Prop} (hK : vx_Back l R p e below s args y 3 W9 Pre Post PostX)
    {b : Addr} {cellB : Cell} (hcell : T.heap[b]? = some cellB) (hobj : cellB.vm.isStatics = false) (hcls : s.vm.findClass C = some cellB.cls)
    {g : JFrame} (hg : g.method = m) (hsize : g.locals.size = c.maxLocals) {argsL rest : List Value} (hlen : ∀ sig, parseMethodDescriptor y.desc = some sig → argsL.length = sig.parameters.length)
    (hstack : g.stack = argsL.reverse ++ .ref b :: rest) (hW : 2 * g.monitorRoom + (rest.map fun v => v.category).sum ≤ W9) (hdg : decode c.code g.pc = .ok (.invokevirtual index, 3))
    (hpre : ∀ vm₁, s.WarmedH vm₁ → Pre ⟨T.setVm vm₁, locs, cells, slots⟩ (Value.ref b :: argsL).toArray) :
    (∃ (v : Option Value) (vm₁ : Vm) (B : Pt), s.WarmedH vm₁ ∧ Stand p l e R s m args below meth c B.U B.locs B.cells B.slots ∧ Post ⟨T.setVm vm₁, locs, cells, slots⟩ (Value.ref b :: argsL).toArray v B ∧
      ∀ target, Steps p.tables e below (B.U.setTop { g with pc := g.pc + 3, stack := v.toList ++ rest }) target → Steps p.tables e below (T.setTop g) target) ∨
    (∃ (q : Addr) (vm₁ : Vm) (B : Pt), s.WarmedH vm₁ ∧ Stand p l e R s m args below meth c B.U B.locs B.cells B.slots ∧ PostX ⟨T.setVm vm₁, locs, cells, slots⟩ (Value.ref b :: argsL).toArray q B ∧
      Steps p.tables e below (T.setTop g) ((B.U.setTop { g with stack := rest }).pushFrame (.throwing q))) := by
  obtain ⟨mk, methM, hnamed, hmethM, hstM, habM⟩ := Cond.instanceMethod_spec hinst
  obtain ⟨methM', cM, hmethM', -, -, -, -, -, -, hsigM⟩ := Cond.code_spec hnamed hcode
  cases hmethM.symm.trans hmethM'
  obtain ⟨c2, r2, m2, q1, q2, q3, q4, kP, hkP, hkPi⟩ := Cond.selects_spec hsel
  cases hcls.symm.trans q1
  cases (State.methodFound?_of_named hnamed hy).symm.trans q2
  cases hnamed.symm.trans q3
  have hselP : selectMethod e.platform s.vm cellB.cls mk = .method mk := by rw [Launch.admits_selectMethod X.admits]; exact q4
  obtain ⟨vm₁, X₁, hstep₁⟩ := X.invokevirtual hexec hown hlink hnamed hmethM hstM hkP hkPi hy (a := b) (cell := cellB) hcell
    (fun z h => by rw [h] at hobj; cases hobj) hselP hmethM habM hkP hkPi (g := g) hg (argsL := argsL) (rest := rest) (hlen _ hsigM) hstack hdg
  rcases hK m meth c ⟨T.setVm vm₁, locs, cells, slots⟩ { g with stack := rest } (.invokevirtual index) mk (Value.ref b :: argsL).toArray X₁ hg hsize hdg hW (X₁.named hnamed) (hpre vm₁ X₁.warmed) with ⟨v, B, X', hpost, hsteps⟩ | ⟨q, B, X', hpost, hsteps⟩
  · exact Or.inl ⟨v, vm₁, B, X₁.warmed, X', hpost, fun target h => hstep₁ _ fun acts => by rw [doInvoke_state]; exact hsteps.trans h⟩
  · exact Or.inr ⟨q, vm₁, B, X₁.warmed, X', hpost, hstep₁ _ fun acts => by rw [doInvoke_state]; exact hsteps⟩
theorem vx_callS (X : Stand p l e R s m args below meth c T locs cells slots) (hexec : p.tables.exec = Jvm.exec) {own : String} {index : Nat} {y : MethodName} {bytes : ByteArray} {maxL : Nat} {ret : Option FieldType}
    (hown : s.vm.findClass own = some m.cls) (hlink : (Cond.methodLink own index y).before args s = true) (hstat : (Cond.static y).before args s = true) (hinit : (Cond.initialized y.cls).before args s = true)
    (hcode : (Cond.code y bytes maxL ret).before args s = true) (hy : y.cls ≠ "java/lang/invoke/MethodHandle" ∧ y.cls ≠ "java/lang/invoke/VarHandle")
    {W9 : Nat} {Pre : Pt → Array Value → Prop} {Post : Pt → Array Value → Option Value → Pt → Prop} {PostX : Pt → Array Value → Addr → Pt → Prop} (hK : vx_Back l R p e below s args y 3 W9 Pre Post PostX)
    {g : JFrame} (hg : g.method = m) (hsize : g.locals.size = c.maxLocals) {argsL rest : List Value} (hlen : ∀ sig, parseMethodDescriptor y.desc = some sig → argsL.length = sig.parameters.length)
    (hstack : g.stack = argsL.reverse ++ rest) (hW : 2 * g.monitorRoom + (rest.map fun v => v.category).sum ≤ W9) (hdg : decode c.code g.pc = .ok (.invokestatic index, 3))
    (hpre : ∀ vm₁, s.WarmedH vm₁ → Pre ⟨T.setVm vm₁, locs, cells, slots⟩ argsL.toArray) :
    (∃ (v : Option Value) (vm₁ : Vm) (B : Pt), s.WarmedH vm₁ ∧ Stand p l e R s m args below meth c B.U B.locs B.cells B.slots ∧ Post ⟨T.setVm vm₁, locs, cells, slots⟩ argsL.toArray v B ∧
      ∀ target, Steps p.tables e below (B.U.setTop { g with pc := g.pc + 3, stack := v.toList ++ rest }) target → Steps p.tables e below (T.setTop g) target) ∨
    (∃ (q : Addr) (vm₁ : Vm) (B : Pt), s.WarmedH vm₁ ∧ Stand p l e R s m args below meth c B.U B.locs B.cells B.slots ∧ PostX ⟨T.setVm vm₁, locs, cells, slots⟩ argsL.toArray q B ∧
      Steps p.tables e below (T.setTop g) ((B.U.setTop { g with stack := rest }).pushFrame (.throwing q))) := by
  obtain ⟨mk, hnamed⟩ := Cond.code_named hcode
  obtain ⟨methM, cM, hmethM, -, -, -, -, -, -, hsigM⟩ := Cond.code_spec hnamed hcode
  have hstatic : methM.isStatic = true := Cond.static_spec hnamed hmethM hstat
  obtain ⟨kP, hkP, -⟩ := className_of_methodNamed hnamed
  have hinitP : kP.init = .initialized := Cond.initialized_spec (findClass_of_methodNamed hnamed) hkP hinit
  obtain ⟨vm₁, X₁, hstep₁⟩ := X.invokestatic hexec hown hlink hnamed hmethM hstatic hkP hinitP hy (g := g) hg (argsL := argsL) (rest := rest) (hlen _ hsigM) hstack hdg
  rcases hK m meth c ⟨T.setVm vm₁, locs, cells, slots⟩ { g with stack := rest } (.invokestatic index) mk argsL.toArray X₁ hg hsize hdg hW (X₁.named hnamed) (hpre vm₁ X₁.warmed) with ⟨v, B, X', hpost, hsteps⟩ | ⟨q, B, X', hpost, hsteps⟩
  · exact Or.inl ⟨v, vm₁, B, X₁.warmed, X', hpost, fun target h => hstep₁ _ fun acts => by rw [doInvoke_state]; exact hsteps.trans h⟩
  · exact Or.inr ⟨q, vm₁, B, X₁.warmed, X', hpost, hstep₁ _ fun acts => by rw [doInvoke_state]; exact hsteps⟩
end Calls
theorem vx_cls {s : State} {T : State} {vm₁ : Vm} {E : String} {k : ClassId} (hW : s.WarmedH vm₁) (h : (T.setVm vm₁).vm.findClass E = some k) : s.vm.findClass E = some k := by
  have h1 : vm₁.findClass E = some k := h
  rw [hW.alike.findClass] at h1
  exact h1
/-- the method's frame g, with q thrown over it -/
def vx_W (p : Program) (l : Launch) (e : Env) (R : Room) (s : State) (m : MethodId) (args : Array Value) (below : List Frame) (meth : Method) (c : Code) (H : Heap) (locs : List Loc) (cells slots : Nat) (Q : State → Prop) (g : JFrame) (q : Addr) : Prop :=
  ∀ T : State, T.heap = H → Stand p l e R s m args below meth c T locs cells slots → ∃ t, Steps p.tables e below ((T.setTop g).pushFrame (.throwing q)) t ∧ Q t
def vx_Run (p : Program) (l : Launch) (e : Env) (R : Room) (s : State) (m : MethodId) (args : Array Value) (below : List Frame) (meth : Method) (c : Code) (H : Heap) (locs : List Loc) (cells slots mc ms : Nat) (g : JFrame) (rest : List Value) (Qa : State → Outcome → State → Prop) (XC : String → State → State → Prop) (free : Addr → Prop) : Prop :=
  ∀ T : State, T.heap = H → Stand p l e R s m args below meth c T locs cells slots →
    (∃ (v : Option Value) (st₀ t T' : State) (L : List Loc), st₀.heap = H ∧ Stand p l e R s m args below meth c T' (locs ++ L) (cells + mc) (slots + ms) ∧ (∀ q ∈ L, free q.base) ∧ T'.heap = t.heap ∧ T'.vm = t.vm ∧ Qa st₀ (.returned v) t ∧
      Goes p e below T g T' { g with pc := g.pc + 3, stack := v.toList ++ rest }) ∨
    (∃ (q : Addr) (st₀ t T' : State) (L : List Loc) (E : String) (ce : Cell), st₀.heap = H ∧ Stand p l e R s m args below meth c T' (locs ++ L) (cells + mc) (slots + ms) ∧ (∀ z ∈ L, free z.base) ∧ T'.heap = t.heap ∧ T'.vm = t.vm ∧ XC E st₀ t ∧ t.heap[q]? = some ce ∧ ce.vm = .none ∧ s.vm.findClass E = some ce.cls ∧
      Steps p.tables e below (T.setTop g) ((T'.setTop { g with stack := rest }).pushFrame (.throwing q)))
def vx_X {S : Type} (px : S → Prop) (B : String → S → State → Prop) (A : Nat → Prop) : String → State → State → Prop := fun E st t => ∃ u : S, px u ∧ B E u t ∧ va_F A st t
section Runs
variable {p : Program} {l : Launch} {e : Env} {R : Room} {s : State} {m : MethodId} {args : Array Value} {below : List Frame} {meth : Method} {c : Code} {H : Heap} {locs : List Loc} {cells slots : Nat}
variable {y : MethodName} {bytes cc : ByteArray} {maxL nL mc ms n index : Nat} {ret : Option FieldType} {ws : List Cond} {rm : Room} {Pc : Array Value → State → Prop} {Qc : Array Value → State → Outcome → State → Prop} {XC : String → State → State → Prop} {free : Addr → Prop} {Ts : List Cond} {own C : String} {b : Addr} {As rest : List Value} {g : JFrame}
theorem vx_callBack (cb : CallB R s args own index y bytes maxL ret ws rm mc ms n) (hM : vx_Met l y ws rm Pc Qc XC mc ms free) (hbl : FrameBlind Pc) : vx_Back l R p e below s args y 3 8 (PreOf R mc ms Pc) (PostOf Qc mc ms free) (vx_Post XC mc ms free) := by
  obtain ⟨hrc, hrs, hfr, hlo, hws, hcw, -, hini, -⟩ := cb
  exact vx_back (bytes := bytes) (maxL := maxL) (ret := ret) hM hbl hrc hrs hfr hlo hws hcw (fun a' U hW => word_at hW (Or.inl (by first | rfl | simp [Cond.onTables, Cond.keeps, Cond.steady])) hini)
theorem vx_runV (S : CallFix p m c cc nL s args Ts own) (hM : vx_Met l y ws rm Pc Qc XC mc ms free) (cw : CallW R s args own C index y bytes maxL ret ws rm mc ms n) (hp : PreV s H C b Pc As)
    (hg : g.method = m) (hn : As.length = n) (hsize : g.locals.size = nL) (hstack : g.stack = As.reverse ++ .ref b :: rest) (hW : 2 * g.monitorRoom + (rest.map fun v => v.category).sum ≤ 8) (hdg : decode cc g.pc = .ok (.invokevirtual index, 3)) (hf : cells + mc ≤ R.cells ∧ slots + ms ≤ R.slots) :
    vx_Run p l e R s m args below meth c H locs cells slots mc ms g rest (Qc (Value.ref b :: As).toArray) XC free := by
  have hK : vx_Back l R p e below s args y 3 8 (PreOf R mc ms Pc) (PostOf Qc mc ms free) (vx_Post XC mc ms free) := vx_callBack cw.1 hM hp.1
  obtain ⟨⟨-, -, -, -, -, -, hcode, -, hy, hlen, hl⟩, hin, hse⟩ := cw
  obtain ⟨hx, hb, hml, ho, -⟩ := S
  obtain ⟨-, ⟨cellB, hcB, hoB, hclB⟩, hPc⟩ := hp
  intro T hT X
  rcases vx_callV X hx (C := C) (bytes := bytes) (maxL := maxL) (ret := ret) ho hl hin hse hcode hy hK (by rw [hT]; exact hcB) hoB hclB hg (hsize.trans hml.symm) (argsL := As) (rest := rest) (fun sig h => hn.trans (hlen sig h)) hstack hW (by rw [hb]; exact hdg)
    (fun vm₁ hW₁ => ⟨hf.1, hf.2, hPc (T.setVm vm₁) hT hW₁⟩) with ⟨v, vm₁, ⟨U', l2, c2, s2⟩, hW₁, X', ⟨g', mk, t, L, e1, e2, hq, h1, hL, h2, h3⟩, st⟩ | ⟨q, vm₁, ⟨U', l2, c2, s2⟩, hW₁, X', ⟨g', mk, t, L, E, ce, e1, e2, hq, hce, hcv, hcl, h1, hL, h2, h3⟩, st⟩
  · dsimp only [Pt.U, Pt.locs, Pt.cells, Pt.slots] at X' e1 e2 h1 h2 h3 st
    subst h1; subst h2; subst h3
    exact Or.inl ⟨v, (T.setVm vm₁).calling g' mk (Value.ref b :: As).toArray, t, U', L, hT, X', hL, e1, e2, hq, st⟩
  · dsimp only [Pt.U, Pt.locs, Pt.cells, Pt.slots] at X' e1 e2 h1 h2 h3 st hcl
    subst h1; subst h2; subst h3
    exact Or.inr ⟨q, (T.setVm vm₁).calling g' mk (Value.ref b :: As).toArray, t, U', L, E, ce, hT, X', hL, e1, e2, hq, hce, hcv, vx_cls hW₁ hcl, st⟩
theorem vx_runS (S : CallFix p m c cc nL s args Ts own) (hM : vx_Met l y ws rm Pc Qc XC mc ms free) (cw : CallB R s args own index y bytes maxL ret ws rm mc ms n ∧ (Cond.static y).before args s = true) (hp : PreS s H Pc As)
    (hg : g.method = m) (hn : As.length = n) (hsize : g.locals.size = nL) (hstack : g.stack = As.reverse ++ rest) (hW : 2 * g.monitorRoom + (rest.map fun v => v.category).sum ≤ 8) (hdg : decode cc g.pc = .ok (.invokestatic index, 3)) (hf : cells + mc ≤ R.cells ∧ slots + ms ≤ R.slots) :
    vx_Run p l e R s m args below meth c H locs cells slots mc ms g rest (Qc As.toArray) XC free := by
  have hK : vx_Back l R p e below s args y 3 8 (PreOf R mc ms Pc) (PostOf Qc mc ms free) (vx_Post XC mc ms free) := vx_callBack cw.1 hM hp.1
  obtain ⟨⟨-, -, -, -, -, -, hcode, hini, hy, hlen, hl⟩, hstt⟩ := cw
  obtain ⟨hx, hb, hml, ho, -⟩ := S
  intro T hT X
  rcases vx_callS X hx (bytes := bytes) (maxL := maxL) (ret := ret) ho hl hstt hini hcode hy hK hg (hsize.trans hml.symm) (argsL := As) (rest := rest) (fun sig h => hn.trans (hlen sig h)) hstack hW (by rw [hb]; exact hdg)
    (fun vm₁ hW₁ => ⟨hf.1, hf.2, hp.2 (T.setVm vm₁) hT hW₁⟩) with ⟨v, vm₁, ⟨U', l2, c2, s2⟩, hW₁, X', ⟨g', mk, t, L, e1, e2, hq, h1, hL, h2, h3⟩, st⟩ | ⟨q, vm₁, ⟨U', l2, c2, s2⟩, hW₁, X', ⟨g', mk, t, L, E, ce, e1, e2, hq, hce, hcv, hcl, h1, hL, h2, h3⟩, st⟩
  · dsimp only [Pt.U, Pt.locs, Pt.cells, Pt.slots] at X' e1 e2 h1 h2 h3 st
    subst h1; subst h2; subst h3
    exact Or.inl ⟨v, (T.setVm vm₁).calling g' mk As.toArray, t, U', L, hT, X', hL, e1, e2, hq, st⟩
  · dsimp only [Pt.U, Pt.locs, Pt.cells, Pt.slots] at X' e1 e2 h1 h2 h3 st hcl
    subst h1; subst h2; subst h3
    exact Or.inr ⟨q, (T.setVm vm₁).calling g' mk As.toArray, t, U', L, E, ce, hT, X', hL, e1, e2, hq, hce, hcv, vx_cls hW₁ hcl, st⟩
end Runs
section Rows
variable {p : Program} {l : Launch} {e : Env} {R : Room} {s : State} {m : MethodId} {args : Array Value} {below : List Frame} {meth : Method} {c : Code} {H : Heap} {locs : List Loc} {cells slots : Nat} {Q : State → Prop}
variable {mc ms : Nat} {free : Addr → Prop} {A0 A1 : Nat → Prop} {H0 : Heap} {a : Array Value} {pc : Nat} {ls : Array Slot} {st0 rest : List Value}
theorem vx_keep {st₀ t T' : State} {L : List Loc} (h0 : st₀.heap = H) (e1 : T'.heap = t.heap) (hS : va_S A0 H0 H locs) (hA : ∀ q, q < H.size → A1 q → A0 q) (hf : ∀ q, free q → A0 q) (hL : ∀ q ∈ L, free q.base) (hF : va_F A1 st₀ t) :
    H.size ≤ T'.heap.size ∧ (∀ q : Nat, q < H.size → ¬ A1 q → T'.heap[q]? = H[q]?) ∧ va_S A0 H0 T'.heap (locs ++ L) := by
  obtain ⟨hz, hk⟩ := hF
  rw [h0] at hz hk
  exact ⟨by rw [e1]; exact hz, fun q h1 h2 => by rw [e1]; exact hk q h1 h2,
    ⟨Nat.le_trans hS.1 (by rw [e1]; exact hz), fun q h1 h2 => by rw [e1, hk q (Nat.lt_of_lt_of_le h1 hS.1) (fun z => h2 (hA q (Nat.lt_of_lt_of_le h1 hS.1) z))]; exact hS.2.1 q h1 h2, fun q hq => by
      rcases List.mem_append.mp hq with h | h
      · exact hS.2.2 q h
      · exact hf _ (hL q h)⟩⟩
theorem vx_calli {S SX : Type} {post : Int32 → S → Prop} {px : SX → Prop} {B : S → State → Prop} {BX : String → SX → State → Prop} {AX : Nat → Prop} (hr : vx_Run p l e R s m args below meth c H locs cells slots mc ms (F0 m pc ls st0) rest (va_Qi post B A1 a) (vx_X px BX AX) free) (hS : va_S A0 H0 H locs) (hA : ∀ q, q < H.size → A1 q → A0 q) (hf : ∀ q, free q → A0 q) (hAX : ∀ q, q < H.size → AX q → A0 q)
    (kx : ∀ (E : String) (ce : Cell) (q9 : Addr) (u : SX) (t : State) (H1 : Heap) (locs1 : List Loc), t.heap = H1 → s.vm.Alike t.vm → px u → BX E u t → H.size ≤ H1.size → (∀ q : Nat, q < H.size → ¬ AX q → H1[q]? = H[q]?) → va_S A0 H0 H1 locs1 → H1[q9]? = some ce → ce.vm = .none → s.vm.findClass E = some ce.cls → vx_W p l e R s m args below meth c H1 locs1 (cells + mc) (slots + ms) Q (F0 m pc ls rest) q9)
    (kk : ∀ (r : Int32) (u : S) (t : State) (H1 : Heap) (locs1 : List Loc), t.heap = H1 → s.vm.Alike t.vm → post r u → B u t → H.size ≤ H1.size → (∀ q : Nat, q < H.size → ¬ A1 q → H1[q]? = H[q]?) → va_S A0 H0 H1 locs1 → W p l e R s m args below meth c H1 locs1 (cells + mc) (slots + ms) Q (F0 m (pc + 3) ls (.int r :: rest))) : W p l e R s m args below meth c H locs cells slots Q (F0 m pc ls st0) := by
  intro T hT X
  rcases hr T hT X with ⟨v, st₀, t, T', L, h0, X', hL, e1, e2, ⟨⟨r, u, hv, hp, hb⟩, hF⟩, st⟩ | ⟨q, st₀, t, T', L, E, ce, h0, X', hL, e1, e2, ⟨u, hp, hb, hF⟩, hce, hcv, hcl, st⟩
  · cases hv
    obtain ⟨k1, k2, k3⟩ := vx_keep h0 e1 hS hA hf hL hF
    obtain ⟨t2, a1, b1⟩ := kk r u t T'.heap (locs ++ L) e1.symm (by rw [← e2]; exact X'.warmed.alike) hp hb k1 k2 k3 T' rfl X'
    exact ⟨t2, st t2 a1, b1⟩
  · obtain ⟨k1, k2, k3⟩ := vx_keep h0 e1 hS hAX hf hL hF
    obtain ⟨t2, a1, b1⟩ := kx E ce q u t T'.heap (locs ++ L) e1.symm (by rw [← e2]; exact X'.warmed.alike) hp hb k1 k2 k3 (by rw [e1]; exact hce) hcv hcl T' rfl X'
    exact ⟨t2, st.trans a1, b1⟩
theorem vx_calll {S SX : Type} {post : Int64 → S → Prop} {px : SX → Prop} {B : S → State → Prop} {BX : String → SX → State → Prop} {AX : Nat → Prop} (hr : vx_Run p l e R s m args below meth c H locs cells slots mc ms (F0 m pc ls st0) rest (va_Ql post B A1 a) (vx_X px BX AX) free) (hS : va_S A0 H0 H locs) (hA : ∀ q, q < H.size → A1 q → A0 q) (hf : ∀ q, free q → A0 q) (hAX : ∀ q, q < H.size → AX q → A0 q)
    (kx : ∀ (E : String) (ce : Cell) (q9 : Addr) (u : SX) (t : State) (H1 : Heap) (locs1 : List Loc), t.heap = H1 → s.vm.Alike t.vm → px u → BX E u t → H.size ≤ H1.size → (∀ q : Nat, q < H.size → ¬ AX q → H1[q]? = H[q]?) → va_S A0 H0 H1 locs1 → H1[q9]? = some ce → ce.vm = .none → s.vm.findClass E = some ce.cls → vx_W p l e R s m args below meth c H1 locs1 (cells + mc) (slots + ms) Q (F0 m pc ls rest) q9)
    (kk : ∀ (r : Int64) (u : S) (t : State) (H1 : Heap) (locs1 : List Loc), t.heap = H1 → s.vm.Alike t.vm → post r u → B u t → H.size ≤ H1.size → (∀ q : Nat, q < H.size → ¬ A1 q → H1[q]? = H[q]?) → va_S A0 H0 H1 locs1 → W p l e R s m args below meth c H1 locs1 (cells + mc) (slots + ms) Q (F0 m (pc + 3) ls (.long r :: rest))) : W p l e R s m args below meth c H locs cells slots Q (F0 m pc ls st0) := by
  intro T hT X
  rcases hr T hT X with ⟨v, st₀, t, T', L, h0, X', hL, e1, e2, ⟨⟨r, u, hv, hp, hb⟩, hF⟩, st⟩ | ⟨q, st₀, t, T', L, E, ce, h0, X', hL, e1, e2, ⟨u, hp, hb, hF⟩, hce, hcv, hcl, st⟩
  · cases hv
    obtain ⟨k1, k2, k3⟩ := vx_keep h0 e1 hS hA hf hL hF
    obtain ⟨t2, a1, b1⟩ := kk r u t T'.heap (locs ++ L) e1.symm (by rw [← e2]; exact X'.warmed.alike) hp hb k1 k2 k3 T' rfl X'
    exact ⟨t2, st t2 a1, b1⟩
  · obtain ⟨k1, k2, k3⟩ := vx_keep h0 e1 hS hAX hf hL hF
    obtain ⟨t2, a1, b1⟩ := kx E ce q u t T'.heap (locs ++ L) e1.symm (by rw [← e2]; exact X'.warmed.alike) hp hb k1 k2 k3 (by rw [e1]; exact hce) hcv hcl T' rfl X'
    exact ⟨t2, st.trans a1, b1⟩
theorem vx_callf {S SX : Type} {post : UInt32 → S → Prop} {px : SX → Prop} {B : S → State → Prop} {BX : String → SX → State → Prop} {AX : Nat → Prop} (hr : vx_Run p l e R s m args below meth c H locs cells slots mc ms (F0 m pc ls st0) rest (va_Qf post B A1 a) (vx_X px BX AX) free) (hS : va_S A0 H0 H locs) (hA : ∀ q, q < H.size → A1 q → A0 q) (hf : ∀ q, free q → A0 q) (hAX : ∀ q, q < H.size → AX q → A0 q)
    (kx : ∀ (E : String) (ce : Cell) (q9 : Addr) (u : SX) (t : State) (H1 : Heap) (locs1 : List Loc), t.heap = H1 → s.vm.Alike t.vm → px u → BX E u t → H.size ≤ H1.size → (∀ q : Nat, q < H.size → ¬ AX q → H1[q]? = H[q]?) → va_S A0 H0 H1 locs1 → H1[q9]? = some ce → ce.vm = .none → s.vm.findClass E = some ce.cls → vx_W p l e R s m args below meth c H1 locs1 (cells + mc) (slots + ms) Q (F0 m pc ls rest) q9)
    (kk : ∀ (r : UInt32) (u : S) (t : State) (H1 : Heap) (locs1 : List Loc), t.heap = H1 → s.vm.Alike t.vm → post r u → B u t → H.size ≤ H1.size → (∀ q : Nat, q < H.size → ¬ A1 q → H1[q]? = H[q]?) → va_S A0 H0 H1 locs1 → W p l e R s m args below meth c H1 locs1 (cells + mc) (slots + ms) Q (F0 m (pc + 3) ls (.float r :: rest))) : W p l e R s m args below meth c H locs cells slots Q (F0 m pc ls st0) := by
  intro T hT X
  rcases hr T hT X with ⟨v, st₀, t, T', L, h0, X', hL, e1, e2, ⟨⟨r, u, hv, hp, hb⟩, hF⟩, st⟩ | ⟨q, st₀, t, T', L, E, ce, h0, X', hL, e1, e2, ⟨u, hp, hb, hF⟩, hce, hcv, hcl, st⟩
  · cases hv
    obtain ⟨k1, k2, k3⟩ := vx_keep h0 e1 hS hA hf hL hF
    obtain ⟨t2, a1, b1⟩ := kk r u t T'.heap (locs ++ L) e1.symm (by rw [← e2]; exact X'.warmed.alike) hp hb k1 k2 k3 T' rfl X'
    exact ⟨t2, st t2 a1, b1⟩
  · obtain ⟨k1, k2, k3⟩ := vx_keep h0 e1 hS hAX hf hL hF
    obtain ⟨t2, a1, b1⟩ := kx E ce q u t T'.heap (locs ++ L) e1.symm (by rw [← e2]; exact X'.warmed.alike) hp hb k1 k2 k3 (by rw [e1]; exact hce) hcv hcl T' rfl X'
    exact ⟨t2, st.trans a1, b1⟩
theorem vx_calld {S SX : Type} {post : UInt64 → S → Prop} {px : SX → Prop} {B : S → State → Prop} {BX : String → SX → State → Prop} {AX : Nat → Prop} (hr : vx_Run p l e R s m args below meth c H locs cells slots mc ms (F0 m pc ls st0) rest (va_Qd post B A1 a) (vx_X px BX AX) free) (hS : va_S A0 H0 H locs) (hA : ∀ q, q < H.size → A1 q → A0 q) (hf : ∀ q, free q → A0 q) (hAX : ∀ q, q < H.size → AX q → A0 q)
    (kx : ∀ (E : String) (ce : Cell) (q9 : Addr) (u : SX) (t : State) (H1 : Heap) (locs1 : List Loc), t.heap = H1 → s.vm.Alike t.vm → px u → BX E u t → H.size ≤ H1.size → (∀ q : Nat, q < H.size → ¬ AX q → H1[q]? = H[q]?) → va_S A0 H0 H1 locs1 → H1[q9]? = some ce → ce.vm = .none → s.vm.findClass E = some ce.cls → vx_W p l e R s m args below meth c H1 locs1 (cells + mc) (slots + ms) Q (F0 m pc ls rest) q9)
    (kk : ∀ (r : UInt64) (u : S) (t : State) (H1 : Heap) (locs1 : List Loc), t.heap = H1 → s.vm.Alike t.vm → post r u → B u t → H.size ≤ H1.size → (∀ q : Nat, q < H.size → ¬ A1 q → H1[q]? = H[q]?) → va_S A0 H0 H1 locs1 → W p l e R s m args below meth c H1 locs1 (cells + mc) (slots + ms) Q (F0 m (pc + 3) ls (.double r :: rest))) : W p l e R s m args below meth c H locs cells slots Q (F0 m pc ls st0) := by
  intro T hT X
  rcases hr T hT X with ⟨v, st₀, t, T', L, h0, X', hL, e1, e2, ⟨⟨r, u, hv, hp, hb⟩, hF⟩, st⟩ | ⟨q, st₀, t, T', L, E, ce, h0, X', hL, e1, e2, ⟨u, hp, hb, hF⟩, hce, hcv, hcl, st⟩
  · cases hv
    obtain ⟨k1, k2, k3⟩ := vx_keep h0 e1 hS hA hf hL hF
    obtain ⟨t2, a1, b1⟩ := kk r u t T'.heap (locs ++ L) e1.symm (by rw [← e2]; exact X'.warmed.alike) hp hb k1 k2 k3 T' rfl X'
    exact ⟨t2, st t2 a1, b1⟩
  · obtain ⟨k1, k2, k3⟩ := vx_keep h0 e1 hS hAX hf hL hF
    obtain ⟨t2, a1, b1⟩ := kx E ce q u t T'.heap (locs ++ L) e1.symm (by rw [← e2]; exact X'.warmed.alike) hp hb k1 k2 k3 (by rw [e1]; exact hce) hcv hcl T' rfl X'
    exact ⟨t2, st.trans a1, b1⟩
theorem vx_callv {S SX : Type} {post : S → Prop} {px : SX → Prop} {B : S → State → Prop} {BX : String → SX → State → Prop} {AX : Nat → Prop} (hr : vx_Run p l e R s m args below meth c H locs cells slots mc ms (F0 m pc ls st0) rest (va_Qv post B A1 a) (vx_X px BX AX) free) (hS : va_S A0 H0 H locs) (hA : ∀ q, q < H.size → A1 q → A0 q) (hf : ∀ q, free q → A0 q) (hAX : ∀ q, q < H.size → AX q → A0 q)
    (kx : ∀ (E : String) (ce : Cell) (q9 : Addr) (u : SX) (t : State) (H1 : Heap) (locs1 : List Loc), t.heap = H1 → s.vm.Alike t.vm → px u → BX E u t → H.size ≤ H1.size → (∀ q : Nat, q < H.size → ¬ AX q → H1[q]? = H[q]?) → va_S A0 H0 H1 locs1 → H1[q9]? = some ce → ce.vm = .none → s.vm.findClass E = some ce.cls → vx_W p l e R s m args below meth c H1 locs1 (cells + mc) (slots + ms) Q (F0 m pc ls rest) q9)
    (kk : ∀ (u : S) (t : State) (H1 : Heap) (locs1 : List Loc), t.heap = H1 → s.vm.Alike t.vm → post u → B u t → H.size ≤ H1.size → (∀ q : Nat, q < H.size → ¬ A1 q → H1[q]? = H[q]?) → va_S A0 H0 H1 locs1 → W p l e R s m args below meth c H1 locs1 (cells + mc) (slots + ms) Q (F0 m (pc + 3) ls (rest))) : W p l e R s m args below meth c H locs cells slots Q (F0 m pc ls st0) := by
  intro T hT X
  rcases hr T hT X with ⟨v, st₀, t, T', L, h0, X', hL, e1, e2, ⟨⟨u, hv, hp, hb⟩, hF⟩, st⟩ | ⟨q, st₀, t, T', L, E, ce, h0, X', hL, e1, e2, ⟨u, hp, hb, hF⟩, hce, hcv, hcl, st⟩
  · cases hv
    obtain ⟨k1, k2, k3⟩ := vx_keep h0 e1 hS hA hf hL hF
    obtain ⟨t2, a1, b1⟩ := kk u t T'.heap (locs ++ L) e1.symm (by rw [← e2]; exact X'.warmed.alike) hp hb k1 k2 k3 T' rfl X'
    exact ⟨t2, st t2 a1, b1⟩
  · obtain ⟨k1, k2, k3⟩ := vx_keep h0 e1 hS hAX hf hL hF
    obtain ⟨t2, a1, b1⟩ := kx E ce q u t T'.heap (locs ++ L) e1.symm (by rw [← e2]; exact X'.warmed.alike) hp hb k1 k2 k3 (by rw [e1]; exact hce) hcv hcl T' rfl X'
    exact ⟨t2, st.trans a1, b1⟩
/-- caught by the row x of this method's table; the rows ahead don't take it -/
theorem vx_catch {own name : String} {E : String} {ce : Cell} {q : Addr} (hown : s.vm.findClass own = some m.cls) (pre : List ExceptionTableEntry) (x : ExceptionTableEntry) (suf : List ExceptionTableEntry) (hsplit : c.exceptionTable.toList = pre ++ x :: suf)
    (hpass : ∀ z ∈ pre, covers z pc = false ∨ (z.catchType ≠ 0 ∧ ∃ nm : String, (Cond.classLink own z.catchType nm).before args s = true ∧ va_Nc E nm s)) (hx : covers x pc = true) (h0 : x.catchType ≠ 0)
    (hlink : (Cond.classLink own x.catchType name).before args s = true) (hcast : (Cond.castable E name).before args s = true) (hcell : H[q]? = some ce) (hv : ce.vm = .none) (hcl : s.vm.findClass E = some ce.cls)
    (kk : W p l e R s m args below meth c H locs cells slots Q (F0 m x.handlerPc ls [.ref q])) : vx_W p l e R s m args below meth c H locs cells slots Q (F0 m pc ls rest) q := by
  intro T hT X
  have hpl : e.platform.magicAccessors = ({} : Platform).magicAccessors := by rw [X.admits.platform]
  obtain ⟨c3, c4, hc3, hc4, hasg⟩ := Cond.castable_spec hcast
  cases Option.some.inj (hc3.symm.trans hcl)
  obtain ⟨c5, hc5, hcl5⟩ := Cond.classLink_spec hown hlink e.platform hpl
  cases Option.some.inj (hc4.symm.trans hc5)
  obtain ⟨vm', X', st⟩ := mk_caught X q (g := F0 m pc ls rest) rfl (by rw [hT]; exact hcell) (by rw [hv]; rfl) (by obtain ⟨k9, h9, -⟩ := Vm.findClass_spec hcl; exact ⟨k9, h9⟩) pre x suf hsplit
    (fun z hz => by
      rcases hpass z hz with h | ⟨hz0, nm, hl1, hn1⟩
      · exact Or.inl h
      · obtain ⟨c6, hc6, hcl6⟩ := Cond.classLink_spec hown hl1 e.platform hpl
        obtain ⟨a8, b8, h1, h2, h3⟩ := hn1
        cases Option.some.inj (h1.symm.trans hcl)
        cases Option.some.inj (h2.symm.trans hc6)
        exact Or.inr ⟨hz0, _, hcl6, h3⟩) hx h0 hcl5 hasg
  obtain ⟨t, a1, b1⟩ := kk (T.setVm vm') hT X'
  exact ⟨t, st.trans a1, b1⟩
end Rows
section Ends
variable {p : Program} {l : Launch} {e : Env} {R : Room} {s : State} {m : MethodId} {args : Array Value} {below : List Frame} {meth : Method} {c : Code} {H : Heap} {locs : List Loc} {cells slots : Nat} {Q : State → Prop}
variable {mc ms : Nat} {free : Addr → Prop} {A0 A1 : Nat → Prop} {H0 : Heap} {a : Array Value} {ls : Array Slot} {st0 rest : List Value}
variable {Qc : Array Value → State → Outcome → State → Prop} {XC : String → State → State → Prop}
/-- what a body that may throw owes at its end -/
def vx_MQ (below : List Frame) (Qc : Array Value → State → Outcome → State → Prop) (XC : String → State → State → Prop) (a : Array Value) (s : State) (mc ms : Nat) (free : Addr → Prop) : State → Prop := fun t =>
  ∃ o, t.status = .running ∧ Ended t below o ∧ vx_Q Qc XC mc ms free a s o t
theorem vx_ret {g : JFrame} {mc ms : Nat} (k : W p l e R s m args below meth c H locs cells slots (MQ below Qc args s mc ms free) g) : W p l e R s m args below meth c H locs cells slots (vx_MQ below Qc XC args s mc ms free) g := by
  intro T hT X
  obtain ⟨t, a1, o, b1, b2, b3, b4⟩ := k T hT X
  exact ⟨t, a1, o, b1, b2, Or.inl ⟨b3, b4⟩⟩
/-- not caught here: it goes on to the caller -/
theorem vx_widen {g : JFrame} {q : Addr} {k n : Nat} (h1 : cells ≤ k) (h2 : slots ≤ n) (kk : vx_W p l e R s m args below meth c H locs k n Q g q) : vx_W p l e R s m args below meth c H locs cells slots Q g q := fun T hT X => kk T hT (stand_widen X h1 h2)
theorem vx_out {pc : Nat} {E : String} {ce : Cell} {q : Addr} {mc ms : Nat} (hout : ∀ x ∈ c.exceptionTable.toList, covers x pc = false) (hlocks : meth.locks = false) (hcell : H[q]? = some ce) (hv : ce.vm = .none) (hcl : s.vm.findClass E = some ce.cls)
    (hx : ∀ t : State, t.heap = H → s.vm.Alike t.vm → XC E s t) (hf : ∀ z ∈ locs, free z.base) (hc : cells ≤ mc) (hs : slots ≤ ms) :
    vx_W p l e R s m args below meth c H locs cells slots (vx_MQ below Qc XC args s mc ms free) (F0 m pc ls rest) q := by
  intro T hT X
  obtain ⟨st1, hrun, hend, hW, hsm⟩ := X.leaveThrown q (g := F0 m pc ls rest) rfl rfl rfl hout hlocks
  have hcell9 : (T.setFrames (.throwing q :: below)).heap[q]? = some ce := by
    show T.heap[q]? = some ce
    rw [hT]; exact hcell
  exact ⟨_, st1, .threw q, hrun, hend, Or.inr ⟨q, rfl, E, ce, locs, hx _ hT hW.alike, hcell9, hv, hcl, hW, hsm.mono hc hs, hf⟩⟩
theorem vx_frame {U : State} {k n : Nat} (h : s.sameButNew ({ U with vm := s.vm } : State) locs k n) : s.heap.size ≤ U.heap.size ∧ ∀ q : Nat, q < s.heap.size → (∀ z ∈ locs, z.base ≠ q) → U.heap[q]? = s.heap[q]? := by
  obtain ⟨-, h2, -, -, -, h6⟩ := h
  refine ⟨h2, fun q hq hz => ?_⟩
  obtain ⟨c9, e1, e2, e3, e4⟩ := h6 q _ (Array.getElem?_eq_getElem hq)
  have hs : c9.slots = (s.heap[q]).slots := Array.ext_getElem? fun i => e4 i fun hm => hz _ hm rfl
  have h9 : c9 = s.heap[q] := by
    rw [hs] at e2
    exact e2
  have e5 : U.heap[q]? = some c9 := e1
  rw [e5, h9, Array.getElem?_eq_getElem hq]
/-- the words of a throw but the four that speak of the heap -/
def vx_no (w : Cond) : Bool := decide (w ≠ .isRef (.static Bundle.tN "UNASSIGNED_STACK" Bundle.steD)) && decide (w ≠ .isRef (.static Bundle.tN "SUPPRESSED_SENTINEL" Bundle.listD)) && decide (w ≠ .laysStatic Bundle.tN "UNASSIGNED_STACK" Bundle.steD) && decide (w ≠ .laysStatic Bundle.tN "SUPPRESSED_SENTINEL" Bundle.listD)
def vx_at0 (own : String) (ic : Nat) (X : String) (names : List String) : List Cond := (Bundle.ownAtoms0 own ic X names).filter vx_no
def vx_atS (own : String) (ic : Nat) (X : String) (names : List String) : List Cond := (Bundle.ownAtoms own ic X names).filter vx_no
/-- a word that the tables alone decide, or a good one -/
def vx_ot (w : Cond) : Bool := w.onTables || goodWord w
theorem vx_ot_at {args a' : Array Value} {s U : State} {w : Cond} (hW : s.WarmedH U.vm) (hvm : s.vm = U.vm) (hg : vx_ot w = true) (h : w.before args s = true) : w.before a' U = true := by
  simp only [vx_ot, Bool.or_eq_true] at hg
  rcases hg with hg | hg
  · exact va_tabs hg hvm h
  · exact word_at hW (good_of_word hg) h
/-- a list's words: the good ones out of the method's own list, the others by premises of their own -/
theorem vx_hat {args : Array Value} {s : State} {L B : List Cond} (h1 : ∀ w ∈ L.filter goodWord, w.before args s = true) (h2 : ∀ w ∈ L.filter (fun w => !goodWord w), w ∈ B) (h3 : ∀ w ∈ B, w.before args s = true) : ∀ w ∈ L, w.before args s = true := by
  intro w hw
  by_cases g : goodWord w = true
  · exact h1 w (List.mem_filter.mpr ⟨hw, g⟩)
  · refine h3 w (h2 w (List.mem_filter.mpr ⟨hw, ?_⟩))
    show (!goodWord w) = true
    cases hgw : goodWord w
    · rfl
    · exact absurd hgw g
theorem vx_c {args : Array Value} {s : State} {w : Cond} {B : List Cond} (h : w.before args s = true) (t : ∀ w ∈ B, w.before args s = true) : ∀ w' ∈ w :: B, w'.before args s = true := fun w' h' => (List.mem_cons.mp h').elim (fun e => by rw [e]; exact h) (t w')
theorem vx_n {args : Array Value} {s : State} : ∀ w ∈ ([] : List Cond), w.before args s = true := fun _ h => nomatch h
theorem vx_own {args : Array Value} {s : State} {L : List Cond} (h1 : ∀ w ∈ L.filter vx_no, w.before args s = true)
    (hU : (Cond.isRef (.static Bundle.tN "UNASSIGNED_STACK" Bundle.steD)).before args s = true) (hN : (Cond.isRef (.static Bundle.tN "SUPPRESSED_SENTINEL" Bundle.listD)).before args s = true)
    (lU : (Cond.laysStatic Bundle.tN "UNASSIGNED_STACK" Bundle.steD).before args s = true) (lN : (Cond.laysStatic Bundle.tN "SUPPRESSED_SENTINEL" Bundle.listD).before args s = true) : ∀ w ∈ L, w.before args s = true := by
  intro w hw
  by_cases e1 : w = .isRef (.static Bundle.tN "UNASSIGNED_STACK" Bundle.steD)
  · rw [e1]; exact hU
  · by_cases e2 : w = .isRef (.static Bundle.tN "SUPPRESSED_SENTINEL" Bundle.listD)
    · rw [e2]; exact hN
    · by_cases e3 : w = .laysStatic Bundle.tN "UNASSIGNED_STACK" Bundle.steD
      · rw [e3]; exact lU
      · by_cases e4 : w = .laysStatic Bundle.tN "SUPPRESSED_SENTINEL" Bundle.listD
        · rw [e4]; exact lN
        · exact h1 w (List.mem_filter.mpr ⟨hw, by unfold vx_no; rw [decide_eq_true e1, decide_eq_true e2, decide_eq_true e3, decide_eq_true e4]; rfl⟩)
/-- where a static field lies, its class's statics cell in H -/
def vx_L (C n d : String) (A : Nat → Prop) (U : State) (H : Heap) : Prop := ∃ (c : ClassId) (k : Class) (i : Nat) (f : Field) (a : Nat) (cell : Cell), U.vm.findClass C = some c ∧ U.fieldFound? C n d = some (c, k, i, f) ∧ f.isStatic = true ∧ k.statics = some a ∧ H[a]? = some cell ∧ cell.vm.isStatics = true ∧ cell.cls = c ∧ f.slot < cell.slots.size ∧ k.staticTypes[f.slot]? = some f.type ∧ ¬ A a
theorem vx_L.moved {C n d : String} {A : Nat → Prop} {u U : State} {H : Heap} (hvm : u.vm.Alike U.vm) (h : vx_L C n d A u H) : vx_L C n d A U H := by
  obtain ⟨c, k, i, f, a, cell, h1, h2, h3, h4, h5, h6, h7, h8, h9, h10⟩ := h
  obtain ⟨k', hi', he⟩ := State.fieldFound?_setVm hvm h2
  exact ⟨c, k', i, f, a, cell, by rw [hvm.findClass]; exact h1, hi', h3, by rw [he]; exact h4, h5, h6, h7, h8, by rw [he]; exact h9, h10⟩
theorem vx_L.kept {C n d : String} {A : Nat → Prop} {U : State} {H H1 : Heap} (h : vx_L C n d A U H) (hq : ∀ a : Nat, a < H.size → ¬ A a → H1[a]? = H[a]?) : vx_L C n d A U H1 := by
  obtain ⟨c, k, i, f, a, cell, h1, h2, h3, h4, h5, h6, h7, h8, h9, h10⟩ := h
  exact ⟨c, k, i, f, a, cell, h1, h2, h3, h4, by rw [hq a (Array.getElem?_eq_some_iff.mp h5).1 h10]; exact h5, h6, h7, h8, h9, h10⟩
theorem vx_L.narrow {C n d : String} {A B : Nat → Prop} {U : State} {H : Heap} (h : vx_L C n d A U H) (hAB : ∀ q, B q → A q) : vx_L C n d B U H := by
  obtain ⟨c, k, i, f, a, cell, h1, h2, h3, h4, h5, h6, h7, h8, h9, h10⟩ := h
  exact ⟨c, k, i, f, a, cell, h1, h2, h3, h4, h5, h6, h7, h8, h9, fun z => h10 (hAB _ z)⟩
theorem vx_L.word {C n d : String} {A : Nat → Prop} {s : State} {args : Array Value} (h : vx_L C n d A s s.heap) : (Cond.laysStatic C n d).before args s = true := by
  obtain ⟨c, k, i, f, a, cell, h1, h2, h3, h4, h5, h6, h7, h8, h9, -⟩ := h
  show (Cond.laysStatic C n d).holds args s none s [] = true
  exact Cond.laysStatic_of h1 h2 h3 h4 h5 h6 h7 h8 h9
/-- .. and what it holds: null or some reference -/
def vx_Zq (C n d : String) (A : Nat → Prop) (U : State) (H : Heap) : Prop := va_Zq C n d A U H ∧ vx_L C n d A U H
theorem vx_Zq.moved {C n d : String} {A : Nat → Prop} {u U : State} {H : Heap} (hvm : u.vm.Alike U.vm) (h : vx_Zq C n d A u H) : vx_Zq C n d A U H := ⟨va_Zq.moved hvm h.1, vx_L.moved hvm h.2⟩
theorem vx_Zq.kept {C n d : String} {A : Nat → Prop} {U : State} {H H1 : Heap} (h : vx_Zq C n d A U H) (hq : ∀ a : Nat, a < H.size → ¬ A a → H1[a]? = H[a]?) : vx_Zq C n d A U H1 := ⟨va_Zq.kept h.1 hq, vx_L.kept h.2 hq⟩
theorem vx_Zq.narrow {C n d : String} {A B : Nat → Prop} {U : State} {H : Heap} (h : vx_Zq C n d A U H) (hAB : ∀ q, B q → A q) : vx_Zq C n d B U H := ⟨va_Zq.narrow h.1 hAB, vx_L.narrow h.2 hAB⟩
theorem vx_Zqof {args : Array Value} {s : State} {C n d : String} {A : Nat → Prop} (hl : (Cond.laysStatic C n d).before args s = true) (hini : (Cond.initialized C).before args s = true) (h : (Cond.isRef (.static C n d)).before args s = true) (hA : ∀ a : Nat, a < s.heap.size → ¬ A a) : vx_Zq C n d A s s.heap := by
  refine ⟨va_Zqof hl hini h hA, ?_⟩
  obtain ⟨c, k, i, f, a, cell, h1, h2, h3, h4, h5, h6, h7, h8, h9⟩ := Cond.laysStatic_spec hl
  exact ⟨c, k, i, f, a, cell, h1, h2, h3, h4, h5, h6, h7, h8, h9, hA a (Array.getElem?_eq_some_iff.mp h5).1⟩
theorem vx_isRef {C n d : String} {v : Value} {A : Nat → Prop} {s : State} {args : Array Value} (h : va_Z C n d v A s s.heap) (hv : v.isRef = true) : (Cond.isRef (.static C n d)).before args s = true := by
  obtain ⟨cf, kf, fi, f, a, cell, h1, h2, h3, h4, h5, h6, h7, -⟩ := h
  have he : (Term.static C n d).eval args s none [] s = some v := by
    simp [Term.eval, State.fieldNamed?, h1, h2, h4, h5, h6, h7]
  simp only [Cond.before, Cond.holds, Cond.value, he]
  cases v <;> simp_all [Value.isRef]
theorem vx_isRefq {C n d : String} {A : Nat → Prop} {s : State} {args : Array Value} (h : va_Zq C n d A s s.heap) : (Cond.isRef (.static C n d)).before args s = true := by
  rcases h with h | ⟨t, h⟩
  · exact vx_isRef h rfl
  · exact vx_isRef h rfl
/-- the same frame, seen from here: as if the method were called anew in this heap -/
theorem vx_rebase {T : State} (X : Stand p l e R s m args below meth c T locs cells slots) {R' : Room} (hf : R'.frames ≤ R.frames) (hl : R'.locals ≤ R.locals) (hc : cells + R'.cells ≤ R.cells) (hs : slots + R'.slots ≤ R.slots) :
    Stand p l e R' ((T.setVm s.vm).setFrames (.invoking m args :: below)) m args below meth c T [] 0 0 := by
  have htop : (T.setVm s.vm).topJava?.isSome := X.here.top
  have hF : ((T.setVm s.vm).setFrames (.invoking m args :: below)).frames = .invoking m args :: below := State.frames_setFrames _ (State.cur_lt_of_top htop)
  obtain ⟨g₀, hg0⟩ := Option.isSome_iff_exists.mp htop
  obtain ⟨r, hr⟩ := State.topJava?_eq_some.mp hg0
  have hl9 : e.platform.stackLimits (T.setVm s.vm).me = e.platform.stackLimits s.me := X.limits
  have hb9 : (T.setVm s.vm).me.stackBytes = s.me.stackBytes := X.bytes
  refine ⟨X.admits, X.cas, X.clock, hF, ?_, X.hears, X.method, X.code, X.here, X.tail, X.warmed, ?_, ?_, ?_⟩
  · have h := X.room
    have hU : ((T.setVm s.vm).setFrames (.invoking m args :: below)).localsInUse = s.localsInUse := by
      rw [State.localsInUse_invoking hF (meth := meth) (c := c) X.method X.code, State.localsInUse_invoking X.frames X.method X.code]
    simp only [State.hasRoom, Bool.and_eq_true, decide_eq_true_eq] at h ⊢
    obtain ⟨⟨⟨⟨h1, h2, h3, h4, h5, h6⟩, h7⟩, h8⟩, h9⟩ := h
    rw [X.frames, List.length_cons] at h2 h3
    have q1 := X.heapSize
    have q2 := X.used
    simp only [hF, hU, List.length_cons, State.stackLimits_setFrames, State.stackBytes_setFrames, hl9, hb9]
    refine ⟨⟨⟨⟨by omega, by omega, by omega, by omega, by omega, h6⟩, ?_⟩, ?_⟩, X.book⟩
    · show T.heap.size + R'.cells ≤ e.platform.maxCells
      omega
    · show T.slotsUsed + R'.slots ≤ e.platform.maxSlots
      omega
  · rw [State.stackLimits_setFrames]; rfl
  · rw [State.stackBytes_setFrames]; rfl
  · refine ⟨?_, Nat.le_refl _, Nat.le_refl _, ?_, ?_, fun a c9 h9 => ⟨c9, h9, rfl, rfl, fun _ _ => rfl⟩⟩
    · obtain ⟨t, ht, -⟩ := State.frames_cons hr
      show T.setVm s.vm = { ((T.setVm s.vm).setFrames (.invoking m args :: below)).setFrames (T.setVm s.vm).frames with heap := T.heap, slotsUsed := T.slotsUsed }
      rw [State.setFrames_setFrames, State.setFrames_self ht]
      rfl
    · show T.slotsUsed = T.slotsUsed + ((T.heap.toList.drop T.heap.size).map (·.slots.size)).sum
      rw [List.drop_eq_nil_of_le (Nat.le_of_eq Array.length_toList)]
      rfl
    · show ((T.heap.toList.drop T.heap.size).map (·.slots.size)).sum ≤ 0
      rw [List.drop_eq_nil_of_le (Nat.le_of_eq Array.length_toList)]
      exact Nat.le_refl _
/-- 'throw new E()': new; dup; invokespecial; athrow -/
theorem vx_throw0 {cc : ByteArray} {pc : Nat} (hexec : p.tables.exec = Jvm.exec) (hb : c.code = cc) (hl : l.stackTraces = false) {own cls : String} {names : List String} {ik ic mc ms : Nat} {A : Nat → Prop}
    (hown : s.vm.findClass own = some m.cls) (hcls : Bundle.fit cls = true) (hnames : ∀ n ∈ names, Bundle.fit n = true)
    (hk : (Cond.classLink own ik cls).before args s = true) (hini : (Cond.initialized cls).before args s = true) (hat : ∀ w ∈ vx_at0 own ic cls names, w.before args s = true)
    (hgood : ∀ w ∈ Cond.classLink own ik cls :: Cond.initialized cls :: vx_at0 own ic cls names, vx_ot w = true)
    (hU : vx_Zq Bundle.tN "UNASSIGNED_STACK" Bundle.steD A s s.heap) (hN : vx_Zq Bundle.tN "SUPPRESSED_SENTINEL" Bundle.listD A s s.heap) (hS : va_S A s.heap H locs) (hsize : ls.size = c.maxLocals)
    (d0 : decode cc pc = .ok (.new ik, 3)) (d3 : decode cc (pc + 3) = .ok (.dup, 1)) (d4 : decode cc (pc + 4) = .ok (.invokespecial ic, 3)) (d7 : decode cc (pc + 7) = .ok (.athrow, 1))
    (hout : ∀ x ∈ c.exceptionTable.toList, covers x (pc + 7) = false)
    (hRframes : names.length + 3 < R.frames) (hRlocals : (rest.map fun v => v.category).sum + (13 * (names.length + 1) + 42) ≤ R.locals) (hRcells : cells + 1 ≤ R.cells) (hRslots : slots + 6 ≤ R.slots) (hlocks : meth.locks = false)
    (hx : ∀ t : State, s.vm.Alike t.vm → H.size ≤ t.heap.size → (∀ q : Nat, q < H.size → t.heap[q]? = H[q]?) → XC cls s t)
    (hf : ∀ z ∈ locs, free z.base) (hc : cells + 1 ≤ mc) (hs : slots + 6 ≤ ms) :
    W p l e R s m args below meth c H locs cells slots (vx_MQ below Qc XC args s mc ms free) (F0 m pc ls rest) := by
  intro T hT X
  have htr : e.platform.stackTraces = false := (show e.platform.stackTraces = l.stackTraces by rw [X.admits.platform]).trans hl
  have Y := vx_rebase X (R' := { frames := R.frames, locals := R.locals, cells := 1, slots := 6 }) (Nat.le_refl _) (Nat.le_refl _) hRcells hRslots
  obtain ⟨s', hA⟩ : ∃ z, z = (T.setVm s.vm).setFrames (.invoking m args :: below) := ⟨_, rfl⟩
  rw [← hA] at Y
  have hvm : s'.vm = s.vm := by rw [hA]; rfl
  have hhp : s'.heap = H := by rw [hA]; exact hT
  have hW0 : s.WarmedH s'.vm := by rw [hvm]; exact State.WarmedH.refl s
  have hat' : ∀ w ∈ vx_at0 own ic cls names, w.before args s' = true := fun w hw => vx_ot_at hW0 hvm.symm (hgood w (List.mem_cons_of_mem _ (List.mem_cons_of_mem _ hw))) (hat w hw)
  have hk' : (Cond.classLink own ik cls).before args s' = true := vx_ot_at hW0 hvm.symm (hgood _ List.mem_cons_self) hk
  have hini' : (Cond.initialized cls).before args s' = true := vx_ot_at hW0 hvm.symm (hgood _ (List.mem_cons_of_mem _ List.mem_cons_self)) hini
  have hU' : vx_Zq Bundle.tN "UNASSIGNED_STACK" Bundle.steD A s' s'.heap := by rw [hhp]; exact vx_Zq.moved hW0.alike (hU.kept hS.2.1)
  have hN' : vx_Zq Bundle.tN "SUPPRESSED_SENTINEL" Bundle.listD A s' s'.heap := by rw [hhp]; exact vx_Zq.moved hW0.alike (hN.kept hS.2.1)
  have h : ∀ w ∈ Bundle.ownAtoms0 own ic cls names, w.before args s' = true := vx_own hat' (vx_isRefq hU'.1) (vx_isRefq hN'.1) hU'.2.word hN'.2.word
  have hown' : s'.vm.findClass own = some m.cls := by rw [hvm]; exact hown
  have hins : (Cond.instantiable cls 6).before args s' = true := h _ (by simp [Bundle.ownAtoms0])
  obtain ⟨vm₁, cX, kX, hfX, hkX, -, -, X₁, st1⟩ := Y.newCold hexec (own := own) (C := cls) (index := ik) (n := 6) hown' hk' hins hini'
    (g := F0 m pc ls rest) rfl (by rw [hb]; exact d0) (Nat.le_refl _) (Nat.le_refl _)
  generalize hT1 : (T.setVm vm₁).pushCell { cls := cX, slots := kX.instanceTypes.map defaultValue, vm := .none } = T1 at X₁ st1
  have hcat : (Value.ref T.heap.size).category = 1 := rfl
  have hcellA : T1.heap[T.heap.size]? = some (freshCell cX kX) := by rw [← hT1]; exact State.heap_pushCell_size _ _
  have d3' : decode c.code (pc + 3) = .ok (.dup, 1) := by rw [hb]; exact d3
  obtain ⟨U, hsteps, hrun, hend, hW, hsame, ce, hce, hO⟩ := X₁.ctorThrow0 hexec htr (own := own) (cls := cls) (names := names) (ic := ic) hown' hcls hnames h (fun x hx => nomatch hx) hfX hkX hcellA (by rw [hhp, hT]; exact Nat.le_refl _)
    (g := { method := m, pc := pc + 4, locals := ls, stack := .ref T.heap.size :: .ref T.heap.size :: rest, locked := none }) rfl hsize rfl rfl (rest := rest) rfl
    (by rw [hb]; exact d4) (by rw [hb]; exact d7) hout hRframes (by simp only [List.map_cons, List.sum_cons, hcat]; omega) hlocks
  obtain ⟨f1, f2⟩ := vx_frame hsame
  rw [hhp] at f1 f2
  have hWs : s.WarmedH U.vm := State.WarmedH.trans hW0 hW
  have hcl : s.vm.findClass cls = some ce.cls := by
    have h9 := hO.cls
    rw [hvm] at h9
    exact h9
  have hall : s.sameButNew ({ U with vm := s.vm } : State) locs mc ms := by
    subst hA
    obtain ⟨e1, e2⟩ := hsame
    rw [State.setFrames_setFrames] at e1
    have h2 : (T.setVm s.vm).sameButNew ({ U with vm := s.vm } : State) [] (0 + 1) (0 + 6) := ⟨e1, e2⟩
    have h3 := X.same.trans h2
    rw [List.append_nil] at h3
    exact h3.mono hc hs
  refine ⟨U, ?_, .threw T.heap.size, hrun, hend, Or.inr ⟨T.heap.size, rfl, cls, ce, locs, hx U hWs.alike f1 (fun q hq => f2 q hq (fun z hz => nomatch hz)), hce, hO.vm, hcl, hWs, hall, hf⟩⟩
  refine st1 _ ?_
  show Steps p.tables e below (T1.setTop { method := m, pc := pc + 3, locals := ls, stack := .ref T.heap.size :: rest, locked := none }) _
  jvm_step X₁.here [X₁.here.top, hexec, d3', Value.category]
  exact hsteps
/-- 'throw new E("text")': new; dup; ldc; invokespecial; athrow -/
theorem vx_throwS {cc : ByteArray} {pc : Nat} (hexec : p.tables.exec = Jvm.exec) (hb : c.code = cc) (hl : l.stackTraces = false) {own cls text : String} {names : List String} {ik is ic mc ms sa : Nat} {A : Nat → Prop}
    (hown : s.vm.findClass own = some m.cls) (hcls : Bundle.fit cls = true) (hnames : ∀ n ∈ names, Bundle.fit n = true)
    (hk : (Cond.classLink own ik cls).before args s = true) (hini : (Cond.initialized cls).before args s = true) (hstr : vk_R own is text sa s) (hat : ∀ w ∈ vx_atS own ic cls names, w.before args s = true)
    (hgood : ∀ w ∈ Cond.classLink own ik cls :: Cond.initialized cls :: vx_atS own ic cls names, vx_ot w = true)
    (hU : vx_Zq Bundle.tN "UNASSIGNED_STACK" Bundle.steD A s s.heap) (hN : vx_Zq Bundle.tN "SUPPRESSED_SENTINEL" Bundle.listD A s s.heap) (hS : va_S A s.heap H locs) (hsize : ls.size = c.maxLocals)
    (d0 : decode cc pc = .ok (.new ik, 3)) (d3 : decode cc (pc + 3) = .ok (.dup, 1)) (d4 : decode cc (pc + 4) = .ok (.ldc is, 2)) (d6 : decode cc (pc + 6) = .ok (.invokespecial ic, 3)) (d9 : decode cc (pc + 9) = .ok (.athrow, 1))
    (hout : ∀ x ∈ c.exceptionTable.toList, covers x (pc + 9) = false)
    (hRframes : names.length + 3 < R.frames) (hRlocals : (rest.map fun v => v.category).sum + (13 * (names.length + 1) + 43) ≤ R.locals) (hRcells : cells + 1 ≤ R.cells) (hRslots : slots + 6 ≤ R.slots) (hlocks : meth.locks = false)
    (hx : ∀ t : State, s.vm.Alike t.vm → H.size ≤ t.heap.size → (∀ q : Nat, q < H.size → t.heap[q]? = H[q]?) → XC cls s t)
    (hf : ∀ z ∈ locs, free z.base) (hc : cells + 1 ≤ mc) (hs : slots + 6 ≤ ms) :
    W p l e R s m args below meth c H locs cells slots (vx_MQ below Qc XC args s mc ms free) (F0 m pc ls rest) := by
  intro T hT X
  have htr : e.platform.stackTraces = false := (show e.platform.stackTraces = l.stackTraces by rw [X.admits.platform]).trans hl
  have Y := vx_rebase X (R' := { frames := R.frames, locals := R.locals, cells := 1, slots := 6 }) (Nat.le_refl _) (Nat.le_refl _) hRcells hRslots
  obtain ⟨s', hA⟩ : ∃ z, z = (T.setVm s.vm).setFrames (.invoking m args :: below) := ⟨_, rfl⟩
  rw [← hA] at Y
  have hvm : s'.vm = s.vm := by rw [hA]; rfl
  have hhp : s'.heap = H := by rw [hA]; exact hT
  have hW0 : s.WarmedH s'.vm := by rw [hvm]; exact State.WarmedH.refl s
  have hat' : ∀ w ∈ vx_atS own ic cls names, w.before args s' = true := fun w hw => vx_ot_at hW0 hvm.symm (hgood w (List.mem_cons_of_mem _ (List.mem_cons_of_mem _ hw))) (hat w hw)
  have hk' : (Cond.classLink own ik cls).before args s' = true := vx_ot_at hW0 hvm.symm (hgood _ List.mem_cons_self) hk
  have hini' : (Cond.initialized cls).before args s' = true := vx_ot_at hW0 hvm.symm (hgood _ (List.mem_cons_of_mem _ List.mem_cons_self)) hini
  have hU' : vx_Zq Bundle.tN "UNASSIGNED_STACK" Bundle.steD A s' s'.heap := by rw [hhp]; exact vx_Zq.moved hW0.alike (hU.kept hS.2.1)
  have hN' : vx_Zq Bundle.tN "SUPPRESSED_SENTINEL" Bundle.listD A s' s'.heap := by rw [hhp]; exact vx_Zq.moved hW0.alike (hN.kept hS.2.1)
  have h : ∀ w ∈ Bundle.ownAtoms own ic cls names, w.before args s' = true := vx_own hat' (vx_isRefq hU'.1) (vx_isRefq hN'.1) hU'.2.word hN'.2.word
  have hown' : s'.vm.findClass own = some m.cls := by rw [hvm]; exact hown
  have hins : (Cond.instantiable cls 6).before args s' = true := h _ (by simp [Bundle.ownAtoms])
  obtain ⟨vm₁, cX, kX, hfX, hkX, -, -, X₁, st1⟩ := Y.newCold hexec (own := own) (C := cls) (index := ik) (n := 6) hown' hk' hins hini'
    (g := F0 m pc ls rest) rfl (by rw [hb]; exact d0) (Nat.le_refl _) (Nat.le_refl _)
  generalize hT1 : (T.setVm vm₁).pushCell { cls := cX, slots := kX.instanceTypes.map defaultValue, vm := .none } = T1 at X₁ st1
  have hcat : (Value.ref T.heap.size).category = 1 := rfl
  have hcellA : T1.heap[T.heap.size]? = some (freshCell cX kX) := by rw [← hT1]; exact State.heap_pushCell_size _ _
  have d3' : decode c.code (pc + 3) = .ok (.dup, 1) := by rw [hb]; exact d3
  have d4' : decode c.code (pc + 4) = .ok (.ldc is, 2) := by rw [hb]; exact d4
  have hstr' : vk_R own is text sa s' := vk_R.warm hW0 hstr
  obtain ⟨U, hsteps, hrun, hend, hW, hsame, ce, hce, hO⟩ := X₁.ctorThrowS hexec htr (own := own) (cls := cls) (names := names) (ic := ic) hown' hcls hnames h (fun x hx => nomatch hx) hfX hkX hcellA (by rw [hhp, hT]; exact Nat.le_refl _) (msg := .ref sa) rfl
    (g := { method := m, pc := pc + 6, locals := ls, stack := .ref sa :: .ref T.heap.size :: .ref T.heap.size :: rest, locked := none }) rfl hsize rfl rfl (rest := rest) rfl
    (by rw [hb]; exact d6) (by rw [hb]; exact d9) hout hRframes (by simp only [List.map_cons, List.sum_cons, hcat]; omega) hlocks
  obtain ⟨f1, f2⟩ := vx_frame hsame
  rw [hhp] at f1 f2
  have hWs : s.WarmedH U.vm := State.WarmedH.trans hW0 hW
  have hcl : s.vm.findClass cls = some ce.cls := by
    have h9 := hO.cls
    rw [hvm] at h9
    exact h9
  have hall : s.sameButNew ({ U with vm := s.vm } : State) locs mc ms := by
    subst hA
    obtain ⟨e1, e2⟩ := hsame
    rw [State.setFrames_setFrames] at e1
    have h2 : (T.setVm s.vm).sameButNew ({ U with vm := s.vm } : State) [] (0 + 1) (0 + 6) := ⟨e1, e2⟩
    have h3 := X.same.trans h2
    rw [List.append_nil] at h3
    exact h3.mono hc hs
  refine ⟨U, ?_, .threw T.heap.size, hrun, hend, Or.inr ⟨T.heap.size, rfl, cls, ce, locs, hx U hWs.alike f1 (fun q hq => f2 q hq (fun z hz => nomatch hz)), hce, hO.vm, hcl, hWs, hall, hf⟩⟩
  refine st1 _ ?_
  show Steps p.tables e below (T1.setTop { method := m, pc := pc + 3, locals := ls, stack := .ref T.heap.size :: rest, locked := none }) _
  jvm_step X₁.here [X₁.here.top, hexec, d3', Value.category]
  exact X₁.ldcString hexec (own := own) (text := text) (index := is) (a := sa) hown' hstr'.1 hstr'.2
    (g := { method := m, pc := pc + 4, locals := ls, stack := .ref T.heap.size :: .ref T.heap.size :: rest, locked := none }) rfl d4' _ hsteps
/-- 'throw new E("text")', the text by a wide index -/
theorem vx_throwSW {cc : ByteArray} {pc : Nat} (hexec : p.tables.exec = Jvm.exec) (hb : c.code = cc) (hl : l.stackTraces = false) {own cls text : String} {names : List String} {ik is ic mc ms sa : Nat} {A : Nat → Prop}
    (hown : s.vm.findClass own = some m.cls) (hcls : Bundle.fit cls = true) (hnames : ∀ n ∈ names, Bundle.fit n = true)
    (hk : (Cond.classLink own ik cls).before args s = true) (hini : (Cond.initialized cls).before args s = true) (hstr : vk_R own is text sa s) (hat : ∀ w ∈ vx_atS own ic cls names, w.before args s = true)
    (hgood : ∀ w ∈ Cond.classLink own ik cls :: Cond.initialized cls :: vx_atS own ic cls names, vx_ot w = true)
    (hU : vx_Zq Bundle.tN "UNASSIGNED_STACK" Bundle.steD A s s.heap) (hN : vx_Zq Bundle.tN "SUPPRESSED_SENTINEL" Bundle.listD A s s.heap) (hS : va_S A s.heap H locs) (hsize : ls.size = c.maxLocals)
    (d0 : decode cc pc = .ok (.new ik, 3)) (d3 : decode cc (pc + 3) = .ok (.dup, 1)) (d4 : decode cc (pc + 4) = .ok (.ldc_w is, 3)) (d7 : decode cc (pc + 7) = .ok (.invokespecial ic, 3)) (d10 : decode cc (pc + 10) = .ok (.athrow, 1))
    (hout : ∀ x ∈ c.exceptionTable.toList, covers x (pc + 10) = false)
    (hRframes : names.length + 3 < R.frames) (hRlocals : (rest.map fun v => v.category).sum + (13 * (names.length + 1) + 43) ≤ R.locals) (hRcells : cells + 1 ≤ R.cells) (hRslots : slots + 6 ≤ R.slots) (hlocks : meth.locks = false)
    (hx : ∀ t : State, s.vm.Alike t.vm → H.size ≤ t.heap.size → (∀ q : Nat, q < H.size → t.heap[q]? = H[q]?) → XC cls s t)
    (hf : ∀ z ∈ locs, free z.base) (hc : cells + 1 ≤ mc) (hs : slots + 6 ≤ ms) :
    W p l e R s m args below meth c H locs cells slots (vx_MQ below Qc XC args s mc ms free) (F0 m pc ls rest) := by
  intro T hT X
  have htr : e.platform.stackTraces = false := (show e.platform.stackTraces = l.stackTraces by rw [X.admits.platform]).trans hl
  have Y := vx_rebase X (R' := { frames := R.frames, locals := R.locals, cells := 1, slots := 6 }) (Nat.le_refl _) (Nat.le_refl _) hRcells hRslots
  obtain ⟨s', hA⟩ : ∃ z, z = (T.setVm s.vm).setFrames (.invoking m args :: below) := ⟨_, rfl⟩
  rw [← hA] at Y
  have hvm : s'.vm = s.vm := by rw [hA]; rfl
  have hhp : s'.heap = H := by rw [hA]; exact hT
  have hW0 : s.WarmedH s'.vm := by rw [hvm]; exact State.WarmedH.refl s
  have hat' : ∀ w ∈ vx_atS own ic cls names, w.before args s' = true := fun w hw => vx_ot_at hW0 hvm.symm (hgood w (List.mem_cons_of_mem _ (List.mem_cons_of_mem _ hw))) (hat w hw)
  have hk' : (Cond.classLink own ik cls).before args s' = true := vx_ot_at hW0 hvm.symm (hgood _ List.mem_cons_self) hk
  have hini' : (Cond.initialized cls).before args s' = true := vx_ot_at hW0 hvm.symm (hgood _ (List.mem_cons_of_mem _ List.mem_cons_self)) hini
  have hU' : vx_Zq Bundle.tN "UNASSIGNED_STACK" Bundle.steD A s' s'.heap := by rw [hhp]; exact vx_Zq.moved hW0.alike (hU.kept hS.2.1)
  have hN' : vx_Zq Bundle.tN "SUPPRESSED_SENTINEL" Bundle.listD A s' s'.heap := by rw [hhp]; exact vx_Zq.moved hW0.alike (hN.kept hS.2.1)
  have h : ∀ w ∈ Bundle.ownAtoms own ic cls names, w.before args s' = true := vx_own hat' (vx_isRefq hU'.1) (vx_isRefq hN'.1) hU'.2.word hN'.2.word
  have hown' : s'.vm.findClass own = some m.cls := by rw [hvm]; exact hown
  have hins : (Cond.instantiable cls 6).before args s' = true := h _ (by simp [Bundle.ownAtoms])
  obtain ⟨vm₁, cX, kX, hfX, hkX, -, -, X₁, st1⟩ := Y.newCold hexec (own := own) (C := cls) (index := ik) (n := 6) hown' hk' hins hini'
    (g := F0 m pc ls rest) rfl (by rw [hb]; exact d0) (Nat.le_refl _) (Nat.le_refl _)
  generalize hT1 : (T.setVm vm₁).pushCell { cls := cX, slots := kX.instanceTypes.map defaultValue, vm := .none } = T1 at X₁ st1
  have hcat : (Value.ref T.heap.size).category = 1 := rfl
  have hcellA : T1.heap[T.heap.size]? = some (freshCell cX kX) := by rw [← hT1]; exact State.heap_pushCell_size _ _
  have d3' : decode c.code (pc + 3) = .ok (.dup, 1) := by rw [hb]; exact d3
  have d4' : decode c.code (pc + 4) = .ok (.ldc_w is, 3) := by rw [hb]; exact d4
  have hstr' : vk_R own is text sa s' := vk_R.warm hW0 hstr
  obtain ⟨U, hsteps, hrun, hend, hW, hsame, ce, hce, hO⟩ := X₁.ctorThrowS hexec htr (own := own) (cls := cls) (names := names) (ic := ic) hown' hcls hnames h (fun x hx => nomatch hx) hfX hkX hcellA (by rw [hhp, hT]; exact Nat.le_refl _) (msg := .ref sa) rfl
    (g := { method := m, pc := pc + 7, locals := ls, stack := .ref sa :: .ref T.heap.size :: .ref T.heap.size :: rest, locked := none }) rfl hsize rfl rfl (rest := rest) rfl
    (by rw [hb]; exact d7) (by rw [hb]; exact d10) hout hRframes (by simp only [List.map_cons, List.sum_cons, hcat]; omega) hlocks
  obtain ⟨f1, f2⟩ := vx_frame hsame
  rw [hhp] at f1 f2
  have hWs : s.WarmedH U.vm := State.WarmedH.trans hW0 hW
  have hcl : s.vm.findClass cls = some ce.cls := by
    have h9 := hO.cls
    rw [hvm] at h9
    exact h9
  have hall : s.sameButNew ({ U with vm := s.vm } : State) locs mc ms := by
    subst hA
    obtain ⟨e1, e2⟩ := hsame
    rw [State.setFrames_setFrames] at e1
    have h2 : (T.setVm s.vm).sameButNew ({ U with vm := s.vm } : State) [] (0 + 1) (0 + 6) := ⟨e1, e2⟩
    have h3 := X.same.trans h2
    rw [List.append_nil] at h3
    exact h3.mono hc hs
  refine ⟨U, ?_, .threw T.heap.size, hrun, hend, Or.inr ⟨T.heap.size, rfl, cls, ce, locs, hx U hWs.alike f1 (fun q hq => f2 q hq (fun z hz => nomatch hz)), hce, hO.vm, hcl, hWs, hall, hf⟩⟩
  refine st1 _ ?_
  show Steps p.tables e below (T1.setTop { method := m, pc := pc + 3, locals := ls, stack := .ref T.heap.size :: rest, locked := none }) _
  jvm_step X₁.here [X₁.here.top, hexec, d3', Value.category]
  exact X₁.ldcStringW hexec (own := own) (text := text) (index := is) (a := sa) hown' hstr'.1 hstr'.2
    (g := { method := m, pc := pc + 4, locals := ls, stack := .ref T.heap.size :: .ref T.heap.size :: rest, locked := none }) rfl d4' _ hsteps
end Ends
section Bodies
variable {l : Launch}
theorem vx_ofW {y : MethodName} {ws ws' : List Cond} {rm : Room} {Pc : Array Value → State → Prop} {Qc : Array Value → State → Outcome → State → Prop} {XC : String → State → State → Prop} {mc ms : Nat} {free : Addr → Prop} {cc : ByteArray} {maxL : Nat} {ret : Option FieldType}
    (hy : plainName y.cls = true) (hw : ws = Cond.code y cc maxL ret :: ws')
    (body : ∀ p e s m args below meth c s₁, BodyLoose p l y (headSpec ws rm) cc maxL ret e s m args below meth c s₁ → c.maxLocals = maxL → (∀ x ∈ c.exceptionTable.toList, False) → Pc args s →
      W p l e (headSpec ws rm).room s m args below meth c s.heap [] 0 0 (vx_MQ below Qc XC args s mc ms free) (entryFrame m args maxL)) : vx_Met l y ws rm Pc Qc XC mc ms free := by
  refine MetFree.of_bodyS (code := cc) (maxLocals := maxL) (ret := ret) hy ?_ ?_
  · intro args s m h hn
    obtain ⟨meth, c, h1, h2, h3, h4, h5, h6, -, -⟩ := Cond.code_spec hn (atoms_spec (ws := ws) h _ (by rw [hw]; exact List.mem_cons_self))
    exact ⟨meth, c, h1, h2, h3, h4, h5, h6⟩
  · intro p e s m args below meth c s₁ B hml hP _
    have hh0 : s₁.heap = s.heap := by rw [B.state]; rfl
    have ht : ∀ x ∈ c.exceptionTable.toList, False := by
      obtain ⟨meth9, c9, h1, h2, -, -, -, -, h7, -⟩ := Cond.code_spec B.named (atoms_spec (ws := ws) B.pre _ (by rw [hw]; exact List.mem_cons_self))
      cases Option.some.inj (h1.symm.trans B.method)
      cases Option.some.inj (h2.symm.trans (Stand.of_body B).code)
      intro x hx
      rw [Array.isEmpty_iff.mp h7] at hx
      cases hx
    obtain ⟨t, a1, o, b1, b2, b3⟩ := body p e s m args below meth c s₁ B hml ht hP s₁ hh0 (Stand.of_body B)
    exact ⟨t, o, a1, b1, b2, b3⟩
/-- the table of a body with handlers -/
theorem vx_table {p : Program} {x y : MethodName} {S : Spec} {cc bytes : ByteArray} {maxL maxL' : Nat} {ret ret' : Option FieldType} {e : Env} {s s₁ : State} {m : MethodId} {args : Array Value} {below : List Frame} {meth : Method} {c : Code} {hh : List (Nat × Nat × Nat × Nat)}
    (B : BodyLoose p l y S cc maxL ret e s m args below meth c s₁) (h : (Cond.codeWith y bytes maxL' ret' hh).before args s = true) : c.exceptionTable.toList = tableOf hh := by
  obtain ⟨m9, meth9, c9, hn9, h1, h2, -, -, h6, -⟩ := Cond.codeWith_spec h
  cases Option.some.inj (hn9.symm.trans B.named)
  cases Option.some.inj (h1.symm.trans B.method)
  cases Option.some.inj (h2.symm.trans (Stand.of_body B).code)
  rw [← h6, table_eq]
end Bodies
end VXA
/-! ===== END ===== -/
/-! ===== BEGIN a static call of a method with an exception table ===== -/
section VXS
variable {p : Program} {l : Launch} {e : Env} {R : Room} {s : State} {m : MethodId} {args : Array Value} {below : List Frame} {meth : Method} {c : Code} {T : State} {H : Heap} {locs : List Loc} {cells slots : Nat}
abbrev vx_CSW (R : Room) (s : State) (args : Array Value) (own : String) (index : Nat) (y : MethodName) (bytes : ByteArray) (maxL : Nat) (ret : Option FieldType) (hh : List (Nat × Nat × Nat × Nat)) (ws : List Cond) (rm : Room) (mc ms n : Nat) : Prop :=
  (rm.cells = mc ∧ rm.slots = ms ∧ rm.frames + 1 ≤ R.frames ∧ 8 + (maxL + 11) + rm.locals ≤ R.locals ∧ (∀ w ∈ ws, ∀ (a' : Array Value) (U : State), s.WarmedH U.vm → w.before a' U = true) ∧ Cond.codeWith y bytes maxL ret hh ∈ ws) ∧
  (Cond.codeWith y bytes maxL ret hh).before args s = true ∧ (Cond.initialized y.cls).before args s = true ∧ (y.cls ≠ "java/lang/invoke/MethodHandle" ∧ y.cls ≠ "java/lang/invoke/VarHandle") ∧
  (∀ sig, parseMethodDescriptor y.desc = some sig → n = sig.parameters.length) ∧ (Cond.methodLink own index y).before args s = true ∧ (Cond.static y).before args s = true
theorem vx_cwSW {own : String} {index maxL mc ms : Nat} {y : MethodName} {bytes : ByteArray} {ret : Option FieldType} {hh : List (Nat × Nat × Nat × Nat)} {Ts ws ws' : List Cond} {rm : Room} (n : Nat) (ht : ∀ w ∈ Ts, w.before args s = true) (hT : GoodIn Ts (va_wsS own index y ws)) (hw : ws = Cond.codeWith y bytes maxL ret hh :: ws') (hrc : rm.cells = mc) (hrs : rm.slots = ms)
    (hd : y.cls ≠ "java/lang/invoke/MethodHandle" ∧ y.cls ≠ "java/lang/invoke/VarHandle" ∧ (parseMethodDescriptor y.desc).map (fun d => d.parameters.length) = some n) (hR : rm.frames + 1 ≤ R.frames ∧ 8 + (maxL + 11) + rm.locals ≤ R.locals) :
    vx_CSW R s args own index y bytes maxL ret hh ws rm mc ms n := by
  have ok : ∀ w ∈ va_wsS own index y ws, w.before args s = true := fun w h => ht w (hT w h).1
  have hG : GoodIn Ts ws := fun w h => hT w (by unfold va_wsS; exact List.mem_append_right _ h)
  have hc : Cond.codeWith y bytes maxL ret hh ∈ ws := by rw [hw]; exact List.mem_cons_self
  refine ⟨⟨hrc, hrs, hR.1, hR.2, pay_in ht hG, hc⟩, ht _ (hG _ hc).1, ok _ (by simp [va_wsS]), ⟨hd.1, hd.2.1⟩, fun sig h => ?_, ok _ (by simp [va_wsS]), ok _ (by simp [va_wsS])⟩
  have h2 := hd.2.2
  rw [h] at h2
  exact (Option.some.inj h2).symm
theorem vx_callSW (X : Stand p l e R s m args below meth c T locs cells slots) (hexec : p.tables.exec = Jvm.exec) {own : String} {index : Nat} {y : MethodName} {bytes : ByteArray} {maxL : Nat} {ret : Option FieldType} {hh : List (Nat × Nat × Nat × Nat)}
    (hown : s.vm.findClass own = some m.cls) (hlink : (Cond.methodLink own index y).before args s = true) (hstat : (Cond.static y).before args s = true) (hinit : (Cond.initialized y.cls).before args s = true)
    (hcode : (Cond.codeWith y bytes maxL ret hh).before args s = true) (hy : y.cls ≠ "java/lang/invoke/MethodHandle" ∧ y.cls ≠ "java/lang/invoke/VarHandle")
    {W9 : Nat} {Pre : Pt → Array Value → Prop} {Post : Pt → Array Value → Option Value → Pt → Prop} (hK : Back l R p e below s args y 3 W9 Pre Post)
    {g : JFrame} (hg : g.method = m) (hsize : g.locals.size = c.maxLocals) {argsL rest : List Value} (hlen : ∀ sig, parseMethodDescriptor y.desc = some sig → argsL.length = sig.parameters.length)
    (hstack : g.stack = argsL.reverse ++ rest) (hW : 2 * g.monitorRoom + (rest.map fun v => v.category).sum ≤ W9) (hdg : decode c.code g.pc = .ok (.invokestatic index, 3))
    (hpre : ∀ vm₁, s.WarmedH vm₁ → Pre ⟨T.setVm vm₁, locs, cells, slots⟩ argsL.toArray) :
    ∃ (v : Option Value) (vm₁ : Vm) (B : Pt), s.WarmedH vm₁ ∧ Stand p l e R s m args below meth c B.U B.locs B.cells B.slots ∧ Post ⟨T.setVm vm₁, locs, cells, slots⟩ argsL.toArray v B ∧
      ∀ target, Steps p.tables e below (B.U.setTop { g with pc := g.pc + 3, stack := v.toList ++ rest }) target → Steps p.tables e below (T.setTop g) target := by
  obtain ⟨mk, methM, cM, hnamed, hmethM, -, -, -, -, -, -, hsigM⟩ := Cond.codeWith_spec hcode
  have hstatic : methM.isStatic = true := Cond.static_spec hnamed hmethM hstat
  obtain ⟨kP, hkP, -⟩ := className_of_methodNamed hnamed
  have hinitP : kP.init = .initialized := Cond.initialized_spec (findClass_of_methodNamed hnamed) hkP hinit
  obtain ⟨vm₁, X₁, hstep₁⟩ := X.invokestatic hexec hown hlink hnamed hmethM hstatic hkP hinitP hy (g := g) hg (argsL := argsL) (rest := rest) (hlen _ hsigM) hstack hdg
  obtain ⟨v, B, X', hpost, hsteps⟩ := hK m meth c ⟨T.setVm vm₁, locs, cells, slots⟩ { g with stack := rest } (.invokestatic index) mk argsL.toArray X₁ hg hsize hdg hW (X₁.named hnamed) (hpre vm₁ X₁.warmed)
  exact ⟨v, vm₁, B, X₁.warmed, X', hpost, fun target h => hstep₁ _ fun acts => by rw [doInvoke_state]; exact hsteps.trans h⟩
theorem vx_runSW {y : MethodName} {bytes cc : ByteArray} {maxL nL mc ms n index : Nat} {ret : Option FieldType} {hh : List (Nat × Nat × Nat × Nat)} {ws : List Cond} {rm : Room} {Pc : Array Value → State → Prop} {Qc : Array Value → State → Outcome → State → Prop} {free : Addr → Prop} {Ts : List Cond} {own : String} {As rest : List Value} {g : JFrame}
    (S : CallFix p m c cc nL s args Ts own) (hM : Met l y ws rm Pc Qc mc ms free) (cw : vx_CSW R s args own index y bytes maxL ret hh ws rm mc ms n) (hp : PreS s H Pc As)
    (hg : g.method = m) (hn : As.length = n) (hsize : g.locals.size = nL) (hstack : g.stack = As.reverse ++ rest) (hW : 2 * g.monitorRoom + (rest.map fun v => v.category).sum ≤ 8) (hdg : decode cc g.pc = .ok (.invokestatic index, 3)) (hf : cells + mc ≤ R.cells ∧ slots + ms ≤ R.slots) :
    va_Run p l e R s m args below meth c H locs cells slots mc ms g rest (Qc As.toArray) (free) := by
  obtain ⟨⟨hrc, hrs, hfr, hlo, hws, hcw⟩, hcode, hini, hy, hlen, hl, hstt⟩ := cw
  have hK : Back l R p e below s args y 3 8 (PreOf R mc ms Pc) (PostOf Qc mc ms free) := va_backW (hh := hh) (bytes := bytes) (maxL := maxL) (ret := ret) hM hp.1 hrc hrs hfr hlo hws hcw (fun a' U hW => word_at hW (Or.inl (by first | rfl | simp [Cond.onTables, Cond.keeps, Cond.steady])) hini)
  obtain ⟨hx, hb, hml, ho, -⟩ := S
  intro T hT X
  obtain ⟨v, vm₁, ⟨U', l2, c2, s2⟩, hW₁, X', ⟨g', mk, t, L, e1, e2, hq, h1, hL, h2, h3⟩, st⟩ := vx_callSW X hx (hh := hh) (bytes := bytes) (maxL := maxL) (ret := ret) ho hl hstt hini hcode hy hK hg (hsize.trans hml.symm) (argsL := As) (rest := rest) (fun sig h => hn.trans (hlen sig h)) hstack hW (by rw [hb]; exact hdg)
    (fun vm₁ hW₁ => ⟨hf.1, hf.2, hp.2 (T.setVm vm₁) hT hW₁⟩)
  dsimp only [Pt.U, Pt.locs, Pt.cells, Pt.slots] at X' e1 e2 h1 h2 h3 st
  subst h1; subst h2; subst h3
  exact ⟨v, (T.setVm vm₁).calling g' mk As.toArray, t, U', L, hT, X', hL, e1, e2, hq, st⟩
/-- a thing of a world lies in the heap -/
theorem vx_lt {D : va_G} {cl : List vw_C} {ws : va_W} {H1 : Heap} (h : va_P D cl ws H1) {k : Nat} {q : Nat × va_E} (hk : ws[k]? = some q) : q.1 < H1.size := (h k q hk).lt
end VXS
/-! ===== END ===== -/
/-! ===== BEGIN methods with a table of their own: called by a name, returning or throwing ===== -/
section VXH
/-! vx_backW, vx_callVX, vx_callSX, vx_callVW, vx_runVW, vx_runVX, vx_runSX, vx_ofWH follow the same proofs as their sisters above (Free/Laws.lean, Shelf42/LK1.lean); vx_outP calls Shelf42/NT130.lean (outThrough). -/
section
variable {l : Launch} {R : Room} {p : Program} {e : Env} {below : List Frame} {s : State} {sargs : Array Value} {y : MethodName} {len W9 : Nat}
theorem vx_backW {ws : List Cond} {rm : Room} {Pc : Array Value → State → Prop} {Qc : Array Value → State → Outcome → State → Prop} {XC : String → State → State → Prop} {mc ms : Nat} {free : Addr → Prop} {bytes : ByteArray} {maxL : Nat} {ret : Option FieldType} {hh : List (Nat × Nat × Nat × Nat)}
    (hM : vx_Met l y ws rm Pc Qc XC mc ms free) (hblind : FrameBlind Pc) (hrc : rm.cells = mc) (hrs : rm.slots = ms)
    (hframes : rm.frames + 1 ≤ R.frames) (hlocals : W9 + (maxL + 11) + rm.locals ≤ R.locals)
    (hws : ∀ w ∈ ws, ∀ a' U, s.WarmedH U.vm → w.before a' U = true) (hcode : Cond.codeWith y bytes maxL ret hh ∈ ws) (hinit : ∀ a' U, s.WarmedH U.vm → (Cond.initialized y.cls).before a' U = true) :
    vx_Back l R p e below s sargs y len W9 (PreOf R mc ms Pc) (PostOf Qc mc ms free) (vx_Post XC mc ms free) := by
  intro m meth c A g ig mk a X hg hsize hdg hW hn hp
  have h1 : (headSpec ws rm).pre.before a A.U = true := atoms_intro fun w hw => hws w hw _ _ X.warmed
  have h2 : (Cond.codeWith y bytes maxL ret hh).before a A.U = true := hws _ hcode _ _ X.warmed
  have h3 : (Cond.initialized y.cls).before a A.U = true := hinit _ _ X.warmed
  have h4 : A.cells + (headSpec ws rm).room.cells ≤ R.cells := by rw [show (headSpec ws rm).room.cells = mc from hrc]; exact hp.1
  have h5 : A.slots + (headSpec ws rm).room.slots ≤ R.slots := by rw [show (headSpec ws rm).room.slots = ms from hrs]; exact hp.2.1
  have hPc : Pc a (A.U.calling g mk a) := hblind _ _ _ _ hp.2.2
  obtain ⟨U, Ls, c0, s0⟩ := A
  dsimp only [Pt.U, Pt.locs, Pt.cells, Pt.slots] at h1 h2 h3 h4 h5 X hn hPc ⊢
  obtain ⟨m9, methY, cY, hn9, hmY, hcY, -, hlY, -⟩ := Cond.codeWith_spec h2
  cases Option.some.inj (hn9.symm.trans hn)
  obtain ⟨kY, hkY, -⟩ := className_of_methodNamed hn
  have hinitY : kY.init = .initialized := Cond.initialized_spec (findClass_of_methodNamed hn) hkY h3
  have h : At U g.method c below := by rw [hg]; exact X.here
  have hlocals9 : W9 + (maxL + 11) + (headSpec ws rm).room.locals ≤ R.locals := hlocals
  have happ : (headSpec ws rm).appliesLoose y e.platform (U.calling g mk a) = true :=
    Spec.appliesLoose_calling (g := g) h hdg hn hkY hinitY
      (X.room_calling (g := g) (R' := (headSpec ws rm).room) hsize hmY hcY hframes (by rw [hlY]; omega) h4 h5) h1
  obtain ⟨mid, hmid⟩ := h.above
  have hfr : (U.setTop g).frames = (.java g :: mid) ++ below := by rw [State.frames_setTop' g h.top, hmid]; rfl
  obtain ⟨o, s₂, hsteps, -, hend, hq⟩ := Steps.callFree hM p X.admits X.cas X.clock (acts := []) hfr happ hPc trivial
  have hq' : vx_Q Qc XC mc ms free a (U.calling g mk a) o s₂ := hq
  rw [State.frames_setTop' g h.top] at hend
  obtain ⟨g₀, hg0⟩ := Option.isSome_iff_exists.mp h.top
  obtain ⟨r, hr⟩ := State.topJava?_eq_some.mp hg0
  have hr' : (({ U with heap := s₂.heap, slotsUsed := s₂.slotsUsed } : State).setVm s₂.vm).frames = .java g₀ :: r := hr
  rcases hq' with ⟨hqc, L, hfe, hL⟩ | ⟨q, rfl, E, ce, L, hx, hce, hcv, hcl, hW₂, hsm, hL⟩
  · obtain ⟨⟨v, rfl⟩, hW₂, e2, q2, q3, q4, q5, q6⟩ := id hfe
    have e3 : s₂ = ({ (U.calling g mk a).setFrames s₂.frames with heap := s₂.heap, slotsUsed := s₂.slotsUsed } : State).setVm s₂.vm := by
      have : s₂ = ({ s₂ with vm := (U.calling g mk a).vm } : State).setVm s₂.vm := rfl
      rw [e2] at this
      exact this
    obtain ⟨c₂, i₂, len₂, hc₂, hd₂, hf₂⟩ := hend
    have hW' : U.WarmedH s₂.vm := hW₂
    have hcc : c₂ = c := by
      have h1 : s₂.code? g.method = U.code? g.method := by
        rw [State.code?_eq, State.code?_eq, hW'.alike.method?]
      exact Option.some.inj (hc₂.symm.trans (h1.trans h.code))
    subst hcc
    have hlen : len₂ = len := by rw [hdg] at hd₂; cases hd₂; rfl
    subst hlen
    have hs₂ : s₂ = (({ U with heap := s₂.heap, slotsUsed := s₂.slotsUsed } : State).setVm s₂.vm).setTop { g with pc := g.pc + len₂, stack := v.toList ++ g.stack } := by
      refine e3.trans ?_
      rw [hf₂, State.calling_eq h.top, State.setFrames_setFrames, State.setTop_of_frames _ hr', hr]
      rfl
    have hsame : U.sameButNew ({ U with heap := s₂.heap, slotsUsed := s₂.slotsUsed } : State) L mc ms := by
      refine ⟨?_, q2, q3, q4, q5, q6⟩
      obtain ⟨t, ht, -⟩ := State.frames_cons hr
      show ({ U with heap := s₂.heap, slotsUsed := s₂.slotsUsed } : State) = { U.setFrames U.frames with heap := s₂.heap, slotsUsed := s₂.slotsUsed }
      rw [State.setFrames_self ht]
    subst hg
    refine Or.inl ⟨v, ⟨(({ U with heap := s₂.heap, slotsUsed := s₂.slotsUsed } : State).setVm s₂.vm), Ls ++ L, c0 + mc, s0 + ms⟩,
      ⟨X.admits, X.cas, X.clock, X.frames, X.room, X.hears, X.method, X.code, (X.here.setHeapUsed s₂.heap s₂.slotsUsed).setVm hW'.alike, X.tail, State.WarmedH.trans X.warmed hW', X.limits, X.bytes, X.same.trans (hsame.setVm s.vm)⟩,
      ⟨g, mk, s₂, L, rfl, rfl, hqc, rfl, hL, rfl, rfl⟩, ?_⟩
    show Steps p.tables e below _ ((({ U with heap := s₂.heap, slotsUsed := s₂.slotsUsed } : State).setVm s₂.vm).setTop { g with pc := g.pc + len₂, stack := v.toList ++ g.stack })
    rw [← hs₂]
    exact hsteps
  · obtain ⟨e2, q2, q3, q4, q5, q6⟩ := id hsm
    have e3 : s₂ = ({ (U.calling g mk a).setFrames s₂.frames with heap := s₂.heap, slotsUsed := s₂.slotsUsed } : State).setVm s₂.vm := by
      have : s₂ = ({ s₂ with vm := (U.calling g mk a).vm } : State).setVm s₂.vm := rfl
      rw [e2] at this
      exact this
    have hf₂ : s₂.frames = .throwing q :: .java g :: U.frames.tail := hend
    have hW' : U.WarmedH s₂.vm := hW₂
    have hs₂ : s₂ = ((({ U with heap := s₂.heap, slotsUsed := s₂.slotsUsed } : State).setVm s₂.vm).setTop g).pushFrame (.throwing q) := by
      refine e3.trans ?_
      rw [hf₂, State.calling_eq h.top, State.setFrames_setFrames, State.pushFrame, State.frames_setTop _ hr', State.setTop_of_frames _ hr', State.setFrames_setFrames, hr]
      rfl
    have hsame : U.sameButNew ({ U with heap := s₂.heap, slotsUsed := s₂.slotsUsed } : State) L mc ms := by
      refine ⟨?_, q2, q3, q4, q5, q6⟩
      obtain ⟨t, ht, -⟩ := State.frames_cons hr
      show ({ U with heap := s₂.heap, slotsUsed := s₂.slotsUsed } : State) = { U.setFrames U.frames with heap := s₂.heap, slotsUsed := s₂.slotsUsed }
      rw [State.setFrames_self ht]
    subst hg
    refine Or.inr ⟨q, ⟨(({ U with heap := s₂.heap, slotsUsed := s₂.slotsUsed } : State).setVm s₂.vm), Ls ++ L, c0 + mc, s0 + ms⟩,
      ⟨X.admits, X.cas, X.clock, X.frames, X.room, X.hears, X.method, X.code, (X.here.setHeapUsed s₂.heap s₂.slotsUsed).setVm hW'.alike, X.tail, State.WarmedH.trans X.warmed hW', X.limits, X.bytes, X.same.trans (hsame.setVm s.vm)⟩,
      ⟨g, mk, s₂, L, E, ce, rfl, rfl, hx, hce, hcv, hcl, rfl, hL, rfl, rfl⟩, ?_⟩
    show Steps p.tables e below _ (((({ U with heap := s₂.heap, slotsUsed := s₂.slotsUsed } : State).setVm s₂.vm).setTop g).pushFrame (.throwing q))
    rw [← hs₂]
    exact hsteps
end
variable {p : Program} {l : Launch} {e : Env} {R : Room} {s : State} {m : MethodId} {args : Array Value} {below : List Frame} {meth : Method} {c : Code} {T : State} {H : Heap} {locs : List Loc} {cells slots : Nat}
theorem vx_callVX (X : Stand p l e R s m args below meth c T locs cells slots) (hexec : p.tables.exec = Jvm.exec) {own C : String} {index : Nat} {y : MethodName} {bytes : ByteArray} {maxL : Nat} {ret : Option FieldType} {hh : List (Nat × Nat × Nat × Nat)}
    (hown : s.vm.findClass own = some m.cls) (hlink : (Cond.methodLink own index y).before args s = true) (hinst : (Cond.instanceMethod y).before args s = true) (hsel : (Cond.selects C y y).before args s = true)
    (hcode : (Cond.codeWith y bytes maxL ret hh).before args s = true) (hy : y.cls ≠ "java/lang/invoke/MethodHandle" ∧ y.cls ≠ "java/lang/invoke/VarHandle")
    {W9 : Nat} {Pre : Pt → Array Value → Prop} {Post : Pt → Array Value → Option Value → Pt → Prop} {PostX : Pt → Array Value → Addr → Pt → Prop} (hK : vx_Back l R p e below s args y 3 W9 Pre Post PostX)
    {b : Addr} {cellB : Cell} (hcell : T.heap[b]? = some cellB) (hobj : cellB.vm.isStatics = false) (hcls : s.vm.findClass C = some cellB.cls)
    {g : JFrame} (hg : g.method = m) (hsize : g.locals.size = c.maxLocals) {argsL rest : List Value} (hlen : ∀ sig, parseMethodDescriptor y.desc = some sig → argsL.length = sig.parameters.length)
    (hstack : g.stack = argsL.reverse ++ .ref b :: rest) (hW : 2 * g.monitorRoom + (rest.map fun v => v.category).sum ≤ W9) (hdg : decode c.code g.pc = .ok (.invokevirtual index, 3))
    (hpre : ∀ vm₁, s.WarmedH vm₁ → Pre ⟨T.setVm vm₁, locs, cells, slots⟩ (Value.ref b :: argsL).toArray) :
    (∃ (v : Option Value) (vm₁ : Vm) (B : Pt), s.WarmedH vm₁ ∧ Stand p l e R s m args below meth c B.U B.locs B.cells B.slots ∧ Post ⟨T.setVm vm₁, locs, cells, slots⟩ (Value.ref b :: argsL).toArray v B ∧
      ∀ target, Steps p.tables e below (B.U.setTop { g with pc := g.pc + 3, stack := v.toList ++ rest }) target → Steps p.tables e below (T.setTop g) target) ∨
    (∃ (q : Addr) (vm₁ : Vm) (B : Pt), s.WarmedH vm₁ ∧ Stand p l e R s m args below meth c B.U B.locs B.cells B.slots ∧ PostX ⟨T.setVm vm₁, locs, cells, slots⟩ (Value.ref b :: argsL).toArray q B ∧
      Steps p.tables e below (T.setTop g) ((B.U.setTop { g with stack := rest }).pushFrame (.throwing q))) := by
  obtain ⟨mk, methM, hnamed, hmethM, hstM, habM⟩ := Cond.instanceMethod_spec hinst
  obtain ⟨m8, methM', cM, hn8, hmethM', -, -, -, -, -, -, hsigM⟩ := Cond.codeWith_spec hcode
  cases Option.some.inj (hn8.symm.trans hnamed)
  cases hmethM.symm.trans hmethM'
  obtain ⟨c2, r2, m2, q1, q2, q3, q4, kP, hkP, hkPi⟩ := Cond.selects_spec hsel
  cases hcls.symm.trans q1
  cases (State.methodFound?_of_named hnamed hy).symm.trans q2
  cases hnamed.symm.trans q3
  have hselP : selectMethod e.platform s.vm cellB.cls mk = .method mk := by rw [Launch.admits_selectMethod X.admits]; exact q4
  obtain ⟨vm₁, X₁, hstep₁⟩ := X.invokevirtual hexec hown hlink hnamed hmethM hstM hkP hkPi hy (a := b) (cell := cellB) hcell
    (fun z h => by rw [h] at hobj; cases hobj) hselP hmethM habM hkP hkPi (g := g) hg (argsL := argsL) (rest := rest) (hlen _ hsigM) hstack hdg
  rcases hK m meth c ⟨T.setVm vm₁, locs, cells, slots⟩ { g with stack := rest } (.invokevirtual index) mk (Value.ref b :: argsL).toArray X₁ hg hsize hdg hW (X₁.named hnamed) (hpre vm₁ X₁.warmed) with ⟨v, B, X', hpost, hsteps⟩ | ⟨q, B, X', hpost, hsteps⟩
  · exact Or.inl ⟨v, vm₁, B, X₁.warmed, X', hpost, fun target h => hstep₁ _ fun acts => by rw [doInvoke_state]; exact hsteps.trans h⟩
  · exact Or.inr ⟨q, vm₁, B, X₁.warmed, X', hpost, hstep₁ _ fun acts => by rw [doInvoke_state]; exact hsteps⟩
theorem vx_callSX (X : Stand p l e R s m args below meth c T locs cells slots) (hexec : p.tables.exec = Jvm.exec) {own : String} {index : Nat} {y : MethodName} {bytes : ByteArray} {maxL : Nat} {ret : Option FieldType} {hh : List (Nat × Nat × Nat × Nat)}
    (hown : s.vm.findClass own = some m.cls) (hlink : (Cond.methodLink own index y).before args s = true) (hstat : (Cond.static y).before args s = true) (hinit : (Cond.initialized y.cls).before args s = true)
    (hcode : (Cond.codeWith y bytes maxL ret hh).before args s = true) (hy : y.cls ≠ "java/lang/invoke/MethodHandle" ∧ y.cls ≠ "java/lang/invoke/VarHandle")
    {W9 : Nat} {Pre : Pt → Array Value → Prop} {Post : Pt → Array Value → Option Value → Pt → Prop} {PostX : Pt → Array Value → Addr → Pt → Prop} (hK : vx_Back l R p e below s args y 3 W9 Pre Post PostX)
    {g : JFrame} (hg : g.method = m) (hsize : g.locals.size = c.maxLocals) {argsL rest : List Value} (hlen : ∀ sig, parseMethodDescriptor y.desc = some sig → argsL.length = sig.parameters.length)
    (hstack : g.stack = argsL.reverse ++ rest) (hW : 2 * g.monitorRoom + (rest.map fun v => v.category).sum ≤ W9) (hdg : decode c.code g.pc = .ok (.invokestatic index, 3))
    (hpre : ∀ vm₁, s.WarmedH vm₁ → Pre ⟨T.setVm vm₁, locs, cells, slots⟩ argsL.toArray) :
    (∃ (v : Option Value) (vm₁ : Vm) (B : Pt), s.WarmedH vm₁ ∧ Stand p l e R s m args below meth c B.U B.locs B.cells B.slots ∧ Post ⟨T.setVm vm₁, locs, cells, slots⟩ argsL.toArray v B ∧
      ∀ target, Steps p.tables e below (B.U.setTop { g with pc := g.pc + 3, stack := v.toList ++ rest }) target → Steps p.tables e below (T.setTop g) target) ∨
    (∃ (q : Addr) (vm₁ : Vm) (B : Pt), s.WarmedH vm₁ ∧ Stand p l e R s m args below meth c B.U B.locs B.cells B.slots ∧ PostX ⟨T.setVm vm₁, locs, cells, slots⟩ argsL.toArray q B ∧
      Steps p.tables e below (T.setTop g) ((B.U.setTop { g with stack := rest }).pushFrame (.throwing q))) := by
  obtain ⟨mk, methM, cM, hnamed, hmethM, -, -, -, -, -, -, hsigM⟩ := Cond.codeWith_spec hcode
  have hstatic : methM.isStatic = true := Cond.static_spec hnamed hmethM hstat
  obtain ⟨kP, hkP, -⟩ := className_of_methodNamed hnamed
  have hinitP : kP.init = .initialized := Cond.initialized_spec (findClass_of_methodNamed hnamed) hkP hinit
  obtain ⟨vm₁, X₁, hstep₁⟩ := X.invokestatic hexec hown hlink hnamed hmethM hstatic hkP hinitP hy (g := g) hg (argsL := argsL) (rest := rest) (hlen _ hsigM) hstack hdg
  rcases hK m meth c ⟨T.setVm vm₁, locs, cells, slots⟩ { g with stack := rest } (.invokestatic index) mk argsL.toArray X₁ hg hsize hdg hW (X₁.named hnamed) (hpre vm₁ X₁.warmed) with ⟨v, B, X', hpost, hsteps⟩ | ⟨q, B, X', hpost, hsteps⟩
  · exact Or.inl ⟨v, vm₁, B, X₁.warmed, X', hpost, fun target h => hstep₁ _ fun acts => by rw [doInvoke_state]; exact hsteps.trans h⟩
  · exact Or.inr ⟨q, vm₁, B, X₁.warmed, X', hpost, hstep₁ _ fun acts => by rw [doInvoke_state]; exact hsteps⟩
theorem vx_callVW (X : Stand p l e R s m args below meth c T locs cells slots) (hexec : p.tables.exec = Jvm.exec) {own C : String} {index : Nat} {y : MethodName} {bytes : ByteArray} {maxL : Nat} {ret : Option FieldType} {hh : List (Nat × Nat × Nat × Nat)}
    (hown : s.vm.findClass own = some m.cls) (hlink : (Cond.methodLink own index y).before args s = true) (hinst : (Cond.instanceMethod y).before args s = true) (hsel : (Cond.selects C y y).before args s = true)
    (hcode : (Cond.codeWith y bytes maxL ret hh).before args s = true) (hy : y.cls ≠ "java/lang/invoke/MethodHandle" ∧ y.cls ≠ "java/lang/invoke/VarHandle")
    {W9 : Nat} {Pre : Pt → Array Value → Prop} {Post : Pt → Array Value → Option Value → Pt → Prop} (hK : Back l R p e below s args y 3 W9 Pre Post)
    {b : Addr} {cellB : Cell} (hcell : T.heap[b]? = some cellB) (hobj : cellB.vm.isStatics = false) (hcls : s.vm.findClass C = some cellB.cls)
    {g : JFrame} (hg : g.method = m) (hsize : g.locals.size = c.maxLocals) {argsL rest : List Value} (hlen : ∀ sig, parseMethodDescriptor y.desc = some sig → argsL.length = sig.parameters.length)
    (hstack : g.stack = argsL.reverse ++ .ref b :: rest) (hW : 2 * g.monitorRoom + (rest.map fun v => v.category).sum ≤ W9) (hdg : decode c.code g.pc = .ok (.invokevirtual index, 3))
    (hpre : ∀ vm₁, s.WarmedH vm₁ → Pre ⟨T.setVm vm₁, locs, cells, slots⟩ (Value.ref b :: argsL).toArray) :
    ∃ (v : Option Value) (vm₁ : Vm) (B : Pt), s.WarmedH vm₁ ∧ Stand p l e R s m args below meth c B.U B.locs B.cells B.slots ∧ Post ⟨T.setVm vm₁, locs, cells, slots⟩ (Value.ref b :: argsL).toArray v B ∧
      ∀ target, Steps p.tables e below (B.U.setTop { g with pc := g.pc + 3, stack := v.toList ++ rest }) target → Steps p.tables e below (T.setTop g) target := by
  obtain ⟨mk, methM, hnamed, hmethM, hstM, habM⟩ := Cond.instanceMethod_spec hinst
  obtain ⟨m8, methM', cM, hn8, hmethM', -, -, -, -, -, -, hsigM⟩ := Cond.codeWith_spec hcode
  cases Option.some.inj (hn8.symm.trans hnamed)
  cases hmethM.symm.trans hmethM'
  obtain ⟨c2, r2, m2, q1, q2, q3, q4, kP, hkP, hkPi⟩ := Cond.selects_spec hsel
  cases hcls.symm.trans q1
  cases (State.methodFound?_of_named hnamed hy).symm.trans q2
  cases hnamed.symm.trans q3
  have hselP : selectMethod e.platform s.vm cellB.cls mk = .method mk := by rw [Launch.admits_selectMethod X.admits]; exact q4
  obtain ⟨vm₁, X₁, hstep₁⟩ := X.invokevirtual hexec hown hlink hnamed hmethM hstM hkP hkPi hy (a := b) (cell := cellB) hcell
    (fun z h => by rw [h] at hobj; cases hobj) hselP hmethM habM hkP hkPi (g := g) hg (argsL := argsL) (rest := rest) (hlen _ hsigM) hstack hdg
  obtain ⟨v, B, X', hpost, hsteps⟩ := hK m meth c ⟨T.setVm vm₁, locs, cells, slots⟩ { g with stack := rest } (.invokevirtual index) mk (Value.ref b :: argsL).toArray X₁ hg hsize hdg hW (X₁.named hnamed) (hpre vm₁ X₁.warmed)
  exact ⟨v, vm₁, B, X₁.warmed, X', hpost, fun target h => hstep₁ _ fun acts => by rw [doInvoke_state]; exact hsteps.trans h⟩
abbrev vx_CVW (R : Room) (s : State) (args : Array Value) (own C : String) (index : Nat) (y : MethodName) (bytes : ByteArray) (maxL : Nat) (ret : Option FieldType) (hh : List (Nat × Nat × Nat × Nat)) (ws : List Cond) (rm : Room) (mc ms n : Nat) : Prop :=
  (rm.cells = mc ∧ rm.slots = ms ∧ rm.frames + 1 ≤ R.frames ∧ 8 + (maxL + 11) + rm.locals ≤ R.locals ∧ (∀ w ∈ ws, ∀ (a' : Array Value) (U : State), s.WarmedH U.vm → w.before a' U = true) ∧ Cond.codeWith y bytes maxL ret hh ∈ ws) ∧
  (Cond.codeWith y bytes maxL ret hh).before args s = true ∧ (Cond.initialized y.cls).before args s = true ∧ (y.cls ≠ "java/lang/invoke/MethodHandle" ∧ y.cls ≠ "java/lang/invoke/VarHandle") ∧
  (∀ sig, parseMethodDescriptor y.desc = some sig → n = sig.parameters.length) ∧ (Cond.methodLink own index y).before args s = true ∧ (Cond.instanceMethod y).before args s = true ∧ (Cond.selects C y y).before args s = true
theorem vx_cwVW {own C : String} {index maxL mc ms : Nat} {y : MethodName} {bytes : ByteArray} {ret : Option FieldType} {hh : List (Nat × Nat × Nat × Nat)} {Ts ws ws' : List Cond} {rm : Room} (n : Nat) (ht : ∀ w ∈ Ts, w.before args s = true) (hT : GoodIn Ts (wsV own index C y ws)) (hw : ws = Cond.codeWith y bytes maxL ret hh :: ws') (hrc : rm.cells = mc) (hrs : rm.slots = ms)
    (hd : y.cls = C ∧ y.cls ≠ "java/lang/invoke/MethodHandle" ∧ y.cls ≠ "java/lang/invoke/VarHandle" ∧ (parseMethodDescriptor y.desc).map (fun d => d.parameters.length) = some n) (hR : rm.frames + 1 ≤ R.frames ∧ 8 + (maxL + 11) + rm.locals ≤ R.locals) :
    vx_CVW R s args own C index y bytes maxL ret hh ws rm mc ms n := by
  obtain ⟨hC, hd⟩ := hd
  subst hC
  have ok : ∀ w ∈ wsV own index y.cls y ws, w.before args s = true := fun w h => ht w (hT w h).1
  have hG : GoodIn Ts ws := fun w h => hT w (by unfold wsV; exact List.mem_append_right _ h)
  have hc : Cond.codeWith y bytes maxL ret hh ∈ ws := by rw [hw]; exact List.mem_cons_self
  refine ⟨⟨hrc, hrs, hR.1, hR.2, pay_in ht hG, hc⟩, ht _ (hG _ hc).1, ok _ (by simp [wsV]), ⟨hd.1, hd.2.1⟩, fun sig h => ?_, ok _ (by simp [wsV]), ok _ (by simp [wsV]), ok _ (by simp [wsV])⟩
  have h2 := hd.2.2
  rw [h] at h2
  exact (Option.some.inj h2).symm
theorem vx_runVW {y : MethodName} {bytes cc : ByteArray} {maxL nL mc ms n index : Nat} {ret : Option FieldType} {hh : List (Nat × Nat × Nat × Nat)} {ws : List Cond} {rm : Room} {Pc : Array Value → State → Prop} {Qc : Array Value → State → Outcome → State → Prop} {free : Addr → Prop} {Ts : List Cond} {own C : String} {b : Addr} {As rest : List Value} {g : JFrame}
    (S : CallFix p m c cc nL s args Ts own) (hM : Met l y ws rm Pc Qc mc ms free) (cw : vx_CVW R s args own C index y bytes maxL ret hh ws rm mc ms n) (hp : PreV s H C b Pc As)
    (hg : g.method = m) (hn : As.length = n) (hsize : g.locals.size = nL) (hstack : g.stack = As.reverse ++ .ref b :: rest) (hW : 2 * g.monitorRoom + (rest.map fun v => v.category).sum ≤ 8) (hdg : decode cc g.pc = .ok (.invokevirtual index, 3)) (hf : cells + mc ≤ R.cells ∧ slots + ms ≤ R.slots) :
    va_Run p l e R s m args below meth c H locs cells slots mc ms g rest (Qc (Value.ref b :: As).toArray) free := by
  obtain ⟨⟨hrc, hrs, hfr, hlo, hws, hcw⟩, hcode, hini, hy, hlen, hl, hin, hse⟩ := cw
  have hK : Back l R p e below s args y 3 8 (PreOf R mc ms Pc) (PostOf Qc mc ms free) := va_backW (hh := hh) (bytes := bytes) (maxL := maxL) (ret := ret) hM hp.1 hrc hrs hfr hlo hws hcw (fun a' U hW => word_at hW (Or.inl (by first | rfl | simp [Cond.onTables, Cond.keeps, Cond.steady])) hini)
  obtain ⟨hx, hb, hml, ho, -⟩ := S
  obtain ⟨-, ⟨cellB, hcB, hoB, hclB⟩, hPc⟩ := hp
  intro T hT X
  obtain ⟨v, vm₁, ⟨U', l2, c2, s2⟩, hW₁, X', ⟨g', mk, t, L, e1, e2, hq, h1, hL, h2, h3⟩, st⟩ := vx_callVW X hx (C := C) (hh := hh) (bytes := bytes) (maxL := maxL) (ret := ret) ho hl hin hse hcode hy hK (by rw [hT]; exact hcB) hoB hclB hg (hsize.trans hml.symm) (argsL := As) (rest := rest) (fun sig h => hn.trans (hlen sig h)) hstack hW (by rw [hb]; exact hdg)
    (fun vm₁ hW₁ => ⟨hf.1, hf.2, hPc (T.setVm vm₁) hT hW₁⟩)
  dsimp only [Pt.U, Pt.locs, Pt.cells, Pt.slots] at X' e1 e2 h1 h2 h3 st
  subst h1; subst h2; subst h3
  exact ⟨v, (T.setVm vm₁).calling g' mk (Value.ref b :: As).toArray, t, U', L, hT, X', hL, e1, e2, hq, st⟩
section
variable {y : MethodName} {bytes cc : ByteArray} {maxL nL mc ms n index : Nat} {ret : Option FieldType} {ws : List Cond} {rm : Room} {Pc : Array Value → State → Prop} {Qc : Array Value → State → Outcome → State → Prop} {XC : String → State → State → Prop} {free : Addr → Prop} {Ts : List Cond} {own C : String} {b : Addr} {As rest : List Value} {g : JFrame}
theorem vx_runVX {hh : List (Nat × Nat × Nat × Nat)} (S : CallFix p m c cc nL s args Ts own) (hM : vx_Met l y ws rm Pc Qc XC mc ms free) (cw : vx_CVW R s args own C index y bytes maxL ret hh ws rm mc ms n) (hp : PreV s H C b Pc As)
    (hg : g.method = m) (hn : As.length = n) (hsize : g.locals.size = nL) (hstack : g.stack = As.reverse ++ .ref b :: rest) (hW : 2 * g.monitorRoom + (rest.map fun v => v.category).sum ≤ 8) (hdg : decode cc g.pc = .ok (.invokevirtual index, 3)) (hf : cells + mc ≤ R.cells ∧ slots + ms ≤ R.slots) :
    vx_Run p l e R s m args below meth c H locs cells slots mc ms g rest (Qc (Value.ref b :: As).toArray) XC free := by
  obtain ⟨⟨hrc, hrs, hfr, hlo, hws, hcw⟩, hcode, hini, hy, hlen, hl, hin, hse⟩ := cw
  have hK : vx_Back l R p e below s args y 3 8 (PreOf R mc ms Pc) (PostOf Qc mc ms free) (vx_Post XC mc ms free) := vx_backW (hh := hh) (bytes := bytes) (maxL := maxL) (ret := ret) hM hp.1 hrc hrs hfr hlo hws hcw (fun a' U hW => word_at hW (Or.inl (by first | rfl | simp [Cond.onTables, Cond.keeps, Cond.steady])) hini)
  obtain ⟨hx, hb, hml, ho, -⟩ := S
  obtain ⟨-, ⟨cellB, hcB, hoB, hclB⟩, hPc⟩ := hp
  intro T hT X
  rcases vx_callVX X hx (C := C) (hh := hh) (bytes := bytes) (maxL := maxL) (ret := ret) ho hl hin hse hcode hy hK (by rw [hT]; exact hcB) hoB hclB hg (hsize.trans hml.symm) (argsL := As) (rest := rest) (fun sig h => hn.trans (hlen sig h)) hstack hW (by rw [hb]; exact hdg)
    (fun vm₁ hW₁ => ⟨hf.1, hf.2, hPc (T.setVm vm₁) hT hW₁⟩) with ⟨v, vm₁, ⟨U', l2, c2, s2⟩, hW₁, X', ⟨g', mk, t, L, e1, e2, hq, h1, hL, h2, h3⟩, st⟩ | ⟨q, vm₁, ⟨U', l2, c2, s2⟩, hW₁, X', ⟨g', mk, t, L, E, ce, e1, e2, hq, hce, hcv, hcl, h1, hL, h2, h3⟩, st⟩
  · dsimp only [Pt.U, Pt.locs, Pt.cells, Pt.slots] at X' e1 e2 h1 h2 h3 st
    subst h1; subst h2; subst h3
    exact Or.inl ⟨v, (T.setVm vm₁).calling g' mk (Value.ref b :: As).toArray, t, U', L, hT, X', hL, e1, e2, hq, st⟩
  · dsimp only [Pt.U, Pt.locs, Pt.cells, Pt.slots] at X' e1 e2 h1 h2 h3 st hcl
    subst h1; subst h2; subst h3
    exact Or.inr ⟨q, (T.setVm vm₁).calling g' mk (Value.ref b :: As).toArray, t, U', L, E, ce, hT, X', hL, e1, e2, hq, hce, hcv, vx_cls hW₁ hcl, st⟩
theorem vx_runSX {hh : List (Nat × Nat × Nat × Nat)} (S : CallFix p m c cc nL s args Ts own) (hM : vx_Met l y ws rm Pc Qc XC mc ms free) (cw : vx_CSW R s args own index y bytes maxL ret hh ws rm mc ms n) (hp : PreS s H Pc As)
    (hg : g.method = m) (hn : As.length = n) (hsize : g.locals.size = nL) (hstack : g.stack = As.reverse ++ rest) (hW : 2 * g.monitorRoom + (rest.map fun v => v.category).sum ≤ 8) (hdg : decode cc g.pc = .ok (.invokestatic index, 3)) (hf : cells + mc ≤ R.cells ∧ slots + ms ≤ R.slots) :
    vx_Run p l e R s m args below meth c H locs cells slots mc ms g rest (Qc As.toArray) XC free := by
  obtain ⟨⟨hrc, hrs, hfr, hlo, hws, hcw⟩, hcode, hini, hy, hlen, hl, hstt⟩ := cw
  have hK : vx_Back l R p e below s args y 3 8 (PreOf R mc ms Pc) (PostOf Qc mc ms free) (vx_Post XC mc ms free) := vx_backW (hh := hh) (bytes := bytes) (maxL := maxL) (ret := ret) hM hp.1 hrc hrs hfr hlo hws hcw (fun a' U hW => word_at hW (Or.inl (by first | rfl | simp [Cond.onTables, Cond.keeps, Cond.steady])) hini)
  obtain ⟨hx, hb, hml, ho, -⟩ := S
  intro T hT X
  rcases vx_callSX X hx (hh := hh) (bytes := bytes) (maxL := maxL) (ret := ret) ho hl hstt hini hcode hy hK hg (hsize.trans hml.symm) (argsL := As) (rest := rest) (fun sig h => hn.trans (hlen sig h)) hstack hW (by rw [hb]; exact hdg)
    (fun vm₁ hW₁ => ⟨hf.1, hf.2, hp.2 (T.setVm vm₁) hT hW₁⟩) with ⟨v, vm₁, ⟨U', l2, c2, s2⟩, hW₁, X', ⟨g', mk, t, L, e1, e2, hq, h1, hL, h2, h3⟩, st⟩ | ⟨q, vm₁, ⟨U', l2, c2, s2⟩, hW₁, X', ⟨g', mk, t, L, E, ce, e1, e2, hq, hce, hcv, hcl, h1, hL, h2, h3⟩, st⟩
  · dsimp only [Pt.U, Pt.locs, Pt.cells, Pt.slots] at X' e1 e2 h1 h2 h3 st
    subst h1; subst h2; subst h3
    exact Or.inl ⟨v, (T.setVm vm₁).calling g' mk As.toArray, t, U', L, hT, X', hL, e1, e2, hq, st⟩
  · dsimp only [Pt.U, Pt.locs, Pt.cells, Pt.slots] at X' e1 e2 h1 h2 h3 st hcl
    subst h1; subst h2; subst h3
    exact Or.inr ⟨q, (T.setVm vm₁).calling g' mk As.toArray, t, U', L, E, ce, hT, X', hL, e1, e2, hq, hce, hcv, vx_cls hW₁ hcl, st⟩
end
end VXH
theorem vx_ofWH {l : Launch} {y : MethodName} {ws ws' : List Cond} {rm : Room} {Pc : Array Value → State → Prop} {Qc : Array Value → State → Outcome → State → Prop} {XC : String → State → State → Prop} {mc ms : Nat} {free : Addr → Prop} {cc : ByteArray} {maxL : Nat} {ret : Option FieldType} {hh : List (Nat × Nat × Nat × Nat)}
    (hy : plainName y.cls = true) (hw : ws = Cond.codeWith y cc maxL ret hh :: ws')
    (body : ∀ p e s m args below meth c s₁, BodyLoose p l y (headSpec ws rm) cc maxL ret e s m args below meth c s₁ → c.maxLocals = maxL → Pc args s →
      W p l e (headSpec ws rm).room s m args below meth c s.heap [] 0 0 (vx_MQ below Qc XC args s mc ms free) (entryFrame m args maxL)) : vx_Met l y ws rm Pc Qc XC mc ms free := by
  refine MetFree.of_bodyS (code := cc) (maxLocals := maxL) (ret := ret) hy ?_ ?_
  · intro args s m h hn
    obtain ⟨m9, meth, c, hn9, h1, h2, h3, h4, -, h5, h6, -⟩ := Cond.codeWith_spec (atoms_spec (ws := ws) h _ (by rw [hw]; exact List.mem_cons_self))
    cases hn.symm.trans hn9
    exact ⟨meth, c, h1, h2, h3, h4, h5, h6⟩
  · intro p e s m args below meth c s₁ B hml hP _
    have hh0 : s₁.heap = s.heap := by rw [B.state]; rfl
    obtain ⟨t, a1, o, b1, b2, b3⟩ := body p e s m args below meth c s₁ B hml hP s₁ hh0 (Stand.of_body B)
    exact ⟨t, o, a1, b1, b2, b3⟩
/-! ===== END ===== -/
end
section
def RX0 : String := "RefHeap$Chain"
def TX0 : u_T := fun k => match k with
  | 0 => ("RefHeap$Chain", "first", "LRefHeap$Thing;", false)
  | 1 => ("RefHeap$Chain", "last", "LRefHeap$Thing;", false)
  | 2 => ("RefHeap$Chain", "length", "I", false)
  | _ => ("RefHeap$Chain", "cells", "I", false)
def tyX0 : Nat → FieldType := fun k => match k with
  | 0 => .object "RefHeap$Thing"
  | 1 => .object "RefHeap$Thing"
  | 2 => .int
  | _ => .int
theorem nmX0 : ∀ a, a < 4 → ∀ b, b < 4 → a ≠ b → (TX0 a).2.1 ≠ (TX0 b).2.1 := by decide +kernel
theorem tyX0_ok : ∀ k, k < 4 → parseFieldDescriptor (TX0 k).2.2.1 = some (tyX0 k) := by decide +kernel
abbrev cX0_init : ByteArray := prog_2_method_1_code
def yX0_init : MethodName := ⟨RX0, "<init>", "()V"⟩
abbrev cX0_add : ByteArray := prog_2_method_2_code
def yX0_add : MethodName := ⟨RX0, "add", "(LRefHeap$Thing;)V"⟩
abbrev cX0_takeAll : ByteArray := prog_2_method_3_code
def yX0_takeAll : MethodName := ⟨RX0, "takeAll", "(LRefHeap$Chain;)V"⟩
abbrev cX0_empty : ByteArray := prog_2_method_4_code
def yX0_empty : MethodName := ⟨RX0, "empty", "()V"⟩
def RX1 : String := "RefHeap$Holder"
def TX1 : u_T := fun k => match k with
  | 0 => ("RefHeap$Thing", "kind", "I", true)
  | 1 => ("RefHeap$Thing", "cells", "I", true)
  | 2 => ("RefHeap$Thing", "hash", "I", false)
  | 3 => ("RefHeap$Thing", "nextMade", "LRefHeap$Thing;", false)
  | 4 => ("RefHeap$Thing", "tourNumber", "I", false)
  | 5 => ("RefHeap$Thing", "place", "I", false)
  | 6 => ("RefHeap$Thing", "nextOnTour", "LRefHeap$Thing;", false)
  | 7 => ("RefHeap$Thing", "firstPair", "LRefHeap$Loose;", false)
  | 8 => ("RefHeap$Holder", "refs", "[LRefHeap$Thing;", true)
  | _ => ("RefHeap$Holder", "numbers", "[J", true)
def tyX1 : Nat → FieldType := fun k => match k with
  | 0 => .int
  | 1 => .int
  | 2 => .int
  | 3 => .object "RefHeap$Thing"
  | 4 => .int
  | 5 => .int
  | 6 => .object "RefHeap$Thing"
  | 7 => .object "RefHeap$Loose"
  | 8 => .array (.object "RefHeap$Thing")
  | _ => .array .long
theorem nmX1 : ∀ a, a < 10 → ∀ b, b < 10 → a ≠ b → (TX1 a).2.1 ≠ (TX1 b).2.1 := by decide +kernel
theorem tyX1_ok : ∀ k, k < 10 → parseFieldDescriptor (TX1 k).2.2.1 = some (tyX1 k) := by decide +kernel
abbrev cX1_init : ByteArray := prog_3_method_1_code
def yX1_init : MethodName := ⟨RX1, "<init>", "(IIII)V"⟩
abbrev cX1_leadOn : ByteArray := prog_3_method_2_code
def yX1_leadOn : MethodName := ⟨RX1, "leadOn", "(LRefHeap$Tour;Z)V"⟩
abbrev cX1_digestOn : ByteArray := prog_3_method_3_code
def yX1_digestOn : MethodName := ⟨RX1, "digestOn", "(JLRefHeap$Tour;)J"⟩
def RX2 : String := "RefHeap$Line"
def TX2 : u_T := fun k => match k with
  | 0 => ("RefHeap$Thing", "kind", "I", true)
  | 1 => ("RefHeap$Thing", "cells", "I", true)
  | 2 => ("RefHeap$Thing", "hash", "I", false)
  | 3 => ("RefHeap$Thing", "nextMade", "LRefHeap$Thing;", false)
  | 4 => ("RefHeap$Thing", "tourNumber", "I", false)
  | 5 => ("RefHeap$Thing", "place", "I", false)
  | 6 => ("RefHeap$Thing", "nextOnTour", "LRefHeap$Thing;", false)
  | 7 => ("RefHeap$Thing", "firstPair", "LRefHeap$Loose;", false)
  | 8 => ("RefHeap$Line", "first", "LRefHeap$Loose;", false)
  | 9 => ("RefHeap$Line", "last", "LRefHeap$Loose;", false)
  | _ => ("RefHeap$Line", "length", "I", false)
def tyX2 : Nat → FieldType := fun k => match k with
  | 0 => .int
  | 1 => .int
  | 2 => .int
  | 3 => .object "RefHeap$Thing"
  | 4 => .int
  | 5 => .int
  | 6 => .object "RefHeap$Thing"
  | 7 => .object "RefHeap$Loose"
  | 8 => .object "RefHeap$Loose"
  | 9 => .object "RefHeap$Loose"
  | _ => .int
theorem nmX2 : ∀ a, a < 11 → ∀ b, b < 11 → a ≠ b → (TX2 a).2.1 ≠ (TX2 b).2.1 := by decide +kernel
theorem tyX2_ok : ∀ k, k < 11 → parseFieldDescriptor (TX2 k).2.2.1 = some (tyX2 k) := by decide +kernel
abbrev cX2_init : ByteArray := prog_4_method_1_code
def yX2_init : MethodName := ⟨RX2, "<init>", "()V"⟩
abbrev cX2_add : ByteArray := prog_4_method_2_code
def yX2_add : MethodName := ⟨RX2, "add", "(LRefHeap$Loose;)V"⟩
abbrev cX2_takeFirst : ByteArray := prog_4_method_3_code
def yX2_takeFirst : MethodName := ⟨RX2, "takeFirst", "()LRefHeap$Loose;"⟩
abbrev cX2_leadOn : ByteArray := prog_4_method_4_code
def yX2_leadOn : MethodName := ⟨RX2, "leadOn", "(LRefHeap$Tour;Z)V"⟩
def RX3 : String := "RefHeap$Loose"
def TX3 : u_T := fun k => match k with
  | 0 => ("RefHeap$Thing", "kind", "I", true)
  | 1 => ("RefHeap$Thing", "cells", "I", true)
  | 2 => ("RefHeap$Thing", "hash", "I", false)
  | 3 => ("RefHeap$Thing", "nextMade", "LRefHeap$Thing;", false)
  | 4 => ("RefHeap$Thing", "tourNumber", "I", false)
  | 5 => ("RefHeap$Thing", "place", "I", false)
  | 6 => ("RefHeap$Thing", "nextOnTour", "LRefHeap$Thing;", false)
  | 7 => ("RefHeap$Thing", "firstPair", "LRefHeap$Loose;", false)
  | 8 => ("RefHeap$Loose", "referent", "LRefHeap$Thing;", false)
  | 9 => ("RefHeap$Loose", "value", "LRefHeap$Thing;", false)
  | 10 => ("RefHeap$Loose", "line", "LRefHeap$Line;", true)
  | 11 => ("RefHeap$Loose", "came", "Z", false)
  | 12 => ("RefHeap$Loose", "nextInLine", "LRefHeap$Loose;", false)
  | _ => ("RefHeap$Loose", "nextPair", "LRefHeap$Loose;", false)
def tyX3 : Nat → FieldType := fun k => match k with
  | 0 => .int
  | 1 => .int
  | 2 => .int
  | 3 => .object "RefHeap$Thing"
  | 4 => .int
  | 5 => .int
  | 6 => .object "RefHeap$Thing"
  | 7 => .object "RefHeap$Loose"
  | 8 => .object "RefHeap$Thing"
  | 9 => .object "RefHeap$Thing"
  | 10 => .object "RefHeap$Line"
  | 11 => .boolean
  | 12 => .object "RefHeap$Loose"
  | _ => .object "RefHeap$Loose"
theorem nmX3 : ∀ a, a < 14 → ∀ b, b < 14 → a ≠ b → (TX3 a).2.1 ≠ (TX3 b).2.1 := by decide +kernel
theorem tyX3_ok : ∀ k, k < 14 → parseFieldDescriptor (TX3 k).2.2.1 = some (tyX3 k) := by decide +kernel
abbrev cX3_init : ByteArray := prog_5_method_1_code
def yX3_init : MethodName := ⟨RX3, "<init>", "(IILRefHeap$Thing;LRefHeap$Thing;LRefHeap$Line;)V"⟩
abbrev cX3_forget : ByteArray := prog_5_method_2_code
def yX3_forget : MethodName := ⟨RX3, "forget", "()V"⟩
abbrev cX3_refersOutside : ByteArray := prog_5_method_3_code
def yX3_refersOutside : MethodName := ⟨RX3, "refersOutside", "(LRefHeap$Tour;)Z"⟩
abbrev cX3_leadOn : ByteArray := prog_5_method_4_code
def yX3_leadOn : MethodName := ⟨RX3, "leadOn", "(LRefHeap$Tour;Z)V"⟩
def RX4 : String := "RefHeap$Thing"
def TX4 : u_T := fun k => match k with
  | _ => ("", "", "", false)
def tyX4 : Nat → FieldType := fun k => match k with
  | _ => .int
theorem nmX4 : ∀ a, a < 0 → ∀ b, b < 0 → a ≠ b → (TX4 a).2.1 ≠ (TX4 b).2.1 := by decide +kernel
theorem tyX4_ok : ∀ k, k < 0 → parseFieldDescriptor (TX4 k).2.2.1 = some (tyX4 k) := by decide +kernel
abbrev cX4_init : ByteArray := prog_6_method_1_code
def yX4_init : MethodName := ⟨RX4, "<init>", "(II)V"⟩
abbrev cX4_digestOn : ByteArray := prog_6_method_3_code
def yX4_digestOn : MethodName := ⟨RX4, "digestOn", "(JLRefHeap$Tour;)J"⟩
abbrev cX4_leadOnAsKey : ByteArray := prog_6_method_4_code
def yX4_leadOnAsKey : MethodName := ⟨RX4, "leadOnAsKey", "(LRefHeap$Tour;)V"⟩
def RX5 : String := "RefHeap$Tour"
def TX5 : u_T := fun k => match k with
  | 0 => ("RefHeap$Tour", "first", "LRefHeap$Thing;", false)
  | 1 => ("RefHeap$Tour", "last", "LRefHeap$Thing;", false)
  | 2 => ("RefHeap$Tour", "length", "I", false)
  | _ => ("RefHeap$Tour", "number", "I", false)
def tyX5 : Nat → FieldType := fun k => match k with
  | 0 => .object "RefHeap$Thing"
  | 1 => .object "RefHeap$Thing"
  | 2 => .int
  | _ => .int
theorem nmX5 : ∀ a, a < 4 → ∀ b, b < 4 → a ≠ b → (TX5 a).2.1 ≠ (TX5 b).2.1 := by decide +kernel
theorem tyX5_ok : ∀ k, k < 4 → parseFieldDescriptor (TX5 k).2.2.1 = some (tyX5 k) := by decide +kernel
abbrev cX5_init : ByteArray := prog_7_method_1_code
def yX5_init : MethodName := ⟨RX5, "<init>", "()V"⟩
abbrev cX5_begin : ByteArray := prog_7_method_2_code
def yX5_begin : MethodName := ⟨RX5, "begin", "()V"⟩
abbrev cX5_has : ByteArray := prog_7_method_3_code
def yX5_has : MethodName := ⟨RX5, "has", "(LRefHeap$Thing;)Z"⟩
abbrev cX5_comeTo : ByteArray := prog_7_method_4_code
def yX5_comeTo : MethodName := ⟨RX5, "comeTo", "(LRefHeap$Thing;)V"⟩
def RX6 : String := "RefHeap"
def TX6 : u_T := fun k => match k with
  | 0 => ("RefHeap", "room", "I", true)
  | 1 => ("RefHeap", "youngLimit", "I", true)
  | 2 => ("RefHeap", "roots", "[LRefHeap$Thing;", true)
  | 3 => ("RefHeap", "scopeStarts", "[I", true)
  | 4 => ("RefHeap", "counts", "[I", true)
  | 5 => ("RefHeap", "youngOnes", "LRefHeap$Chain;", true)
  | 6 => ("RefHeap", "oldOnes", "LRefHeap$Chain;", true)
  | 7 => ("RefHeap", "tour", "LRefHeap$Tour;", true)
  | 8 => ("RefHeap", "scopes", "I", false)
  | 9 => ("RefHeap", "carryEvery", "I", false)
  | _ => ("RefHeap", "madeSinceCarried", "I", false)
def tyX6 : Nat → FieldType := fun k => match k with
  | 0 => .int
  | 1 => .int
  | 2 => .array (.object "RefHeap$Thing")
  | 3 => .array .int
  | 4 => .array .int
  | 5 => .object "RefHeap$Chain"
  | 6 => .object "RefHeap$Chain"
  | 7 => .object "RefHeap$Tour"
  | 8 => .int
  | 9 => .int
  | _ => .int
theorem nmX6 : ∀ a, a < 11 → ∀ b, b < 11 → a ≠ b → (TX6 a).2.1 ≠ (TX6 b).2.1 := by decide +kernel
theorem tyX6_ok : ∀ k, k < 11 → parseFieldDescriptor (TX6 k).2.2.1 = some (tyX6 k) := by decide +kernel
abbrev cX6_init : ByteArray := prog_1_method_1_code
def yX6_init : MethodName := ⟨RX6, "<init>", "(II)V"⟩
abbrev cX6_plain : ByteArray := prog_1_method_2_code
def yX6_plain : MethodName := ⟨RX6, "plain", "(III)I"⟩
abbrev cX6_row : ByteArray := prog_1_method_3_code
def yX6_row : MethodName := ⟨RX6, "row", "(IIZ)I"⟩
abbrev cX6_queue : ByteArray := prog_1_method_4_code
def yX6_queue : MethodName := ⟨RX6, "queue", "(I)I"⟩
abbrev cX6_loose : ByteArray := prog_1_method_5_code
def yX6_loose : MethodName := ⟨RX6, "loose", "(IIII)I"⟩
abbrev cX6_pair : ByteArray := prog_1_method_6_code
def yX6_pair : MethodName := ⟨RX6, "pair", "(IIII)I"⟩
abbrev cX6_copy : ByteArray := prog_1_method_7_code
def yX6_copy : MethodName := ⟨RX6, "copy", "(II)I"⟩
abbrev cX6_link : ByteArray := prog_1_method_8_code
def yX6_link : MethodName := ⟨RX6, "link", "(III)I"⟩
abbrev cX6_fetch : ByteArray := prog_1_method_9_code
def yX6_fetch : MethodName := ⟨RX6, "fetch", "(III)I"⟩
abbrev cX6_set : ByteArray := prog_1_method_10_code
def yX6_set : MethodName := ⟨RX6, "set", "(IIJ)J"⟩
abbrev cX6_get : ByteArray := prog_1_method_11_code
def yX6_get : MethodName := ⟨RX6, "get", "(II)J"⟩
abbrev cX6_referent : ByteArray := prog_1_method_12_code
def yX6_referent : MethodName := ⟨RX6, "referent", "(IIZ)I"⟩
abbrev cX6_give : ByteArray := prog_1_method_13_code
def yX6_give : MethodName := ⟨RX6, "give", "(II)I"⟩
abbrev cX6_clear : ByteArray := prog_1_method_14_code
def yX6_clear : MethodName := ⟨RX6, "clear", "(IZ)I"⟩
abbrev cX6_poll : ByteArray := prog_1_method_15_code
def yX6_poll : MethodName := ⟨RX6, "poll", "(II)I"⟩
abbrev cX6_waiting : ByteArray := prog_1_method_16_code
def yX6_waiting : MethodName := ⟨RX6, "waiting", "(I)I"⟩
abbrev cX6_kind : ByteArray := prog_1_method_17_code
def yX6_kind : MethodName := ⟨RX6, "kind", "(I)I"⟩
abbrev cX6_hash : ByteArray := prog_1_method_18_code
def yX6_hash : MethodName := ⟨RX6, "hash", "(I)I"⟩
abbrev cX6_same : ByteArray := prog_1_method_19_code
def yX6_same : MethodName := ⟨RX6, "same", "(II)Z"⟩
abbrev cX6_open : ByteArray := prog_1_method_20_code
def yX6_open : MethodName := ⟨RX6, "open", "(I)I"⟩
abbrev cX6_close : ByteArray := prog_1_method_21_code
def yX6_close : MethodName := ⟨RX6, "close", "()I"⟩
abbrev cX6_collect : ByteArray := prog_1_method_22_code
def yX6_collect : MethodName := ⟨RX6, "collect", "(Z)I"⟩
abbrev cX6_every : ByteArray := prog_1_method_23_code
def yX6_every : MethodName := ⟨RX6, "every", "(I)I"⟩
abbrev cX6_count : ByteArray := prog_1_method_24_code
def yX6_count : MethodName := ⟨RX6, "count", "(I)I"⟩
abbrev cX6_digest : ByteArray := prog_1_method_25_code
def yX6_digest : MethodName := ⟨RX6, "digest", "(I)J"⟩
abbrev cX6_mix : ByteArray := prog_1_method_26_code
def yX6_mix : MethodName := ⟨RX6, "mix", "(JJ)J"⟩
abbrev cX6_oneIfObject : ByteArray := prog_1_method_27_code
def yX6_oneIfObject : MethodName := ⟨RX6, "oneIfObject", "(LRefHeap$Thing;)I"⟩
abbrev cX6_checkRange : ByteArray := prog_1_method_28_code
def yX6_checkRange : MethodName := ⟨RX6, "checkRange", "(III)V"⟩
abbrev cX6_checkNotNegative : ByteArray := prog_1_method_29_code
def yX6_checkNotNegative : MethodName := ⟨RX6, "checkNotNegative", "(I)V"⟩
abbrev cX6_checkRoot : ByteArray := prog_1_method_30_code
def yX6_checkRoot : MethodName := ⟨RX6, "checkRoot", "(I)V"⟩
abbrev cX6_checkRootOrNone : ByteArray := prog_1_method_31_code
def yX6_checkRootOrNone : MethodName := ⟨RX6, "checkRootOrNone", "(I)V"⟩
abbrev cX6_atOrNone : ByteArray := prog_1_method_32_code
def yX6_atOrNone : MethodName := ⟨RX6, "atOrNone", "(I)LRefHeap$Thing;"⟩
abbrev cX6_putRoot : ByteArray := prog_1_method_33_code
def yX6_putRoot : MethodName := ⟨RX6, "putRoot", "(ILRefHeap$Thing;)I"⟩
abbrev cX6_objectAt : ByteArray := prog_1_method_34_code
def yX6_objectAt : MethodName := ⟨RX6, "objectAt", "(I)LRefHeap$Thing;"⟩
abbrev cX6_lineAt : ByteArray := prog_1_method_35_code
def yX6_lineAt : MethodName := ⟨RX6, "lineAt", "(I)LRefHeap$Line;"⟩
abbrev cX6_lineAtOrNone : ByteArray := prog_1_method_36_code
def yX6_lineAtOrNone : MethodName := ⟨RX6, "lineAtOrNone", "(I)LRefHeap$Line;"⟩
abbrev cX6_looseAt : ByteArray := prog_1_method_37_code
def yX6_looseAt : MethodName := ⟨RX6, "looseAt", "(I)LRefHeap$Loose;"⟩
abbrev cX6_pairAt : ByteArray := prog_1_method_38_code
def yX6_pairAt : MethodName := ⟨RX6, "pairAt", "(I)LRefHeap$Loose;"⟩
abbrev cX6_holderAt : ByteArray := prog_1_method_39_code
def yX6_holderAt : MethodName := ⟨RX6, "holderAt", "(I)LRefHeap$Holder;"⟩
abbrev cX6_holderOfRef : ByteArray := prog_1_method_40_code
def yX6_holderOfRef : MethodName := ⟨RX6, "holderOfRef", "(II)LRefHeap$Holder;"⟩
abbrev cX6_holderOfNumber : ByteArray := prog_1_method_41_code
def yX6_holderOfNumber : MethodName := ⟨RX6, "holderOfNumber", "(II)LRefHeap$Holder;"⟩
abbrev cX6_fits : ByteArray := prog_1_method_42_code
def yX6_fits : MethodName := ⟨RX6, "fits", "(I)Z"⟩
abbrev cX6_makeRoom : ByteArray := prog_1_method_43_code
def yX6_makeRoom : MethodName := ⟨RX6, "makeRoom", "(I)Z"⟩
abbrev cX6_keep : ByteArray := prog_1_method_44_code
def yX6_keep : MethodName := ⟨RX6, "keep", "(ILRefHeap$Thing;)I"⟩
abbrev cX6_isCarryDue : ByteArray := prog_1_method_45_code
def yX6_isCarryDue : MethodName := ⟨RX6, "isCarryDue", "()Z"⟩
abbrev cX6_carryOver : ByteArray := prog_1_method_46_code
def yX6_carryOver : MethodName := ⟨RX6, "carryOver", "()V"⟩
abbrev cX6_collectWhole : ByteArray := prog_1_method_47_code
def yX6_collectWhole : MethodName := ⟨RX6, "collectWhole", "(Z)I"⟩
abbrev cX6_reachFromRoots : ByteArray := prog_1_method_48_code
def yX6_reachFromRoots : MethodName := ⟨RX6, "reachFromRoots", "(Z)V"⟩
abbrev cX6_letGoOfUnreached : ByteArray := prog_1_method_49_code
def yX6_letGoOfUnreached : MethodName := ⟨RX6, "letGoOfUnreached", "()V"⟩
abbrev cX6_freeUnreached : ByteArray := prog_1_method_50_code
def yX6_freeUnreached : MethodName := ⟨RX6, "freeUnreached", "()I"⟩
abbrev cX6_tellQueue : ByteArray := prog_1_method_51_code
def yX6_tellQueue : MethodName := ⟨RX6, "tellQueue", "(LRefHeap$Loose;)I"⟩
def RX7 : String := "RefHeapModel"
def TX7 : u_T := fun k => match k with
  | 0 => ("RefHeapModel", "thrown", "I", false)
  | 1 => ("RefHeapModel", "room", "I", true)
  | 2 => ("RefHeapModel", "kind", "[I", true)
  | 3 => ("RefHeapModel", "at", "[I", true)
  | 4 => ("RefHeapModel", "refs", "[I", true)
  | 5 => ("RefHeapModel", "nums", "[I", true)
  | 6 => ("RefHeapModel", "hashOf", "[I", true)
  | 7 => ("RefHeapModel", "next", "[I", true)
  | 8 => ("RefHeapModel", "referent", "[I", true)
  | 9 => ("RefHeapModel", "value", "[I", true)
  | 10 => ("RefHeapModel", "queueOf", "[I", true)
  | 11 => ("RefHeapModel", "rank", "[I", true)
  | 12 => ("RefHeapModel", "came", "[Z", true)
  | 13 => ("RefHeapModel", "reached", "[Z", true)
  | 14 => ("RefHeapModel", "todo", "[I", true)
  | 15 => ("RefHeapModel", "place", "[I", true)
  | 16 => ("RefHeapModel", "row", "[J", true)
  | 17 => ("RefHeapModel", "top", "I", false)
  | 18 => ("RefHeapModel", "used", "I", false)
  | 19 => ("RefHeapModel", "numbers", "I", false)
  | 20 => ("RefHeapModel", "free", "I", false)
  | 21 => ("RefHeapModel", "root", "[I", true)
  | 22 => ("RefHeapModel", "scope", "[I", true)
  | 23 => ("RefHeapModel", "roots", "I", false)
  | 24 => ("RefHeapModel", "scopes", "I", false)
  | 25 => ("RefHeapModel", "live", "I", false)
  | 26 => ("RefHeapModel", "ever", "I", false)
  | 27 => ("RefHeapModel", "whole", "I", false)
  | 28 => ("RefHeapModel", "toQueues", "I", false)
  | 29 => ("RefHeapModel", "letGo", "I", false)
  | 30 => ("RefHeapModel", "mostUsed", "I", false)
  | 31 => ("RefHeapModel", "hashes", "I", false)
  | 32 => ("RefHeapModel", "notMade", "I", false)
  | 33 => ("RefHeapModel", "ranks", "I", false)
  | _ => ("RefHeapModel", "waits", "I", false)
def tyX7 : Nat → FieldType := fun k => match k with
  | 0 => .int
  | 1 => .int
  | 2 => .array .int
  | 3 => .array .int
  | 4 => .array .int
  | 5 => .array .int
  | 6 => .array .int
  | 7 => .array .int
  | 8 => .array .int
  | 9 => .array .int
  | 10 => .array .int
  | 11 => .array .int
  | 12 => .array .boolean
  | 13 => .array .boolean
  | 14 => .array .int
  | 15 => .array .int
  | 16 => .array .long
  | 17 => .int
  | 18 => .int
  | 19 => .int
  | 20 => .int
  | 21 => .array .int
  | 22 => .array .int
  | 23 => .int
  | 24 => .int
  | 25 => .int
  | 26 => .int
  | 27 => .int
  | 28 => .int
  | 29 => .int
  | 30 => .int
  | 31 => .int
  | 32 => .int
  | 33 => .int
  | _ => .int
theorem nmX7 : ∀ a, a < 35 → ∀ b, b < 35 → a ≠ b → (TX7 a).2.1 ≠ (TX7 b).2.1 := by decide +kernel
theorem tyX7_ok : ∀ k, k < 35 → parseFieldDescriptor (TX7 k).2.2.1 = some (tyX7 k) := by decide +kernel
abbrev cX7_thrown : ByteArray := prog_9_method_1_code
def yX7_thrown : MethodName := ⟨RX7, "thrown", "()I"⟩
abbrev cX7_init : ByteArray := prog_9_method_2_code
def yX7_init : MethodName := ⟨RX7, "<init>", "(II)V"⟩
abbrev cX7_bad : ByteArray := prog_9_method_3_code
def yX7_bad : MethodName := ⟨RX7, "bad", "()I"⟩
abbrev cX7_wrong : ByteArray := prog_9_method_4_code
def yX7_wrong : MethodName := ⟨RX7, "wrong", "()I"⟩
abbrev cX7_none : ByteArray := prog_9_method_5_code
def yX7_none : MethodName := ⟨RX7, "none", "(I)Z"⟩
abbrev cX7_noneOrNull : ByteArray := prog_9_method_6_code
def yX7_noneOrNull : MethodName := ⟨RX7, "noneOrNull", "(I)Z"⟩
abbrev cX7_of : ByteArray := prog_9_method_7_code
def yX7_of : MethodName := ⟨RX7, "of", "(I)I"⟩
abbrev cX7_is : ByteArray := prog_9_method_8_code
def yX7_is : MethodName := ⟨RX7, "is", "(II)Z"⟩
abbrev cX7_isLoose : ByteArray := prog_9_method_9_code
def yX7_isLoose : MethodName := ⟨RX7, "isLoose", "(I)Z"⟩
abbrev cX7_cells : ByteArray := prog_9_method_10_code
def yX7_cells : MethodName := ⟨RX7, "cells", "(II)I"⟩
abbrev cX7_make : ByteArray := prog_9_method_11_code
def yX7_make : MethodName := ⟨RX7, "make", "(III)I"⟩
abbrev cX7_cellsOf : ByteArray := prog_9_method_12_code
def yX7_cellsOf : MethodName := ⟨RX7, "cellsOf", "(I)I"⟩
abbrev cX7_push : ByteArray := prog_9_method_13_code
def yX7_push : MethodName := ⟨RX7, "push", "()V"⟩
abbrev cX7_reach : ByteArray := prog_9_method_14_code
def yX7_reach : MethodName := ⟨RX7, "reach", "(I)V"⟩
abbrev cX7_spread : ByteArray := prog_9_method_15_code
def yX7_spread : MethodName := ⟨RX7, "spread", "(Z)V"⟩
abbrev cX7_collectAll : ByteArray := prog_9_method_16_code
def yX7_collectAll : MethodName := ⟨RX7, "collectAll", "(Z)I"⟩
abbrev cX7_comes : ByteArray := prog_9_method_17_code
def yX7_comes : MethodName := ⟨RX7, "comes", "(I)Z"⟩
abbrev cX7_made : ByteArray := prog_9_method_18_code
def yX7_made : MethodName := ⟨RX7, "made", "(II)I"⟩
abbrev cX7_plain : ByteArray := prog_9_method_19_code
def yX7_plain : MethodName := ⟨RX7, "plain", "(III)I"⟩
abbrev cX7_row : ByteArray := prog_9_method_20_code
def yX7_row : MethodName := ⟨RX7, "row", "(IIZ)I"⟩
abbrev cX7_queue : ByteArray := prog_9_method_21_code
def yX7_queue : MethodName := ⟨RX7, "queue", "(I)I"⟩
abbrev cX7_makeLoose : ByteArray := prog_9_method_22_code
def yX7_makeLoose : MethodName := ⟨RX7, "makeLoose", "(IIIII)I"⟩
abbrev cX7_loose : ByteArray := prog_9_method_23_code
def yX7_loose : MethodName := ⟨RX7, "loose", "(IIII)I"⟩
abbrev cX7_pair : ByteArray := prog_9_method_24_code
def yX7_pair : MethodName := ⟨RX7, "pair", "(IIII)I"⟩
abbrev cX7_comesTo : ByteArray := prog_9_method_25_code
def yX7_comesTo : MethodName := ⟨RX7, "comesTo", "(II)I"⟩
abbrev cX7_copy : ByteArray := prog_9_method_26_code
def yX7_copy : MethodName := ⟨RX7, "copy", "(II)I"⟩
abbrev cX7_link : ByteArray := prog_9_method_27_code
def yX7_link : MethodName := ⟨RX7, "link", "(III)I"⟩
abbrev cX7_fetch : ByteArray := prog_9_method_28_code
def yX7_fetch : MethodName := ⟨RX7, "fetch", "(III)I"⟩
abbrev cX7_noNumber : ByteArray := prog_9_method_29_code
def yX7_noNumber : MethodName := ⟨RX7, "noNumber", "(II)Z"⟩
abbrev cX7_set : ByteArray := prog_9_method_30_code
def yX7_set : MethodName := ⟨RX7, "set", "(IIJ)J"⟩
abbrev cX7_get : ByteArray := prog_9_method_31_code
def yX7_get : MethodName := ⟨RX7, "get", "(II)J"⟩
abbrev cX7_referent : ByteArray := prog_9_method_32_code
def yX7_referent : MethodName := ⟨RX7, "referent", "(IIZ)I"⟩
abbrev cX7_give : ByteArray := prog_9_method_33_code
def yX7_give : MethodName := ⟨RX7, "give", "(II)I"⟩
abbrev cX7_clear : ByteArray := prog_9_method_34_code
def yX7_clear : MethodName := ⟨RX7, "clear", "(IZ)I"⟩
abbrev cX7_poll : ByteArray := prog_9_method_35_code
def yX7_poll : MethodName := ⟨RX7, "poll", "(II)I"⟩
abbrev cX7_waiting : ByteArray := prog_9_method_36_code
def yX7_waiting : MethodName := ⟨RX7, "waiting", "(I)I"⟩
abbrev cX7_kind : ByteArray := prog_9_method_37_code
def yX7_kind : MethodName := ⟨RX7, "kind", "(I)I"⟩
abbrev cX7_hash : ByteArray := prog_9_method_38_code
def yX7_hash : MethodName := ⟨RX7, "hash", "(I)I"⟩
abbrev cX7_same : ByteArray := prog_9_method_39_code
def yX7_same : MethodName := ⟨RX7, "same", "(II)Z"⟩
abbrev cX7_open : ByteArray := prog_9_method_40_code
def yX7_open : MethodName := ⟨RX7, "open", "(I)I"⟩
abbrev cX7_close : ByteArray := prog_9_method_41_code
def yX7_close : MethodName := ⟨RX7, "close", "()I"⟩
abbrev cX7_collect : ByteArray := prog_9_method_42_code
def yX7_collect : MethodName := ⟨RX7, "collect", "(Z)I"⟩
abbrev cX7_every : ByteArray := prog_9_method_43_code
def yX7_every : MethodName := ⟨RX7, "every", "(I)I"⟩
abbrev cX7_count : ByteArray := prog_9_method_44_code
def yX7_count : MethodName := ⟨RX7, "count", "(I)I"⟩
abbrev cX7_digest : ByteArray := prog_9_method_45_code
def yX7_digest : MethodName := ⟨RX7, "digest", "(I)J"⟩
def RL : String := "RefHeapLaw"
abbrev cL_cell : ByteArray := method_2_code
def yL_cell : MethodName := ⟨RL, "cell", "([II)I"⟩
abbrev cL_plain : ByteArray := method_3_code
def yL_plain : MethodName := ⟨RL, "plain", "(LRefHeap;III[J)I"⟩
abbrev cL_row : ByteArray := method_4_code
def yL_row : MethodName := ⟨RL, "row", "(LRefHeap;IIZ[J)I"⟩
abbrev cL_queue : ByteArray := method_5_code
def yL_queue : MethodName := ⟨RL, "queue", "(LRefHeap;I[J)I"⟩
abbrev cL_loose : ByteArray := method_6_code
def yL_loose : MethodName := ⟨RL, "loose", "(LRefHeap;IIII[J)I"⟩
abbrev cL_pair : ByteArray := method_7_code
def yL_pair : MethodName := ⟨RL, "pair", "(LRefHeap;IIII[J)I"⟩
abbrev cL_copy : ByteArray := method_8_code
def yL_copy : MethodName := ⟨RL, "copy", "(LRefHeap;II[J)I"⟩
abbrev cL_link : ByteArray := method_9_code
def yL_link : MethodName := ⟨RL, "link", "(LRefHeap;III[J)I"⟩
abbrev cL_fetch : ByteArray := method_10_code
def yL_fetch : MethodName := ⟨RL, "fetch", "(LRefHeap;III[J)I"⟩
abbrev cL_set : ByteArray := method_11_code
def yL_set : MethodName := ⟨RL, "set", "(LRefHeap;IIJ[J)I"⟩
abbrev cL_get : ByteArray := method_12_code
def yL_get : MethodName := ⟨RL, "get", "(LRefHeap;II[J)I"⟩
abbrev cL_referent : ByteArray := method_13_code
def yL_referent : MethodName := ⟨RL, "referent", "(LRefHeap;IIZ[J)I"⟩
abbrev cL_give : ByteArray := method_14_code
def yL_give : MethodName := ⟨RL, "give", "(LRefHeap;II[J)I"⟩
abbrev cL_clear : ByteArray := method_15_code
def yL_clear : MethodName := ⟨RL, "clear", "(LRefHeap;IZ[J)I"⟩
abbrev cL_poll : ByteArray := method_16_code
def yL_poll : MethodName := ⟨RL, "poll", "(LRefHeap;II[J)I"⟩
abbrev cL_waiting : ByteArray := method_17_code
def yL_waiting : MethodName := ⟨RL, "waiting", "(LRefHeap;I[J)I"⟩
abbrev cL_kind : ByteArray := method_18_code
def yL_kind : MethodName := ⟨RL, "kind", "(LRefHeap;I[J)I"⟩
abbrev cL_hash : ByteArray := method_19_code
def yL_hash : MethodName := ⟨RL, "hash", "(LRefHeap;I[J)I"⟩
abbrev cL_same : ByteArray := method_20_code
def yL_same : MethodName := ⟨RL, "same", "(LRefHeap;II[J)I"⟩
abbrev cL_open : ByteArray := method_21_code
def yL_open : MethodName := ⟨RL, "open", "(LRefHeap;I[J)I"⟩
abbrev cL_close : ByteArray := method_22_code
def yL_close : MethodName := ⟨RL, "close", "(LRefHeap;[J)I"⟩
abbrev cL_every : ByteArray := method_23_code
def yL_every : MethodName := ⟨RL, "every", "(LRefHeap;I[J)I"⟩
abbrev cL_count : ByteArray := method_24_code
def yL_count : MethodName := ⟨RL, "count", "(LRefHeap;I[J)I"⟩
abbrev cL_digest : ByteArray := method_25_code
def yL_digest : MethodName := ⟨RL, "digest", "(LRefHeap;I[J)I"⟩
abbrev cL_law : ByteArray := code
def yL_law : MethodName := ⟨RL, "law", "([I)Z"⟩
abbrev vwCl : List vw_C := [(RX0, TX0, 4), (RX1, TX1, 10), (RX2, TX2, 11), (RX3, TX3, 14), (RX5, TX5, 4), (RX6, TX6, 11), (RX7, TX7, 35)]
end
section
theorem dX0_init_0 : decode cX0_init 0 = .ok (.aload_n 0, 1) := by decide +kernel
theorem dX0_init_1 : decode cX0_init 1 = .ok (.invokespecial 1, 3) := by decide +kernel
theorem dX0_init_4 : decode cX0_init 4 = .ok (.return_, 1) := by decide +kernel
theorem dX0_add_0 : decode cX0_add 0 = .ok (.aload_n 1, 1) := by decide +kernel
theorem dX0_add_1 : decode cX0_add 1 = .ok (.aconst_null, 1) := by decide +kernel
theorem dX0_add_2 : decode cX0_add 2 = .ok (.putfield 7, 3) := by decide +kernel
theorem dX0_add_5 : decode cX0_add 5 = .ok (.aload_n 0, 1) := by decide +kernel
theorem dX0_add_6 : decode cX0_add 6 = .ok (.getfield 13, 3) := by decide +kernel
theorem dX0_add_9 : decode cX0_add 9 = .ok (.ifnonnull 11, 3) := by decide +kernel
theorem dX0_add_12 : decode cX0_add 12 = .ok (.aload_n 0, 1) := by decide +kernel
theorem dX0_add_13 : decode cX0_add 13 = .ok (.aload_n 1, 1) := by decide +kernel
theorem dX0_add_14 : decode cX0_add 14 = .ok (.putfield 18, 3) := by decide +kernel
theorem dX0_add_17 : decode cX0_add 17 = .ok (.goto 11, 3) := by decide +kernel
theorem dX0_add_20 : decode cX0_add 20 = .ok (.aload_n 0, 1) := by decide +kernel
theorem dX0_add_21 : decode cX0_add 21 = .ok (.getfield 13, 3) := by decide +kernel
theorem dX0_add_24 : decode cX0_add 24 = .ok (.aload_n 1, 1) := by decide +kernel
theorem dX0_add_25 : decode cX0_add 25 = .ok (.putfield 7, 3) := by decide +kernel
theorem dX0_add_28 : decode cX0_add 28 = .ok (.aload_n 0, 1) := by decide +kernel
theorem dX0_add_29 : decode cX0_add 29 = .ok (.aload_n 1, 1) := by decide +kernel
theorem dX0_add_30 : decode cX0_add 30 = .ok (.putfield 13, 3) := by decide +kernel
theorem dX0_add_33 : decode cX0_add 33 = .ok (.aload_n 0, 1) := by decide +kernel
theorem dX0_add_34 : decode cX0_add 34 = .ok (.dup, 1) := by decide +kernel
theorem dX0_add_35 : decode cX0_add 35 = .ok (.getfield 21, 3) := by decide +kernel
theorem dX0_add_38 : decode cX0_add 38 = .ok (.iconst 1, 1) := by decide +kernel
theorem dX0_add_39 : decode cX0_add 39 = .ok (.iadd, 1) := by decide +kernel
theorem dX0_add_40 : decode cX0_add 40 = .ok (.putfield 21, 3) := by decide +kernel
theorem dX0_add_43 : decode cX0_add 43 = .ok (.aload_n 0, 1) := by decide +kernel
theorem dX0_add_44 : decode cX0_add 44 = .ok (.dup, 1) := by decide +kernel
theorem dX0_add_45 : decode cX0_add 45 = .ok (.getfield 25, 3) := by decide +kernel
theorem dX0_add_48 : decode cX0_add 48 = .ok (.aload_n 1, 1) := by decide +kernel
theorem dX0_add_49 : decode cX0_add 49 = .ok (.getfield 28, 3) := by decide +kernel
theorem dX0_add_52 : decode cX0_add 52 = .ok (.iadd, 1) := by decide +kernel
theorem dX0_add_53 : decode cX0_add 53 = .ok (.putfield 25, 3) := by decide +kernel
theorem dX0_add_56 : decode cX0_add 56 = .ok (.return_, 1) := by decide +kernel
theorem dX0_takeAll_0 : decode cX0_takeAll 0 = .ok (.aload_n 1, 1) := by decide +kernel
theorem dX0_takeAll_1 : decode cX0_takeAll 1 = .ok (.getfield 18, 3) := by decide +kernel
theorem dX0_takeAll_4 : decode cX0_takeAll 4 = .ok (.ifnonnull 4, 3) := by decide +kernel
theorem dX0_takeAll_7 : decode cX0_takeAll 7 = .ok (.return_, 1) := by decide +kernel
theorem dX0_takeAll_8 : decode cX0_takeAll 8 = .ok (.aload_n 0, 1) := by decide +kernel
theorem dX0_takeAll_9 : decode cX0_takeAll 9 = .ok (.getfield 13, 3) := by decide +kernel
theorem dX0_takeAll_12 : decode cX0_takeAll 12 = .ok (.ifnonnull 14, 3) := by decide +kernel
theorem dX0_takeAll_15 : decode cX0_takeAll 15 = .ok (.aload_n 0, 1) := by decide +kernel
theorem dX0_takeAll_16 : decode cX0_takeAll 16 = .ok (.aload_n 1, 1) := by decide +kernel
theorem dX0_takeAll_17 : decode cX0_takeAll 17 = .ok (.getfield 18, 3) := by decide +kernel
theorem dX0_takeAll_20 : decode cX0_takeAll 20 = .ok (.putfield 18, 3) := by decide +kernel
theorem dX0_takeAll_23 : decode cX0_takeAll 23 = .ok (.goto 14, 3) := by decide +kernel
theorem dX0_takeAll_26 : decode cX0_takeAll 26 = .ok (.aload_n 0, 1) := by decide +kernel
theorem dX0_takeAll_27 : decode cX0_takeAll 27 = .ok (.getfield 13, 3) := by decide +kernel
theorem dX0_takeAll_30 : decode cX0_takeAll 30 = .ok (.aload_n 1, 1) := by decide +kernel
theorem dX0_takeAll_31 : decode cX0_takeAll 31 = .ok (.getfield 18, 3) := by decide +kernel
theorem dX0_takeAll_34 : decode cX0_takeAll 34 = .ok (.putfield 7, 3) := by decide +kernel
theorem dX0_takeAll_37 : decode cX0_takeAll 37 = .ok (.aload_n 0, 1) := by decide +kernel
theorem dX0_takeAll_38 : decode cX0_takeAll 38 = .ok (.aload_n 1, 1) := by decide +kernel
theorem dX0_takeAll_39 : decode cX0_takeAll 39 = .ok (.getfield 13, 3) := by decide +kernel
theorem dX0_takeAll_42 : decode cX0_takeAll 42 = .ok (.putfield 13, 3) := by decide +kernel
theorem dX0_takeAll_45 : decode cX0_takeAll 45 = .ok (.aload_n 0, 1) := by decide +kernel
theorem dX0_takeAll_46 : decode cX0_takeAll 46 = .ok (.dup, 1) := by decide +kernel
theorem dX0_takeAll_47 : decode cX0_takeAll 47 = .ok (.getfield 21, 3) := by decide +kernel
theorem dX0_takeAll_50 : decode cX0_takeAll 50 = .ok (.aload_n 1, 1) := by decide +kernel
theorem dX0_takeAll_51 : decode cX0_takeAll 51 = .ok (.getfield 21, 3) := by decide +kernel
theorem dX0_takeAll_54 : decode cX0_takeAll 54 = .ok (.iadd, 1) := by decide +kernel
theorem dX0_takeAll_55 : decode cX0_takeAll 55 = .ok (.putfield 21, 3) := by decide +kernel
theorem dX0_takeAll_58 : decode cX0_takeAll 58 = .ok (.aload_n 0, 1) := by decide +kernel
theorem dX0_takeAll_59 : decode cX0_takeAll 59 = .ok (.dup, 1) := by decide +kernel
theorem dX0_takeAll_60 : decode cX0_takeAll 60 = .ok (.getfield 25, 3) := by decide +kernel
theorem dX0_takeAll_63 : decode cX0_takeAll 63 = .ok (.aload_n 1, 1) := by decide +kernel
theorem dX0_takeAll_64 : decode cX0_takeAll 64 = .ok (.getfield 25, 3) := by decide +kernel
theorem dX0_takeAll_67 : decode cX0_takeAll 67 = .ok (.iadd, 1) := by decide +kernel
theorem dX0_takeAll_68 : decode cX0_takeAll 68 = .ok (.putfield 25, 3) := by decide +kernel
theorem dX0_takeAll_71 : decode cX0_takeAll 71 = .ok (.aload_n 1, 1) := by decide +kernel
theorem dX0_takeAll_72 : decode cX0_takeAll 72 = .ok (.invokevirtual 29, 3) := by decide +kernel
theorem dX0_takeAll_75 : decode cX0_takeAll 75 = .ok (.return_, 1) := by decide +kernel
theorem dX0_empty_0 : decode cX0_empty 0 = .ok (.aload_n 0, 1) := by decide +kernel
theorem dX0_empty_1 : decode cX0_empty 1 = .ok (.aconst_null, 1) := by decide +kernel
theorem dX0_empty_2 : decode cX0_empty 2 = .ok (.putfield 18, 3) := by decide +kernel
theorem dX0_empty_5 : decode cX0_empty 5 = .ok (.aload_n 0, 1) := by decide +kernel
theorem dX0_empty_6 : decode cX0_empty 6 = .ok (.aconst_null, 1) := by decide +kernel
theorem dX0_empty_7 : decode cX0_empty 7 = .ok (.putfield 13, 3) := by decide +kernel
theorem dX0_empty_10 : decode cX0_empty 10 = .ok (.aload_n 0, 1) := by decide +kernel
theorem dX0_empty_11 : decode cX0_empty 11 = .ok (.iconst 0, 1) := by decide +kernel
theorem dX0_empty_12 : decode cX0_empty 12 = .ok (.putfield 21, 3) := by decide +kernel
theorem dX0_empty_15 : decode cX0_empty 15 = .ok (.aload_n 0, 1) := by decide +kernel
theorem dX0_empty_16 : decode cX0_empty 16 = .ok (.iconst 0, 1) := by decide +kernel
theorem dX0_empty_17 : decode cX0_empty 17 = .ok (.putfield 25, 3) := by decide +kernel
theorem dX0_empty_20 : decode cX0_empty 20 = .ok (.return_, 1) := by decide +kernel
theorem dX1_init_0 : decode cX1_init 0 = .ok (.aload_n 0, 1) := by decide +kernel
theorem dX1_init_1 : decode cX1_init 1 = .ok (.iload_n 1, 1) := by decide +kernel
theorem dX1_init_2 : decode cX1_init 2 = .ok (.iload_n 2, 1) := by decide +kernel
theorem dX1_init_3 : decode cX1_init 3 = .ok (.invokespecial 1, 3) := by decide +kernel
theorem dX1_init_6 : decode cX1_init 6 = .ok (.aload_n 0, 1) := by decide +kernel
theorem dX1_init_7 : decode cX1_init 7 = .ok (.iload_n 3, 1) := by decide +kernel
theorem dX1_init_8 : decode cX1_init 8 = .ok (.anewarray 2, 3) := by decide +kernel
theorem dX1_init_11 : decode cX1_init 11 = .ok (.putfield 7, 3) := by decide +kernel
theorem dX1_init_14 : decode cX1_init 14 = .ok (.aload_n 0, 1) := by decide +kernel
theorem dX1_init_15 : decode cX1_init 15 = .ok (.iload 4, 2) := by decide +kernel
theorem dX1_init_17 : decode cX1_init 17 = .ok (.newarray .long, 2) := by decide +kernel
theorem dX1_init_19 : decode cX1_init 19 = .ok (.putfield 13, 3) := by decide +kernel
theorem dX1_init_22 : decode cX1_init 22 = .ok (.return_, 1) := by decide +kernel
theorem dX1_leadOn_0 : decode cX1_leadOn 0 = .ok (.aload_n 0, 1) := by decide +kernel
theorem dX1_leadOn_1 : decode cX1_leadOn 1 = .ok (.getfield 7, 3) := by decide +kernel
theorem dX1_leadOn_4 : decode cX1_leadOn 4 = .ok (.astore_n 3, 1) := by decide +kernel
theorem dX1_leadOn_5 : decode cX1_leadOn 5 = .ok (.aload_n 3, 1) := by decide +kernel
theorem dX1_leadOn_6 : decode cX1_leadOn 6 = .ok (.arraylength, 1) := by decide +kernel
theorem dX1_leadOn_7 : decode cX1_leadOn 7 = .ok (.istore 4, 2) := by decide +kernel
theorem dX1_leadOn_9 : decode cX1_leadOn 9 = .ok (.iconst 0, 1) := by decide +kernel
theorem dX1_leadOn_10 : decode cX1_leadOn 10 = .ok (.istore 5, 2) := by decide +kernel
theorem dX1_leadOn_12 : decode cX1_leadOn 12 = .ok (.iload 5, 2) := by decide +kernel
theorem dX1_leadOn_14 : decode cX1_leadOn 14 = .ok (.iload 4, 2) := by decide +kernel
theorem dX1_leadOn_16 : decode cX1_leadOn 16 = .ok (.if_icmp .ge 21, 3) := by decide +kernel
theorem dX1_leadOn_19 : decode cX1_leadOn 19 = .ok (.aload_n 3, 1) := by decide +kernel
theorem dX1_leadOn_20 : decode cX1_leadOn 20 = .ok (.iload 5, 2) := by decide +kernel
theorem dX1_leadOn_22 : decode cX1_leadOn 22 = .ok (.aaload, 1) := by decide +kernel
theorem dX1_leadOn_23 : decode cX1_leadOn 23 = .ok (.astore 6, 2) := by decide +kernel
theorem dX1_leadOn_25 : decode cX1_leadOn 25 = .ok (.aload_n 1, 1) := by decide +kernel
theorem dX1_leadOn_26 : decode cX1_leadOn 26 = .ok (.aload 6, 2) := by decide +kernel
theorem dX1_leadOn_28 : decode cX1_leadOn 28 = .ok (.invokevirtual 17, 3) := by decide +kernel
theorem dX1_leadOn_31 : decode cX1_leadOn 31 = .ok (.iinc 5 1, 3) := by decide +kernel
theorem dX1_leadOn_34 : decode cX1_leadOn 34 = .ok (.goto (-22), 3) := by decide +kernel
theorem dX1_leadOn_37 : decode cX1_leadOn 37 = .ok (.return_, 1) := by decide +kernel
theorem dX1_digestOn_0 : decode cX1_digestOn 0 = .ok (.lload_n 1, 1) := by decide +kernel
theorem dX1_digestOn_1 : decode cX1_digestOn 1 = .ok (.aload_n 0, 1) := by decide +kernel
theorem dX1_digestOn_2 : decode cX1_digestOn 2 = .ok (.getfield 7, 3) := by decide +kernel
theorem dX1_digestOn_5 : decode cX1_digestOn 5 = .ok (.arraylength, 1) := by decide +kernel
theorem dX1_digestOn_6 : decode cX1_digestOn 6 = .ok (.i2l, 1) := by decide +kernel
theorem dX1_digestOn_7 : decode cX1_digestOn 7 = .ok (.invokestatic 23, 3) := by decide +kernel
theorem dX1_digestOn_10 : decode cX1_digestOn 10 = .ok (.lstore 4, 2) := by decide +kernel
theorem dX1_digestOn_12 : decode cX1_digestOn 12 = .ok (.aload_n 0, 1) := by decide +kernel
theorem dX1_digestOn_13 : decode cX1_digestOn 13 = .ok (.getfield 7, 3) := by decide +kernel
theorem dX1_digestOn_16 : decode cX1_digestOn 16 = .ok (.astore 6, 2) := by decide +kernel
theorem dX1_digestOn_18 : decode cX1_digestOn 18 = .ok (.aload 6, 2) := by decide +kernel
theorem dX1_digestOn_20 : decode cX1_digestOn 20 = .ok (.arraylength, 1) := by decide +kernel
theorem dX1_digestOn_21 : decode cX1_digestOn 21 = .ok (.istore 7, 2) := by decide +kernel
theorem dX1_digestOn_23 : decode cX1_digestOn 23 = .ok (.iconst 0, 1) := by decide +kernel
theorem dX1_digestOn_24 : decode cX1_digestOn 24 = .ok (.istore 8, 2) := by decide +kernel
theorem dX1_digestOn_26 : decode cX1_digestOn 26 = .ok (.iload 8, 2) := by decide +kernel
theorem dX1_digestOn_28 : decode cX1_digestOn 28 = .ok (.iload 7, 2) := by decide +kernel
theorem dX1_digestOn_30 : decode cX1_digestOn 30 = .ok (.if_icmp .ge 44, 3) := by decide +kernel
theorem dX1_digestOn_33 : decode cX1_digestOn 33 = .ok (.aload 6, 2) := by decide +kernel
theorem dX1_digestOn_35 : decode cX1_digestOn 35 = .ok (.iload 8, 2) := by decide +kernel
theorem dX1_digestOn_37 : decode cX1_digestOn 37 = .ok (.aaload, 1) := by decide +kernel
theorem dX1_digestOn_38 : decode cX1_digestOn 38 = .ok (.astore 9, 2) := by decide +kernel
theorem dX1_digestOn_40 : decode cX1_digestOn 40 = .ok (.aload_n 3, 1) := by decide +kernel
theorem dX1_digestOn_41 : decode cX1_digestOn 41 = .ok (.aload 9, 2) := by decide +kernel
theorem dX1_digestOn_43 : decode cX1_digestOn 43 = .ok (.invokevirtual 17, 3) := by decide +kernel
theorem dX1_digestOn_46 : decode cX1_digestOn 46 = .ok (.lload 4, 2) := by decide +kernel
theorem dX1_digestOn_48 : decode cX1_digestOn 48 = .ok (.aload 9, 2) := by decide +kernel
theorem dX1_digestOn_50 : decode cX1_digestOn 50 = .ok (.ifnonnull 7, 3) := by decide +kernel
theorem dX1_digestOn_53 : decode cX1_digestOn 53 = .ok (.lconst 0, 1) := by decide +kernel
theorem dX1_digestOn_54 : decode cX1_digestOn 54 = .ok (.goto 9, 3) := by decide +kernel
theorem dX1_digestOn_57 : decode cX1_digestOn 57 = .ok (.aload 9, 2) := by decide +kernel
theorem dX1_digestOn_59 : decode cX1_digestOn 59 = .ok (.getfield 29, 3) := by decide +kernel
theorem dX1_digestOn_62 : decode cX1_digestOn 62 = .ok (.i2l, 1) := by decide +kernel
theorem dX1_digestOn_63 : decode cX1_digestOn 63 = .ok (.invokestatic 23, 3) := by decide +kernel
theorem dX1_digestOn_66 : decode cX1_digestOn 66 = .ok (.lstore 4, 2) := by decide +kernel
theorem dX1_digestOn_68 : decode cX1_digestOn 68 = .ok (.iinc 8 1, 3) := by decide +kernel
theorem dX1_digestOn_71 : decode cX1_digestOn 71 = .ok (.goto (-45), 3) := by decide +kernel
theorem dX1_digestOn_74 : decode cX1_digestOn 74 = .ok (.lload 4, 2) := by decide +kernel
theorem dX1_digestOn_76 : decode cX1_digestOn 76 = .ok (.aload_n 0, 1) := by decide +kernel
theorem dX1_digestOn_77 : decode cX1_digestOn 77 = .ok (.getfield 13, 3) := by decide +kernel
theorem dX1_digestOn_80 : decode cX1_digestOn 80 = .ok (.arraylength, 1) := by decide +kernel
theorem dX1_digestOn_81 : decode cX1_digestOn 81 = .ok (.i2l, 1) := by decide +kernel
theorem dX1_digestOn_82 : decode cX1_digestOn 82 = .ok (.invokestatic 23, 3) := by decide +kernel
theorem dX1_digestOn_85 : decode cX1_digestOn 85 = .ok (.lstore 4, 2) := by decide +kernel
theorem dX1_digestOn_87 : decode cX1_digestOn 87 = .ok (.aload_n 0, 1) := by decide +kernel
theorem dX1_digestOn_88 : decode cX1_digestOn 88 = .ok (.getfield 13, 3) := by decide +kernel
theorem dX1_digestOn_91 : decode cX1_digestOn 91 = .ok (.astore 6, 2) := by decide +kernel
theorem dX1_digestOn_93 : decode cX1_digestOn 93 = .ok (.aload 6, 2) := by decide +kernel
theorem dX1_digestOn_95 : decode cX1_digestOn 95 = .ok (.arraylength, 1) := by decide +kernel
theorem dX1_digestOn_96 : decode cX1_digestOn 96 = .ok (.istore 7, 2) := by decide +kernel
theorem dX1_digestOn_98 : decode cX1_digestOn 98 = .ok (.iconst 0, 1) := by decide +kernel
theorem dX1_digestOn_99 : decode cX1_digestOn 99 = .ok (.istore 8, 2) := by decide +kernel
theorem dX1_digestOn_101 : decode cX1_digestOn 101 = .ok (.iload 8, 2) := by decide +kernel
theorem dX1_digestOn_103 : decode cX1_digestOn 103 = .ok (.iload 7, 2) := by decide +kernel
theorem dX1_digestOn_105 : decode cX1_digestOn 105 = .ok (.if_icmp .ge 25, 3) := by decide +kernel
theorem dX1_digestOn_108 : decode cX1_digestOn 108 = .ok (.aload 6, 2) := by decide +kernel
theorem dX1_digestOn_110 : decode cX1_digestOn 110 = .ok (.iload 8, 2) := by decide +kernel
theorem dX1_digestOn_112 : decode cX1_digestOn 112 = .ok (.laload, 1) := by decide +kernel
theorem dX1_digestOn_113 : decode cX1_digestOn 113 = .ok (.lstore 9, 2) := by decide +kernel
theorem dX1_digestOn_115 : decode cX1_digestOn 115 = .ok (.lload 4, 2) := by decide +kernel
theorem dX1_digestOn_117 : decode cX1_digestOn 117 = .ok (.lload 9, 2) := by decide +kernel
theorem dX1_digestOn_119 : decode cX1_digestOn 119 = .ok (.invokestatic 23, 3) := by decide +kernel
theorem dX1_digestOn_122 : decode cX1_digestOn 122 = .ok (.lstore 4, 2) := by decide +kernel
theorem dX1_digestOn_124 : decode cX1_digestOn 124 = .ok (.iinc 8 1, 3) := by decide +kernel
theorem dX1_digestOn_127 : decode cX1_digestOn 127 = .ok (.goto (-26), 3) := by decide +kernel
theorem dX1_digestOn_130 : decode cX1_digestOn 130 = .ok (.lload 4, 2) := by decide +kernel
theorem dX1_digestOn_132 : decode cX1_digestOn 132 = .ok (.lreturn, 1) := by decide +kernel
theorem dX2_init_0 : decode cX2_init 0 = .ok (.aload_n 0, 1) := by decide +kernel
theorem dX2_init_1 : decode cX2_init 1 = .ok (.iconst 3, 1) := by decide +kernel
theorem dX2_init_2 : decode cX2_init 2 = .ok (.iconst 3, 1) := by decide +kernel
theorem dX2_init_3 : decode cX2_init 3 = .ok (.invokespecial 3, 3) := by decide +kernel
theorem dX2_init_6 : decode cX2_init 6 = .ok (.return_, 1) := by decide +kernel
theorem dX2_add_0 : decode cX2_add 0 = .ok (.aload_n 0, 1) := by decide +kernel
theorem dX2_add_1 : decode cX2_add 1 = .ok (.getfield 9, 3) := by decide +kernel
theorem dX2_add_4 : decode cX2_add 4 = .ok (.ifnonnull 11, 3) := by decide +kernel
theorem dX2_add_7 : decode cX2_add 7 = .ok (.aload_n 0, 1) := by decide +kernel
theorem dX2_add_8 : decode cX2_add 8 = .ok (.aload_n 1, 1) := by decide +kernel
theorem dX2_add_9 : decode cX2_add 9 = .ok (.putfield 15, 3) := by decide +kernel
theorem dX2_add_12 : decode cX2_add 12 = .ok (.goto 11, 3) := by decide +kernel
theorem dX2_add_15 : decode cX2_add 15 = .ok (.aload_n 0, 1) := by decide +kernel
theorem dX2_add_16 : decode cX2_add 16 = .ok (.getfield 9, 3) := by decide +kernel
theorem dX2_add_19 : decode cX2_add 19 = .ok (.aload_n 1, 1) := by decide +kernel
theorem dX2_add_20 : decode cX2_add 20 = .ok (.putfield 18, 3) := by decide +kernel
theorem dX2_add_23 : decode cX2_add 23 = .ok (.aload_n 0, 1) := by decide +kernel
theorem dX2_add_24 : decode cX2_add 24 = .ok (.aload_n 1, 1) := by decide +kernel
theorem dX2_add_25 : decode cX2_add 25 = .ok (.putfield 9, 3) := by decide +kernel
theorem dX2_add_28 : decode cX2_add 28 = .ok (.aload_n 0, 1) := by decide +kernel
theorem dX2_add_29 : decode cX2_add 29 = .ok (.dup, 1) := by decide +kernel
theorem dX2_add_30 : decode cX2_add 30 = .ok (.getfield 23, 3) := by decide +kernel
theorem dX2_add_33 : decode cX2_add 33 = .ok (.iconst 1, 1) := by decide +kernel
theorem dX2_add_34 : decode cX2_add 34 = .ok (.iadd, 1) := by decide +kernel
theorem dX2_add_35 : decode cX2_add 35 = .ok (.putfield 23, 3) := by decide +kernel
theorem dX2_add_38 : decode cX2_add 38 = .ok (.return_, 1) := by decide +kernel
theorem dX2_takeFirst_0 : decode cX2_takeFirst 0 = .ok (.aload_n 0, 1) := by decide +kernel
theorem dX2_takeFirst_1 : decode cX2_takeFirst 1 = .ok (.getfield 15, 3) := by decide +kernel
theorem dX2_takeFirst_4 : decode cX2_takeFirst 4 = .ok (.astore_n 1, 1) := by decide +kernel
theorem dX2_takeFirst_5 : decode cX2_takeFirst 5 = .ok (.aload_n 1, 1) := by decide +kernel
theorem dX2_takeFirst_6 : decode cX2_takeFirst 6 = .ok (.ifnonnull 5, 3) := by decide +kernel
theorem dX2_takeFirst_9 : decode cX2_takeFirst 9 = .ok (.aconst_null, 1) := by decide +kernel
theorem dX2_takeFirst_10 : decode cX2_takeFirst 10 = .ok (.areturn, 1) := by decide +kernel
theorem dX2_takeFirst_11 : decode cX2_takeFirst 11 = .ok (.aload_n 0, 1) := by decide +kernel
theorem dX2_takeFirst_12 : decode cX2_takeFirst 12 = .ok (.aload_n 1, 1) := by decide +kernel
theorem dX2_takeFirst_13 : decode cX2_takeFirst 13 = .ok (.getfield 18, 3) := by decide +kernel
theorem dX2_takeFirst_16 : decode cX2_takeFirst 16 = .ok (.putfield 15, 3) := by decide +kernel
theorem dX2_takeFirst_19 : decode cX2_takeFirst 19 = .ok (.aload_n 1, 1) := by decide +kernel
theorem dX2_takeFirst_20 : decode cX2_takeFirst 20 = .ok (.aconst_null, 1) := by decide +kernel
theorem dX2_takeFirst_21 : decode cX2_takeFirst 21 = .ok (.putfield 18, 3) := by decide +kernel
theorem dX2_takeFirst_24 : decode cX2_takeFirst 24 = .ok (.aload_n 0, 1) := by decide +kernel
theorem dX2_takeFirst_25 : decode cX2_takeFirst 25 = .ok (.getfield 15, 3) := by decide +kernel
theorem dX2_takeFirst_28 : decode cX2_takeFirst 28 = .ok (.ifnonnull 8, 3) := by decide +kernel
theorem dX2_takeFirst_31 : decode cX2_takeFirst 31 = .ok (.aload_n 0, 1) := by decide +kernel
theorem dX2_takeFirst_32 : decode cX2_takeFirst 32 = .ok (.aconst_null, 1) := by decide +kernel
theorem dX2_takeFirst_33 : decode cX2_takeFirst 33 = .ok (.putfield 9, 3) := by decide +kernel
theorem dX2_takeFirst_36 : decode cX2_takeFirst 36 = .ok (.aload_n 0, 1) := by decide +kernel
theorem dX2_takeFirst_37 : decode cX2_takeFirst 37 = .ok (.dup, 1) := by decide +kernel
theorem dX2_takeFirst_38 : decode cX2_takeFirst 38 = .ok (.getfield 23, 3) := by decide +kernel
theorem dX2_takeFirst_41 : decode cX2_takeFirst 41 = .ok (.iconst 1, 1) := by decide +kernel
theorem dX2_takeFirst_42 : decode cX2_takeFirst 42 = .ok (.isub, 1) := by decide +kernel
theorem dX2_takeFirst_43 : decode cX2_takeFirst 43 = .ok (.putfield 23, 3) := by decide +kernel
theorem dX2_takeFirst_46 : decode cX2_takeFirst 46 = .ok (.aload_n 1, 1) := by decide +kernel
theorem dX2_takeFirst_47 : decode cX2_takeFirst 47 = .ok (.areturn, 1) := by decide +kernel
theorem dX2_leadOn_0 : decode cX2_leadOn 0 = .ok (.aload_n 0, 1) := by decide +kernel
theorem dX2_leadOn_1 : decode cX2_leadOn 1 = .ok (.getfield 15, 3) := by decide +kernel
theorem dX2_leadOn_4 : decode cX2_leadOn 4 = .ok (.astore_n 3, 1) := by decide +kernel
theorem dX2_leadOn_5 : decode cX2_leadOn 5 = .ok (.aload_n 3, 1) := by decide +kernel
theorem dX2_leadOn_6 : decode cX2_leadOn 6 = .ok (.ifnull 16, 3) := by decide +kernel
theorem dX2_leadOn_9 : decode cX2_leadOn 9 = .ok (.aload_n 1, 1) := by decide +kernel
theorem dX2_leadOn_10 : decode cX2_leadOn 10 = .ok (.aload_n 3, 1) := by decide +kernel
theorem dX2_leadOn_11 : decode cX2_leadOn 11 = .ok (.invokevirtual 27, 3) := by decide +kernel
theorem dX2_leadOn_14 : decode cX2_leadOn 14 = .ok (.aload_n 3, 1) := by decide +kernel
theorem dX2_leadOn_15 : decode cX2_leadOn 15 = .ok (.getfield 18, 3) := by decide +kernel
theorem dX2_leadOn_18 : decode cX2_leadOn 18 = .ok (.astore_n 3, 1) := by decide +kernel
theorem dX2_leadOn_19 : decode cX2_leadOn 19 = .ok (.goto (-14), 3) := by decide +kernel
theorem dX2_leadOn_22 : decode cX2_leadOn 22 = .ok (.return_, 1) := by decide +kernel
theorem dX3_init_0 : decode cX3_init 0 = .ok (.aload_n 0, 1) := by decide +kernel
theorem dX3_init_1 : decode cX3_init 1 = .ok (.iload_n 1, 1) := by decide +kernel
theorem dX3_init_2 : decode cX3_init 2 = .ok (.iload_n 2, 1) := by decide +kernel
theorem dX3_init_3 : decode cX3_init 3 = .ok (.invokespecial 3, 3) := by decide +kernel
theorem dX3_init_6 : decode cX3_init 6 = .ok (.aload_n 0, 1) := by decide +kernel
theorem dX3_init_7 : decode cX3_init 7 = .ok (.aload_n 3, 1) := by decide +kernel
theorem dX3_init_8 : decode cX3_init 8 = .ok (.putfield 9, 3) := by decide +kernel
theorem dX3_init_11 : decode cX3_init 11 = .ok (.aload_n 0, 1) := by decide +kernel
theorem dX3_init_12 : decode cX3_init 12 = .ok (.aload 4, 2) := by decide +kernel
theorem dX3_init_14 : decode cX3_init 14 = .ok (.putfield 15, 3) := by decide +kernel
theorem dX3_init_17 : decode cX3_init 17 = .ok (.aload_n 0, 1) := by decide +kernel
theorem dX3_init_18 : decode cX3_init 18 = .ok (.aload 5, 2) := by decide +kernel
theorem dX3_init_20 : decode cX3_init 20 = .ok (.putfield 18, 3) := by decide +kernel
theorem dX3_init_23 : decode cX3_init 23 = .ok (.return_, 1) := by decide +kernel
theorem dX3_forget_0 : decode cX3_forget 0 = .ok (.aload_n 0, 1) := by decide +kernel
theorem dX3_forget_1 : decode cX3_forget 1 = .ok (.aconst_null, 1) := by decide +kernel
theorem dX3_forget_2 : decode cX3_forget 2 = .ok (.putfield 9, 3) := by decide +kernel
theorem dX3_forget_5 : decode cX3_forget 5 = .ok (.aload_n 0, 1) := by decide +kernel
theorem dX3_forget_6 : decode cX3_forget 6 = .ok (.aconst_null, 1) := by decide +kernel
theorem dX3_forget_7 : decode cX3_forget 7 = .ok (.putfield 15, 3) := by decide +kernel
theorem dX3_forget_10 : decode cX3_forget 10 = .ok (.return_, 1) := by decide +kernel
theorem dX3_refersOutside_0 : decode cX3_refersOutside 0 = .ok (.aload_n 0, 1) := by decide +kernel
theorem dX3_refersOutside_1 : decode cX3_refersOutside 1 = .ok (.getfield 9, 3) := by decide +kernel
theorem dX3_refersOutside_4 : decode cX3_refersOutside 4 = .ok (.ifnull 18, 3) := by decide +kernel
theorem dX3_refersOutside_7 : decode cX3_refersOutside 7 = .ok (.aload_n 1, 1) := by decide +kernel
theorem dX3_refersOutside_8 : decode cX3_refersOutside 8 = .ok (.aload_n 0, 1) := by decide +kernel
theorem dX3_refersOutside_9 : decode cX3_refersOutside 9 = .ok (.getfield 9, 3) := by decide +kernel
theorem dX3_refersOutside_12 : decode cX3_refersOutside 12 = .ok (.invokevirtual 22, 3) := by decide +kernel
theorem dX3_refersOutside_15 : decode cX3_refersOutside 15 = .ok (.ifCond .ne 7, 3) := by decide +kernel
theorem dX3_refersOutside_18 : decode cX3_refersOutside 18 = .ok (.iconst 1, 1) := by decide +kernel
theorem dX3_refersOutside_19 : decode cX3_refersOutside 19 = .ok (.goto 4, 3) := by decide +kernel
theorem dX3_refersOutside_22 : decode cX3_refersOutside 22 = .ok (.iconst 0, 1) := by decide +kernel
theorem dX3_refersOutside_23 : decode cX3_refersOutside 23 = .ok (.ireturn, 1) := by decide +kernel
theorem dX3_leadOn_0 : decode cX3_leadOn 0 = .ok (.aload_n 0, 1) := by decide +kernel
theorem dX3_leadOn_1 : decode cX3_leadOn 1 = .ok (.getfield 28, 3) := by decide +kernel
theorem dX3_leadOn_4 : decode cX3_leadOn 4 = .ok (.ifCond .ne 11, 3) := by decide +kernel
theorem dX3_leadOn_7 : decode cX3_leadOn 7 = .ok (.aload_n 1, 1) := by decide +kernel
theorem dX3_leadOn_8 : decode cX3_leadOn 8 = .ok (.aload_n 0, 1) := by decide +kernel
theorem dX3_leadOn_9 : decode cX3_leadOn 9 = .ok (.getfield 18, 3) := by decide +kernel
theorem dX3_leadOn_12 : decode cX3_leadOn 12 = .ok (.invokevirtual 32, 3) := by decide +kernel
theorem dX3_leadOn_15 : decode cX3_leadOn 15 = .ok (.aload_n 0, 1) := by decide +kernel
theorem dX3_leadOn_16 : decode cX3_leadOn 16 = .ok (.getfield 36, 3) := by decide +kernel
theorem dX3_leadOn_19 : decode cX3_leadOn 19 = .ok (.iconst 4, 1) := by decide +kernel
theorem dX3_leadOn_20 : decode cX3_leadOn 20 = .ok (.if_icmp .ne 15, 3) := by decide +kernel
theorem dX3_leadOn_23 : decode cX3_leadOn 23 = .ok (.iload_n 2, 1) := by decide +kernel
theorem dX3_leadOn_24 : decode cX3_leadOn 24 = .ok (.ifCond .ne 11, 3) := by decide +kernel
theorem dX3_leadOn_27 : decode cX3_leadOn 27 = .ok (.aload_n 1, 1) := by decide +kernel
theorem dX3_leadOn_28 : decode cX3_leadOn 28 = .ok (.aload_n 0, 1) := by decide +kernel
theorem dX3_leadOn_29 : decode cX3_leadOn 29 = .ok (.getfield 9, 3) := by decide +kernel
theorem dX3_leadOn_32 : decode cX3_leadOn 32 = .ok (.invokevirtual 32, 3) := by decide +kernel
theorem dX3_leadOn_35 : decode cX3_leadOn 35 = .ok (.aload_n 0, 1) := by decide +kernel
theorem dX3_leadOn_36 : decode cX3_leadOn 36 = .ok (.getfield 36, 3) := by decide +kernel
theorem dX3_leadOn_39 : decode cX3_leadOn 39 = .ok (.bipush 7, 2) := by decide +kernel
theorem dX3_leadOn_41 : decode cX3_leadOn 41 = .ok (.if_icmp .ne 51, 3) := by decide +kernel
theorem dX3_leadOn_44 : decode cX3_leadOn 44 = .ok (.aload_n 0, 1) := by decide +kernel
theorem dX3_leadOn_45 : decode cX3_leadOn 45 = .ok (.getfield 9, 3) := by decide +kernel
theorem dX3_leadOn_48 : decode cX3_leadOn 48 = .ok (.ifnull 44, 3) := by decide +kernel
theorem dX3_leadOn_51 : decode cX3_leadOn 51 = .ok (.aload_n 1, 1) := by decide +kernel
theorem dX3_leadOn_52 : decode cX3_leadOn 52 = .ok (.aload_n 0, 1) := by decide +kernel
theorem dX3_leadOn_53 : decode cX3_leadOn 53 = .ok (.getfield 9, 3) := by decide +kernel
theorem dX3_leadOn_56 : decode cX3_leadOn 56 = .ok (.invokevirtual 22, 3) := by decide +kernel
theorem dX3_leadOn_59 : decode cX3_leadOn 59 = .ok (.ifCond .eq 14, 3) := by decide +kernel
theorem dX3_leadOn_62 : decode cX3_leadOn 62 = .ok (.aload_n 1, 1) := by decide +kernel
theorem dX3_leadOn_63 : decode cX3_leadOn 63 = .ok (.aload_n 0, 1) := by decide +kernel
theorem dX3_leadOn_64 : decode cX3_leadOn 64 = .ok (.getfield 15, 3) := by decide +kernel
theorem dX3_leadOn_67 : decode cX3_leadOn 67 = .ok (.invokevirtual 32, 3) := by decide +kernel
theorem dX3_leadOn_70 : decode cX3_leadOn 70 = .ok (.goto 22, 3) := by decide +kernel
theorem dX3_leadOn_73 : decode cX3_leadOn 73 = .ok (.aload_n 0, 1) := by decide +kernel
theorem dX3_leadOn_74 : decode cX3_leadOn 74 = .ok (.aload_n 0, 1) := by decide +kernel
theorem dX3_leadOn_75 : decode cX3_leadOn 75 = .ok (.getfield 9, 3) := by decide +kernel
theorem dX3_leadOn_78 : decode cX3_leadOn 78 = .ok (.getfield 40, 3) := by decide +kernel
theorem dX3_leadOn_81 : decode cX3_leadOn 81 = .ok (.putfield 44, 3) := by decide +kernel
theorem dX3_leadOn_84 : decode cX3_leadOn 84 = .ok (.aload_n 0, 1) := by decide +kernel
theorem dX3_leadOn_85 : decode cX3_leadOn 85 = .ok (.getfield 9, 3) := by decide +kernel
theorem dX3_leadOn_88 : decode cX3_leadOn 88 = .ok (.aload_n 0, 1) := by decide +kernel
theorem dX3_leadOn_89 : decode cX3_leadOn 89 = .ok (.putfield 40, 3) := by decide +kernel
theorem dX3_leadOn_92 : decode cX3_leadOn 92 = .ok (.return_, 1) := by decide +kernel
theorem dX4_init_0 : decode cX4_init 0 = .ok (.aload_n 0, 1) := by decide +kernel
theorem dX4_init_1 : decode cX4_init 1 = .ok (.invokespecial 1, 3) := by decide +kernel
theorem dX4_init_4 : decode cX4_init 4 = .ok (.aload_n 0, 1) := by decide +kernel
theorem dX4_init_5 : decode cX4_init 5 = .ok (.iload_n 1, 1) := by decide +kernel
theorem dX4_init_6 : decode cX4_init 6 = .ok (.putfield 7, 3) := by decide +kernel
theorem dX4_init_9 : decode cX4_init 9 = .ok (.aload_n 0, 1) := by decide +kernel
theorem dX4_init_10 : decode cX4_init 10 = .ok (.iload_n 2, 1) := by decide +kernel
theorem dX4_init_11 : decode cX4_init 11 = .ok (.putfield 13, 3) := by decide +kernel
theorem dX4_init_14 : decode cX4_init 14 = .ok (.return_, 1) := by decide +kernel
theorem dX4_digestOn_0 : decode cX4_digestOn 0 = .ok (.lload_n 1, 1) := by decide +kernel
theorem dX4_digestOn_1 : decode cX4_digestOn 1 = .ok (.lconst 0, 1) := by decide +kernel
theorem dX4_digestOn_2 : decode cX4_digestOn 2 = .ok (.invokestatic 16, 3) := by decide +kernel
theorem dX4_digestOn_5 : decode cX4_digestOn 5 = .ok (.lconst 0, 1) := by decide +kernel
theorem dX4_digestOn_6 : decode cX4_digestOn 6 = .ok (.invokestatic 16, 3) := by decide +kernel
theorem dX4_digestOn_9 : decode cX4_digestOn 9 = .ok (.lreturn, 1) := by decide +kernel
theorem dX4_leadOnAsKey_0 : decode cX4_leadOnAsKey 0 = .ok (.aload_n 0, 1) := by decide +kernel
theorem dX4_leadOnAsKey_1 : decode cX4_leadOnAsKey 1 = .ok (.getfield 22, 3) := by decide +kernel
theorem dX4_leadOnAsKey_4 : decode cX4_leadOnAsKey 4 = .ok (.astore_n 2, 1) := by decide +kernel
theorem dX4_leadOnAsKey_5 : decode cX4_leadOnAsKey 5 = .ok (.aload_n 2, 1) := by decide +kernel
theorem dX4_leadOnAsKey_6 : decode cX4_leadOnAsKey 6 = .ok (.ifnull 19, 3) := by decide +kernel
theorem dX4_leadOnAsKey_9 : decode cX4_leadOnAsKey 9 = .ok (.aload_n 1, 1) := by decide +kernel
theorem dX4_leadOnAsKey_10 : decode cX4_leadOnAsKey 10 = .ok (.aload_n 2, 1) := by decide +kernel
theorem dX4_leadOnAsKey_11 : decode cX4_leadOnAsKey 11 = .ok (.getfield 26, 3) := by decide +kernel
theorem dX4_leadOnAsKey_14 : decode cX4_leadOnAsKey 14 = .ok (.invokevirtual 32, 3) := by decide +kernel
theorem dX4_leadOnAsKey_17 : decode cX4_leadOnAsKey 17 = .ok (.aload_n 2, 1) := by decide +kernel
theorem dX4_leadOnAsKey_18 : decode cX4_leadOnAsKey 18 = .ok (.getfield 38, 3) := by decide +kernel
theorem dX4_leadOnAsKey_21 : decode cX4_leadOnAsKey 21 = .ok (.astore_n 2, 1) := by decide +kernel
theorem dX4_leadOnAsKey_22 : decode cX4_leadOnAsKey 22 = .ok (.goto (-17), 3) := by decide +kernel
theorem dX4_leadOnAsKey_25 : decode cX4_leadOnAsKey 25 = .ok (.aload_n 0, 1) := by decide +kernel
theorem dX4_leadOnAsKey_26 : decode cX4_leadOnAsKey 26 = .ok (.aconst_null, 1) := by decide +kernel
theorem dX4_leadOnAsKey_27 : decode cX4_leadOnAsKey 27 = .ok (.putfield 22, 3) := by decide +kernel
theorem dX4_leadOnAsKey_30 : decode cX4_leadOnAsKey 30 = .ok (.return_, 1) := by decide +kernel
theorem dX5_init_0 : decode cX5_init 0 = .ok (.aload_n 0, 1) := by decide +kernel
theorem dX5_init_1 : decode cX5_init 1 = .ok (.invokespecial 1, 3) := by decide +kernel
theorem dX5_init_4 : decode cX5_init 4 = .ok (.return_, 1) := by decide +kernel
theorem dX5_begin_0 : decode cX5_begin 0 = .ok (.aload_n 0, 1) := by decide +kernel
theorem dX5_begin_1 : decode cX5_begin 1 = .ok (.aconst_null, 1) := by decide +kernel
theorem dX5_begin_2 : decode cX5_begin 2 = .ok (.putfield 7, 3) := by decide +kernel
theorem dX5_begin_5 : decode cX5_begin 5 = .ok (.aload_n 0, 1) := by decide +kernel
theorem dX5_begin_6 : decode cX5_begin 6 = .ok (.aconst_null, 1) := by decide +kernel
theorem dX5_begin_7 : decode cX5_begin 7 = .ok (.putfield 13, 3) := by decide +kernel
theorem dX5_begin_10 : decode cX5_begin 10 = .ok (.aload_n 0, 1) := by decide +kernel
theorem dX5_begin_11 : decode cX5_begin 11 = .ok (.iconst 0, 1) := by decide +kernel
theorem dX5_begin_12 : decode cX5_begin 12 = .ok (.putfield 16, 3) := by decide +kernel
theorem dX5_begin_15 : decode cX5_begin 15 = .ok (.aload_n 0, 1) := by decide +kernel
theorem dX5_begin_16 : decode cX5_begin 16 = .ok (.dup, 1) := by decide +kernel
theorem dX5_begin_17 : decode cX5_begin 17 = .ok (.getfield 20, 3) := by decide +kernel
theorem dX5_begin_20 : decode cX5_begin 20 = .ok (.iconst 1, 1) := by decide +kernel
theorem dX5_begin_21 : decode cX5_begin 21 = .ok (.iadd, 1) := by decide +kernel
theorem dX5_begin_22 : decode cX5_begin 22 = .ok (.putfield 20, 3) := by decide +kernel
theorem dX5_begin_25 : decode cX5_begin 25 = .ok (.return_, 1) := by decide +kernel
theorem dX5_has_0 : decode cX5_has 0 = .ok (.aload_n 1, 1) := by decide +kernel
theorem dX5_has_1 : decode cX5_has 1 = .ok (.getfield 23, 3) := by decide +kernel
theorem dX5_has_4 : decode cX5_has 4 = .ok (.aload_n 0, 1) := by decide +kernel
theorem dX5_has_5 : decode cX5_has 5 = .ok (.getfield 20, 3) := by decide +kernel
theorem dX5_has_8 : decode cX5_has 8 = .ok (.if_icmp .ne 7, 3) := by decide +kernel
theorem dX5_has_11 : decode cX5_has 11 = .ok (.iconst 1, 1) := by decide +kernel
theorem dX5_has_12 : decode cX5_has 12 = .ok (.goto 4, 3) := by decide +kernel
theorem dX5_has_15 : decode cX5_has 15 = .ok (.iconst 0, 1) := by decide +kernel
theorem dX5_has_16 : decode cX5_has 16 = .ok (.ireturn, 1) := by decide +kernel
theorem dX5_comeTo_0 : decode cX5_comeTo 0 = .ok (.aload_n 1, 1) := by decide +kernel
theorem dX5_comeTo_1 : decode cX5_comeTo 1 = .ok (.ifnull 11, 3) := by decide +kernel
theorem dX5_comeTo_4 : decode cX5_comeTo 4 = .ok (.aload_n 0, 1) := by decide +kernel
theorem dX5_comeTo_5 : decode cX5_comeTo 5 = .ok (.aload_n 1, 1) := by decide +kernel
theorem dX5_comeTo_6 : decode cX5_comeTo 6 = .ok (.invokevirtual 28, 3) := by decide +kernel
theorem dX5_comeTo_9 : decode cX5_comeTo 9 = .ok (.ifCond .eq 4, 3) := by decide +kernel
theorem dX5_comeTo_12 : decode cX5_comeTo 12 = .ok (.return_, 1) := by decide +kernel
theorem dX5_comeTo_13 : decode cX5_comeTo 13 = .ok (.aload_n 1, 1) := by decide +kernel
theorem dX5_comeTo_14 : decode cX5_comeTo 14 = .ok (.aload_n 0, 1) := by decide +kernel
theorem dX5_comeTo_15 : decode cX5_comeTo 15 = .ok (.getfield 20, 3) := by decide +kernel
theorem dX5_comeTo_18 : decode cX5_comeTo 18 = .ok (.putfield 23, 3) := by decide +kernel
theorem dX5_comeTo_21 : decode cX5_comeTo 21 = .ok (.aload_n 1, 1) := by decide +kernel
theorem dX5_comeTo_22 : decode cX5_comeTo 22 = .ok (.aconst_null, 1) := by decide +kernel
theorem dX5_comeTo_23 : decode cX5_comeTo 23 = .ok (.putfield 32, 3) := by decide +kernel
theorem dX5_comeTo_26 : decode cX5_comeTo 26 = .ok (.aload_n 0, 1) := by decide +kernel
theorem dX5_comeTo_27 : decode cX5_comeTo 27 = .ok (.getfield 13, 3) := by decide +kernel
theorem dX5_comeTo_30 : decode cX5_comeTo 30 = .ok (.ifnonnull 11, 3) := by decide +kernel
theorem dX5_comeTo_33 : decode cX5_comeTo 33 = .ok (.aload_n 0, 1) := by decide +kernel
theorem dX5_comeTo_34 : decode cX5_comeTo 34 = .ok (.aload_n 1, 1) := by decide +kernel
theorem dX5_comeTo_35 : decode cX5_comeTo 35 = .ok (.putfield 7, 3) := by decide +kernel
theorem dX5_comeTo_38 : decode cX5_comeTo 38 = .ok (.goto 11, 3) := by decide +kernel
theorem dX5_comeTo_41 : decode cX5_comeTo 41 = .ok (.aload_n 0, 1) := by decide +kernel
theorem dX5_comeTo_42 : decode cX5_comeTo 42 = .ok (.getfield 13, 3) := by decide +kernel
theorem dX5_comeTo_45 : decode cX5_comeTo 45 = .ok (.aload_n 1, 1) := by decide +kernel
theorem dX5_comeTo_46 : decode cX5_comeTo 46 = .ok (.putfield 32, 3) := by decide +kernel
theorem dX5_comeTo_49 : decode cX5_comeTo 49 = .ok (.aload_n 0, 1) := by decide +kernel
theorem dX5_comeTo_50 : decode cX5_comeTo 50 = .ok (.aload_n 1, 1) := by decide +kernel
theorem dX5_comeTo_51 : decode cX5_comeTo 51 = .ok (.putfield 13, 3) := by decide +kernel
theorem dX5_comeTo_54 : decode cX5_comeTo 54 = .ok (.aload_n 0, 1) := by decide +kernel
theorem dX5_comeTo_55 : decode cX5_comeTo 55 = .ok (.dup, 1) := by decide +kernel
theorem dX5_comeTo_56 : decode cX5_comeTo 56 = .ok (.getfield 16, 3) := by decide +kernel
theorem dX5_comeTo_59 : decode cX5_comeTo 59 = .ok (.iconst 1, 1) := by decide +kernel
theorem dX5_comeTo_60 : decode cX5_comeTo 60 = .ok (.iadd, 1) := by decide +kernel
theorem dX5_comeTo_61 : decode cX5_comeTo 61 = .ok (.putfield 16, 3) := by decide +kernel
theorem dX5_comeTo_64 : decode cX5_comeTo 64 = .ok (.aload_n 1, 1) := by decide +kernel
theorem dX5_comeTo_65 : decode cX5_comeTo 65 = .ok (.aload_n 0, 1) := by decide +kernel
theorem dX5_comeTo_66 : decode cX5_comeTo 66 = .ok (.getfield 16, 3) := by decide +kernel
theorem dX5_comeTo_69 : decode cX5_comeTo 69 = .ok (.putfield 35, 3) := by decide +kernel
theorem dX5_comeTo_72 : decode cX5_comeTo 72 = .ok (.return_, 1) := by decide +kernel
theorem dX6_init_0 : decode cX6_init 0 = .ok (.aload_n 0, 1) := by decide +kernel
theorem dX6_init_1 : decode cX6_init 1 = .ok (.invokespecial 1, 3) := by decide +kernel
theorem dX6_init_4 : decode cX6_init 4 = .ok (.aload_n 0, 1) := by decide +kernel
theorem dX6_init_5 : decode cX6_init 5 = .ok (.sipush 384, 3) := by decide +kernel
theorem dX6_init_8 : decode cX6_init 8 = .ok (.anewarray 9, 3) := by decide +kernel
theorem dX6_init_11 : decode cX6_init 11 = .ok (.putfield 11, 3) := by decide +kernel
theorem dX6_init_14 : decode cX6_init 14 = .ok (.aload_n 0, 1) := by decide +kernel
theorem dX6_init_15 : decode cX6_init 15 = .ok (.bipush 20, 2) := by decide +kernel
theorem dX6_init_17 : decode cX6_init 17 = .ok (.newarray .int, 2) := by decide +kernel
theorem dX6_init_19 : decode cX6_init 19 = .ok (.putfield 15, 3) := by decide +kernel
theorem dX6_init_22 : decode cX6_init 22 = .ok (.aload_n 0, 1) := by decide +kernel
theorem dX6_init_23 : decode cX6_init 23 = .ok (.bipush 10, 2) := by decide +kernel
theorem dX6_init_25 : decode cX6_init 25 = .ok (.newarray .int, 2) := by decide +kernel
theorem dX6_init_27 : decode cX6_init 27 = .ok (.putfield 19, 3) := by decide +kernel
theorem dX6_init_30 : decode cX6_init 30 = .ok (.aload_n 0, 1) := by decide +kernel
theorem dX6_init_31 : decode cX6_init 31 = .ok (.new 22, 3) := by decide +kernel
theorem dX6_init_34 : decode cX6_init 34 = .ok (.dup, 1) := by decide +kernel
theorem dX6_init_35 : decode cX6_init 35 = .ok (.invokespecial 24, 3) := by decide +kernel
theorem dX6_init_38 : decode cX6_init 38 = .ok (.putfield 25, 3) := by decide +kernel
theorem dX6_init_41 : decode cX6_init 41 = .ok (.aload_n 0, 1) := by decide +kernel
theorem dX6_init_42 : decode cX6_init 42 = .ok (.new 22, 3) := by decide +kernel
theorem dX6_init_45 : decode cX6_init 45 = .ok (.dup, 1) := by decide +kernel
theorem dX6_init_46 : decode cX6_init 46 = .ok (.invokespecial 24, 3) := by decide +kernel
theorem dX6_init_49 : decode cX6_init 49 = .ok (.putfield 29, 3) := by decide +kernel
theorem dX6_init_52 : decode cX6_init 52 = .ok (.aload_n 0, 1) := by decide +kernel
theorem dX6_init_53 : decode cX6_init 53 = .ok (.new 32, 3) := by decide +kernel
theorem dX6_init_56 : decode cX6_init 56 = .ok (.dup, 1) := by decide +kernel
theorem dX6_init_57 : decode cX6_init 57 = .ok (.invokespecial 34, 3) := by decide +kernel
theorem dX6_init_60 : decode cX6_init 60 = .ok (.putfield 35, 3) := by decide +kernel
theorem dX6_init_63 : decode cX6_init 63 = .ok (.aload_n 0, 1) := by decide +kernel
theorem dX6_init_64 : decode cX6_init 64 = .ok (.sipush 600, 3) := by decide +kernel
theorem dX6_init_67 : decode cX6_init 67 = .ok (.sipush 30000, 3) := by decide +kernel
theorem dX6_init_70 : decode cX6_init 70 = .ok (.iload_n 1, 1) := by decide +kernel
theorem dX6_init_71 : decode cX6_init 71 = .ok (.invokestatic 39, 3) := by decide +kernel
theorem dX6_init_74 : decode cX6_init 74 = .ok (.invokestatic 45, 3) := by decide +kernel
theorem dX6_init_77 : decode cX6_init 77 = .ok (.putfield 48, 3) := by decide +kernel
theorem dX6_init_80 : decode cX6_init 80 = .ok (.aload_n 0, 1) := by decide +kernel
theorem dX6_init_81 : decode cX6_init 81 = .ok (.bipush 64, 2) := by decide +kernel
theorem dX6_init_83 : decode cX6_init 83 = .ok (.sipush 4000, 3) := by decide +kernel
theorem dX6_init_86 : decode cX6_init 86 = .ok (.iload_n 2, 1) := by decide +kernel
theorem dX6_init_87 : decode cX6_init 87 = .ok (.invokestatic 39, 3) := by decide +kernel
theorem dX6_init_90 : decode cX6_init 90 = .ok (.invokestatic 45, 3) := by decide +kernel
theorem dX6_init_93 : decode cX6_init 93 = .ok (.putfield 52, 3) := by decide +kernel
theorem dX6_init_96 : decode cX6_init 96 = .ok (.aload_n 0, 1) := by decide +kernel
theorem dX6_init_97 : decode cX6_init 97 = .ok (.getfield 19, 3) := by decide +kernel
theorem dX6_init_100 : decode cX6_init 100 = .ok (.bipush 7, 2) := by decide +kernel
theorem dX6_init_102 : decode cX6_init 102 = .ok (.bipush 64, 2) := by decide +kernel
theorem dX6_init_104 : decode cX6_init 104 = .ok (.iastore, 1) := by decide +kernel
theorem dX6_init_105 : decode cX6_init 105 = .ok (.return_, 1) := by decide +kernel
theorem dX6_plain_0 : decode cX6_plain 0 = .ok (.aload_n 0, 1) := by decide +kernel
theorem dX6_plain_1 : decode cX6_plain 1 = .ok (.iload_n 1, 1) := by decide +kernel
theorem dX6_plain_2 : decode cX6_plain 2 = .ok (.invokevirtual 55, 3) := by decide +kernel
theorem dX6_plain_5 : decode cX6_plain 5 = .ok (.iload_n 2, 1) := by decide +kernel
theorem dX6_plain_6 : decode cX6_plain 6 = .ok (.iconst 0, 1) := by decide +kernel
theorem dX6_plain_7 : decode cX6_plain 7 = .ok (.bipush 20, 2) := by decide +kernel
theorem dX6_plain_9 : decode cX6_plain 9 = .ok (.invokestatic 59, 3) := by decide +kernel
theorem dX6_plain_12 : decode cX6_plain 12 = .ok (.iload_n 3, 1) := by decide +kernel
theorem dX6_plain_13 : decode cX6_plain 13 = .ok (.iconst 0, 1) := by decide +kernel
theorem dX6_plain_14 : decode cX6_plain 14 = .ok (.bipush 20, 2) := by decide +kernel
theorem dX6_plain_16 : decode cX6_plain 16 = .ok (.invokestatic 59, 3) := by decide +kernel
theorem dX6_plain_19 : decode cX6_plain 19 = .ok (.iconst 2, 1) := by decide +kernel
theorem dX6_plain_20 : decode cX6_plain 20 = .ok (.iload_n 2, 1) := by decide +kernel
theorem dX6_plain_21 : decode cX6_plain 21 = .ok (.iadd, 1) := by decide +kernel
theorem dX6_plain_22 : decode cX6_plain 22 = .ok (.iload_n 3, 1) := by decide +kernel
theorem dX6_plain_23 : decode cX6_plain 23 = .ok (.iadd, 1) := by decide +kernel
theorem dX6_plain_24 : decode cX6_plain 24 = .ok (.istore 4, 2) := by decide +kernel
theorem dX6_plain_26 : decode cX6_plain 26 = .ok (.aload_n 0, 1) := by decide +kernel
theorem dX6_plain_27 : decode cX6_plain 27 = .ok (.iload 4, 2) := by decide +kernel
theorem dX6_plain_29 : decode cX6_plain 29 = .ok (.invokevirtual 63, 3) := by decide +kernel
theorem dX6_plain_32 : decode cX6_plain 32 = .ok (.ifCond .eq 23, 3) := by decide +kernel
theorem dX6_plain_35 : decode cX6_plain 35 = .ok (.aload_n 0, 1) := by decide +kernel
theorem dX6_plain_36 : decode cX6_plain 36 = .ok (.iload_n 1, 1) := by decide +kernel
theorem dX6_plain_37 : decode cX6_plain 37 = .ok (.new 67, 3) := by decide +kernel
theorem dX6_plain_40 : decode cX6_plain 40 = .ok (.dup, 1) := by decide +kernel
theorem dX6_plain_41 : decode cX6_plain 41 = .ok (.iconst 0, 1) := by decide +kernel
theorem dX6_plain_42 : decode cX6_plain 42 = .ok (.iload 4, 2) := by decide +kernel
theorem dX6_plain_44 : decode cX6_plain 44 = .ok (.iload_n 2, 1) := by decide +kernel
theorem dX6_plain_45 : decode cX6_plain 45 = .ok (.iload_n 3, 1) := by decide +kernel
theorem dX6_plain_46 : decode cX6_plain 46 = .ok (.invokespecial 69, 3) := by decide +kernel
theorem dX6_plain_49 : decode cX6_plain 49 = .ok (.invokevirtual 72, 3) := by decide +kernel
theorem dX6_plain_52 : decode cX6_plain 52 = .ok (.goto 4, 3) := by decide +kernel
theorem dX6_plain_55 : decode cX6_plain 55 = .ok (.iconst 0, 1) := by decide +kernel
theorem dX6_plain_56 : decode cX6_plain 56 = .ok (.ireturn, 1) := by decide +kernel
theorem dX6_row_0 : decode cX6_row 0 = .ok (.aload_n 0, 1) := by decide +kernel
theorem dX6_row_1 : decode cX6_row 1 = .ok (.iload_n 1, 1) := by decide +kernel
theorem dX6_row_2 : decode cX6_row 2 = .ok (.invokevirtual 55, 3) := by decide +kernel
theorem dX6_row_5 : decode cX6_row 5 = .ok (.iload_n 2, 1) := by decide +kernel
theorem dX6_row_6 : decode cX6_row 6 = .ok (.iconst 0, 1) := by decide +kernel
theorem dX6_row_7 : decode cX6_row 7 = .ok (.sipush 3000, 3) := by decide +kernel
theorem dX6_row_10 : decode cX6_row 10 = .ok (.invokestatic 59, 3) := by decide +kernel
theorem dX6_row_13 : decode cX6_row 13 = .ok (.iconst 2, 1) := by decide +kernel
theorem dX6_row_14 : decode cX6_row 14 = .ok (.iload_n 2, 1) := by decide +kernel
theorem dX6_row_15 : decode cX6_row 15 = .ok (.iadd, 1) := by decide +kernel
theorem dX6_row_16 : decode cX6_row 16 = .ok (.istore 4, 2) := by decide +kernel
theorem dX6_row_18 : decode cX6_row 18 = .ok (.aload_n 0, 1) := by decide +kernel
theorem dX6_row_19 : decode cX6_row 19 = .ok (.iload 4, 2) := by decide +kernel
theorem dX6_row_21 : decode cX6_row 21 = .ok (.invokevirtual 63, 3) := by decide +kernel
theorem dX6_row_24 : decode cX6_row 24 = .ok (.ifCond .ne 5, 3) := by decide +kernel
theorem dX6_row_27 : decode cX6_row 27 = .ok (.iconst 0, 1) := by decide +kernel
theorem dX6_row_28 : decode cX6_row 28 = .ok (.ireturn, 1) := by decide +kernel
theorem dX6_row_29 : decode cX6_row 29 = .ok (.aload_n 0, 1) := by decide +kernel
theorem dX6_row_30 : decode cX6_row 30 = .ok (.iload_n 1, 1) := by decide +kernel
theorem dX6_row_31 : decode cX6_row 31 = .ok (.iload_n 3, 1) := by decide +kernel
theorem dX6_row_32 : decode cX6_row 32 = .ok (.ifCond .eq 18, 3) := by decide +kernel
theorem dX6_row_35 : decode cX6_row 35 = .ok (.new 67, 3) := by decide +kernel
theorem dX6_row_38 : decode cX6_row 38 = .ok (.dup, 1) := by decide +kernel
theorem dX6_row_39 : decode cX6_row 39 = .ok (.iconst 1, 1) := by decide +kernel
theorem dX6_row_40 : decode cX6_row 40 = .ok (.iload 4, 2) := by decide +kernel
theorem dX6_row_42 : decode cX6_row 42 = .ok (.iload_n 2, 1) := by decide +kernel
theorem dX6_row_43 : decode cX6_row 43 = .ok (.iconst 0, 1) := by decide +kernel
theorem dX6_row_44 : decode cX6_row 44 = .ok (.invokespecial 69, 3) := by decide +kernel
theorem dX6_row_47 : decode cX6_row 47 = .ok (.goto 15, 3) := by decide +kernel
theorem dX6_row_50 : decode cX6_row 50 = .ok (.new 67, 3) := by decide +kernel
theorem dX6_row_53 : decode cX6_row 53 = .ok (.dup, 1) := by decide +kernel
theorem dX6_row_54 : decode cX6_row 54 = .ok (.iconst 2, 1) := by decide +kernel
theorem dX6_row_55 : decode cX6_row 55 = .ok (.iload 4, 2) := by decide +kernel
theorem dX6_row_57 : decode cX6_row 57 = .ok (.iconst 0, 1) := by decide +kernel
theorem dX6_row_58 : decode cX6_row 58 = .ok (.iload_n 2, 1) := by decide +kernel
theorem dX6_row_59 : decode cX6_row 59 = .ok (.invokespecial 69, 3) := by decide +kernel
theorem dX6_row_62 : decode cX6_row 62 = .ok (.invokevirtual 72, 3) := by decide +kernel
theorem dX6_row_65 : decode cX6_row 65 = .ok (.ireturn, 1) := by decide +kernel
theorem dX6_queue_0 : decode cX6_queue 0 = .ok (.aload_n 0, 1) := by decide +kernel
theorem dX6_queue_1 : decode cX6_queue 1 = .ok (.iload_n 1, 1) := by decide +kernel
theorem dX6_queue_2 : decode cX6_queue 2 = .ok (.invokevirtual 55, 3) := by decide +kernel
theorem dX6_queue_5 : decode cX6_queue 5 = .ok (.aload_n 0, 1) := by decide +kernel
theorem dX6_queue_6 : decode cX6_queue 6 = .ok (.iconst 3, 1) := by decide +kernel
theorem dX6_queue_7 : decode cX6_queue 7 = .ok (.invokevirtual 63, 3) := by decide +kernel
theorem dX6_queue_10 : decode cX6_queue 10 = .ok (.ifCond .eq 18, 3) := by decide +kernel
theorem dX6_queue_13 : decode cX6_queue 13 = .ok (.aload_n 0, 1) := by decide +kernel
theorem dX6_queue_14 : decode cX6_queue 14 = .ok (.iload_n 1, 1) := by decide +kernel
theorem dX6_queue_15 : decode cX6_queue 15 = .ok (.new 76, 3) := by decide +kernel
theorem dX6_queue_18 : decode cX6_queue 18 = .ok (.dup, 1) := by decide +kernel
theorem dX6_queue_19 : decode cX6_queue 19 = .ok (.invokespecial 78, 3) := by decide +kernel
theorem dX6_queue_22 : decode cX6_queue 22 = .ok (.invokevirtual 72, 3) := by decide +kernel
theorem dX6_queue_25 : decode cX6_queue 25 = .ok (.goto 4, 3) := by decide +kernel
theorem dX6_queue_28 : decode cX6_queue 28 = .ok (.iconst 0, 1) := by decide +kernel
theorem dX6_queue_29 : decode cX6_queue 29 = .ok (.ireturn, 1) := by decide +kernel
theorem dX6_loose_0 : decode cX6_loose 0 = .ok (.aload_n 0, 1) := by decide +kernel
theorem dX6_loose_1 : decode cX6_loose 1 = .ok (.iload_n 1, 1) := by decide +kernel
theorem dX6_loose_2 : decode cX6_loose 2 = .ok (.invokevirtual 55, 3) := by decide +kernel
theorem dX6_loose_5 : decode cX6_loose 5 = .ok (.iload_n 2, 1) := by decide +kernel
theorem dX6_loose_6 : decode cX6_loose 6 = .ok (.iconst 0, 1) := by decide +kernel
theorem dX6_loose_7 : decode cX6_loose 7 = .ok (.iconst 2, 1) := by decide +kernel
theorem dX6_loose_8 : decode cX6_loose 8 = .ok (.invokestatic 59, 3) := by decide +kernel
theorem dX6_loose_11 : decode cX6_loose 11 = .ok (.aload_n 0, 1) := by decide +kernel
theorem dX6_loose_12 : decode cX6_loose 12 = .ok (.iload_n 3, 1) := by decide +kernel
theorem dX6_loose_13 : decode cX6_loose 13 = .ok (.invokevirtual 55, 3) := by decide +kernel
theorem dX6_loose_16 : decode cX6_loose 16 = .ok (.aload_n 0, 1) := by decide +kernel
theorem dX6_loose_17 : decode cX6_loose 17 = .ok (.iload 4, 2) := by decide +kernel
theorem dX6_loose_19 : decode cX6_loose 19 = .ok (.invokevirtual 79, 3) := by decide +kernel
theorem dX6_loose_22 : decode cX6_loose 22 = .ok (.aload_n 0, 1) := by decide +kernel
theorem dX6_loose_23 : decode cX6_loose 23 = .ok (.iload_n 3, 1) := by decide +kernel
theorem dX6_loose_24 : decode cX6_loose 24 = .ok (.invokevirtual 82, 3) := by decide +kernel
theorem dX6_loose_27 : decode cX6_loose 27 = .ok (.astore 5, 2) := by decide +kernel
theorem dX6_loose_29 : decode cX6_loose 29 = .ok (.aload_n 0, 1) := by decide +kernel
theorem dX6_loose_30 : decode cX6_loose 30 = .ok (.iload 4, 2) := by decide +kernel
theorem dX6_loose_32 : decode cX6_loose 32 = .ok (.invokevirtual 86, 3) := by decide +kernel
theorem dX6_loose_35 : decode cX6_loose 35 = .ok (.astore 6, 2) := by decide +kernel
theorem dX6_loose_37 : decode cX6_loose 37 = .ok (.aload_n 0, 1) := by decide +kernel
theorem dX6_loose_38 : decode cX6_loose 38 = .ok (.iconst 4, 1) := by decide +kernel
theorem dX6_loose_39 : decode cX6_loose 39 = .ok (.invokevirtual 63, 3) := by decide +kernel
theorem dX6_loose_42 : decode cX6_loose 42 = .ok (.ifCond .eq 27, 3) := by decide +kernel
theorem dX6_loose_45 : decode cX6_loose 45 = .ok (.aload_n 0, 1) := by decide +kernel
theorem dX6_loose_46 : decode cX6_loose 46 = .ok (.iload_n 1, 1) := by decide +kernel
theorem dX6_loose_47 : decode cX6_loose 47 = .ok (.new 90, 3) := by decide +kernel
theorem dX6_loose_50 : decode cX6_loose 50 = .ok (.dup, 1) := by decide +kernel
theorem dX6_loose_51 : decode cX6_loose 51 = .ok (.iconst 4, 1) := by decide +kernel
theorem dX6_loose_52 : decode cX6_loose 52 = .ok (.iload_n 2, 1) := by decide +kernel
theorem dX6_loose_53 : decode cX6_loose 53 = .ok (.iadd, 1) := by decide +kernel
theorem dX6_loose_54 : decode cX6_loose 54 = .ok (.iconst 4, 1) := by decide +kernel
theorem dX6_loose_55 : decode cX6_loose 55 = .ok (.aload 5, 2) := by decide +kernel
theorem dX6_loose_57 : decode cX6_loose 57 = .ok (.aconst_null, 1) := by decide +kernel
theorem dX6_loose_58 : decode cX6_loose 58 = .ok (.aload 6, 2) := by decide +kernel
theorem dX6_loose_60 : decode cX6_loose 60 = .ok (.invokespecial 92, 3) := by decide +kernel
theorem dX6_loose_63 : decode cX6_loose 63 = .ok (.invokevirtual 72, 3) := by decide +kernel
theorem dX6_loose_66 : decode cX6_loose 66 = .ok (.goto 4, 3) := by decide +kernel
theorem dX6_loose_69 : decode cX6_loose 69 = .ok (.iconst 0, 1) := by decide +kernel
theorem dX6_loose_70 : decode cX6_loose 70 = .ok (.ireturn, 1) := by decide +kernel
theorem dX6_pair_0 : decode cX6_pair 0 = .ok (.aload_n 0, 1) := by decide +kernel
theorem dX6_pair_1 : decode cX6_pair 1 = .ok (.iload_n 1, 1) := by decide +kernel
theorem dX6_pair_2 : decode cX6_pair 2 = .ok (.invokevirtual 55, 3) := by decide +kernel
theorem dX6_pair_5 : decode cX6_pair 5 = .ok (.aload_n 0, 1) := by decide +kernel
theorem dX6_pair_6 : decode cX6_pair 6 = .ok (.iload_n 2, 1) := by decide +kernel
theorem dX6_pair_7 : decode cX6_pair 7 = .ok (.invokevirtual 55, 3) := by decide +kernel
theorem dX6_pair_10 : decode cX6_pair 10 = .ok (.aload_n 0, 1) := by decide +kernel
theorem dX6_pair_11 : decode cX6_pair 11 = .ok (.iload_n 3, 1) := by decide +kernel
theorem dX6_pair_12 : decode cX6_pair 12 = .ok (.invokevirtual 79, 3) := by decide +kernel
theorem dX6_pair_15 : decode cX6_pair 15 = .ok (.aload_n 0, 1) := by decide +kernel
theorem dX6_pair_16 : decode cX6_pair 16 = .ok (.iload 4, 2) := by decide +kernel
theorem dX6_pair_18 : decode cX6_pair 18 = .ok (.invokevirtual 79, 3) := by decide +kernel
theorem dX6_pair_21 : decode cX6_pair 21 = .ok (.aload_n 0, 1) := by decide +kernel
theorem dX6_pair_22 : decode cX6_pair 22 = .ok (.iload_n 2, 1) := by decide +kernel
theorem dX6_pair_23 : decode cX6_pair 23 = .ok (.invokevirtual 82, 3) := by decide +kernel
theorem dX6_pair_26 : decode cX6_pair 26 = .ok (.astore 5, 2) := by decide +kernel
theorem dX6_pair_28 : decode cX6_pair 28 = .ok (.aload_n 0, 1) := by decide +kernel
theorem dX6_pair_29 : decode cX6_pair 29 = .ok (.iload_n 3, 1) := by decide +kernel
theorem dX6_pair_30 : decode cX6_pair 30 = .ok (.invokevirtual 95, 3) := by decide +kernel
theorem dX6_pair_33 : decode cX6_pair 33 = .ok (.astore 6, 2) := by decide +kernel
theorem dX6_pair_35 : decode cX6_pair 35 = .ok (.aload_n 0, 1) := by decide +kernel
theorem dX6_pair_36 : decode cX6_pair 36 = .ok (.iload 4, 2) := by decide +kernel
theorem dX6_pair_38 : decode cX6_pair 38 = .ok (.invokevirtual 86, 3) := by decide +kernel
theorem dX6_pair_41 : decode cX6_pair 41 = .ok (.astore 7, 2) := by decide +kernel
theorem dX6_pair_43 : decode cX6_pair 43 = .ok (.aload_n 0, 1) := by decide +kernel
theorem dX6_pair_44 : decode cX6_pair 44 = .ok (.iconst 5, 1) := by decide +kernel
theorem dX6_pair_45 : decode cX6_pair 45 = .ok (.invokevirtual 63, 3) := by decide +kernel
theorem dX6_pair_48 : decode cX6_pair 48 = .ok (.ifCond .eq 27, 3) := by decide +kernel
theorem dX6_pair_51 : decode cX6_pair 51 = .ok (.aload_n 0, 1) := by decide +kernel
theorem dX6_pair_52 : decode cX6_pair 52 = .ok (.iload_n 1, 1) := by decide +kernel
theorem dX6_pair_53 : decode cX6_pair 53 = .ok (.new 90, 3) := by decide +kernel
theorem dX6_pair_56 : decode cX6_pair 56 = .ok (.dup, 1) := by decide +kernel
theorem dX6_pair_57 : decode cX6_pair 57 = .ok (.bipush 7, 2) := by decide +kernel
theorem dX6_pair_59 : decode cX6_pair 59 = .ok (.iconst 5, 1) := by decide +kernel
theorem dX6_pair_60 : decode cX6_pair 60 = .ok (.aload 5, 2) := by decide +kernel
theorem dX6_pair_62 : decode cX6_pair 62 = .ok (.aload 6, 2) := by decide +kernel
theorem dX6_pair_64 : decode cX6_pair 64 = .ok (.aload 7, 2) := by decide +kernel
theorem dX6_pair_66 : decode cX6_pair 66 = .ok (.invokespecial 92, 3) := by decide +kernel
theorem dX6_pair_69 : decode cX6_pair 69 = .ok (.invokevirtual 72, 3) := by decide +kernel
theorem dX6_pair_72 : decode cX6_pair 72 = .ok (.goto 4, 3) := by decide +kernel
theorem dX6_pair_75 : decode cX6_pair 75 = .ok (.iconst 0, 1) := by decide +kernel
theorem dX6_pair_76 : decode cX6_pair 76 = .ok (.ireturn, 1) := by decide +kernel
theorem dX6_copy_0 : decode cX6_copy 0 = .ok (.aload_n 0, 1) := by decide +kernel
theorem dX6_copy_1 : decode cX6_copy 1 = .ok (.iload_n 1, 1) := by decide +kernel
theorem dX6_copy_2 : decode cX6_copy 2 = .ok (.invokevirtual 55, 3) := by decide +kernel
theorem dX6_copy_5 : decode cX6_copy 5 = .ok (.aload_n 0, 1) := by decide +kernel
theorem dX6_copy_6 : decode cX6_copy 6 = .ok (.iload_n 2, 1) := by decide +kernel
theorem dX6_copy_7 : decode cX6_copy 7 = .ok (.invokevirtual 79, 3) := by decide +kernel
theorem dX6_copy_10 : decode cX6_copy 10 = .ok (.aload_n 0, 1) := by decide +kernel
theorem dX6_copy_11 : decode cX6_copy 11 = .ok (.iload_n 1, 1) := by decide +kernel
theorem dX6_copy_12 : decode cX6_copy 12 = .ok (.aload_n 0, 1) := by decide +kernel
theorem dX6_copy_13 : decode cX6_copy 13 = .ok (.iload_n 2, 1) := by decide +kernel
theorem dX6_copy_14 : decode cX6_copy 14 = .ok (.invokevirtual 95, 3) := by decide +kernel
theorem dX6_copy_17 : decode cX6_copy 17 = .ok (.invokevirtual 98, 3) := by decide +kernel
theorem dX6_copy_20 : decode cX6_copy 20 = .ok (.ireturn, 1) := by decide +kernel
theorem dX6_link_0 : decode cX6_link 0 = .ok (.aload_n 0, 1) := by decide +kernel
theorem dX6_link_1 : decode cX6_link 1 = .ok (.iload_n 1, 1) := by decide +kernel
theorem dX6_link_2 : decode cX6_link 2 = .ok (.invokevirtual 55, 3) := by decide +kernel
theorem dX6_link_5 : decode cX6_link 5 = .ok (.iload_n 2, 1) := by decide +kernel
theorem dX6_link_6 : decode cX6_link 6 = .ok (.invokestatic 101, 3) := by decide +kernel
theorem dX6_link_9 : decode cX6_link 9 = .ok (.aload_n 0, 1) := by decide +kernel
theorem dX6_link_10 : decode cX6_link 10 = .ok (.iload_n 3, 1) := by decide +kernel
theorem dX6_link_11 : decode cX6_link 11 = .ok (.invokevirtual 79, 3) := by decide +kernel
theorem dX6_link_14 : decode cX6_link 14 = .ok (.aload_n 0, 1) := by decide +kernel
theorem dX6_link_15 : decode cX6_link 15 = .ok (.iload_n 1, 1) := by decide +kernel
theorem dX6_link_16 : decode cX6_link 16 = .ok (.iload_n 2, 1) := by decide +kernel
theorem dX6_link_17 : decode cX6_link 17 = .ok (.invokevirtual 104, 3) := by decide +kernel
theorem dX6_link_20 : decode cX6_link 20 = .ok (.astore 4, 2) := by decide +kernel
theorem dX6_link_22 : decode cX6_link 22 = .ok (.aload 4, 2) := by decide +kernel
theorem dX6_link_24 : decode cX6_link 24 = .ok (.getfield 108, 3) := by decide +kernel
theorem dX6_link_27 : decode cX6_link 27 = .ok (.iload_n 2, 1) := by decide +kernel
theorem dX6_link_28 : decode cX6_link 28 = .ok (.aload_n 0, 1) := by decide +kernel
theorem dX6_link_29 : decode cX6_link 29 = .ok (.iload_n 3, 1) := by decide +kernel
theorem dX6_link_30 : decode cX6_link 30 = .ok (.invokevirtual 95, 3) := by decide +kernel
theorem dX6_link_33 : decode cX6_link 33 = .ok (.aastore, 1) := by decide +kernel
theorem dX6_link_34 : decode cX6_link 34 = .ok (.aload 4, 2) := by decide +kernel
theorem dX6_link_36 : decode cX6_link 36 = .ok (.getfield 108, 3) := by decide +kernel
theorem dX6_link_39 : decode cX6_link 39 = .ok (.iload_n 2, 1) := by decide +kernel
theorem dX6_link_40 : decode cX6_link 40 = .ok (.aaload, 1) := by decide +kernel
theorem dX6_link_41 : decode cX6_link 41 = .ok (.invokestatic 111, 3) := by decide +kernel
theorem dX6_link_44 : decode cX6_link 44 = .ok (.ireturn, 1) := by decide +kernel
theorem dX6_fetch_0 : decode cX6_fetch 0 = .ok (.aload_n 0, 1) := by decide +kernel
theorem dX6_fetch_1 : decode cX6_fetch 1 = .ok (.iload_n 1, 1) := by decide +kernel
theorem dX6_fetch_2 : decode cX6_fetch 2 = .ok (.invokevirtual 55, 3) := by decide +kernel
theorem dX6_fetch_5 : decode cX6_fetch 5 = .ok (.aload_n 0, 1) := by decide +kernel
theorem dX6_fetch_6 : decode cX6_fetch 6 = .ok (.iload_n 2, 1) := by decide +kernel
theorem dX6_fetch_7 : decode cX6_fetch 7 = .ok (.invokevirtual 55, 3) := by decide +kernel
theorem dX6_fetch_10 : decode cX6_fetch 10 = .ok (.iload_n 3, 1) := by decide +kernel
theorem dX6_fetch_11 : decode cX6_fetch 11 = .ok (.invokestatic 101, 3) := by decide +kernel
theorem dX6_fetch_14 : decode cX6_fetch 14 = .ok (.aload_n 0, 1) := by decide +kernel
theorem dX6_fetch_15 : decode cX6_fetch 15 = .ok (.iload_n 1, 1) := by decide +kernel
theorem dX6_fetch_16 : decode cX6_fetch 16 = .ok (.aload_n 0, 1) := by decide +kernel
theorem dX6_fetch_17 : decode cX6_fetch 17 = .ok (.iload_n 2, 1) := by decide +kernel
theorem dX6_fetch_18 : decode cX6_fetch 18 = .ok (.iload_n 3, 1) := by decide +kernel
theorem dX6_fetch_19 : decode cX6_fetch 19 = .ok (.invokevirtual 104, 3) := by decide +kernel
theorem dX6_fetch_22 : decode cX6_fetch 22 = .ok (.getfield 108, 3) := by decide +kernel
theorem dX6_fetch_25 : decode cX6_fetch 25 = .ok (.iload_n 3, 1) := by decide +kernel
theorem dX6_fetch_26 : decode cX6_fetch 26 = .ok (.aaload, 1) := by decide +kernel
theorem dX6_fetch_27 : decode cX6_fetch 27 = .ok (.invokevirtual 98, 3) := by decide +kernel
theorem dX6_fetch_30 : decode cX6_fetch 30 = .ok (.ireturn, 1) := by decide +kernel
theorem dX6_set_0 : decode cX6_set 0 = .ok (.aload_n 0, 1) := by decide +kernel
theorem dX6_set_1 : decode cX6_set 1 = .ok (.iload_n 1, 1) := by decide +kernel
theorem dX6_set_2 : decode cX6_set 2 = .ok (.invokevirtual 55, 3) := by decide +kernel
theorem dX6_set_5 : decode cX6_set 5 = .ok (.iload_n 2, 1) := by decide +kernel
theorem dX6_set_6 : decode cX6_set 6 = .ok (.invokestatic 101, 3) := by decide +kernel
theorem dX6_set_9 : decode cX6_set 9 = .ok (.aload_n 0, 1) := by decide +kernel
theorem dX6_set_10 : decode cX6_set 10 = .ok (.iload_n 1, 1) := by decide +kernel
theorem dX6_set_11 : decode cX6_set 11 = .ok (.iload_n 2, 1) := by decide +kernel
theorem dX6_set_12 : decode cX6_set 12 = .ok (.invokevirtual 115, 3) := by decide +kernel
theorem dX6_set_15 : decode cX6_set 15 = .ok (.astore 5, 2) := by decide +kernel
theorem dX6_set_17 : decode cX6_set 17 = .ok (.aload 5, 2) := by decide +kernel
theorem dX6_set_19 : decode cX6_set 19 = .ok (.getfield 118, 3) := by decide +kernel
theorem dX6_set_22 : decode cX6_set 22 = .ok (.iload_n 2, 1) := by decide +kernel
theorem dX6_set_23 : decode cX6_set 23 = .ok (.laload, 1) := by decide +kernel
theorem dX6_set_24 : decode cX6_set 24 = .ok (.lstore 6, 2) := by decide +kernel
theorem dX6_set_26 : decode cX6_set 26 = .ok (.aload 5, 2) := by decide +kernel
theorem dX6_set_28 : decode cX6_set 28 = .ok (.getfield 118, 3) := by decide +kernel
theorem dX6_set_31 : decode cX6_set 31 = .ok (.iload_n 2, 1) := by decide +kernel
theorem dX6_set_32 : decode cX6_set 32 = .ok (.lload_n 3, 1) := by decide +kernel
theorem dX6_set_33 : decode cX6_set 33 = .ok (.lastore, 1) := by decide +kernel
theorem dX6_set_34 : decode cX6_set 34 = .ok (.lload 6, 2) := by decide +kernel
theorem dX6_set_36 : decode cX6_set 36 = .ok (.lreturn, 1) := by decide +kernel
theorem dX6_get_0 : decode cX6_get 0 = .ok (.aload_n 0, 1) := by decide +kernel
theorem dX6_get_1 : decode cX6_get 1 = .ok (.iload_n 1, 1) := by decide +kernel
theorem dX6_get_2 : decode cX6_get 2 = .ok (.invokevirtual 55, 3) := by decide +kernel
theorem dX6_get_5 : decode cX6_get 5 = .ok (.iload_n 2, 1) := by decide +kernel
theorem dX6_get_6 : decode cX6_get 6 = .ok (.invokestatic 101, 3) := by decide +kernel
theorem dX6_get_9 : decode cX6_get 9 = .ok (.aload_n 0, 1) := by decide +kernel
theorem dX6_get_10 : decode cX6_get 10 = .ok (.iload_n 1, 1) := by decide +kernel
theorem dX6_get_11 : decode cX6_get 11 = .ok (.iload_n 2, 1) := by decide +kernel
theorem dX6_get_12 : decode cX6_get 12 = .ok (.invokevirtual 115, 3) := by decide +kernel
theorem dX6_get_15 : decode cX6_get 15 = .ok (.getfield 118, 3) := by decide +kernel
theorem dX6_get_18 : decode cX6_get 18 = .ok (.iload_n 2, 1) := by decide +kernel
theorem dX6_get_19 : decode cX6_get 19 = .ok (.laload, 1) := by decide +kernel
theorem dX6_get_20 : decode cX6_get 20 = .ok (.lreturn, 1) := by decide +kernel
theorem dX6_referent_0 : decode cX6_referent 0 = .ok (.aload_n 0, 1) := by decide +kernel
theorem dX6_referent_1 : decode cX6_referent 1 = .ok (.iload_n 1, 1) := by decide +kernel
theorem dX6_referent_2 : decode cX6_referent 2 = .ok (.invokevirtual 55, 3) := by decide +kernel
theorem dX6_referent_5 : decode cX6_referent 5 = .ok (.aload_n 0, 1) := by decide +kernel
theorem dX6_referent_6 : decode cX6_referent 6 = .ok (.iload_n 2, 1) := by decide +kernel
theorem dX6_referent_7 : decode cX6_referent 7 = .ok (.invokevirtual 55, 3) := by decide +kernel
theorem dX6_referent_10 : decode cX6_referent 10 = .ok (.iload_n 3, 1) := by decide +kernel
theorem dX6_referent_11 : decode cX6_referent 11 = .ok (.ifCond .eq 17, 3) := by decide +kernel
theorem dX6_referent_14 : decode cX6_referent 14 = .ok (.aload_n 0, 1) := by decide +kernel
theorem dX6_referent_15 : decode cX6_referent 15 = .ok (.iload_n 1, 1) := by decide +kernel
theorem dX6_referent_16 : decode cX6_referent 16 = .ok (.aload_n 0, 1) := by decide +kernel
theorem dX6_referent_17 : decode cX6_referent 17 = .ok (.iload_n 2, 1) := by decide +kernel
theorem dX6_referent_18 : decode cX6_referent 18 = .ok (.invokevirtual 122, 3) := by decide +kernel
theorem dX6_referent_21 : decode cX6_referent 21 = .ok (.getfield 126, 3) := by decide +kernel
theorem dX6_referent_24 : decode cX6_referent 24 = .ok (.invokevirtual 98, 3) := by decide +kernel
theorem dX6_referent_27 : decode cX6_referent 27 = .ok (.ireturn, 1) := by decide +kernel
theorem dX6_referent_28 : decode cX6_referent 28 = .ok (.aload_n 0, 1) := by decide +kernel
theorem dX6_referent_29 : decode cX6_referent 29 = .ok (.iload_n 2, 1) := by decide +kernel
theorem dX6_referent_30 : decode cX6_referent 30 = .ok (.invokevirtual 130, 3) := by decide +kernel
theorem dX6_referent_33 : decode cX6_referent 33 = .ok (.astore 4, 2) := by decide +kernel
theorem dX6_referent_35 : decode cX6_referent 35 = .ok (.aload_n 0, 1) := by decide +kernel
theorem dX6_referent_36 : decode cX6_referent 36 = .ok (.iload_n 1, 1) := by decide +kernel
theorem dX6_referent_37 : decode cX6_referent 37 = .ok (.aload 4, 2) := by decide +kernel
theorem dX6_referent_39 : decode cX6_referent 39 = .ok (.getfield 133, 3) := by decide +kernel
theorem dX6_referent_42 : decode cX6_referent 42 = .ok (.bipush 6, 2) := by decide +kernel
theorem dX6_referent_44 : decode cX6_referent 44 = .ok (.if_icmp .ne 7, 3) := by decide +kernel
theorem dX6_referent_47 : decode cX6_referent 47 = .ok (.aconst_null, 1) := by decide +kernel
theorem dX6_referent_48 : decode cX6_referent 48 = .ok (.goto 8, 3) := by decide +kernel
theorem dX6_referent_51 : decode cX6_referent 51 = .ok (.aload 4, 2) := by decide +kernel
theorem dX6_referent_53 : decode cX6_referent 53 = .ok (.getfield 136, 3) := by decide +kernel
theorem dX6_referent_56 : decode cX6_referent 56 = .ok (.invokevirtual 98, 3) := by decide +kernel
theorem dX6_referent_59 : decode cX6_referent 59 = .ok (.ireturn, 1) := by decide +kernel
theorem dX6_give_0 : decode cX6_give 0 = .ok (.aload_n 0, 1) := by decide +kernel
theorem dX6_give_1 : decode cX6_give 1 = .ok (.iload_n 1, 1) := by decide +kernel
theorem dX6_give_2 : decode cX6_give 2 = .ok (.invokevirtual 55, 3) := by decide +kernel
theorem dX6_give_5 : decode cX6_give 5 = .ok (.aload_n 0, 1) := by decide +kernel
theorem dX6_give_6 : decode cX6_give 6 = .ok (.iload_n 2, 1) := by decide +kernel
theorem dX6_give_7 : decode cX6_give 7 = .ok (.invokevirtual 79, 3) := by decide +kernel
theorem dX6_give_10 : decode cX6_give 10 = .ok (.aload_n 0, 1) := by decide +kernel
theorem dX6_give_11 : decode cX6_give 11 = .ok (.iload_n 1, 1) := by decide +kernel
theorem dX6_give_12 : decode cX6_give 12 = .ok (.invokevirtual 122, 3) := by decide +kernel
theorem dX6_give_15 : decode cX6_give 15 = .ok (.astore_n 3, 1) := by decide +kernel
theorem dX6_give_16 : decode cX6_give 16 = .ok (.aload_n 3, 1) := by decide +kernel
theorem dX6_give_17 : decode cX6_give 17 = .ok (.getfield 136, 3) := by decide +kernel
theorem dX6_give_20 : decode cX6_give 20 = .ok (.ifnonnull 5, 3) := by decide +kernel
theorem dX6_give_23 : decode cX6_give 23 = .ok (.iconst 0, 1) := by decide +kernel
theorem dX6_give_24 : decode cX6_give 24 = .ok (.ireturn, 1) := by decide +kernel
theorem dX6_give_25 : decode cX6_give 25 = .ok (.aload_n 3, 1) := by decide +kernel
theorem dX6_give_26 : decode cX6_give 26 = .ok (.aload_n 0, 1) := by decide +kernel
theorem dX6_give_27 : decode cX6_give 27 = .ok (.iload_n 2, 1) := by decide +kernel
theorem dX6_give_28 : decode cX6_give 28 = .ok (.invokevirtual 95, 3) := by decide +kernel
theorem dX6_give_31 : decode cX6_give 31 = .ok (.putfield 126, 3) := by decide +kernel
theorem dX6_give_34 : decode cX6_give 34 = .ok (.iconst 1, 1) := by decide +kernel
theorem dX6_give_35 : decode cX6_give 35 = .ok (.ireturn, 1) := by decide +kernel
theorem dX6_clear_0 : decode cX6_clear 0 = .ok (.aload_n 0, 1) := by decide +kernel
theorem dX6_clear_1 : decode cX6_clear 1 = .ok (.iload_n 1, 1) := by decide +kernel
theorem dX6_clear_2 : decode cX6_clear 2 = .ok (.invokevirtual 55, 3) := by decide +kernel
theorem dX6_clear_5 : decode cX6_clear 5 = .ok (.aload_n 0, 1) := by decide +kernel
theorem dX6_clear_6 : decode cX6_clear 6 = .ok (.iload_n 1, 1) := by decide +kernel
theorem dX6_clear_7 : decode cX6_clear 7 = .ok (.invokevirtual 130, 3) := by decide +kernel
theorem dX6_clear_10 : decode cX6_clear 10 = .ok (.astore_n 3, 1) := by decide +kernel
theorem dX6_clear_11 : decode cX6_clear 11 = .ok (.aload_n 3, 1) := by decide +kernel
theorem dX6_clear_12 : decode cX6_clear 12 = .ok (.invokevirtual 139, 3) := by decide +kernel
theorem dX6_clear_15 : decode cX6_clear 15 = .ok (.iload_n 2, 1) := by decide +kernel
theorem dX6_clear_16 : decode cX6_clear 16 = .ok (.ifCond .eq 11, 3) := by decide +kernel
theorem dX6_clear_19 : decode cX6_clear 19 = .ok (.aload_n 0, 1) := by decide +kernel
theorem dX6_clear_20 : decode cX6_clear 20 = .ok (.aload_n 3, 1) := by decide +kernel
theorem dX6_clear_21 : decode cX6_clear 21 = .ok (.invokevirtual 142, 3) := by decide +kernel
theorem dX6_clear_24 : decode cX6_clear 24 = .ok (.goto 4, 3) := by decide +kernel
theorem dX6_clear_27 : decode cX6_clear 27 = .ok (.iconst 0, 1) := by decide +kernel
theorem dX6_clear_28 : decode cX6_clear 28 = .ok (.ireturn, 1) := by decide +kernel
theorem dX6_poll_0 : decode cX6_poll 0 = .ok (.aload_n 0, 1) := by decide +kernel
theorem dX6_poll_1 : decode cX6_poll 1 = .ok (.iload_n 1, 1) := by decide +kernel
theorem dX6_poll_2 : decode cX6_poll 2 = .ok (.invokevirtual 55, 3) := by decide +kernel
theorem dX6_poll_5 : decode cX6_poll 5 = .ok (.aload_n 0, 1) := by decide +kernel
theorem dX6_poll_6 : decode cX6_poll 6 = .ok (.iload_n 2, 1) := by decide +kernel
theorem dX6_poll_7 : decode cX6_poll 7 = .ok (.invokevirtual 55, 3) := by decide +kernel
theorem dX6_poll_10 : decode cX6_poll 10 = .ok (.aload_n 0, 1) := by decide +kernel
theorem dX6_poll_11 : decode cX6_poll 11 = .ok (.iload_n 1, 1) := by decide +kernel
theorem dX6_poll_12 : decode cX6_poll 12 = .ok (.aload_n 0, 1) := by decide +kernel
theorem dX6_poll_13 : decode cX6_poll 13 = .ok (.iload_n 2, 1) := by decide +kernel
theorem dX6_poll_14 : decode cX6_poll 14 = .ok (.invokevirtual 146, 3) := by decide +kernel
theorem dX6_poll_17 : decode cX6_poll 17 = .ok (.invokevirtual 149, 3) := by decide +kernel
theorem dX6_poll_20 : decode cX6_poll 20 = .ok (.invokevirtual 98, 3) := by decide +kernel
theorem dX6_poll_23 : decode cX6_poll 23 = .ok (.ireturn, 1) := by decide +kernel
theorem dX6_waiting_0 : decode cX6_waiting 0 = .ok (.aload_n 0, 1) := by decide +kernel
theorem dX6_waiting_1 : decode cX6_waiting 1 = .ok (.iload_n 1, 1) := by decide +kernel
theorem dX6_waiting_2 : decode cX6_waiting 2 = .ok (.invokevirtual 55, 3) := by decide +kernel
theorem dX6_waiting_5 : decode cX6_waiting 5 = .ok (.aload_n 0, 1) := by decide +kernel
theorem dX6_waiting_6 : decode cX6_waiting 6 = .ok (.iload_n 1, 1) := by decide +kernel
theorem dX6_waiting_7 : decode cX6_waiting 7 = .ok (.invokevirtual 146, 3) := by decide +kernel
theorem dX6_waiting_10 : decode cX6_waiting 10 = .ok (.getfield 153, 3) := by decide +kernel
theorem dX6_waiting_13 : decode cX6_waiting 13 = .ok (.ireturn, 1) := by decide +kernel
theorem dX6_kind_0 : decode cX6_kind 0 = .ok (.aload_n 0, 1) := by decide +kernel
theorem dX6_kind_1 : decode cX6_kind 1 = .ok (.iload_n 1, 1) := by decide +kernel
theorem dX6_kind_2 : decode cX6_kind 2 = .ok (.invokevirtual 55, 3) := by decide +kernel
theorem dX6_kind_5 : decode cX6_kind 5 = .ok (.aload_n 0, 1) := by decide +kernel
theorem dX6_kind_6 : decode cX6_kind 6 = .ok (.getfield 11, 3) := by decide +kernel
theorem dX6_kind_9 : decode cX6_kind 9 = .ok (.iload_n 1, 1) := by decide +kernel
theorem dX6_kind_10 : decode cX6_kind 10 = .ok (.aaload, 1) := by decide +kernel
theorem dX6_kind_11 : decode cX6_kind 11 = .ok (.astore_n 2, 1) := by decide +kernel
theorem dX6_kind_12 : decode cX6_kind 12 = .ok (.aload_n 2, 1) := by decide +kernel
theorem dX6_kind_13 : decode cX6_kind 13 = .ok (.ifnonnull 7, 3) := by decide +kernel
theorem dX6_kind_16 : decode cX6_kind 16 = .ok (.iconst (-1), 1) := by decide +kernel
theorem dX6_kind_17 : decode cX6_kind 17 = .ok (.goto 7, 3) := by decide +kernel
theorem dX6_kind_20 : decode cX6_kind 20 = .ok (.aload_n 2, 1) := by decide +kernel
theorem dX6_kind_21 : decode cX6_kind 21 = .ok (.getfield 156, 3) := by decide +kernel
theorem dX6_kind_24 : decode cX6_kind 24 = .ok (.ireturn, 1) := by decide +kernel
theorem dX6_hash_0 : decode cX6_hash 0 = .ok (.aload_n 0, 1) := by decide +kernel
theorem dX6_hash_1 : decode cX6_hash 1 = .ok (.iload_n 1, 1) := by decide +kernel
theorem dX6_hash_2 : decode cX6_hash 2 = .ok (.invokevirtual 55, 3) := by decide +kernel
theorem dX6_hash_5 : decode cX6_hash 5 = .ok (.aload_n 0, 1) := by decide +kernel
theorem dX6_hash_6 : decode cX6_hash 6 = .ok (.getfield 11, 3) := by decide +kernel
theorem dX6_hash_9 : decode cX6_hash 9 = .ok (.iload_n 1, 1) := by decide +kernel
theorem dX6_hash_10 : decode cX6_hash 10 = .ok (.aaload, 1) := by decide +kernel
theorem dX6_hash_11 : decode cX6_hash 11 = .ok (.astore_n 2, 1) := by decide +kernel
theorem dX6_hash_12 : decode cX6_hash 12 = .ok (.aload_n 2, 1) := by decide +kernel
theorem dX6_hash_13 : decode cX6_hash 13 = .ok (.ifnonnull 5, 3) := by decide +kernel
theorem dX6_hash_16 : decode cX6_hash 16 = .ok (.iconst 0, 1) := by decide +kernel
theorem dX6_hash_17 : decode cX6_hash 17 = .ok (.ireturn, 1) := by decide +kernel
theorem dX6_hash_18 : decode cX6_hash 18 = .ok (.aload_n 2, 1) := by decide +kernel
theorem dX6_hash_19 : decode cX6_hash 19 = .ok (.getfield 157, 3) := by decide +kernel
theorem dX6_hash_22 : decode cX6_hash 22 = .ok (.ifCond .ne 25, 3) := by decide +kernel
theorem dX6_hash_25 : decode cX6_hash 25 = .ok (.aload_n 0, 1) := by decide +kernel
theorem dX6_hash_26 : decode cX6_hash 26 = .ok (.getfield 19, 3) := by decide +kernel
theorem dX6_hash_29 : decode cX6_hash 29 = .ok (.bipush 8, 2) := by decide +kernel
theorem dX6_hash_31 : decode cX6_hash 31 = .ok (.dup2, 1) := by decide +kernel
theorem dX6_hash_32 : decode cX6_hash 32 = .ok (.iaload, 1) := by decide +kernel
theorem dX6_hash_33 : decode cX6_hash 33 = .ok (.iconst 1, 1) := by decide +kernel
theorem dX6_hash_34 : decode cX6_hash 34 = .ok (.iadd, 1) := by decide +kernel
theorem dX6_hash_35 : decode cX6_hash 35 = .ok (.iastore, 1) := by decide +kernel
theorem dX6_hash_36 : decode cX6_hash 36 = .ok (.aload_n 2, 1) := by decide +kernel
theorem dX6_hash_37 : decode cX6_hash 37 = .ok (.aload_n 0, 1) := by decide +kernel
theorem dX6_hash_38 : decode cX6_hash 38 = .ok (.getfield 19, 3) := by decide +kernel
theorem dX6_hash_41 : decode cX6_hash 41 = .ok (.bipush 8, 2) := by decide +kernel
theorem dX6_hash_43 : decode cX6_hash 43 = .ok (.iaload, 1) := by decide +kernel
theorem dX6_hash_44 : decode cX6_hash 44 = .ok (.putfield 157, 3) := by decide +kernel
theorem dX6_hash_47 : decode cX6_hash 47 = .ok (.aload_n 2, 1) := by decide +kernel
theorem dX6_hash_48 : decode cX6_hash 48 = .ok (.getfield 157, 3) := by decide +kernel
theorem dX6_hash_51 : decode cX6_hash 51 = .ok (.ireturn, 1) := by decide +kernel
theorem dX6_same_0 : decode cX6_same 0 = .ok (.aload_n 0, 1) := by decide +kernel
theorem dX6_same_1 : decode cX6_same 1 = .ok (.iload_n 1, 1) := by decide +kernel
theorem dX6_same_2 : decode cX6_same 2 = .ok (.invokevirtual 55, 3) := by decide +kernel
theorem dX6_same_5 : decode cX6_same 5 = .ok (.aload_n 0, 1) := by decide +kernel
theorem dX6_same_6 : decode cX6_same 6 = .ok (.iload_n 2, 1) := by decide +kernel
theorem dX6_same_7 : decode cX6_same 7 = .ok (.invokevirtual 55, 3) := by decide +kernel
theorem dX6_same_10 : decode cX6_same 10 = .ok (.aload_n 0, 1) := by decide +kernel
theorem dX6_same_11 : decode cX6_same 11 = .ok (.getfield 11, 3) := by decide +kernel
theorem dX6_same_14 : decode cX6_same 14 = .ok (.iload_n 1, 1) := by decide +kernel
theorem dX6_same_15 : decode cX6_same 15 = .ok (.aaload, 1) := by decide +kernel
theorem dX6_same_16 : decode cX6_same 16 = .ok (.aload_n 0, 1) := by decide +kernel
theorem dX6_same_17 : decode cX6_same 17 = .ok (.getfield 11, 3) := by decide +kernel
theorem dX6_same_20 : decode cX6_same 20 = .ok (.iload_n 2, 1) := by decide +kernel
theorem dX6_same_21 : decode cX6_same 21 = .ok (.aaload, 1) := by decide +kernel
theorem dX6_same_22 : decode cX6_same 22 = .ok (.if_acmp .ne 7, 3) := by decide +kernel
theorem dX6_same_25 : decode cX6_same 25 = .ok (.iconst 1, 1) := by decide +kernel
theorem dX6_same_26 : decode cX6_same 26 = .ok (.goto 4, 3) := by decide +kernel
theorem dX6_same_29 : decode cX6_same 29 = .ok (.iconst 0, 1) := by decide +kernel
theorem dX6_same_30 : decode cX6_same 30 = .ok (.ireturn, 1) := by decide +kernel
theorem dX6_open_0 : decode cX6_open 0 = .ok (.iload_n 1, 1) := by decide +kernel
theorem dX6_open_1 : decode cX6_open 1 = .ok (.iconst 1, 1) := by decide +kernel
theorem dX6_open_2 : decode cX6_open 2 = .ok (.bipush 16, 2) := by decide +kernel
theorem dX6_open_4 : decode cX6_open 4 = .ok (.invokestatic 59, 3) := by decide +kernel
theorem dX6_open_7 : decode cX6_open 7 = .ok (.aload_n 0, 1) := by decide +kernel
theorem dX6_open_8 : decode cX6_open 8 = .ok (.getfield 160, 3) := by decide +kernel
theorem dX6_open_11 : decode cX6_open 11 = .ok (.bipush 20, 2) := by decide +kernel
theorem dX6_open_13 : decode cX6_open 13 = .ok (.if_icmp .lt 13, 3) := by decide +kernel
theorem dX6_open_16 : decode cX6_open 16 = .ok (.new 163, 3) := by decide +kernel
theorem dX6_open_19 : decode cX6_open 19 = .ok (.dup, 1) := by decide +kernel
theorem dX6_open_20 : decode cX6_open 20 = .ok (.ldc 165, 2) := by decide +kernel
theorem dX6_open_22 : decode cX6_open 22 = .ok (.invokespecial 167, 3) := by decide +kernel
theorem dX6_open_25 : decode cX6_open 25 = .ok (.athrow, 1) := by decide +kernel
theorem dX6_open_26 : decode cX6_open 26 = .ok (.aload_n 0, 1) := by decide +kernel
theorem dX6_open_27 : decode cX6_open 27 = .ok (.getfield 19, 3) := by decide +kernel
theorem dX6_open_30 : decode cX6_open 30 = .ok (.bipush 7, 2) := by decide +kernel
theorem dX6_open_32 : decode cX6_open 32 = .ok (.iaload, 1) := by decide +kernel
theorem dX6_open_33 : decode cX6_open 33 = .ok (.istore_n 2, 1) := by decide +kernel
theorem dX6_open_34 : decode cX6_open 34 = .ok (.aload_n 0, 1) := by decide +kernel
theorem dX6_open_35 : decode cX6_open 35 = .ok (.getfield 15, 3) := by decide +kernel
theorem dX6_open_38 : decode cX6_open 38 = .ok (.aload_n 0, 1) := by decide +kernel
theorem dX6_open_39 : decode cX6_open 39 = .ok (.getfield 160, 3) := by decide +kernel
theorem dX6_open_42 : decode cX6_open 42 = .ok (.iload_n 2, 1) := by decide +kernel
theorem dX6_open_43 : decode cX6_open 43 = .ok (.iastore, 1) := by decide +kernel
theorem dX6_open_44 : decode cX6_open 44 = .ok (.aload_n 0, 1) := by decide +kernel
theorem dX6_open_45 : decode cX6_open 45 = .ok (.dup, 1) := by decide +kernel
theorem dX6_open_46 : decode cX6_open 46 = .ok (.getfield 160, 3) := by decide +kernel
theorem dX6_open_49 : decode cX6_open 49 = .ok (.iconst 1, 1) := by decide +kernel
theorem dX6_open_50 : decode cX6_open 50 = .ok (.iadd, 1) := by decide +kernel
theorem dX6_open_51 : decode cX6_open 51 = .ok (.putfield 160, 3) := by decide +kernel
theorem dX6_open_54 : decode cX6_open 54 = .ok (.aload_n 0, 1) := by decide +kernel
theorem dX6_open_55 : decode cX6_open 55 = .ok (.getfield 19, 3) := by decide +kernel
theorem dX6_open_58 : decode cX6_open 58 = .ok (.bipush 7, 2) := by decide +kernel
theorem dX6_open_60 : decode cX6_open 60 = .ok (.iload_n 2, 1) := by decide +kernel
theorem dX6_open_61 : decode cX6_open 61 = .ok (.iload_n 1, 1) := by decide +kernel
theorem dX6_open_62 : decode cX6_open 62 = .ok (.iadd, 1) := by decide +kernel
theorem dX6_open_63 : decode cX6_open 63 = .ok (.iastore, 1) := by decide +kernel
theorem dX6_open_64 : decode cX6_open 64 = .ok (.iload_n 2, 1) := by decide +kernel
theorem dX6_open_65 : decode cX6_open 65 = .ok (.ireturn, 1) := by decide +kernel
theorem dX6_close_0 : decode cX6_close 0 = .ok (.aload_n 0, 1) := by decide +kernel
theorem dX6_close_1 : decode cX6_close 1 = .ok (.getfield 160, 3) := by decide +kernel
theorem dX6_close_4 : decode cX6_close 4 = .ok (.ifCond .gt 13, 3) := by decide +kernel
theorem dX6_close_7 : decode cX6_close 7 = .ok (.new 163, 3) := by decide +kernel
theorem dX6_close_10 : decode cX6_close 10 = .ok (.dup, 1) := by decide +kernel
theorem dX6_close_11 : decode cX6_close 11 = .ok (.ldc 170, 2) := by decide +kernel
theorem dX6_close_13 : decode cX6_close 13 = .ok (.invokespecial 167, 3) := by decide +kernel
theorem dX6_close_16 : decode cX6_close 16 = .ok (.athrow, 1) := by decide +kernel
theorem dX6_close_17 : decode cX6_close 17 = .ok (.aload_n 0, 1) := by decide +kernel
theorem dX6_close_18 : decode cX6_close 18 = .ok (.dup, 1) := by decide +kernel
theorem dX6_close_19 : decode cX6_close 19 = .ok (.getfield 160, 3) := by decide +kernel
theorem dX6_close_22 : decode cX6_close 22 = .ok (.iconst 1, 1) := by decide +kernel
theorem dX6_close_23 : decode cX6_close 23 = .ok (.isub, 1) := by decide +kernel
theorem dX6_close_24 : decode cX6_close 24 = .ok (.putfield 160, 3) := by decide +kernel
theorem dX6_close_27 : decode cX6_close 27 = .ok (.aload_n 0, 1) := by decide +kernel
theorem dX6_close_28 : decode cX6_close 28 = .ok (.getfield 15, 3) := by decide +kernel
theorem dX6_close_31 : decode cX6_close 31 = .ok (.aload_n 0, 1) := by decide +kernel
theorem dX6_close_32 : decode cX6_close 32 = .ok (.getfield 160, 3) := by decide +kernel
theorem dX6_close_35 : decode cX6_close 35 = .ok (.iaload, 1) := by decide +kernel
theorem dX6_close_36 : decode cX6_close 36 = .ok (.istore_n 1, 1) := by decide +kernel
theorem dX6_close_37 : decode cX6_close 37 = .ok (.iload_n 1, 1) := by decide +kernel
theorem dX6_close_38 : decode cX6_close 38 = .ok (.istore_n 2, 1) := by decide +kernel
theorem dX6_close_39 : decode cX6_close 39 = .ok (.iload_n 2, 1) := by decide +kernel
theorem dX6_close_40 : decode cX6_close 40 = .ok (.aload_n 0, 1) := by decide +kernel
theorem dX6_close_41 : decode cX6_close 41 = .ok (.getfield 19, 3) := by decide +kernel
theorem dX6_close_44 : decode cX6_close 44 = .ok (.bipush 7, 2) := by decide +kernel
theorem dX6_close_46 : decode cX6_close 46 = .ok (.iaload, 1) := by decide +kernel
theorem dX6_close_47 : decode cX6_close 47 = .ok (.if_icmp .ge 16, 3) := by decide +kernel
theorem dX6_close_50 : decode cX6_close 50 = .ok (.aload_n 0, 1) := by decide +kernel
theorem dX6_close_51 : decode cX6_close 51 = .ok (.getfield 11, 3) := by decide +kernel
theorem dX6_close_54 : decode cX6_close 54 = .ok (.iload_n 2, 1) := by decide +kernel
theorem dX6_close_55 : decode cX6_close 55 = .ok (.aconst_null, 1) := by decide +kernel
theorem dX6_close_56 : decode cX6_close 56 = .ok (.aastore, 1) := by decide +kernel
theorem dX6_close_57 : decode cX6_close 57 = .ok (.iinc 2 1, 3) := by decide +kernel
theorem dX6_close_60 : decode cX6_close 60 = .ok (.goto (-21), 3) := by decide +kernel
theorem dX6_close_63 : decode cX6_close 63 = .ok (.aload_n 0, 1) := by decide +kernel
theorem dX6_close_64 : decode cX6_close 64 = .ok (.getfield 19, 3) := by decide +kernel
theorem dX6_close_67 : decode cX6_close 67 = .ok (.bipush 7, 2) := by decide +kernel
theorem dX6_close_69 : decode cX6_close 69 = .ok (.iload_n 1, 1) := by decide +kernel
theorem dX6_close_70 : decode cX6_close 70 = .ok (.iastore, 1) := by decide +kernel
theorem dX6_close_71 : decode cX6_close 71 = .ok (.iload_n 1, 1) := by decide +kernel
theorem dX6_close_72 : decode cX6_close 72 = .ok (.ireturn, 1) := by decide +kernel
theorem dX6_collect_0 : decode cX6_collect 0 = .ok (.aload_n 0, 1) := by decide +kernel
theorem dX6_collect_1 : decode cX6_collect 1 = .ok (.iload_n 1, 1) := by decide +kernel
theorem dX6_collect_2 : decode cX6_collect 2 = .ok (.invokevirtual 172, 3) := by decide +kernel
theorem dX6_collect_5 : decode cX6_collect 5 = .ok (.ireturn, 1) := by decide +kernel
theorem dX6_every_0 : decode cX6_every 0 = .ok (.iload_n 1, 1) := by decide +kernel
theorem dX6_every_1 : decode cX6_every 1 = .ok (.invokestatic 101, 3) := by decide +kernel
theorem dX6_every_4 : decode cX6_every 4 = .ok (.aload_n 0, 1) := by decide +kernel
theorem dX6_every_5 : decode cX6_every 5 = .ok (.iload_n 1, 1) := by decide +kernel
theorem dX6_every_6 : decode cX6_every 6 = .ok (.putfield 176, 3) := by decide +kernel
theorem dX6_every_9 : decode cX6_every 9 = .ok (.aload_n 0, 1) := by decide +kernel
theorem dX6_every_10 : decode cX6_every 10 = .ok (.iconst 0, 1) := by decide +kernel
theorem dX6_every_11 : decode cX6_every 11 = .ok (.putfield 179, 3) := by decide +kernel
theorem dX6_every_14 : decode cX6_every 14 = .ok (.iload_n 1, 1) := by decide +kernel
theorem dX6_every_15 : decode cX6_every 15 = .ok (.ireturn, 1) := by decide +kernel
theorem dX6_count_0 : decode cX6_count 0 = .ok (.iload_n 1, 1) := by decide +kernel
theorem dX6_count_1 : decode cX6_count 1 = .ok (.iconst 0, 1) := by decide +kernel
theorem dX6_count_2 : decode cX6_count 2 = .ok (.bipush 9, 2) := by decide +kernel
theorem dX6_count_4 : decode cX6_count 4 = .ok (.invokestatic 59, 3) := by decide +kernel
theorem dX6_count_7 : decode cX6_count 7 = .ok (.aload_n 0, 1) := by decide +kernel
theorem dX6_count_8 : decode cX6_count 8 = .ok (.getfield 19, 3) := by decide +kernel
theorem dX6_count_11 : decode cX6_count 11 = .ok (.iload_n 1, 1) := by decide +kernel
theorem dX6_count_12 : decode cX6_count 12 = .ok (.iaload, 1) := by decide +kernel
theorem dX6_count_13 : decode cX6_count 13 = .ok (.ireturn, 1) := by decide +kernel
theorem dX6_digest_0 : decode cX6_digest 0 = .ok (.aload_n 0, 1) := by decide +kernel
theorem dX6_digest_1 : decode cX6_digest 1 = .ok (.iload_n 1, 1) := by decide +kernel
theorem dX6_digest_2 : decode cX6_digest 2 = .ok (.invokevirtual 55, 3) := by decide +kernel
theorem dX6_digest_5 : decode cX6_digest 5 = .ok (.ldc2_w 182, 3) := by decide +kernel
theorem dX6_digest_8 : decode cX6_digest 8 = .ok (.lstore_n 2, 1) := by decide +kernel
theorem dX6_digest_9 : decode cX6_digest 9 = .ok (.aload_n 0, 1) := by decide +kernel
theorem dX6_digest_10 : decode cX6_digest 10 = .ok (.getfield 35, 3) := by decide +kernel
theorem dX6_digest_13 : decode cX6_digest 13 = .ok (.invokevirtual 184, 3) := by decide +kernel
theorem dX6_digest_16 : decode cX6_digest 16 = .ok (.aload_n 0, 1) := by decide +kernel
theorem dX6_digest_17 : decode cX6_digest 17 = .ok (.getfield 35, 3) := by decide +kernel
theorem dX6_digest_20 : decode cX6_digest 20 = .ok (.aload_n 0, 1) := by decide +kernel
theorem dX6_digest_21 : decode cX6_digest 21 = .ok (.getfield 11, 3) := by decide +kernel
theorem dX6_digest_24 : decode cX6_digest 24 = .ok (.iload_n 1, 1) := by decide +kernel
theorem dX6_digest_25 : decode cX6_digest 25 = .ok (.aaload, 1) := by decide +kernel
theorem dX6_digest_26 : decode cX6_digest 26 = .ok (.invokevirtual 187, 3) := by decide +kernel
theorem dX6_digest_29 : decode cX6_digest 29 = .ok (.aload_n 0, 1) := by decide +kernel
theorem dX6_digest_30 : decode cX6_digest 30 = .ok (.getfield 19, 3) := by decide +kernel
theorem dX6_digest_33 : decode cX6_digest 33 = .ok (.iconst 1, 1) := by decide +kernel
theorem dX6_digest_34 : decode cX6_digest 34 = .ok (.iaload, 1) := by decide +kernel
theorem dX6_digest_35 : decode cX6_digest 35 = .ok (.istore 4, 2) := by decide +kernel
theorem dX6_digest_37 : decode cX6_digest 37 = .ok (.aload_n 0, 1) := by decide +kernel
theorem dX6_digest_38 : decode cX6_digest 38 = .ok (.getfield 35, 3) := by decide +kernel
theorem dX6_digest_41 : decode cX6_digest 41 = .ok (.getfield 191, 3) := by decide +kernel
theorem dX6_digest_44 : decode cX6_digest 44 = .ok (.astore 5, 2) := by decide +kernel
theorem dX6_digest_46 : decode cX6_digest 46 = .ok (.aload 5, 2) := by decide +kernel
theorem dX6_digest_48 : decode cX6_digest 48 = .ok (.ifnull 41, 3) := by decide +kernel
theorem dX6_digest_51 : decode cX6_digest 51 = .ok (.iload 4, 2) := by decide +kernel
theorem dX6_digest_53 : decode cX6_digest 53 = .ok (.ifCond .le 36, 3) := by decide +kernel
theorem dX6_digest_56 : decode cX6_digest 56 = .ok (.aload 5, 2) := by decide +kernel
theorem dX6_digest_58 : decode cX6_digest 58 = .ok (.lload_n 2, 1) := by decide +kernel
theorem dX6_digest_59 : decode cX6_digest 59 = .ok (.aload 5, 2) := by decide +kernel
theorem dX6_digest_61 : decode cX6_digest 61 = .ok (.getfield 156, 3) := by decide +kernel
theorem dX6_digest_64 : decode cX6_digest 64 = .ok (.i2l, 1) := by decide +kernel
theorem dX6_digest_65 : decode cX6_digest 65 = .ok (.invokestatic 194, 3) := by decide +kernel
theorem dX6_digest_68 : decode cX6_digest 68 = .ok (.aload_n 0, 1) := by decide +kernel
theorem dX6_digest_69 : decode cX6_digest 69 = .ok (.getfield 35, 3) := by decide +kernel
theorem dX6_digest_72 : decode cX6_digest 72 = .ok (.invokevirtual 198, 3) := by decide +kernel
theorem dX6_digest_75 : decode cX6_digest 75 = .ok (.lstore_n 2, 1) := by decide +kernel
theorem dX6_digest_76 : decode cX6_digest 76 = .ok (.iinc 4 (-1), 3) := by decide +kernel
theorem dX6_digest_79 : decode cX6_digest 79 = .ok (.aload 5, 2) := by decide +kernel
theorem dX6_digest_81 : decode cX6_digest 81 = .ok (.getfield 202, 3) := by decide +kernel
theorem dX6_digest_84 : decode cX6_digest 84 = .ok (.astore 5, 2) := by decide +kernel
theorem dX6_digest_86 : decode cX6_digest 86 = .ok (.goto (-40), 3) := by decide +kernel
theorem dX6_digest_89 : decode cX6_digest 89 = .ok (.lload_n 2, 1) := by decide +kernel
theorem dX6_digest_90 : decode cX6_digest 90 = .ok (.lreturn, 1) := by decide +kernel
end
section
theorem dX6_mix_0 : decode cX6_mix 0 = .ok (.ldc2_w 205, 3) := by decide +kernel
theorem dX6_mix_3 : decode cX6_mix 3 = .ok (.lload_n 0, 1) := by decide +kernel
theorem dX6_mix_4 : decode cX6_mix 4 = .ok (.lmul, 1) := by decide +kernel
theorem dX6_mix_5 : decode cX6_mix 5 = .ok (.lload_n 2, 1) := by decide +kernel
theorem dX6_mix_6 : decode cX6_mix 6 = .ok (.ladd, 1) := by decide +kernel
theorem dX6_mix_7 : decode cX6_mix 7 = .ok (.lreturn, 1) := by decide +kernel
theorem dX6_oneIfObject_0 : decode cX6_oneIfObject 0 = .ok (.aload_n 0, 1) := by decide +kernel
theorem dX6_oneIfObject_1 : decode cX6_oneIfObject 1 = .ok (.ifnonnull 7, 3) := by decide +kernel
theorem dX6_oneIfObject_4 : decode cX6_oneIfObject 4 = .ok (.iconst 0, 1) := by decide +kernel
theorem dX6_oneIfObject_5 : decode cX6_oneIfObject 5 = .ok (.goto 4, 3) := by decide +kernel
theorem dX6_oneIfObject_8 : decode cX6_oneIfObject 8 = .ok (.iconst 1, 1) := by decide +kernel
theorem dX6_oneIfObject_9 : decode cX6_oneIfObject 9 = .ok (.ireturn, 1) := by decide +kernel
theorem dX6_checkRange_0 : decode cX6_checkRange 0 = .ok (.iload_n 0, 1) := by decide +kernel
theorem dX6_checkRange_1 : decode cX6_checkRange 1 = .ok (.iload_n 1, 1) := by decide +kernel
theorem dX6_checkRange_2 : decode cX6_checkRange 2 = .ok (.if_icmp .lt 8, 3) := by decide +kernel
theorem dX6_checkRange_5 : decode cX6_checkRange 5 = .ok (.iload_n 0, 1) := by decide +kernel
theorem dX6_checkRange_6 : decode cX6_checkRange 6 = .ok (.iload_n 2, 1) := by decide +kernel
theorem dX6_checkRange_7 : decode cX6_checkRange 7 = .ok (.if_icmp .le 13, 3) := by decide +kernel
theorem dX6_checkRange_10 : decode cX6_checkRange 10 = .ok (.new 207, 3) := by decide +kernel
theorem dX6_checkRange_13 : decode cX6_checkRange 13 = .ok (.dup, 1) := by decide +kernel
theorem dX6_checkRange_14 : decode cX6_checkRange 14 = .ok (.ldc 209, 2) := by decide +kernel
theorem dX6_checkRange_16 : decode cX6_checkRange 16 = .ok (.invokespecial 211, 3) := by decide +kernel
theorem dX6_checkRange_19 : decode cX6_checkRange 19 = .ok (.athrow, 1) := by decide +kernel
theorem dX6_checkRange_20 : decode cX6_checkRange 20 = .ok (.return_, 1) := by decide +kernel
theorem dX6_checkNotNegative_0 : decode cX6_checkNotNegative 0 = .ok (.iload_n 0, 1) := by decide +kernel
theorem dX6_checkNotNegative_1 : decode cX6_checkNotNegative 1 = .ok (.iconst 0, 1) := by decide +kernel
theorem dX6_checkNotNegative_2 : decode cX6_checkNotNegative 2 = .ok (.ldc 214, 2) := by decide +kernel
theorem dX6_checkNotNegative_4 : decode cX6_checkNotNegative 4 = .ok (.invokestatic 59, 3) := by decide +kernel
theorem dX6_checkNotNegative_7 : decode cX6_checkNotNegative 7 = .ok (.return_, 1) := by decide +kernel
theorem dX6_checkRoot_0 : decode cX6_checkRoot 0 = .ok (.iload_n 1, 1) := by decide +kernel
theorem dX6_checkRoot_1 : decode cX6_checkRoot 1 = .ok (.iconst 0, 1) := by decide +kernel
theorem dX6_checkRoot_2 : decode cX6_checkRoot 2 = .ok (.aload_n 0, 1) := by decide +kernel
theorem dX6_checkRoot_3 : decode cX6_checkRoot 3 = .ok (.getfield 19, 3) := by decide +kernel
theorem dX6_checkRoot_6 : decode cX6_checkRoot 6 = .ok (.bipush 7, 2) := by decide +kernel
theorem dX6_checkRoot_8 : decode cX6_checkRoot 8 = .ok (.iaload, 1) := by decide +kernel
theorem dX6_checkRoot_9 : decode cX6_checkRoot 9 = .ok (.iconst 1, 1) := by decide +kernel
theorem dX6_checkRoot_10 : decode cX6_checkRoot 10 = .ok (.isub, 1) := by decide +kernel
theorem dX6_checkRoot_11 : decode cX6_checkRoot 11 = .ok (.invokestatic 59, 3) := by decide +kernel
theorem dX6_checkRoot_14 : decode cX6_checkRoot 14 = .ok (.return_, 1) := by decide +kernel
theorem dX6_checkRootOrNone_0 : decode cX6_checkRootOrNone 0 = .ok (.iload_n 1, 1) := by decide +kernel
theorem dX6_checkRootOrNone_1 : decode cX6_checkRootOrNone 1 = .ok (.iconst (-1), 1) := by decide +kernel
theorem dX6_checkRootOrNone_2 : decode cX6_checkRootOrNone 2 = .ok (.aload_n 0, 1) := by decide +kernel
theorem dX6_checkRootOrNone_3 : decode cX6_checkRootOrNone 3 = .ok (.getfield 19, 3) := by decide +kernel
theorem dX6_checkRootOrNone_6 : decode cX6_checkRootOrNone 6 = .ok (.bipush 7, 2) := by decide +kernel
theorem dX6_checkRootOrNone_8 : decode cX6_checkRootOrNone 8 = .ok (.iaload, 1) := by decide +kernel
theorem dX6_checkRootOrNone_9 : decode cX6_checkRootOrNone 9 = .ok (.iconst 1, 1) := by decide +kernel
theorem dX6_checkRootOrNone_10 : decode cX6_checkRootOrNone 10 = .ok (.isub, 1) := by decide +kernel
theorem dX6_checkRootOrNone_11 : decode cX6_checkRootOrNone 11 = .ok (.invokestatic 59, 3) := by decide +kernel
theorem dX6_checkRootOrNone_14 : decode cX6_checkRootOrNone 14 = .ok (.return_, 1) := by decide +kernel
theorem dX6_atOrNone_0 : decode cX6_atOrNone 0 = .ok (.iload_n 1, 1) := by decide +kernel
theorem dX6_atOrNone_1 : decode cX6_atOrNone 1 = .ok (.iconst (-1), 1) := by decide +kernel
theorem dX6_atOrNone_2 : decode cX6_atOrNone 2 = .ok (.if_icmp .ne 7, 3) := by decide +kernel
theorem dX6_atOrNone_5 : decode cX6_atOrNone 5 = .ok (.aconst_null, 1) := by decide +kernel
theorem dX6_atOrNone_6 : decode cX6_atOrNone 6 = .ok (.goto 9, 3) := by decide +kernel
theorem dX6_atOrNone_9 : decode cX6_atOrNone 9 = .ok (.aload_n 0, 1) := by decide +kernel
theorem dX6_atOrNone_10 : decode cX6_atOrNone 10 = .ok (.getfield 11, 3) := by decide +kernel
theorem dX6_atOrNone_13 : decode cX6_atOrNone 13 = .ok (.iload_n 1, 1) := by decide +kernel
theorem dX6_atOrNone_14 : decode cX6_atOrNone 14 = .ok (.aaload, 1) := by decide +kernel
theorem dX6_atOrNone_15 : decode cX6_atOrNone 15 = .ok (.areturn, 1) := by decide +kernel
theorem dX6_putRoot_0 : decode cX6_putRoot 0 = .ok (.aload_n 0, 1) := by decide +kernel
theorem dX6_putRoot_1 : decode cX6_putRoot 1 = .ok (.getfield 11, 3) := by decide +kernel
theorem dX6_putRoot_4 : decode cX6_putRoot 4 = .ok (.iload_n 1, 1) := by decide +kernel
theorem dX6_putRoot_5 : decode cX6_putRoot 5 = .ok (.aload_n 2, 1) := by decide +kernel
theorem dX6_putRoot_6 : decode cX6_putRoot 6 = .ok (.aastore, 1) := by decide +kernel
theorem dX6_putRoot_7 : decode cX6_putRoot 7 = .ok (.aload_n 2, 1) := by decide +kernel
theorem dX6_putRoot_8 : decode cX6_putRoot 8 = .ok (.invokestatic 111, 3) := by decide +kernel
theorem dX6_putRoot_11 : decode cX6_putRoot 11 = .ok (.ireturn, 1) := by decide +kernel
theorem dX6_objectAt_0 : decode cX6_objectAt 0 = .ok (.aload_n 0, 1) := by decide +kernel
theorem dX6_objectAt_1 : decode cX6_objectAt 1 = .ok (.getfield 11, 3) := by decide +kernel
theorem dX6_objectAt_4 : decode cX6_objectAt 4 = .ok (.iload_n 1, 1) := by decide +kernel
theorem dX6_objectAt_5 : decode cX6_objectAt 5 = .ok (.aaload, 1) := by decide +kernel
theorem dX6_objectAt_6 : decode cX6_objectAt 6 = .ok (.astore_n 2, 1) := by decide +kernel
theorem dX6_objectAt_7 : decode cX6_objectAt 7 = .ok (.aload_n 2, 1) := by decide +kernel
theorem dX6_objectAt_8 : decode cX6_objectAt 8 = .ok (.ifnonnull 13, 3) := by decide +kernel
theorem dX6_objectAt_11 : decode cX6_objectAt 11 = .ok (.new 163, 3) := by decide +kernel
theorem dX6_objectAt_14 : decode cX6_objectAt 14 = .ok (.dup, 1) := by decide +kernel
theorem dX6_objectAt_15 : decode cX6_objectAt 15 = .ok (.ldc 215, 2) := by decide +kernel
theorem dX6_objectAt_17 : decode cX6_objectAt 17 = .ok (.invokespecial 167, 3) := by decide +kernel
theorem dX6_objectAt_20 : decode cX6_objectAt 20 = .ok (.athrow, 1) := by decide +kernel
theorem dX6_objectAt_21 : decode cX6_objectAt 21 = .ok (.aload_n 2, 1) := by decide +kernel
theorem dX6_objectAt_22 : decode cX6_objectAt 22 = .ok (.areturn, 1) := by decide +kernel
theorem dX6_lineAt_0 : decode cX6_lineAt 0 = .ok (.aload_n 0, 1) := by decide +kernel
theorem dX6_lineAt_1 : decode cX6_lineAt 1 = .ok (.getfield 11, 3) := by decide +kernel
theorem dX6_lineAt_4 : decode cX6_lineAt 4 = .ok (.iload_n 1, 1) := by decide +kernel
theorem dX6_lineAt_5 : decode cX6_lineAt 5 = .ok (.aaload, 1) := by decide +kernel
theorem dX6_lineAt_6 : decode cX6_lineAt 6 = .ok (.astore_n 3, 1) := by decide +kernel
theorem dX6_lineAt_7 : decode cX6_lineAt 7 = .ok (.aload_n 3, 1) := by decide +kernel
theorem dX6_lineAt_8 : decode cX6_lineAt 8 = .ok (.instanceof 76, 3) := by decide +kernel
theorem dX6_lineAt_11 : decode cX6_lineAt 11 = .ok (.ifCond .eq 10, 3) := by decide +kernel
theorem dX6_lineAt_14 : decode cX6_lineAt 14 = .ok (.aload_n 3, 1) := by decide +kernel
theorem dX6_lineAt_15 : decode cX6_lineAt 15 = .ok (.checkcast 76, 3) := by decide +kernel
theorem dX6_lineAt_18 : decode cX6_lineAt 18 = .ok (.astore_n 2, 1) := by decide +kernel
theorem dX6_lineAt_19 : decode cX6_lineAt 19 = .ok (.aload_n 2, 1) := by decide +kernel
theorem dX6_lineAt_20 : decode cX6_lineAt 20 = .ok (.areturn, 1) := by decide +kernel
theorem dX6_lineAt_21 : decode cX6_lineAt 21 = .ok (.new 163, 3) := by decide +kernel
theorem dX6_lineAt_24 : decode cX6_lineAt 24 = .ok (.dup, 1) := by decide +kernel
theorem dX6_lineAt_25 : decode cX6_lineAt 25 = .ok (.ldc 217, 2) := by decide +kernel
theorem dX6_lineAt_27 : decode cX6_lineAt 27 = .ok (.invokespecial 167, 3) := by decide +kernel
theorem dX6_lineAt_30 : decode cX6_lineAt 30 = .ok (.athrow, 1) := by decide +kernel
theorem dX6_lineAtOrNone_0 : decode cX6_lineAtOrNone 0 = .ok (.iload_n 1, 1) := by decide +kernel
theorem dX6_lineAtOrNone_1 : decode cX6_lineAtOrNone 1 = .ok (.iconst (-1), 1) := by decide +kernel
theorem dX6_lineAtOrNone_2 : decode cX6_lineAtOrNone 2 = .ok (.if_icmp .ne 7, 3) := by decide +kernel
theorem dX6_lineAtOrNone_5 : decode cX6_lineAtOrNone 5 = .ok (.aconst_null, 1) := by decide +kernel
theorem dX6_lineAtOrNone_6 : decode cX6_lineAtOrNone 6 = .ok (.goto 8, 3) := by decide +kernel
theorem dX6_lineAtOrNone_9 : decode cX6_lineAtOrNone 9 = .ok (.aload_n 0, 1) := by decide +kernel
theorem dX6_lineAtOrNone_10 : decode cX6_lineAtOrNone 10 = .ok (.iload_n 1, 1) := by decide +kernel
theorem dX6_lineAtOrNone_11 : decode cX6_lineAtOrNone 11 = .ok (.invokevirtual 146, 3) := by decide +kernel
theorem dX6_lineAtOrNone_14 : decode cX6_lineAtOrNone 14 = .ok (.areturn, 1) := by decide +kernel
theorem dX6_looseAt_0 : decode cX6_looseAt 0 = .ok (.aload_n 0, 1) := by decide +kernel
theorem dX6_looseAt_1 : decode cX6_looseAt 1 = .ok (.getfield 11, 3) := by decide +kernel
theorem dX6_looseAt_4 : decode cX6_looseAt 4 = .ok (.iload_n 1, 1) := by decide +kernel
theorem dX6_looseAt_5 : decode cX6_looseAt 5 = .ok (.aaload, 1) := by decide +kernel
theorem dX6_looseAt_6 : decode cX6_looseAt 6 = .ok (.astore_n 3, 1) := by decide +kernel
theorem dX6_looseAt_7 : decode cX6_looseAt 7 = .ok (.aload_n 3, 1) := by decide +kernel
theorem dX6_looseAt_8 : decode cX6_looseAt 8 = .ok (.instanceof 90, 3) := by decide +kernel
theorem dX6_looseAt_11 : decode cX6_looseAt 11 = .ok (.ifCond .eq 10, 3) := by decide +kernel
theorem dX6_looseAt_14 : decode cX6_looseAt 14 = .ok (.aload_n 3, 1) := by decide +kernel
theorem dX6_looseAt_15 : decode cX6_looseAt 15 = .ok (.checkcast 90, 3) := by decide +kernel
theorem dX6_looseAt_18 : decode cX6_looseAt 18 = .ok (.astore_n 2, 1) := by decide +kernel
theorem dX6_looseAt_19 : decode cX6_looseAt 19 = .ok (.aload_n 2, 1) := by decide +kernel
theorem dX6_looseAt_20 : decode cX6_looseAt 20 = .ok (.areturn, 1) := by decide +kernel
theorem dX6_looseAt_21 : decode cX6_looseAt 21 = .ok (.new 163, 3) := by decide +kernel
theorem dX6_looseAt_24 : decode cX6_looseAt 24 = .ok (.dup, 1) := by decide +kernel
theorem dX6_looseAt_25 : decode cX6_looseAt 25 = .ok (.ldc 219, 2) := by decide +kernel
theorem dX6_looseAt_27 : decode cX6_looseAt 27 = .ok (.invokespecial 167, 3) := by decide +kernel
theorem dX6_looseAt_30 : decode cX6_looseAt 30 = .ok (.athrow, 1) := by decide +kernel
theorem dX6_pairAt_0 : decode cX6_pairAt 0 = .ok (.aload_n 0, 1) := by decide +kernel
theorem dX6_pairAt_1 : decode cX6_pairAt 1 = .ok (.iload_n 1, 1) := by decide +kernel
theorem dX6_pairAt_2 : decode cX6_pairAt 2 = .ok (.invokevirtual 130, 3) := by decide +kernel
theorem dX6_pairAt_5 : decode cX6_pairAt 5 = .ok (.astore_n 2, 1) := by decide +kernel
theorem dX6_pairAt_6 : decode cX6_pairAt 6 = .ok (.aload_n 2, 1) := by decide +kernel
theorem dX6_pairAt_7 : decode cX6_pairAt 7 = .ok (.getfield 133, 3) := by decide +kernel
theorem dX6_pairAt_10 : decode cX6_pairAt 10 = .ok (.bipush 7, 2) := by decide +kernel
theorem dX6_pairAt_12 : decode cX6_pairAt 12 = .ok (.if_icmp .eq 13, 3) := by decide +kernel
theorem dX6_pairAt_15 : decode cX6_pairAt 15 = .ok (.new 163, 3) := by decide +kernel
theorem dX6_pairAt_18 : decode cX6_pairAt 18 = .ok (.dup, 1) := by decide +kernel
theorem dX6_pairAt_19 : decode cX6_pairAt 19 = .ok (.ldc 221, 2) := by decide +kernel
theorem dX6_pairAt_21 : decode cX6_pairAt 21 = .ok (.invokespecial 167, 3) := by decide +kernel
theorem dX6_pairAt_24 : decode cX6_pairAt 24 = .ok (.athrow, 1) := by decide +kernel
theorem dX6_pairAt_25 : decode cX6_pairAt 25 = .ok (.aload_n 2, 1) := by decide +kernel
theorem dX6_pairAt_26 : decode cX6_pairAt 26 = .ok (.areturn, 1) := by decide +kernel
theorem dX6_holderAt_0 : decode cX6_holderAt 0 = .ok (.aload_n 0, 1) := by decide +kernel
theorem dX6_holderAt_1 : decode cX6_holderAt 1 = .ok (.getfield 11, 3) := by decide +kernel
theorem dX6_holderAt_4 : decode cX6_holderAt 4 = .ok (.iload_n 1, 1) := by decide +kernel
theorem dX6_holderAt_5 : decode cX6_holderAt 5 = .ok (.aaload, 1) := by decide +kernel
theorem dX6_holderAt_6 : decode cX6_holderAt 6 = .ok (.astore_n 3, 1) := by decide +kernel
theorem dX6_holderAt_7 : decode cX6_holderAt 7 = .ok (.aload_n 3, 1) := by decide +kernel
theorem dX6_holderAt_8 : decode cX6_holderAt 8 = .ok (.instanceof 67, 3) := by decide +kernel
theorem dX6_holderAt_11 : decode cX6_holderAt 11 = .ok (.ifCond .eq 10, 3) := by decide +kernel
theorem dX6_holderAt_14 : decode cX6_holderAt 14 = .ok (.aload_n 3, 1) := by decide +kernel
theorem dX6_holderAt_15 : decode cX6_holderAt 15 = .ok (.checkcast 67, 3) := by decide +kernel
theorem dX6_holderAt_18 : decode cX6_holderAt 18 = .ok (.astore_n 2, 1) := by decide +kernel
theorem dX6_holderAt_19 : decode cX6_holderAt 19 = .ok (.aload_n 2, 1) := by decide +kernel
theorem dX6_holderAt_20 : decode cX6_holderAt 20 = .ok (.areturn, 1) := by decide +kernel
theorem dX6_holderAt_21 : decode cX6_holderAt 21 = .ok (.new 163, 3) := by decide +kernel
theorem dX6_holderAt_24 : decode cX6_holderAt 24 = .ok (.dup, 1) := by decide +kernel
theorem dX6_holderAt_25 : decode cX6_holderAt 25 = .ok (.ldc 223, 2) := by decide +kernel
theorem dX6_holderAt_27 : decode cX6_holderAt 27 = .ok (.invokespecial 167, 3) := by decide +kernel
theorem dX6_holderAt_30 : decode cX6_holderAt 30 = .ok (.athrow, 1) := by decide +kernel
theorem dX6_holderOfRef_0 : decode cX6_holderOfRef 0 = .ok (.aload_n 0, 1) := by decide +kernel
theorem dX6_holderOfRef_1 : decode cX6_holderOfRef 1 = .ok (.iload_n 1, 1) := by decide +kernel
theorem dX6_holderOfRef_2 : decode cX6_holderOfRef 2 = .ok (.invokevirtual 225, 3) := by decide +kernel
theorem dX6_holderOfRef_5 : decode cX6_holderOfRef 5 = .ok (.astore_n 3, 1) := by decide +kernel
theorem dX6_holderOfRef_6 : decode cX6_holderOfRef 6 = .ok (.iload_n 2, 1) := by decide +kernel
theorem dX6_holderOfRef_7 : decode cX6_holderOfRef 7 = .ok (.aload_n 3, 1) := by decide +kernel
theorem dX6_holderOfRef_8 : decode cX6_holderOfRef 8 = .ok (.getfield 108, 3) := by decide +kernel
theorem dX6_holderOfRef_11 : decode cX6_holderOfRef 11 = .ok (.arraylength, 1) := by decide +kernel
theorem dX6_holderOfRef_12 : decode cX6_holderOfRef 12 = .ok (.if_icmp .lt 13, 3) := by decide +kernel
theorem dX6_holderOfRef_15 : decode cX6_holderOfRef 15 = .ok (.new 163, 3) := by decide +kernel
theorem dX6_holderOfRef_18 : decode cX6_holderOfRef 18 = .ok (.dup, 1) := by decide +kernel
theorem dX6_holderOfRef_19 : decode cX6_holderOfRef 19 = .ok (.ldc 229, 2) := by decide +kernel
theorem dX6_holderOfRef_21 : decode cX6_holderOfRef 21 = .ok (.invokespecial 167, 3) := by decide +kernel
theorem dX6_holderOfRef_24 : decode cX6_holderOfRef 24 = .ok (.athrow, 1) := by decide +kernel
theorem dX6_holderOfRef_25 : decode cX6_holderOfRef 25 = .ok (.aload_n 3, 1) := by decide +kernel
theorem dX6_holderOfRef_26 : decode cX6_holderOfRef 26 = .ok (.areturn, 1) := by decide +kernel
theorem dX6_holderOfNumber_0 : decode cX6_holderOfNumber 0 = .ok (.aload_n 0, 1) := by decide +kernel
theorem dX6_holderOfNumber_1 : decode cX6_holderOfNumber 1 = .ok (.iload_n 1, 1) := by decide +kernel
theorem dX6_holderOfNumber_2 : decode cX6_holderOfNumber 2 = .ok (.invokevirtual 225, 3) := by decide +kernel
theorem dX6_holderOfNumber_5 : decode cX6_holderOfNumber 5 = .ok (.astore_n 3, 1) := by decide +kernel
theorem dX6_holderOfNumber_6 : decode cX6_holderOfNumber 6 = .ok (.iload_n 2, 1) := by decide +kernel
theorem dX6_holderOfNumber_7 : decode cX6_holderOfNumber 7 = .ok (.aload_n 3, 1) := by decide +kernel
theorem dX6_holderOfNumber_8 : decode cX6_holderOfNumber 8 = .ok (.getfield 118, 3) := by decide +kernel
theorem dX6_holderOfNumber_11 : decode cX6_holderOfNumber 11 = .ok (.arraylength, 1) := by decide +kernel
theorem dX6_holderOfNumber_12 : decode cX6_holderOfNumber 12 = .ok (.if_icmp .lt 13, 3) := by decide +kernel
theorem dX6_holderOfNumber_15 : decode cX6_holderOfNumber 15 = .ok (.new 163, 3) := by decide +kernel
theorem dX6_holderOfNumber_18 : decode cX6_holderOfNumber 18 = .ok (.dup, 1) := by decide +kernel
theorem dX6_holderOfNumber_19 : decode cX6_holderOfNumber 19 = .ok (.ldc 231, 2) := by decide +kernel
theorem dX6_holderOfNumber_21 : decode cX6_holderOfNumber 21 = .ok (.invokespecial 167, 3) := by decide +kernel
theorem dX6_holderOfNumber_24 : decode cX6_holderOfNumber 24 = .ok (.athrow, 1) := by decide +kernel
theorem dX6_holderOfNumber_25 : decode cX6_holderOfNumber 25 = .ok (.aload_n 3, 1) := by decide +kernel
theorem dX6_holderOfNumber_26 : decode cX6_holderOfNumber 26 = .ok (.areturn, 1) := by decide +kernel
theorem dX6_fits_0 : decode cX6_fits 0 = .ok (.aload_n 0, 1) := by decide +kernel
theorem dX6_fits_1 : decode cX6_fits 1 = .ok (.getfield 19, 3) := by decide +kernel
theorem dX6_fits_4 : decode cX6_fits 4 = .ok (.iconst 0, 1) := by decide +kernel
theorem dX6_fits_5 : decode cX6_fits 5 = .ok (.iaload, 1) := by decide +kernel
theorem dX6_fits_6 : decode cX6_fits 6 = .ok (.iload_n 1, 1) := by decide +kernel
theorem dX6_fits_7 : decode cX6_fits 7 = .ok (.iadd, 1) := by decide +kernel
theorem dX6_fits_8 : decode cX6_fits 8 = .ok (.aload_n 0, 1) := by decide +kernel
theorem dX6_fits_9 : decode cX6_fits 9 = .ok (.getfield 48, 3) := by decide +kernel
theorem dX6_fits_12 : decode cX6_fits 12 = .ok (.if_icmp .gt 7, 3) := by decide +kernel
theorem dX6_fits_15 : decode cX6_fits 15 = .ok (.iconst 1, 1) := by decide +kernel
theorem dX6_fits_16 : decode cX6_fits 16 = .ok (.goto 4, 3) := by decide +kernel
theorem dX6_fits_19 : decode cX6_fits 19 = .ok (.iconst 0, 1) := by decide +kernel
theorem dX6_fits_20 : decode cX6_fits 20 = .ok (.ireturn, 1) := by decide +kernel
theorem dX6_makeRoom_0 : decode cX6_makeRoom 0 = .ok (.aload_n 0, 1) := by decide +kernel
theorem dX6_makeRoom_1 : decode cX6_makeRoom 1 = .ok (.iload_n 1, 1) := by decide +kernel
theorem dX6_makeRoom_2 : decode cX6_makeRoom 2 = .ok (.invokevirtual 233, 3) := by decide +kernel
theorem dX6_makeRoom_5 : decode cX6_makeRoom 5 = .ok (.ifCond .ne 9, 3) := by decide +kernel
theorem dX6_makeRoom_8 : decode cX6_makeRoom 8 = .ok (.aload_n 0, 1) := by decide +kernel
theorem dX6_makeRoom_9 : decode cX6_makeRoom 9 = .ok (.iconst 0, 1) := by decide +kernel
theorem dX6_makeRoom_10 : decode cX6_makeRoom 10 = .ok (.invokevirtual 172, 3) := by decide +kernel
theorem dX6_makeRoom_13 : decode cX6_makeRoom 13 = .ok (.pop, 1) := by decide +kernel
theorem dX6_makeRoom_14 : decode cX6_makeRoom 14 = .ok (.aload_n 0, 1) := by decide +kernel
theorem dX6_makeRoom_15 : decode cX6_makeRoom 15 = .ok (.iload_n 1, 1) := by decide +kernel
theorem dX6_makeRoom_16 : decode cX6_makeRoom 16 = .ok (.invokevirtual 233, 3) := by decide +kernel
theorem dX6_makeRoom_19 : decode cX6_makeRoom 19 = .ok (.ifCond .ne 9, 3) := by decide +kernel
theorem dX6_makeRoom_22 : decode cX6_makeRoom 22 = .ok (.aload_n 0, 1) := by decide +kernel
theorem dX6_makeRoom_23 : decode cX6_makeRoom 23 = .ok (.iconst 1, 1) := by decide +kernel
theorem dX6_makeRoom_24 : decode cX6_makeRoom 24 = .ok (.invokevirtual 172, 3) := by decide +kernel
theorem dX6_makeRoom_27 : decode cX6_makeRoom 27 = .ok (.pop, 1) := by decide +kernel
theorem dX6_makeRoom_28 : decode cX6_makeRoom 28 = .ok (.aload_n 0, 1) := by decide +kernel
theorem dX6_makeRoom_29 : decode cX6_makeRoom 29 = .ok (.iload_n 1, 1) := by decide +kernel
theorem dX6_makeRoom_30 : decode cX6_makeRoom 30 = .ok (.invokevirtual 233, 3) := by decide +kernel
theorem dX6_makeRoom_33 : decode cX6_makeRoom 33 = .ok (.ifCond .ne 16, 3) := by decide +kernel
theorem dX6_makeRoom_36 : decode cX6_makeRoom 36 = .ok (.aload_n 0, 1) := by decide +kernel
theorem dX6_makeRoom_37 : decode cX6_makeRoom 37 = .ok (.getfield 19, 3) := by decide +kernel
theorem dX6_makeRoom_40 : decode cX6_makeRoom 40 = .ok (.bipush 9, 2) := by decide +kernel
theorem dX6_makeRoom_42 : decode cX6_makeRoom 42 = .ok (.dup2, 1) := by decide +kernel
theorem dX6_makeRoom_43 : decode cX6_makeRoom 43 = .ok (.iaload, 1) := by decide +kernel
theorem dX6_makeRoom_44 : decode cX6_makeRoom 44 = .ok (.iconst 1, 1) := by decide +kernel
theorem dX6_makeRoom_45 : decode cX6_makeRoom 45 = .ok (.iadd, 1) := by decide +kernel
theorem dX6_makeRoom_46 : decode cX6_makeRoom 46 = .ok (.iastore, 1) := by decide +kernel
theorem dX6_makeRoom_47 : decode cX6_makeRoom 47 = .ok (.iconst 0, 1) := by decide +kernel
theorem dX6_makeRoom_48 : decode cX6_makeRoom 48 = .ok (.ireturn, 1) := by decide +kernel
theorem dX6_makeRoom_49 : decode cX6_makeRoom 49 = .ok (.iconst 1, 1) := by decide +kernel
theorem dX6_makeRoom_50 : decode cX6_makeRoom 50 = .ok (.ireturn, 1) := by decide +kernel
theorem dX6_keep_0 : decode cX6_keep 0 = .ok (.aload_n 0, 1) := by decide +kernel
theorem dX6_keep_1 : decode cX6_keep 1 = .ok (.getfield 19, 3) := by decide +kernel
theorem dX6_keep_4 : decode cX6_keep 4 = .ok (.iconst 2, 1) := by decide +kernel
theorem dX6_keep_5 : decode cX6_keep 5 = .ok (.dup2, 1) := by decide +kernel
theorem dX6_keep_6 : decode cX6_keep 6 = .ok (.iaload, 1) := by decide +kernel
theorem dX6_keep_7 : decode cX6_keep 7 = .ok (.iconst 1, 1) := by decide +kernel
theorem dX6_keep_8 : decode cX6_keep 8 = .ok (.iadd, 1) := by decide +kernel
theorem dX6_keep_9 : decode cX6_keep 9 = .ok (.iastore, 1) := by decide +kernel
theorem dX6_keep_10 : decode cX6_keep 10 = .ok (.aload_n 0, 1) := by decide +kernel
theorem dX6_keep_11 : decode cX6_keep 11 = .ok (.getfield 19, 3) := by decide +kernel
theorem dX6_keep_14 : decode cX6_keep 14 = .ok (.iconst 1, 1) := by decide +kernel
theorem dX6_keep_15 : decode cX6_keep 15 = .ok (.dup2, 1) := by decide +kernel
theorem dX6_keep_16 : decode cX6_keep 16 = .ok (.iaload, 1) := by decide +kernel
theorem dX6_keep_17 : decode cX6_keep 17 = .ok (.iconst 1, 1) := by decide +kernel
theorem dX6_keep_18 : decode cX6_keep 18 = .ok (.iadd, 1) := by decide +kernel
theorem dX6_keep_19 : decode cX6_keep 19 = .ok (.iastore, 1) := by decide +kernel
theorem dX6_keep_20 : decode cX6_keep 20 = .ok (.aload_n 0, 1) := by decide +kernel
theorem dX6_keep_21 : decode cX6_keep 21 = .ok (.getfield 19, 3) := by decide +kernel
theorem dX6_keep_24 : decode cX6_keep 24 = .ok (.iconst 0, 1) := by decide +kernel
theorem dX6_keep_25 : decode cX6_keep 25 = .ok (.dup2, 1) := by decide +kernel
theorem dX6_keep_26 : decode cX6_keep 26 = .ok (.iaload, 1) := by decide +kernel
theorem dX6_keep_27 : decode cX6_keep 27 = .ok (.aload_n 2, 1) := by decide +kernel
theorem dX6_keep_28 : decode cX6_keep 28 = .ok (.getfield 236, 3) := by decide +kernel
theorem dX6_keep_31 : decode cX6_keep 31 = .ok (.iadd, 1) := by decide +kernel
theorem dX6_keep_32 : decode cX6_keep 32 = .ok (.iastore, 1) := by decide +kernel
theorem dX6_keep_33 : decode cX6_keep 33 = .ok (.aload_n 0, 1) := by decide +kernel
theorem dX6_keep_34 : decode cX6_keep 34 = .ok (.getfield 19, 3) := by decide +kernel
theorem dX6_keep_37 : decode cX6_keep 37 = .ok (.bipush 6, 2) := by decide +kernel
theorem dX6_keep_39 : decode cX6_keep 39 = .ok (.aload_n 0, 1) := by decide +kernel
theorem dX6_keep_40 : decode cX6_keep 40 = .ok (.getfield 19, 3) := by decide +kernel
theorem dX6_keep_43 : decode cX6_keep 43 = .ok (.bipush 6, 2) := by decide +kernel
theorem dX6_keep_45 : decode cX6_keep 45 = .ok (.iaload, 1) := by decide +kernel
theorem dX6_keep_46 : decode cX6_keep 46 = .ok (.aload_n 0, 1) := by decide +kernel
theorem dX6_keep_47 : decode cX6_keep 47 = .ok (.getfield 19, 3) := by decide +kernel
theorem dX6_keep_50 : decode cX6_keep 50 = .ok (.iconst 0, 1) := by decide +kernel
theorem dX6_keep_51 : decode cX6_keep 51 = .ok (.iaload, 1) := by decide +kernel
theorem dX6_keep_52 : decode cX6_keep 52 = .ok (.invokestatic 45, 3) := by decide +kernel
theorem dX6_keep_55 : decode cX6_keep 55 = .ok (.iastore, 1) := by decide +kernel
theorem dX6_keep_56 : decode cX6_keep 56 = .ok (.aload_n 0, 1) := by decide +kernel
theorem dX6_keep_57 : decode cX6_keep 57 = .ok (.getfield 11, 3) := by decide +kernel
theorem dX6_keep_60 : decode cX6_keep 60 = .ok (.iload_n 1, 1) := by decide +kernel
theorem dX6_keep_61 : decode cX6_keep 61 = .ok (.aload_n 2, 1) := by decide +kernel
theorem dX6_keep_62 : decode cX6_keep 62 = .ok (.aastore, 1) := by decide +kernel
theorem dX6_keep_63 : decode cX6_keep 63 = .ok (.aload_n 0, 1) := by decide +kernel
theorem dX6_keep_64 : decode cX6_keep 64 = .ok (.getfield 25, 3) := by decide +kernel
theorem dX6_keep_67 : decode cX6_keep 67 = .ok (.aload_n 2, 1) := by decide +kernel
theorem dX6_keep_68 : decode cX6_keep 68 = .ok (.invokevirtual 239, 3) := by decide +kernel
theorem dX6_keep_71 : decode cX6_keep 71 = .ok (.aload_n 0, 1) := by decide +kernel
theorem dX6_keep_72 : decode cX6_keep 72 = .ok (.dup, 1) := by decide +kernel
theorem dX6_keep_73 : decode cX6_keep 73 = .ok (.getfield 179, 3) := by decide +kernel
theorem dX6_keep_76 : decode cX6_keep 76 = .ok (.iconst 1, 1) := by decide +kernel
theorem dX6_keep_77 : decode cX6_keep 77 = .ok (.iadd, 1) := by decide +kernel
theorem dX6_keep_78 : decode cX6_keep 78 = .ok (.putfield 179, 3) := by decide +kernel
theorem dX6_keep_81 : decode cX6_keep 81 = .ok (.aload_n 0, 1) := by decide +kernel
theorem dX6_keep_82 : decode cX6_keep 82 = .ok (.invokevirtual 242, 3) := by decide +kernel
theorem dX6_keep_85 : decode cX6_keep 85 = .ok (.ifCond .eq 12, 3) := by decide +kernel
theorem dX6_keep_88 : decode cX6_keep 88 = .ok (.aload_n 0, 1) := by decide +kernel
theorem dX6_keep_89 : decode cX6_keep 89 = .ok (.invokevirtual 246, 3) := by decide +kernel
theorem dX6_keep_92 : decode cX6_keep 92 = .ok (.aload_n 0, 1) := by decide +kernel
theorem dX6_keep_93 : decode cX6_keep 93 = .ok (.iconst 0, 1) := by decide +kernel
theorem dX6_keep_94 : decode cX6_keep 94 = .ok (.putfield 179, 3) := by decide +kernel
theorem dX6_keep_97 : decode cX6_keep 97 = .ok (.aload_n 2, 1) := by decide +kernel
theorem dX6_keep_98 : decode cX6_keep 98 = .ok (.getfield 236, 3) := by decide +kernel
theorem dX6_keep_101 : decode cX6_keep 101 = .ok (.ireturn, 1) := by decide +kernel
theorem dX6_isCarryDue_0 : decode cX6_isCarryDue 0 = .ok (.aload_n 0, 1) := by decide +kernel
theorem dX6_isCarryDue_1 : decode cX6_isCarryDue 1 = .ok (.getfield 176, 3) := by decide +kernel
theorem dX6_isCarryDue_4 : decode cX6_isCarryDue 4 = .ok (.ifCond .ne 25, 3) := by decide +kernel
theorem dX6_isCarryDue_7 : decode cX6_isCarryDue 7 = .ok (.aload_n 0, 1) := by decide +kernel
theorem dX6_isCarryDue_8 : decode cX6_isCarryDue 8 = .ok (.getfield 25, 3) := by decide +kernel
theorem dX6_isCarryDue_11 : decode cX6_isCarryDue 11 = .ok (.getfield 249, 3) := by decide +kernel
theorem dX6_isCarryDue_14 : decode cX6_isCarryDue 14 = .ok (.aload_n 0, 1) := by decide +kernel
theorem dX6_isCarryDue_15 : decode cX6_isCarryDue 15 = .ok (.getfield 52, 3) := by decide +kernel
theorem dX6_isCarryDue_18 : decode cX6_isCarryDue 18 = .ok (.if_icmp .lt 7, 3) := by decide +kernel
theorem dX6_isCarryDue_21 : decode cX6_isCarryDue 21 = .ok (.iconst 1, 1) := by decide +kernel
theorem dX6_isCarryDue_22 : decode cX6_isCarryDue 22 = .ok (.goto 23, 3) := by decide +kernel
theorem dX6_isCarryDue_25 : decode cX6_isCarryDue 25 = .ok (.iconst 0, 1) := by decide +kernel
theorem dX6_isCarryDue_26 : decode cX6_isCarryDue 26 = .ok (.goto 19, 3) := by decide +kernel
theorem dX6_isCarryDue_29 : decode cX6_isCarryDue 29 = .ok (.aload_n 0, 1) := by decide +kernel
theorem dX6_isCarryDue_30 : decode cX6_isCarryDue 30 = .ok (.getfield 179, 3) := by decide +kernel
theorem dX6_isCarryDue_33 : decode cX6_isCarryDue 33 = .ok (.aload_n 0, 1) := by decide +kernel
theorem dX6_isCarryDue_34 : decode cX6_isCarryDue 34 = .ok (.getfield 176, 3) := by decide +kernel
theorem dX6_isCarryDue_37 : decode cX6_isCarryDue 37 = .ok (.if_icmp .lt 7, 3) := by decide +kernel
theorem dX6_isCarryDue_40 : decode cX6_isCarryDue 40 = .ok (.iconst 1, 1) := by decide +kernel
theorem dX6_isCarryDue_41 : decode cX6_isCarryDue 41 = .ok (.goto 4, 3) := by decide +kernel
theorem dX6_isCarryDue_44 : decode cX6_isCarryDue 44 = .ok (.iconst 0, 1) := by decide +kernel
theorem dX6_isCarryDue_45 : decode cX6_isCarryDue 45 = .ok (.ireturn, 1) := by decide +kernel
theorem dX6_carryOver_0 : decode cX6_carryOver 0 = .ok (.aload_n 0, 1) := by decide +kernel
theorem dX6_carryOver_1 : decode cX6_carryOver 1 = .ok (.getfield 29, 3) := by decide +kernel
theorem dX6_carryOver_4 : decode cX6_carryOver 4 = .ok (.aload_n 0, 1) := by decide +kernel
theorem dX6_carryOver_5 : decode cX6_carryOver 5 = .ok (.getfield 25, 3) := by decide +kernel
theorem dX6_carryOver_8 : decode cX6_carryOver 8 = .ok (.invokevirtual 250, 3) := by decide +kernel
theorem dX6_carryOver_11 : decode cX6_carryOver 11 = .ok (.return_, 1) := by decide +kernel
theorem dX6_collectWhole_0 : decode cX6_collectWhole 0 = .ok (.aload_n 0, 1) := by decide +kernel
theorem dX6_collectWhole_1 : decode cX6_collectWhole 1 = .ok (.getfield 19, 3) := by decide +kernel
theorem dX6_collectWhole_4 : decode cX6_collectWhole 4 = .ok (.iconst 3, 1) := by decide +kernel
theorem dX6_collectWhole_5 : decode cX6_collectWhole 5 = .ok (.dup2, 1) := by decide +kernel
theorem dX6_collectWhole_6 : decode cX6_collectWhole 6 = .ok (.iaload, 1) := by decide +kernel
theorem dX6_collectWhole_7 : decode cX6_collectWhole 7 = .ok (.iconst 1, 1) := by decide +kernel
theorem dX6_collectWhole_8 : decode cX6_collectWhole 8 = .ok (.iadd, 1) := by decide +kernel
theorem dX6_collectWhole_9 : decode cX6_collectWhole 9 = .ok (.iastore, 1) := by decide +kernel
theorem dX6_collectWhole_10 : decode cX6_collectWhole 10 = .ok (.aload_n 0, 1) := by decide +kernel
theorem dX6_collectWhole_11 : decode cX6_collectWhole 11 = .ok (.invokevirtual 246, 3) := by decide +kernel
theorem dX6_collectWhole_14 : decode cX6_collectWhole 14 = .ok (.aload_n 0, 1) := by decide +kernel
theorem dX6_collectWhole_15 : decode cX6_collectWhole 15 = .ok (.iload_n 1, 1) := by decide +kernel
theorem dX6_collectWhole_16 : decode cX6_collectWhole 16 = .ok (.invokevirtual 254, 3) := by decide +kernel
theorem dX6_collectWhole_19 : decode cX6_collectWhole 19 = .ok (.aload_n 0, 1) := by decide +kernel
theorem dX6_collectWhole_20 : decode cX6_collectWhole 20 = .ok (.invokevirtual 258, 3) := by decide +kernel
theorem dX6_collectWhole_23 : decode cX6_collectWhole 23 = .ok (.aload_n 0, 1) := by decide +kernel
theorem dX6_collectWhole_24 : decode cX6_collectWhole 24 = .ok (.invokevirtual 261, 3) := by decide +kernel
theorem dX6_collectWhole_27 : decode cX6_collectWhole 27 = .ok (.ireturn, 1) := by decide +kernel
theorem dX6_reachFromRoots_0 : decode cX6_reachFromRoots 0 = .ok (.aload_n 0, 1) := by decide +kernel
theorem dX6_reachFromRoots_1 : decode cX6_reachFromRoots 1 = .ok (.getfield 35, 3) := by decide +kernel
theorem dX6_reachFromRoots_4 : decode cX6_reachFromRoots 4 = .ok (.invokevirtual 184, 3) := by decide +kernel
theorem dX6_reachFromRoots_7 : decode cX6_reachFromRoots 7 = .ok (.iconst 0, 1) := by decide +kernel
theorem dX6_reachFromRoots_8 : decode cX6_reachFromRoots 8 = .ok (.istore_n 2, 1) := by decide +kernel
theorem dX6_reachFromRoots_9 : decode cX6_reachFromRoots 9 = .ok (.iload_n 2, 1) := by decide +kernel
theorem dX6_reachFromRoots_10 : decode cX6_reachFromRoots 10 = .ok (.aload_n 0, 1) := by decide +kernel
theorem dX6_reachFromRoots_11 : decode cX6_reachFromRoots 11 = .ok (.getfield 19, 3) := by decide +kernel
theorem dX6_reachFromRoots_14 : decode cX6_reachFromRoots 14 = .ok (.bipush 7, 2) := by decide +kernel
theorem dX6_reachFromRoots_16 : decode cX6_reachFromRoots 16 = .ok (.iaload, 1) := by decide +kernel
theorem dX6_reachFromRoots_17 : decode cX6_reachFromRoots 17 = .ok (.if_icmp .ge 22, 3) := by decide +kernel
theorem dX6_reachFromRoots_20 : decode cX6_reachFromRoots 20 = .ok (.aload_n 0, 1) := by decide +kernel
theorem dX6_reachFromRoots_21 : decode cX6_reachFromRoots 21 = .ok (.getfield 35, 3) := by decide +kernel
theorem dX6_reachFromRoots_24 : decode cX6_reachFromRoots 24 = .ok (.aload_n 0, 1) := by decide +kernel
theorem dX6_reachFromRoots_25 : decode cX6_reachFromRoots 25 = .ok (.getfield 11, 3) := by decide +kernel
theorem dX6_reachFromRoots_28 : decode cX6_reachFromRoots 28 = .ok (.iload_n 2, 1) := by decide +kernel
theorem dX6_reachFromRoots_29 : decode cX6_reachFromRoots 29 = .ok (.aaload, 1) := by decide +kernel
theorem dX6_reachFromRoots_30 : decode cX6_reachFromRoots 30 = .ok (.invokevirtual 187, 3) := by decide +kernel
theorem dX6_reachFromRoots_33 : decode cX6_reachFromRoots 33 = .ok (.iinc 2 1, 3) := by decide +kernel
theorem dX6_reachFromRoots_36 : decode cX6_reachFromRoots 36 = .ok (.goto (-27), 3) := by decide +kernel
theorem dX6_reachFromRoots_39 : decode cX6_reachFromRoots 39 = .ok (.aload_n 0, 1) := by decide +kernel
theorem dX6_reachFromRoots_40 : decode cX6_reachFromRoots 40 = .ok (.getfield 19, 3) := by decide +kernel
theorem dX6_reachFromRoots_43 : decode cX6_reachFromRoots 43 = .ok (.iconst 1, 1) := by decide +kernel
theorem dX6_reachFromRoots_44 : decode cX6_reachFromRoots 44 = .ok (.iaload, 1) := by decide +kernel
theorem dX6_reachFromRoots_45 : decode cX6_reachFromRoots 45 = .ok (.istore_n 2, 1) := by decide +kernel
theorem dX6_reachFromRoots_46 : decode cX6_reachFromRoots 46 = .ok (.aload_n 0, 1) := by decide +kernel
theorem dX6_reachFromRoots_47 : decode cX6_reachFromRoots 47 = .ok (.getfield 35, 3) := by decide +kernel
theorem dX6_reachFromRoots_50 : decode cX6_reachFromRoots 50 = .ok (.getfield 191, 3) := by decide +kernel
theorem dX6_reachFromRoots_53 : decode cX6_reachFromRoots 53 = .ok (.astore_n 3, 1) := by decide +kernel
theorem dX6_reachFromRoots_54 : decode cX6_reachFromRoots 54 = .ok (.aload_n 3, 1) := by decide +kernel
theorem dX6_reachFromRoots_55 : decode cX6_reachFromRoots 55 = .ok (.ifnull 35, 3) := by decide +kernel
theorem dX6_reachFromRoots_58 : decode cX6_reachFromRoots 58 = .ok (.iload_n 2, 1) := by decide +kernel
theorem dX6_reachFromRoots_59 : decode cX6_reachFromRoots 59 = .ok (.ifCond .le 31, 3) := by decide +kernel
theorem dX6_reachFromRoots_62 : decode cX6_reachFromRoots 62 = .ok (.aload_n 3, 1) := by decide +kernel
theorem dX6_reachFromRoots_63 : decode cX6_reachFromRoots 63 = .ok (.aload_n 0, 1) := by decide +kernel
theorem dX6_reachFromRoots_64 : decode cX6_reachFromRoots 64 = .ok (.getfield 35, 3) := by decide +kernel
theorem dX6_reachFromRoots_67 : decode cX6_reachFromRoots 67 = .ok (.iload_n 1, 1) := by decide +kernel
theorem dX6_reachFromRoots_68 : decode cX6_reachFromRoots 68 = .ok (.invokevirtual 265, 3) := by decide +kernel
theorem dX6_reachFromRoots_71 : decode cX6_reachFromRoots 71 = .ok (.aload_n 3, 1) := by decide +kernel
theorem dX6_reachFromRoots_72 : decode cX6_reachFromRoots 72 = .ok (.aload_n 0, 1) := by decide +kernel
theorem dX6_reachFromRoots_73 : decode cX6_reachFromRoots 73 = .ok (.getfield 35, 3) := by decide +kernel
theorem dX6_reachFromRoots_76 : decode cX6_reachFromRoots 76 = .ok (.invokevirtual 269, 3) := by decide +kernel
theorem dX6_reachFromRoots_79 : decode cX6_reachFromRoots 79 = .ok (.iinc 2 (-1), 3) := by decide +kernel
theorem dX6_reachFromRoots_82 : decode cX6_reachFromRoots 82 = .ok (.aload_n 3, 1) := by decide +kernel
theorem dX6_reachFromRoots_83 : decode cX6_reachFromRoots 83 = .ok (.getfield 202, 3) := by decide +kernel
theorem dX6_reachFromRoots_86 : decode cX6_reachFromRoots 86 = .ok (.astore_n 3, 1) := by decide +kernel
theorem dX6_reachFromRoots_87 : decode cX6_reachFromRoots 87 = .ok (.goto (-33), 3) := by decide +kernel
theorem dX6_reachFromRoots_90 : decode cX6_reachFromRoots 90 = .ok (.return_, 1) := by decide +kernel
theorem dX6_letGoOfUnreached_0 : decode cX6_letGoOfUnreached 0 = .ok (.aload_n 0, 1) := by decide +kernel
theorem dX6_letGoOfUnreached_1 : decode cX6_letGoOfUnreached 1 = .ok (.getfield 29, 3) := by decide +kernel
theorem dX6_letGoOfUnreached_4 : decode cX6_letGoOfUnreached 4 = .ok (.getfield 273, 3) := by decide +kernel
theorem dX6_letGoOfUnreached_7 : decode cX6_letGoOfUnreached 7 = .ok (.astore_n 1, 1) := by decide +kernel
theorem dX6_letGoOfUnreached_8 : decode cX6_letGoOfUnreached 8 = .ok (.aload_n 1, 1) := by decide +kernel
theorem dX6_letGoOfUnreached_9 : decode cX6_letGoOfUnreached 9 = .ok (.ifnull 65, 3) := by decide +kernel
theorem dX6_letGoOfUnreached_12 : decode cX6_letGoOfUnreached 12 = .ok (.aload_n 1, 1) := by decide +kernel
theorem dX6_letGoOfUnreached_13 : decode cX6_letGoOfUnreached 13 = .ok (.instanceof 90, 3) := by decide +kernel
theorem dX6_letGoOfUnreached_16 : decode cX6_letGoOfUnreached 16 = .ok (.ifCond .eq 50, 3) := by decide +kernel
theorem dX6_letGoOfUnreached_19 : decode cX6_letGoOfUnreached 19 = .ok (.aload_n 1, 1) := by decide +kernel
theorem dX6_letGoOfUnreached_20 : decode cX6_letGoOfUnreached 20 = .ok (.checkcast 90, 3) := by decide +kernel
theorem dX6_letGoOfUnreached_23 : decode cX6_letGoOfUnreached 23 = .ok (.astore_n 2, 1) := by decide +kernel
theorem dX6_letGoOfUnreached_24 : decode cX6_letGoOfUnreached 24 = .ok (.aload_n 0, 1) := by decide +kernel
theorem dX6_letGoOfUnreached_25 : decode cX6_letGoOfUnreached 25 = .ok (.getfield 35, 3) := by decide +kernel
theorem dX6_letGoOfUnreached_28 : decode cX6_letGoOfUnreached 28 = .ok (.aload_n 2, 1) := by decide +kernel
theorem dX6_letGoOfUnreached_29 : decode cX6_letGoOfUnreached 29 = .ok (.invokevirtual 274, 3) := by decide +kernel
theorem dX6_letGoOfUnreached_32 : decode cX6_letGoOfUnreached 32 = .ok (.ifCond .eq 34, 3) := by decide +kernel
theorem dX6_letGoOfUnreached_35 : decode cX6_letGoOfUnreached 35 = .ok (.aload_n 2, 1) := by decide +kernel
theorem dX6_letGoOfUnreached_36 : decode cX6_letGoOfUnreached 36 = .ok (.aload_n 0, 1) := by decide +kernel
theorem dX6_letGoOfUnreached_37 : decode cX6_letGoOfUnreached 37 = .ok (.getfield 35, 3) := by decide +kernel
theorem dX6_letGoOfUnreached_40 : decode cX6_letGoOfUnreached 40 = .ok (.invokevirtual 278, 3) := by decide +kernel
theorem dX6_letGoOfUnreached_43 : decode cX6_letGoOfUnreached 43 = .ok (.ifCond .eq 23, 3) := by decide +kernel
theorem dX6_letGoOfUnreached_46 : decode cX6_letGoOfUnreached 46 = .ok (.aload_n 2, 1) := by decide +kernel
theorem dX6_letGoOfUnreached_47 : decode cX6_letGoOfUnreached 47 = .ok (.invokevirtual 139, 3) := by decide +kernel
theorem dX6_letGoOfUnreached_50 : decode cX6_letGoOfUnreached 50 = .ok (.aload_n 0, 1) := by decide +kernel
theorem dX6_letGoOfUnreached_51 : decode cX6_letGoOfUnreached 51 = .ok (.getfield 19, 3) := by decide +kernel
theorem dX6_letGoOfUnreached_54 : decode cX6_letGoOfUnreached 54 = .ok (.iconst 5, 1) := by decide +kernel
theorem dX6_letGoOfUnreached_55 : decode cX6_letGoOfUnreached 55 = .ok (.dup2, 1) := by decide +kernel
theorem dX6_letGoOfUnreached_56 : decode cX6_letGoOfUnreached 56 = .ok (.iaload, 1) := by decide +kernel
theorem dX6_letGoOfUnreached_57 : decode cX6_letGoOfUnreached 57 = .ok (.iconst 1, 1) := by decide +kernel
theorem dX6_letGoOfUnreached_58 : decode cX6_letGoOfUnreached 58 = .ok (.iadd, 1) := by decide +kernel
theorem dX6_letGoOfUnreached_59 : decode cX6_letGoOfUnreached 59 = .ok (.iastore, 1) := by decide +kernel
theorem dX6_letGoOfUnreached_60 : decode cX6_letGoOfUnreached 60 = .ok (.aload_n 0, 1) := by decide +kernel
theorem dX6_letGoOfUnreached_61 : decode cX6_letGoOfUnreached 61 = .ok (.aload_n 2, 1) := by decide +kernel
theorem dX6_letGoOfUnreached_62 : decode cX6_letGoOfUnreached 62 = .ok (.invokevirtual 142, 3) := by decide +kernel
theorem dX6_letGoOfUnreached_65 : decode cX6_letGoOfUnreached 65 = .ok (.pop, 1) := by decide +kernel
theorem dX6_letGoOfUnreached_66 : decode cX6_letGoOfUnreached 66 = .ok (.aload_n 1, 1) := by decide +kernel
theorem dX6_letGoOfUnreached_67 : decode cX6_letGoOfUnreached 67 = .ok (.getfield 282, 3) := by decide +kernel
theorem dX6_letGoOfUnreached_70 : decode cX6_letGoOfUnreached 70 = .ok (.astore_n 1, 1) := by decide +kernel
theorem dX6_letGoOfUnreached_71 : decode cX6_letGoOfUnreached 71 = .ok (.goto (-63), 3) := by decide +kernel
theorem dX6_letGoOfUnreached_74 : decode cX6_letGoOfUnreached 74 = .ok (.return_, 1) := by decide +kernel
theorem dX6_freeUnreached_0 : decode cX6_freeUnreached 0 = .ok (.aload_n 0, 1) := by decide +kernel
theorem dX6_freeUnreached_1 : decode cX6_freeUnreached 1 = .ok (.getfield 19, 3) := by decide +kernel
theorem dX6_freeUnreached_4 : decode cX6_freeUnreached 4 = .ok (.iconst 0, 1) := by decide +kernel
theorem dX6_freeUnreached_5 : decode cX6_freeUnreached 5 = .ok (.iaload, 1) := by decide +kernel
theorem dX6_freeUnreached_6 : decode cX6_freeUnreached 6 = .ok (.istore_n 1, 1) := by decide +kernel
theorem dX6_freeUnreached_7 : decode cX6_freeUnreached 7 = .ok (.aload_n 0, 1) := by decide +kernel
theorem dX6_freeUnreached_8 : decode cX6_freeUnreached 8 = .ok (.getfield 29, 3) := by decide +kernel
theorem dX6_freeUnreached_11 : decode cX6_freeUnreached 11 = .ok (.getfield 273, 3) := by decide +kernel
theorem dX6_freeUnreached_14 : decode cX6_freeUnreached 14 = .ok (.astore_n 2, 1) := by decide +kernel
theorem dX6_freeUnreached_15 : decode cX6_freeUnreached 15 = .ok (.aload_n 0, 1) := by decide +kernel
theorem dX6_freeUnreached_16 : decode cX6_freeUnreached 16 = .ok (.getfield 29, 3) := by decide +kernel
theorem dX6_freeUnreached_19 : decode cX6_freeUnreached 19 = .ok (.invokevirtual 285, 3) := by decide +kernel
theorem dX6_freeUnreached_22 : decode cX6_freeUnreached 22 = .ok (.aload_n 2, 1) := by decide +kernel
theorem dX6_freeUnreached_23 : decode cX6_freeUnreached 23 = .ok (.ifnull 32, 3) := by decide +kernel
theorem dX6_freeUnreached_26 : decode cX6_freeUnreached 26 = .ok (.aload_n 2, 1) := by decide +kernel
theorem dX6_freeUnreached_27 : decode cX6_freeUnreached 27 = .ok (.getfield 282, 3) := by decide +kernel
theorem dX6_freeUnreached_30 : decode cX6_freeUnreached 30 = .ok (.astore_n 3, 1) := by decide +kernel
theorem dX6_freeUnreached_31 : decode cX6_freeUnreached 31 = .ok (.aload_n 0, 1) := by decide +kernel
theorem dX6_freeUnreached_32 : decode cX6_freeUnreached 32 = .ok (.getfield 35, 3) := by decide +kernel
theorem dX6_freeUnreached_35 : decode cX6_freeUnreached 35 = .ok (.aload_n 2, 1) := by decide +kernel
theorem dX6_freeUnreached_36 : decode cX6_freeUnreached 36 = .ok (.invokevirtual 274, 3) := by decide +kernel
theorem dX6_freeUnreached_39 : decode cX6_freeUnreached 39 = .ok (.ifCond .eq 11, 3) := by decide +kernel
theorem dX6_freeUnreached_42 : decode cX6_freeUnreached 42 = .ok (.aload_n 0, 1) := by decide +kernel
theorem dX6_freeUnreached_43 : decode cX6_freeUnreached 43 = .ok (.getfield 29, 3) := by decide +kernel
theorem dX6_freeUnreached_46 : decode cX6_freeUnreached 46 = .ok (.aload_n 2, 1) := by decide +kernel
theorem dX6_freeUnreached_47 : decode cX6_freeUnreached 47 = .ok (.invokevirtual 239, 3) := by decide +kernel
theorem dX6_freeUnreached_50 : decode cX6_freeUnreached 50 = .ok (.aload_n 3, 1) := by decide +kernel
theorem dX6_freeUnreached_51 : decode cX6_freeUnreached 51 = .ok (.astore_n 2, 1) := by decide +kernel
theorem dX6_freeUnreached_52 : decode cX6_freeUnreached 52 = .ok (.goto (-30), 3) := by decide +kernel
theorem dX6_freeUnreached_55 : decode cX6_freeUnreached 55 = .ok (.aload_n 0, 1) := by decide +kernel
theorem dX6_freeUnreached_56 : decode cX6_freeUnreached 56 = .ok (.getfield 19, 3) := by decide +kernel
theorem dX6_freeUnreached_59 : decode cX6_freeUnreached 59 = .ok (.iconst 1, 1) := by decide +kernel
theorem dX6_freeUnreached_60 : decode cX6_freeUnreached 60 = .ok (.aload_n 0, 1) := by decide +kernel
theorem dX6_freeUnreached_61 : decode cX6_freeUnreached 61 = .ok (.getfield 29, 3) := by decide +kernel
theorem dX6_freeUnreached_64 : decode cX6_freeUnreached 64 = .ok (.getfield 288, 3) := by decide +kernel
theorem dX6_freeUnreached_67 : decode cX6_freeUnreached 67 = .ok (.iastore, 1) := by decide +kernel
theorem dX6_freeUnreached_68 : decode cX6_freeUnreached 68 = .ok (.aload_n 0, 1) := by decide +kernel
theorem dX6_freeUnreached_69 : decode cX6_freeUnreached 69 = .ok (.getfield 19, 3) := by decide +kernel
theorem dX6_freeUnreached_72 : decode cX6_freeUnreached 72 = .ok (.iconst 0, 1) := by decide +kernel
theorem dX6_freeUnreached_73 : decode cX6_freeUnreached 73 = .ok (.aload_n 0, 1) := by decide +kernel
theorem dX6_freeUnreached_74 : decode cX6_freeUnreached 74 = .ok (.getfield 29, 3) := by decide +kernel
theorem dX6_freeUnreached_77 : decode cX6_freeUnreached 77 = .ok (.getfield 249, 3) := by decide +kernel
theorem dX6_freeUnreached_80 : decode cX6_freeUnreached 80 = .ok (.iastore, 1) := by decide +kernel
theorem dX6_freeUnreached_81 : decode cX6_freeUnreached 81 = .ok (.iload_n 1, 1) := by decide +kernel
theorem dX6_freeUnreached_82 : decode cX6_freeUnreached 82 = .ok (.aload_n 0, 1) := by decide +kernel
theorem dX6_freeUnreached_83 : decode cX6_freeUnreached 83 = .ok (.getfield 29, 3) := by decide +kernel
theorem dX6_freeUnreached_86 : decode cX6_freeUnreached 86 = .ok (.getfield 249, 3) := by decide +kernel
theorem dX6_freeUnreached_89 : decode cX6_freeUnreached 89 = .ok (.isub, 1) := by decide +kernel
theorem dX6_freeUnreached_90 : decode cX6_freeUnreached 90 = .ok (.ireturn, 1) := by decide +kernel
theorem dX6_tellQueue_0 : decode cX6_tellQueue 0 = .ok (.aload_n 1, 1) := by decide +kernel
theorem dX6_tellQueue_1 : decode cX6_tellQueue 1 = .ok (.getfield 289, 3) := by decide +kernel
theorem dX6_tellQueue_4 : decode cX6_tellQueue 4 = .ok (.ifnull 10, 3) := by decide +kernel
theorem dX6_tellQueue_7 : decode cX6_tellQueue 7 = .ok (.aload_n 1, 1) := by decide +kernel
theorem dX6_tellQueue_8 : decode cX6_tellQueue 8 = .ok (.getfield 293, 3) := by decide +kernel
theorem dX6_tellQueue_11 : decode cX6_tellQueue 11 = .ok (.ifCond .eq 5, 3) := by decide +kernel
theorem dX6_tellQueue_14 : decode cX6_tellQueue 14 = .ok (.iconst 0, 1) := by decide +kernel
theorem dX6_tellQueue_15 : decode cX6_tellQueue 15 = .ok (.ireturn, 1) := by decide +kernel
theorem dX6_tellQueue_16 : decode cX6_tellQueue 16 = .ok (.aload_n 1, 1) := by decide +kernel
theorem dX6_tellQueue_17 : decode cX6_tellQueue 17 = .ok (.iconst 1, 1) := by decide +kernel
theorem dX6_tellQueue_18 : decode cX6_tellQueue 18 = .ok (.putfield 293, 3) := by decide +kernel
theorem dX6_tellQueue_21 : decode cX6_tellQueue 21 = .ok (.aload_n 1, 1) := by decide +kernel
theorem dX6_tellQueue_22 : decode cX6_tellQueue 22 = .ok (.getfield 289, 3) := by decide +kernel
theorem dX6_tellQueue_25 : decode cX6_tellQueue 25 = .ok (.aload_n 1, 1) := by decide +kernel
theorem dX6_tellQueue_26 : decode cX6_tellQueue 26 = .ok (.invokevirtual 297, 3) := by decide +kernel
theorem dX6_tellQueue_29 : decode cX6_tellQueue 29 = .ok (.aload_n 0, 1) := by decide +kernel
theorem dX6_tellQueue_30 : decode cX6_tellQueue 30 = .ok (.getfield 19, 3) := by decide +kernel
theorem dX6_tellQueue_33 : decode cX6_tellQueue 33 = .ok (.iconst 4, 1) := by decide +kernel
theorem dX6_tellQueue_34 : decode cX6_tellQueue 34 = .ok (.dup2, 1) := by decide +kernel
theorem dX6_tellQueue_35 : decode cX6_tellQueue 35 = .ok (.iaload, 1) := by decide +kernel
theorem dX6_tellQueue_36 : decode cX6_tellQueue 36 = .ok (.iconst 1, 1) := by decide +kernel
theorem dX6_tellQueue_37 : decode cX6_tellQueue 37 = .ok (.iadd, 1) := by decide +kernel
theorem dX6_tellQueue_38 : decode cX6_tellQueue 38 = .ok (.iastore, 1) := by decide +kernel
theorem dX6_tellQueue_39 : decode cX6_tellQueue 39 = .ok (.iconst 1, 1) := by decide +kernel
theorem dX6_tellQueue_40 : decode cX6_tellQueue 40 = .ok (.ireturn, 1) := by decide +kernel
theorem dX7_thrown_0 : decode cX7_thrown 0 = .ok (.aload_n 0, 1) := by decide +kernel
theorem dX7_thrown_1 : decode cX7_thrown 1 = .ok (.getfield 1, 3) := by decide +kernel
theorem dX7_thrown_4 : decode cX7_thrown 4 = .ok (.ireturn, 1) := by decide +kernel
theorem dX7_init_0 : decode cX7_init 0 = .ok (.aload_n 0, 1) := by decide +kernel
theorem dX7_init_1 : decode cX7_init 1 = .ok (.invokespecial 7, 3) := by decide +kernel
theorem dX7_init_4 : decode cX7_init 4 = .ok (.aload_n 0, 1) := by decide +kernel
theorem dX7_init_5 : decode cX7_init 5 = .ok (.sipush 15100, 3) := by decide +kernel
theorem dX7_init_8 : decode cX7_init 8 = .ok (.newarray .int, 2) := by decide +kernel
theorem dX7_init_10 : decode cX7_init 10 = .ok (.putfield 13, 3) := by decide +kernel
theorem dX7_init_13 : decode cX7_init 13 = .ok (.aload_n 0, 1) := by decide +kernel
theorem dX7_init_14 : decode cX7_init 14 = .ok (.sipush 15100, 3) := by decide +kernel
theorem dX7_init_17 : decode cX7_init 17 = .ok (.newarray .int, 2) := by decide +kernel
theorem dX7_init_19 : decode cX7_init 19 = .ok (.putfield 17, 3) := by decide +kernel
theorem dX7_init_22 : decode cX7_init 22 = .ok (.aload_n 0, 1) := by decide +kernel
theorem dX7_init_23 : decode cX7_init 23 = .ok (.sipush 15100, 3) := by decide +kernel
theorem dX7_init_26 : decode cX7_init 26 = .ok (.newarray .int, 2) := by decide +kernel
theorem dX7_init_28 : decode cX7_init 28 = .ok (.putfield 20, 3) := by decide +kernel
theorem dX7_init_31 : decode cX7_init 31 = .ok (.aload_n 0, 1) := by decide +kernel
theorem dX7_init_32 : decode cX7_init 32 = .ok (.sipush 15100, 3) := by decide +kernel
theorem dX7_init_35 : decode cX7_init 35 = .ok (.newarray .int, 2) := by decide +kernel
theorem dX7_init_37 : decode cX7_init 37 = .ok (.putfield 23, 3) := by decide +kernel
theorem dX7_init_40 : decode cX7_init 40 = .ok (.aload_n 0, 1) := by decide +kernel
theorem dX7_init_41 : decode cX7_init 41 = .ok (.sipush 15100, 3) := by decide +kernel
theorem dX7_init_44 : decode cX7_init 44 = .ok (.newarray .int, 2) := by decide +kernel
theorem dX7_init_46 : decode cX7_init 46 = .ok (.putfield 26, 3) := by decide +kernel
theorem dX7_init_49 : decode cX7_init 49 = .ok (.aload_n 0, 1) := by decide +kernel
theorem dX7_init_50 : decode cX7_init 50 = .ok (.sipush 15100, 3) := by decide +kernel
theorem dX7_init_53 : decode cX7_init 53 = .ok (.newarray .int, 2) := by decide +kernel
theorem dX7_init_55 : decode cX7_init 55 = .ok (.putfield 29, 3) := by decide +kernel
theorem dX7_init_58 : decode cX7_init 58 = .ok (.aload_n 0, 1) := by decide +kernel
theorem dX7_init_59 : decode cX7_init 59 = .ok (.sipush 15100, 3) := by decide +kernel
theorem dX7_init_62 : decode cX7_init 62 = .ok (.newarray .int, 2) := by decide +kernel
theorem dX7_init_64 : decode cX7_init 64 = .ok (.putfield 32, 3) := by decide +kernel
theorem dX7_init_67 : decode cX7_init 67 = .ok (.aload_n 0, 1) := by decide +kernel
theorem dX7_init_68 : decode cX7_init 68 = .ok (.sipush 15100, 3) := by decide +kernel
theorem dX7_init_71 : decode cX7_init 71 = .ok (.newarray .int, 2) := by decide +kernel
theorem dX7_init_73 : decode cX7_init 73 = .ok (.putfield 35, 3) := by decide +kernel
theorem dX7_init_76 : decode cX7_init 76 = .ok (.aload_n 0, 1) := by decide +kernel
theorem dX7_init_77 : decode cX7_init 77 = .ok (.sipush 15100, 3) := by decide +kernel
theorem dX7_init_80 : decode cX7_init 80 = .ok (.newarray .int, 2) := by decide +kernel
theorem dX7_init_82 : decode cX7_init 82 = .ok (.putfield 38, 3) := by decide +kernel
theorem dX7_init_85 : decode cX7_init 85 = .ok (.aload_n 0, 1) := by decide +kernel
theorem dX7_init_86 : decode cX7_init 86 = .ok (.sipush 15100, 3) := by decide +kernel
theorem dX7_init_89 : decode cX7_init 89 = .ok (.newarray .int, 2) := by decide +kernel
theorem dX7_init_91 : decode cX7_init 91 = .ok (.putfield 41, 3) := by decide +kernel
theorem dX7_init_94 : decode cX7_init 94 = .ok (.aload_n 0, 1) := by decide +kernel
theorem dX7_init_95 : decode cX7_init 95 = .ok (.sipush 15100, 3) := by decide +kernel
theorem dX7_init_98 : decode cX7_init 98 = .ok (.newarray .boolean, 2) := by decide +kernel
theorem dX7_init_100 : decode cX7_init 100 = .ok (.putfield 44, 3) := by decide +kernel
theorem dX7_init_103 : decode cX7_init 103 = .ok (.aload_n 0, 1) := by decide +kernel
theorem dX7_init_104 : decode cX7_init 104 = .ok (.sipush 15100, 3) := by decide +kernel
theorem dX7_init_107 : decode cX7_init 107 = .ok (.newarray .boolean, 2) := by decide +kernel
theorem dX7_init_109 : decode cX7_init 109 = .ok (.putfield 48, 3) := by decide +kernel
theorem dX7_init_112 : decode cX7_init 112 = .ok (.aload_n 0, 1) := by decide +kernel
theorem dX7_init_113 : decode cX7_init 113 = .ok (.sipush 15100, 3) := by decide +kernel
theorem dX7_init_116 : decode cX7_init 116 = .ok (.newarray .int, 2) := by decide +kernel
theorem dX7_init_118 : decode cX7_init 118 = .ok (.putfield 51, 3) := by decide +kernel
theorem dX7_init_121 : decode cX7_init 121 = .ok (.aload_n 0, 1) := by decide +kernel
theorem dX7_init_122 : decode cX7_init 122 = .ok (.sipush 15100, 3) := by decide +kernel
theorem dX7_init_125 : decode cX7_init 125 = .ok (.newarray .int, 2) := by decide +kernel
theorem dX7_init_127 : decode cX7_init 127 = .ok (.putfield 54, 3) := by decide +kernel
theorem dX7_init_130 : decode cX7_init 130 = .ok (.aload_n 0, 1) := by decide +kernel
theorem dX7_init_131 : decode cX7_init 131 = .ok (.sipush 31000, 3) := by decide +kernel
theorem dX7_init_134 : decode cX7_init 134 = .ok (.newarray .long, 2) := by decide +kernel
theorem dX7_init_136 : decode cX7_init 136 = .ok (.putfield 57, 3) := by decide +kernel
theorem dX7_init_139 : decode cX7_init 139 = .ok (.aload_n 0, 1) := by decide +kernel
theorem dX7_init_140 : decode cX7_init 140 = .ok (.iconst 1, 1) := by decide +kernel
theorem dX7_init_141 : decode cX7_init 141 = .ok (.putfield 61, 3) := by decide +kernel
theorem dX7_init_144 : decode cX7_init 144 = .ok (.aload_n 0, 1) := by decide +kernel
theorem dX7_init_145 : decode cX7_init 145 = .ok (.sipush 384, 3) := by decide +kernel
theorem dX7_init_148 : decode cX7_init 148 = .ok (.newarray .int, 2) := by decide +kernel
theorem dX7_init_150 : decode cX7_init 150 = .ok (.putfield 64, 3) := by decide +kernel
theorem dX7_init_153 : decode cX7_init 153 = .ok (.aload_n 0, 1) := by decide +kernel
theorem dX7_init_154 : decode cX7_init 154 = .ok (.bipush 20, 2) := by decide +kernel
theorem dX7_init_156 : decode cX7_init 156 = .ok (.newarray .int, 2) := by decide +kernel
theorem dX7_init_158 : decode cX7_init 158 = .ok (.putfield 67, 3) := by decide +kernel
theorem dX7_init_161 : decode cX7_init 161 = .ok (.aload_n 0, 1) := by decide +kernel
theorem dX7_init_162 : decode cX7_init 162 = .ok (.bipush 64, 2) := by decide +kernel
theorem dX7_init_164 : decode cX7_init 164 = .ok (.putfield 70, 3) := by decide +kernel
theorem dX7_init_167 : decode cX7_init 167 = .ok (.aload_n 0, 1) := by decide +kernel
theorem dX7_init_168 : decode cX7_init 168 = .ok (.iload_n 1, 1) := by decide +kernel
theorem dX7_init_169 : decode cX7_init 169 = .ok (.sipush 600, 3) := by decide +kernel
theorem dX7_init_172 : decode cX7_init 172 = .ok (.if_icmp .ge 9, 3) := by decide +kernel
theorem dX7_init_175 : decode cX7_init 175 = .ok (.sipush 600, 3) := by decide +kernel
theorem dX7_init_178 : decode cX7_init 178 = .ok (.goto 17, 3) := by decide +kernel
theorem dX7_init_181 : decode cX7_init 181 = .ok (.iload_n 1, 1) := by decide +kernel
theorem dX7_init_182 : decode cX7_init 182 = .ok (.sipush 30000, 3) := by decide +kernel
theorem dX7_init_185 : decode cX7_init 185 = .ok (.if_icmp .le 9, 3) := by decide +kernel
theorem dX7_init_188 : decode cX7_init 188 = .ok (.sipush 30000, 3) := by decide +kernel
theorem dX7_init_191 : decode cX7_init 191 = .ok (.goto 4, 3) := by decide +kernel
theorem dX7_init_194 : decode cX7_init 194 = .ok (.iload_n 1, 1) := by decide +kernel
theorem dX7_init_195 : decode cX7_init 195 = .ok (.putfield 73, 3) := by decide +kernel
theorem dX7_init_198 : decode cX7_init 198 = .ok (.iconst 0, 1) := by decide +kernel
theorem dX7_init_199 : decode cX7_init 199 = .ok (.istore_n 3, 1) := by decide +kernel
theorem dX7_init_200 : decode cX7_init 200 = .ok (.iload_n 3, 1) := by decide +kernel
theorem dX7_init_201 : decode cX7_init 201 = .ok (.sipush 15100, 3) := by decide +kernel
theorem dX7_init_204 : decode cX7_init 204 = .ok (.if_icmp .ge 16, 3) := by decide +kernel
theorem dX7_init_207 : decode cX7_init 207 = .ok (.aload_n 0, 1) := by decide +kernel
theorem dX7_init_208 : decode cX7_init 208 = .ok (.getfield 13, 3) := by decide +kernel
theorem dX7_init_211 : decode cX7_init 211 = .ok (.iload_n 3, 1) := by decide +kernel
theorem dX7_init_212 : decode cX7_init 212 = .ok (.iconst (-1), 1) := by decide +kernel
theorem dX7_init_213 : decode cX7_init 213 = .ok (.iastore, 1) := by decide +kernel
theorem dX7_init_214 : decode cX7_init 214 = .ok (.iinc 3 1, 3) := by decide +kernel
theorem dX7_init_217 : decode cX7_init 217 = .ok (.goto (-17), 3) := by decide +kernel
theorem dX7_init_220 : decode cX7_init 220 = .ok (.return_, 1) := by decide +kernel
theorem dX7_bad_0 : decode cX7_bad 0 = .ok (.aload_n 0, 1) := by decide +kernel
theorem dX7_bad_1 : decode cX7_bad 1 = .ok (.iconst 1, 1) := by decide +kernel
theorem dX7_bad_2 : decode cX7_bad 2 = .ok (.putfield 1, 3) := by decide +kernel
theorem dX7_bad_5 : decode cX7_bad 5 = .ok (.iconst 0, 1) := by decide +kernel
theorem dX7_bad_6 : decode cX7_bad 6 = .ok (.ireturn, 1) := by decide +kernel
theorem dX7_wrong_0 : decode cX7_wrong 0 = .ok (.aload_n 0, 1) := by decide +kernel
theorem dX7_wrong_1 : decode cX7_wrong 1 = .ok (.iconst 2, 1) := by decide +kernel
theorem dX7_wrong_2 : decode cX7_wrong 2 = .ok (.putfield 1, 3) := by decide +kernel
theorem dX7_wrong_5 : decode cX7_wrong 5 = .ok (.iconst 0, 1) := by decide +kernel
theorem dX7_wrong_6 : decode cX7_wrong 6 = .ok (.ireturn, 1) := by decide +kernel
theorem dX7_none_0 : decode cX7_none 0 = .ok (.iload_n 1, 1) := by decide +kernel
theorem dX7_none_1 : decode cX7_none 1 = .ok (.ifCond .lt 11, 3) := by decide +kernel
theorem dX7_none_4 : decode cX7_none 4 = .ok (.iload_n 1, 1) := by decide +kernel
theorem dX7_none_5 : decode cX7_none 5 = .ok (.aload_n 0, 1) := by decide +kernel
theorem dX7_none_6 : decode cX7_none 6 = .ok (.getfield 70, 3) := by decide +kernel
theorem dX7_none_9 : decode cX7_none 9 = .ok (.if_icmp .lt 7, 3) := by decide +kernel
theorem dX7_none_12 : decode cX7_none 12 = .ok (.iconst 1, 1) := by decide +kernel
theorem dX7_none_13 : decode cX7_none 13 = .ok (.goto 4, 3) := by decide +kernel
theorem dX7_none_16 : decode cX7_none 16 = .ok (.iconst 0, 1) := by decide +kernel
theorem dX7_none_17 : decode cX7_none 17 = .ok (.ireturn, 1) := by decide +kernel
theorem dX7_noneOrNull_0 : decode cX7_noneOrNull 0 = .ok (.iload_n 1, 1) := by decide +kernel
theorem dX7_noneOrNull_1 : decode cX7_noneOrNull 1 = .ok (.iconst (-1), 1) := by decide +kernel
theorem dX7_noneOrNull_2 : decode cX7_noneOrNull 2 = .ok (.if_icmp .lt 11, 3) := by decide +kernel
theorem dX7_noneOrNull_5 : decode cX7_noneOrNull 5 = .ok (.iload_n 1, 1) := by decide +kernel
theorem dX7_noneOrNull_6 : decode cX7_noneOrNull 6 = .ok (.aload_n 0, 1) := by decide +kernel
theorem dX7_noneOrNull_7 : decode cX7_noneOrNull 7 = .ok (.getfield 70, 3) := by decide +kernel
theorem dX7_noneOrNull_10 : decode cX7_noneOrNull 10 = .ok (.if_icmp .lt 7, 3) := by decide +kernel
theorem dX7_noneOrNull_13 : decode cX7_noneOrNull 13 = .ok (.iconst 1, 1) := by decide +kernel
theorem dX7_noneOrNull_14 : decode cX7_noneOrNull 14 = .ok (.goto 4, 3) := by decide +kernel
theorem dX7_noneOrNull_17 : decode cX7_noneOrNull 17 = .ok (.iconst 0, 1) := by decide +kernel
theorem dX7_noneOrNull_18 : decode cX7_noneOrNull 18 = .ok (.ireturn, 1) := by decide +kernel
theorem dX7_of_0 : decode cX7_of 0 = .ok (.iload_n 1, 1) := by decide +kernel
theorem dX7_of_1 : decode cX7_of 1 = .ok (.ifCond .ge 7, 3) := by decide +kernel
theorem dX7_of_4 : decode cX7_of 4 = .ok (.iconst 0, 1) := by decide +kernel
theorem dX7_of_5 : decode cX7_of 5 = .ok (.goto 9, 3) := by decide +kernel
theorem dX7_of_8 : decode cX7_of 8 = .ok (.aload_n 0, 1) := by decide +kernel
theorem dX7_of_9 : decode cX7_of 9 = .ok (.getfield 64, 3) := by decide +kernel
theorem dX7_of_12 : decode cX7_of 12 = .ok (.iload_n 1, 1) := by decide +kernel
theorem dX7_of_13 : decode cX7_of 13 = .ok (.iaload, 1) := by decide +kernel
theorem dX7_of_14 : decode cX7_of 14 = .ok (.ireturn, 1) := by decide +kernel
theorem dX7_is_0 : decode cX7_is 0 = .ok (.aload_n 0, 1) := by decide +kernel
theorem dX7_is_1 : decode cX7_is 1 = .ok (.getfield 64, 3) := by decide +kernel
theorem dX7_is_4 : decode cX7_is 4 = .ok (.iload_n 1, 1) := by decide +kernel
theorem dX7_is_5 : decode cX7_is 5 = .ok (.iaload, 1) := by decide +kernel
theorem dX7_is_6 : decode cX7_is 6 = .ok (.ifCond .eq 22, 3) := by decide +kernel
theorem dX7_is_9 : decode cX7_is 9 = .ok (.aload_n 0, 1) := by decide +kernel
theorem dX7_is_10 : decode cX7_is 10 = .ok (.getfield 13, 3) := by decide +kernel
theorem dX7_is_13 : decode cX7_is 13 = .ok (.aload_n 0, 1) := by decide +kernel
theorem dX7_is_14 : decode cX7_is 14 = .ok (.getfield 64, 3) := by decide +kernel
theorem dX7_is_17 : decode cX7_is 17 = .ok (.iload_n 1, 1) := by decide +kernel
theorem dX7_is_18 : decode cX7_is 18 = .ok (.iaload, 1) := by decide +kernel
theorem dX7_is_19 : decode cX7_is 19 = .ok (.iaload, 1) := by decide +kernel
theorem dX7_is_20 : decode cX7_is 20 = .ok (.iload_n 2, 1) := by decide +kernel
theorem dX7_is_21 : decode cX7_is 21 = .ok (.if_icmp .ne 7, 3) := by decide +kernel
theorem dX7_is_24 : decode cX7_is 24 = .ok (.iconst 1, 1) := by decide +kernel
theorem dX7_is_25 : decode cX7_is 25 = .ok (.goto 4, 3) := by decide +kernel
theorem dX7_is_28 : decode cX7_is 28 = .ok (.iconst 0, 1) := by decide +kernel
theorem dX7_is_29 : decode cX7_is 29 = .ok (.ireturn, 1) := by decide +kernel
theorem dX7_isLoose_0 : decode cX7_isLoose 0 = .ok (.iload_n 1, 1) := by decide +kernel
theorem dX7_isLoose_1 : decode cX7_isLoose 1 = .ok (.ifCond .eq 17, 3) := by decide +kernel
theorem dX7_isLoose_4 : decode cX7_isLoose 4 = .ok (.aload_n 0, 1) := by decide +kernel
theorem dX7_isLoose_5 : decode cX7_isLoose 5 = .ok (.getfield 13, 3) := by decide +kernel
theorem dX7_isLoose_8 : decode cX7_isLoose 8 = .ok (.iload_n 1, 1) := by decide +kernel
theorem dX7_isLoose_9 : decode cX7_isLoose 9 = .ok (.iaload, 1) := by decide +kernel
theorem dX7_isLoose_10 : decode cX7_isLoose 10 = .ok (.iconst 4, 1) := by decide +kernel
theorem dX7_isLoose_11 : decode cX7_isLoose 11 = .ok (.if_icmp .lt 7, 3) := by decide +kernel
theorem dX7_isLoose_14 : decode cX7_isLoose 14 = .ok (.iconst 1, 1) := by decide +kernel
theorem dX7_isLoose_15 : decode cX7_isLoose 15 = .ok (.goto 4, 3) := by decide +kernel
theorem dX7_isLoose_18 : decode cX7_isLoose 18 = .ok (.iconst 0, 1) := by decide +kernel
theorem dX7_isLoose_19 : decode cX7_isLoose 19 = .ok (.ireturn, 1) := by decide +kernel
theorem dX7_cells_0 : decode cX7_cells 0 = .ok (.iload_n 0, 1) := by decide +kernel
theorem dX7_cells_1 : decode cX7_cells 1 = .ok (.iconst 2, 1) := by decide +kernel
theorem dX7_cells_2 : decode cX7_cells 2 = .ok (.if_icmp .gt 9, 3) := by decide +kernel
theorem dX7_cells_5 : decode cX7_cells 5 = .ok (.iconst 2, 1) := by decide +kernel
theorem dX7_cells_6 : decode cX7_cells 6 = .ok (.iload_n 1, 1) := by decide +kernel
theorem dX7_cells_7 : decode cX7_cells 7 = .ok (.iadd, 1) := by decide +kernel
theorem dX7_cells_8 : decode cX7_cells 8 = .ok (.goto 23, 3) := by decide +kernel
theorem dX7_cells_11 : decode cX7_cells 11 = .ok (.iload_n 0, 1) := by decide +kernel
theorem dX7_cells_12 : decode cX7_cells 12 = .ok (.iconst 3, 1) := by decide +kernel
theorem dX7_cells_13 : decode cX7_cells 13 = .ok (.if_icmp .ne 7, 3) := by decide +kernel
theorem dX7_cells_16 : decode cX7_cells 16 = .ok (.iconst 3, 1) := by decide +kernel
theorem dX7_cells_17 : decode cX7_cells 17 = .ok (.goto 14, 3) := by decide +kernel
theorem dX7_cells_20 : decode cX7_cells 20 = .ok (.iload_n 0, 1) := by decide +kernel
theorem dX7_cells_21 : decode cX7_cells 21 = .ok (.bipush 7, 2) := by decide +kernel
theorem dX7_cells_23 : decode cX7_cells 23 = .ok (.if_icmp .ne 7, 3) := by decide +kernel
theorem dX7_cells_26 : decode cX7_cells 26 = .ok (.iconst 5, 1) := by decide +kernel
theorem dX7_cells_27 : decode cX7_cells 27 = .ok (.goto 4, 3) := by decide +kernel
theorem dX7_cells_30 : decode cX7_cells 30 = .ok (.iconst 4, 1) := by decide +kernel
theorem dX7_cells_31 : decode cX7_cells 31 = .ok (.ireturn, 1) := by decide +kernel
theorem dX7_make_0 : decode cX7_make 0 = .ok (.iload_n 1, 1) := by decide +kernel
theorem dX7_make_1 : decode cX7_make 1 = .ok (.iload_n 2, 1) := by decide +kernel
theorem dX7_make_2 : decode cX7_make 2 = .ok (.iload_n 3, 1) := by decide +kernel
theorem dX7_make_3 : decode cX7_make 3 = .ok (.iadd, 1) := by decide +kernel
theorem dX7_make_4 : decode cX7_make 4 = .ok (.invokestatic 76, 3) := by decide +kernel
theorem dX7_make_7 : decode cX7_make 7 = .ok (.istore 4, 2) := by decide +kernel
theorem dX7_make_9 : decode cX7_make 9 = .ok (.aload_n 0, 1) := by decide +kernel
theorem dX7_make_10 : decode cX7_make 10 = .ok (.getfield 80, 3) := by decide +kernel
theorem dX7_make_13 : decode cX7_make 13 = .ok (.iload 4, 2) := by decide +kernel
theorem dX7_make_15 : decode cX7_make 15 = .ok (.iadd, 1) := by decide +kernel
theorem dX7_make_16 : decode cX7_make 16 = .ok (.aload_n 0, 1) := by decide +kernel
theorem dX7_make_17 : decode cX7_make 17 = .ok (.getfield 73, 3) := by decide +kernel
theorem dX7_make_20 : decode cX7_make 20 = .ok (.if_icmp .le 9, 3) := by decide +kernel
theorem dX7_make_23 : decode cX7_make 23 = .ok (.aload_n 0, 1) := by decide +kernel
theorem dX7_make_24 : decode cX7_make 24 = .ok (.iconst 0, 1) := by decide +kernel
theorem dX7_make_25 : decode cX7_make 25 = .ok (.invokevirtual 83, 3) := by decide +kernel
theorem dX7_make_28 : decode cX7_make 28 = .ok (.pop, 1) := by decide +kernel
theorem dX7_make_29 : decode cX7_make 29 = .ok (.aload_n 0, 1) := by decide +kernel
theorem dX7_make_30 : decode cX7_make 30 = .ok (.getfield 80, 3) := by decide +kernel
theorem dX7_make_33 : decode cX7_make 33 = .ok (.iload 4, 2) := by decide +kernel
theorem dX7_make_35 : decode cX7_make 35 = .ok (.iadd, 1) := by decide +kernel
theorem dX7_make_36 : decode cX7_make 36 = .ok (.aload_n 0, 1) := by decide +kernel
theorem dX7_make_37 : decode cX7_make 37 = .ok (.getfield 73, 3) := by decide +kernel
theorem dX7_make_40 : decode cX7_make 40 = .ok (.if_icmp .le 9, 3) := by decide +kernel
theorem dX7_make_43 : decode cX7_make 43 = .ok (.aload_n 0, 1) := by decide +kernel
theorem dX7_make_44 : decode cX7_make 44 = .ok (.iconst 1, 1) := by decide +kernel
theorem dX7_make_45 : decode cX7_make 45 = .ok (.invokevirtual 83, 3) := by decide +kernel
theorem dX7_make_48 : decode cX7_make 48 = .ok (.pop, 1) := by decide +kernel
theorem dX7_make_49 : decode cX7_make 49 = .ok (.aload_n 0, 1) := by decide +kernel
theorem dX7_make_50 : decode cX7_make 50 = .ok (.getfield 80, 3) := by decide +kernel
theorem dX7_make_53 : decode cX7_make 53 = .ok (.iload 4, 2) := by decide +kernel
theorem dX7_make_55 : decode cX7_make 55 = .ok (.iadd, 1) := by decide +kernel
theorem dX7_make_56 : decode cX7_make 56 = .ok (.aload_n 0, 1) := by decide +kernel
theorem dX7_make_57 : decode cX7_make 57 = .ok (.getfield 73, 3) := by decide +kernel
theorem dX7_make_60 : decode cX7_make 60 = .ok (.if_icmp .le 15, 3) := by decide +kernel
theorem dX7_make_63 : decode cX7_make 63 = .ok (.aload_n 0, 1) := by decide +kernel
theorem dX7_make_64 : decode cX7_make 64 = .ok (.dup, 1) := by decide +kernel
theorem dX7_make_65 : decode cX7_make 65 = .ok (.getfield 87, 3) := by decide +kernel
theorem dX7_make_68 : decode cX7_make 68 = .ok (.iconst 1, 1) := by decide +kernel
theorem dX7_make_69 : decode cX7_make 69 = .ok (.iadd, 1) := by decide +kernel
theorem dX7_make_70 : decode cX7_make 70 = .ok (.putfield 87, 3) := by decide +kernel
theorem dX7_make_73 : decode cX7_make 73 = .ok (.iconst 0, 1) := by decide +kernel
theorem dX7_make_74 : decode cX7_make 74 = .ok (.ireturn, 1) := by decide +kernel
theorem dX7_make_75 : decode cX7_make 75 = .ok (.aload_n 0, 1) := by decide +kernel
theorem dX7_make_76 : decode cX7_make 76 = .ok (.getfield 90, 3) := by decide +kernel
theorem dX7_make_79 : decode cX7_make 79 = .ok (.istore 5, 2) := by decide +kernel
theorem dX7_make_81 : decode cX7_make 81 = .ok (.iload 5, 2) := by decide +kernel
theorem dX7_make_83 : decode cX7_make 83 = .ok (.ifCond .eq 17, 3) := by decide +kernel
theorem dX7_make_86 : decode cX7_make 86 = .ok (.aload_n 0, 1) := by decide +kernel
theorem dX7_make_87 : decode cX7_make 87 = .ok (.aload_n 0, 1) := by decide +kernel
theorem dX7_make_88 : decode cX7_make 88 = .ok (.getfield 29, 3) := by decide +kernel
theorem dX7_make_91 : decode cX7_make 91 = .ok (.iload 5, 2) := by decide +kernel
theorem dX7_make_93 : decode cX7_make 93 = .ok (.iaload, 1) := by decide +kernel
theorem dX7_make_94 : decode cX7_make 94 = .ok (.putfield 90, 3) := by decide +kernel
theorem dX7_make_97 : decode cX7_make 97 = .ok (.goto 16, 3) := by decide +kernel
theorem dX7_make_100 : decode cX7_make 100 = .ok (.aload_n 0, 1) := by decide +kernel
theorem dX7_make_101 : decode cX7_make 101 = .ok (.dup, 1) := by decide +kernel
theorem dX7_make_102 : decode cX7_make 102 = .ok (.getfield 61, 3) := by decide +kernel
theorem dX7_make_105 : decode cX7_make 105 = .ok (.dup_x1, 1) := by decide +kernel
theorem dX7_make_106 : decode cX7_make 106 = .ok (.iconst 1, 1) := by decide +kernel
theorem dX7_make_107 : decode cX7_make 107 = .ok (.iadd, 1) := by decide +kernel
theorem dX7_make_108 : decode cX7_make 108 = .ok (.putfield 61, 3) := by decide +kernel
theorem dX7_make_111 : decode cX7_make 111 = .ok (.istore 5, 2) := by decide +kernel
theorem dX7_make_113 : decode cX7_make 113 = .ok (.aload_n 0, 1) := by decide +kernel
theorem dX7_make_114 : decode cX7_make 114 = .ok (.getfield 93, 3) := by decide +kernel
theorem dX7_make_117 : decode cX7_make 117 = .ok (.iload_n 2, 1) := by decide +kernel
theorem dX7_make_118 : decode cX7_make 118 = .ok (.iadd, 1) := by decide +kernel
theorem dX7_make_119 : decode cX7_make 119 = .ok (.iload_n 3, 1) := by decide +kernel
theorem dX7_make_120 : decode cX7_make 120 = .ok (.iadd, 1) := by decide +kernel
theorem dX7_make_121 : decode cX7_make 121 = .ok (.sipush 31000, 3) := by decide +kernel
theorem dX7_make_124 : decode cX7_make 124 = .ok (.if_icmp .le 7, 3) := by decide +kernel
theorem dX7_make_127 : decode cX7_make 127 = .ok (.aload_n 0, 1) := by decide +kernel
theorem dX7_make_128 : decode cX7_make 128 = .ok (.invokevirtual 96, 3) := by decide +kernel
theorem dX7_make_131 : decode cX7_make 131 = .ok (.aload_n 0, 1) := by decide +kernel
theorem dX7_make_132 : decode cX7_make 132 = .ok (.getfield 13, 3) := by decide +kernel
theorem dX7_make_135 : decode cX7_make 135 = .ok (.iload 5, 2) := by decide +kernel
theorem dX7_make_137 : decode cX7_make 137 = .ok (.iload_n 1, 1) := by decide +kernel
theorem dX7_make_138 : decode cX7_make 138 = .ok (.iastore, 1) := by decide +kernel
theorem dX7_make_139 : decode cX7_make 139 = .ok (.aload_n 0, 1) := by decide +kernel
theorem dX7_make_140 : decode cX7_make 140 = .ok (.getfield 17, 3) := by decide +kernel
theorem dX7_make_143 : decode cX7_make 143 = .ok (.iload 5, 2) := by decide +kernel
theorem dX7_make_145 : decode cX7_make 145 = .ok (.aload_n 0, 1) := by decide +kernel
theorem dX7_make_146 : decode cX7_make 146 = .ok (.getfield 93, 3) := by decide +kernel
theorem dX7_make_149 : decode cX7_make 149 = .ok (.iastore, 1) := by decide +kernel
theorem dX7_make_150 : decode cX7_make 150 = .ok (.aload_n 0, 1) := by decide +kernel
theorem dX7_make_151 : decode cX7_make 151 = .ok (.getfield 20, 3) := by decide +kernel
theorem dX7_make_154 : decode cX7_make 154 = .ok (.iload 5, 2) := by decide +kernel
theorem dX7_make_156 : decode cX7_make 156 = .ok (.iload_n 2, 1) := by decide +kernel
theorem dX7_make_157 : decode cX7_make 157 = .ok (.iastore, 1) := by decide +kernel
theorem dX7_make_158 : decode cX7_make 158 = .ok (.aload_n 0, 1) := by decide +kernel
theorem dX7_make_159 : decode cX7_make 159 = .ok (.getfield 23, 3) := by decide +kernel
theorem dX7_make_162 : decode cX7_make 162 = .ok (.iload 5, 2) := by decide +kernel
theorem dX7_make_164 : decode cX7_make 164 = .ok (.iload_n 3, 1) := by decide +kernel
theorem dX7_make_165 : decode cX7_make 165 = .ok (.iastore, 1) := by decide +kernel
theorem dX7_make_166 : decode cX7_make 166 = .ok (.aload_n 0, 1) := by decide +kernel
theorem dX7_make_167 : decode cX7_make 167 = .ok (.getfield 26, 3) := by decide +kernel
theorem dX7_make_170 : decode cX7_make 170 = .ok (.iload 5, 2) := by decide +kernel
theorem dX7_make_172 : decode cX7_make 172 = .ok (.iconst 0, 1) := by decide +kernel
theorem dX7_make_173 : decode cX7_make 173 = .ok (.iastore, 1) := by decide +kernel
theorem dX7_make_174 : decode cX7_make 174 = .ok (.aload_n 0, 1) := by decide +kernel
theorem dX7_make_175 : decode cX7_make 175 = .ok (.getfield 29, 3) := by decide +kernel
theorem dX7_make_178 : decode cX7_make 178 = .ok (.iload 5, 2) := by decide +kernel
theorem dX7_make_180 : decode cX7_make 180 = .ok (.iconst 0, 1) := by decide +kernel
theorem dX7_make_181 : decode cX7_make 181 = .ok (.iastore, 1) := by decide +kernel
theorem dX7_make_182 : decode cX7_make 182 = .ok (.aload_n 0, 1) := by decide +kernel
theorem dX7_make_183 : decode cX7_make 183 = .ok (.getfield 32, 3) := by decide +kernel
theorem dX7_make_186 : decode cX7_make 186 = .ok (.iload 5, 2) := by decide +kernel
theorem dX7_make_188 : decode cX7_make 188 = .ok (.iconst 0, 1) := by decide +kernel
theorem dX7_make_189 : decode cX7_make 189 = .ok (.iastore, 1) := by decide +kernel
theorem dX7_make_190 : decode cX7_make 190 = .ok (.aload_n 0, 1) := by decide +kernel
theorem dX7_make_191 : decode cX7_make 191 = .ok (.getfield 35, 3) := by decide +kernel
theorem dX7_make_194 : decode cX7_make 194 = .ok (.iload 5, 2) := by decide +kernel
theorem dX7_make_196 : decode cX7_make 196 = .ok (.iconst 0, 1) := by decide +kernel
theorem dX7_make_197 : decode cX7_make 197 = .ok (.iastore, 1) := by decide +kernel
theorem dX7_make_198 : decode cX7_make 198 = .ok (.aload_n 0, 1) := by decide +kernel
theorem dX7_make_199 : decode cX7_make 199 = .ok (.getfield 38, 3) := by decide +kernel
theorem dX7_make_202 : decode cX7_make 202 = .ok (.iload 5, 2) := by decide +kernel
theorem dX7_make_204 : decode cX7_make 204 = .ok (.iconst 0, 1) := by decide +kernel
theorem dX7_make_205 : decode cX7_make 205 = .ok (.iastore, 1) := by decide +kernel
theorem dX7_make_206 : decode cX7_make 206 = .ok (.aload_n 0, 1) := by decide +kernel
theorem dX7_make_207 : decode cX7_make 207 = .ok (.getfield 44, 3) := by decide +kernel
theorem dX7_make_210 : decode cX7_make 210 = .ok (.iload 5, 2) := by decide +kernel
theorem dX7_make_212 : decode cX7_make 212 = .ok (.iconst 0, 1) := by decide +kernel
theorem dX7_make_213 : decode cX7_make 213 = .ok (.bastore, 1) := by decide +kernel
theorem dX7_make_214 : decode cX7_make 214 = .ok (.iconst 0, 1) := by decide +kernel
theorem dX7_make_215 : decode cX7_make 215 = .ok (.istore 6, 2) := by decide +kernel
theorem dX7_make_217 : decode cX7_make 217 = .ok (.iload 6, 2) := by decide +kernel
theorem dX7_make_219 : decode cX7_make 219 = .ok (.iload_n 2, 1) := by decide +kernel
theorem dX7_make_220 : decode cX7_make 220 = .ok (.iload_n 3, 1) := by decide +kernel
theorem dX7_make_221 : decode cX7_make 221 = .ok (.iadd, 1) := by decide +kernel
theorem dX7_make_222 : decode cX7_make 222 = .ok (.if_icmp .ge 22, 3) := by decide +kernel
theorem dX7_make_225 : decode cX7_make 225 = .ok (.aload_n 0, 1) := by decide +kernel
theorem dX7_make_226 : decode cX7_make 226 = .ok (.getfield 57, 3) := by decide +kernel
theorem dX7_make_229 : decode cX7_make 229 = .ok (.aload_n 0, 1) := by decide +kernel
theorem dX7_make_230 : decode cX7_make 230 = .ok (.getfield 93, 3) := by decide +kernel
theorem dX7_make_233 : decode cX7_make 233 = .ok (.iload 6, 2) := by decide +kernel
theorem dX7_make_235 : decode cX7_make 235 = .ok (.iadd, 1) := by decide +kernel
theorem dX7_make_236 : decode cX7_make 236 = .ok (.lconst 0, 1) := by decide +kernel
theorem dX7_make_237 : decode cX7_make 237 = .ok (.lastore, 1) := by decide +kernel
theorem dX7_make_238 : decode cX7_make 238 = .ok (.iinc 6 1, 3) := by decide +kernel
theorem dX7_make_241 : decode cX7_make 241 = .ok (.goto (-24), 3) := by decide +kernel
theorem dX7_make_244 : decode cX7_make 244 = .ok (.aload_n 0, 1) := by decide +kernel
theorem dX7_make_245 : decode cX7_make 245 = .ok (.dup, 1) := by decide +kernel
theorem dX7_make_246 : decode cX7_make 246 = .ok (.getfield 93, 3) := by decide +kernel
theorem dX7_make_249 : decode cX7_make 249 = .ok (.iload_n 2, 1) := by decide +kernel
theorem dX7_make_250 : decode cX7_make 250 = .ok (.iload_n 3, 1) := by decide +kernel
theorem dX7_make_251 : decode cX7_make 251 = .ok (.iadd, 1) := by decide +kernel
theorem dX7_make_252 : decode cX7_make 252 = .ok (.iadd, 1) := by decide +kernel
theorem dX7_make_253 : decode cX7_make 253 = .ok (.putfield 93, 3) := by decide +kernel
theorem dX7_make_256 : decode cX7_make 256 = .ok (.aload_n 0, 1) := by decide +kernel
theorem dX7_make_257 : decode cX7_make 257 = .ok (.dup, 1) := by decide +kernel
theorem dX7_make_258 : decode cX7_make 258 = .ok (.getfield 80, 3) := by decide +kernel
theorem dX7_make_261 : decode cX7_make 261 = .ok (.iload 4, 2) := by decide +kernel
theorem dX7_make_263 : decode cX7_make 263 = .ok (.iadd, 1) := by decide +kernel
theorem dX7_make_264 : decode cX7_make 264 = .ok (.putfield 80, 3) := by decide +kernel
theorem dX7_make_267 : decode cX7_make 267 = .ok (.aload_n 0, 1) := by decide +kernel
theorem dX7_make_268 : decode cX7_make 268 = .ok (.dup, 1) := by decide +kernel
theorem dX7_make_269 : decode cX7_make 269 = .ok (.getfield 99, 3) := by decide +kernel
theorem dX7_make_272 : decode cX7_make 272 = .ok (.iconst 1, 1) := by decide +kernel
theorem dX7_make_273 : decode cX7_make 273 = .ok (.iadd, 1) := by decide +kernel
theorem dX7_make_274 : decode cX7_make 274 = .ok (.putfield 99, 3) := by decide +kernel
theorem dX7_make_277 : decode cX7_make 277 = .ok (.aload_n 0, 1) := by decide +kernel
theorem dX7_make_278 : decode cX7_make 278 = .ok (.dup, 1) := by decide +kernel
theorem dX7_make_279 : decode cX7_make 279 = .ok (.getfield 102, 3) := by decide +kernel
theorem dX7_make_282 : decode cX7_make 282 = .ok (.iconst 1, 1) := by decide +kernel
theorem dX7_make_283 : decode cX7_make 283 = .ok (.iadd, 1) := by decide +kernel
theorem dX7_make_284 : decode cX7_make 284 = .ok (.putfield 102, 3) := by decide +kernel
theorem dX7_make_287 : decode cX7_make 287 = .ok (.aload_n 0, 1) := by decide +kernel
theorem dX7_make_288 : decode cX7_make 288 = .ok (.getfield 80, 3) := by decide +kernel
theorem dX7_make_291 : decode cX7_make 291 = .ok (.aload_n 0, 1) := by decide +kernel
theorem dX7_make_292 : decode cX7_make 292 = .ok (.getfield 105, 3) := by decide +kernel
theorem dX7_make_295 : decode cX7_make 295 = .ok (.if_icmp .le 11, 3) := by decide +kernel
theorem dX7_make_298 : decode cX7_make 298 = .ok (.aload_n 0, 1) := by decide +kernel
theorem dX7_make_299 : decode cX7_make 299 = .ok (.aload_n 0, 1) := by decide +kernel
theorem dX7_make_300 : decode cX7_make 300 = .ok (.getfield 80, 3) := by decide +kernel
theorem dX7_make_303 : decode cX7_make 303 = .ok (.putfield 105, 3) := by decide +kernel
theorem dX7_make_306 : decode cX7_make 306 = .ok (.iload 5, 2) := by decide +kernel
theorem dX7_make_308 : decode cX7_make 308 = .ok (.ireturn, 1) := by decide +kernel
theorem dX7_cellsOf_0 : decode cX7_cellsOf 0 = .ok (.aload_n 0, 1) := by decide +kernel
theorem dX7_cellsOf_1 : decode cX7_cellsOf 1 = .ok (.getfield 13, 3) := by decide +kernel
theorem dX7_cellsOf_4 : decode cX7_cellsOf 4 = .ok (.iload_n 1, 1) := by decide +kernel
theorem dX7_cellsOf_5 : decode cX7_cellsOf 5 = .ok (.iaload, 1) := by decide +kernel
theorem dX7_cellsOf_6 : decode cX7_cellsOf 6 = .ok (.aload_n 0, 1) := by decide +kernel
theorem dX7_cellsOf_7 : decode cX7_cellsOf 7 = .ok (.getfield 20, 3) := by decide +kernel
theorem dX7_cellsOf_10 : decode cX7_cellsOf 10 = .ok (.iload_n 1, 1) := by decide +kernel
theorem dX7_cellsOf_11 : decode cX7_cellsOf 11 = .ok (.iaload, 1) := by decide +kernel
theorem dX7_cellsOf_12 : decode cX7_cellsOf 12 = .ok (.aload_n 0, 1) := by decide +kernel
theorem dX7_cellsOf_13 : decode cX7_cellsOf 13 = .ok (.getfield 23, 3) := by decide +kernel
theorem dX7_cellsOf_16 : decode cX7_cellsOf 16 = .ok (.iload_n 1, 1) := by decide +kernel
theorem dX7_cellsOf_17 : decode cX7_cellsOf 17 = .ok (.iaload, 1) := by decide +kernel
theorem dX7_cellsOf_18 : decode cX7_cellsOf 18 = .ok (.iadd, 1) := by decide +kernel
theorem dX7_cellsOf_19 : decode cX7_cellsOf 19 = .ok (.invokestatic 76, 3) := by decide +kernel
theorem dX7_cellsOf_22 : decode cX7_cellsOf 22 = .ok (.ireturn, 1) := by decide +kernel
theorem dX7_push_0 : decode cX7_push 0 = .ok (.iconst 0, 1) := by decide +kernel
theorem dX7_push_1 : decode cX7_push 1 = .ok (.istore_n 1, 1) := by decide +kernel
theorem dX7_push_2 : decode cX7_push 2 = .ok (.iconst 1, 1) := by decide +kernel
theorem dX7_push_3 : decode cX7_push 3 = .ok (.istore_n 2, 1) := by decide +kernel
theorem dX7_push_4 : decode cX7_push 4 = .ok (.iload_n 2, 1) := by decide +kernel
theorem dX7_push_5 : decode cX7_push 5 = .ok (.aload_n 0, 1) := by decide +kernel
theorem dX7_push_6 : decode cX7_push 6 = .ok (.getfield 61, 3) := by decide +kernel
theorem dX7_push_9 : decode cX7_push 9 = .ok (.if_icmp .ge 28, 3) := by decide +kernel
theorem dX7_push_12 : decode cX7_push 12 = .ok (.aload_n 0, 1) := by decide +kernel
theorem dX7_push_13 : decode cX7_push 13 = .ok (.getfield 13, 3) := by decide +kernel
theorem dX7_push_16 : decode cX7_push 16 = .ok (.iload_n 2, 1) := by decide +kernel
theorem dX7_push_17 : decode cX7_push 17 = .ok (.iaload, 1) := by decide +kernel
theorem dX7_push_18 : decode cX7_push 18 = .ok (.ifCond .lt 13, 3) := by decide +kernel
theorem dX7_push_21 : decode cX7_push 21 = .ok (.aload_n 0, 1) := by decide +kernel
theorem dX7_push_22 : decode cX7_push 22 = .ok (.getfield 51, 3) := by decide +kernel
theorem dX7_push_25 : decode cX7_push 25 = .ok (.iload_n 1, 1) := by decide +kernel
theorem dX7_push_26 : decode cX7_push 26 = .ok (.iinc 1 1, 3) := by decide +kernel
theorem dX7_push_29 : decode cX7_push 29 = .ok (.iload_n 2, 1) := by decide +kernel
theorem dX7_push_30 : decode cX7_push 30 = .ok (.iastore, 1) := by decide +kernel
theorem dX7_push_31 : decode cX7_push 31 = .ok (.iinc 2 1, 3) := by decide +kernel
theorem dX7_push_34 : decode cX7_push 34 = .ok (.goto (-30), 3) := by decide +kernel
theorem dX7_push_37 : decode cX7_push 37 = .ok (.iload_n 1, 1) := by decide +kernel
theorem dX7_push_38 : decode cX7_push 38 = .ok (.iconst 2, 1) := by decide +kernel
theorem dX7_push_39 : decode cX7_push 39 = .ok (.idiv, 1) := by decide +kernel
theorem dX7_push_40 : decode cX7_push 40 = .ok (.istore_n 2, 1) := by decide +kernel
theorem dX7_push_41 : decode cX7_push 41 = .ok (.iload_n 2, 1) := by decide +kernel
theorem dX7_push_42 : decode cX7_push 42 = .ok (.ifCond .le 98, 3) := by decide +kernel
theorem dX7_push_45 : decode cX7_push 45 = .ok (.iload_n 2, 1) := by decide +kernel
theorem dX7_push_46 : decode cX7_push 46 = .ok (.istore_n 3, 1) := by decide +kernel
theorem dX7_push_47 : decode cX7_push 47 = .ok (.iload_n 3, 1) := by decide +kernel
theorem dX7_push_48 : decode cX7_push 48 = .ok (.iload_n 1, 1) := by decide +kernel
theorem dX7_push_49 : decode cX7_push 49 = .ok (.if_icmp .ge 84, 3) := by decide +kernel
theorem dX7_push_52 : decode cX7_push 52 = .ok (.aload_n 0, 1) := by decide +kernel
theorem dX7_push_53 : decode cX7_push 53 = .ok (.getfield 51, 3) := by decide +kernel
theorem dX7_push_56 : decode cX7_push 56 = .ok (.iload_n 3, 1) := by decide +kernel
theorem dX7_push_57 : decode cX7_push 57 = .ok (.iaload, 1) := by decide +kernel
theorem dX7_push_58 : decode cX7_push 58 = .ok (.istore 4, 2) := by decide +kernel
theorem dX7_push_60 : decode cX7_push 60 = .ok (.iload_n 3, 1) := by decide +kernel
theorem dX7_push_61 : decode cX7_push 61 = .ok (.istore 5, 2) := by decide +kernel
theorem dX7_push_63 : decode cX7_push 63 = .ok (.iload 5, 2) := by decide +kernel
theorem dX7_push_65 : decode cX7_push 65 = .ok (.iload_n 2, 1) := by decide +kernel
theorem dX7_push_66 : decode cX7_push 66 = .ok (.if_icmp .lt 52, 3) := by decide +kernel
theorem dX7_push_69 : decode cX7_push 69 = .ok (.aload_n 0, 1) := by decide +kernel
theorem dX7_push_70 : decode cX7_push 70 = .ok (.getfield 17, 3) := by decide +kernel
theorem dX7_push_73 : decode cX7_push 73 = .ok (.aload_n 0, 1) := by decide +kernel
theorem dX7_push_74 : decode cX7_push 74 = .ok (.getfield 51, 3) := by decide +kernel
theorem dX7_push_77 : decode cX7_push 77 = .ok (.iload 5, 2) := by decide +kernel
theorem dX7_push_79 : decode cX7_push 79 = .ok (.iload_n 2, 1) := by decide +kernel
theorem dX7_push_80 : decode cX7_push 80 = .ok (.isub, 1) := by decide +kernel
theorem dX7_push_81 : decode cX7_push 81 = .ok (.iaload, 1) := by decide +kernel
theorem dX7_push_82 : decode cX7_push 82 = .ok (.iaload, 1) := by decide +kernel
theorem dX7_push_83 : decode cX7_push 83 = .ok (.aload_n 0, 1) := by decide +kernel
theorem dX7_push_84 : decode cX7_push 84 = .ok (.getfield 17, 3) := by decide +kernel
theorem dX7_push_87 : decode cX7_push 87 = .ok (.iload 4, 2) := by decide +kernel
theorem dX7_push_89 : decode cX7_push 89 = .ok (.iaload, 1) := by decide +kernel
theorem dX7_push_90 : decode cX7_push 90 = .ok (.if_icmp .le 28, 3) := by decide +kernel
theorem dX7_push_93 : decode cX7_push 93 = .ok (.aload_n 0, 1) := by decide +kernel
theorem dX7_push_94 : decode cX7_push 94 = .ok (.getfield 51, 3) := by decide +kernel
theorem dX7_push_97 : decode cX7_push 97 = .ok (.iload 5, 2) := by decide +kernel
theorem dX7_push_99 : decode cX7_push 99 = .ok (.aload_n 0, 1) := by decide +kernel
theorem dX7_push_100 : decode cX7_push 100 = .ok (.getfield 51, 3) := by decide +kernel
theorem dX7_push_103 : decode cX7_push 103 = .ok (.iload 5, 2) := by decide +kernel
theorem dX7_push_105 : decode cX7_push 105 = .ok (.iload_n 2, 1) := by decide +kernel
theorem dX7_push_106 : decode cX7_push 106 = .ok (.isub, 1) := by decide +kernel
theorem dX7_push_107 : decode cX7_push 107 = .ok (.iaload, 1) := by decide +kernel
theorem dX7_push_108 : decode cX7_push 108 = .ok (.iastore, 1) := by decide +kernel
theorem dX7_push_109 : decode cX7_push 109 = .ok (.iload 5, 2) := by decide +kernel
theorem dX7_push_111 : decode cX7_push 111 = .ok (.iload_n 2, 1) := by decide +kernel
theorem dX7_push_112 : decode cX7_push 112 = .ok (.isub, 1) := by decide +kernel
theorem dX7_push_113 : decode cX7_push 113 = .ok (.istore 5, 2) := by decide +kernel
theorem dX7_push_115 : decode cX7_push 115 = .ok (.goto (-52), 3) := by decide +kernel
theorem dX7_push_118 : decode cX7_push 118 = .ok (.aload_n 0, 1) := by decide +kernel
theorem dX7_push_119 : decode cX7_push 119 = .ok (.getfield 51, 3) := by decide +kernel
theorem dX7_push_122 : decode cX7_push 122 = .ok (.iload 5, 2) := by decide +kernel
theorem dX7_push_124 : decode cX7_push 124 = .ok (.iload 4, 2) := by decide +kernel
theorem dX7_push_126 : decode cX7_push 126 = .ok (.iastore, 1) := by decide +kernel
theorem dX7_push_127 : decode cX7_push 127 = .ok (.iinc 3 1, 3) := by decide +kernel
theorem dX7_push_130 : decode cX7_push 130 = .ok (.goto (-83), 3) := by decide +kernel
theorem dX7_push_133 : decode cX7_push 133 = .ok (.iload_n 2, 1) := by decide +kernel
theorem dX7_push_134 : decode cX7_push 134 = .ok (.iconst 2, 1) := by decide +kernel
theorem dX7_push_135 : decode cX7_push 135 = .ok (.idiv, 1) := by decide +kernel
theorem dX7_push_136 : decode cX7_push 136 = .ok (.istore_n 2, 1) := by decide +kernel
theorem dX7_push_137 : decode cX7_push 137 = .ok (.goto (-96), 3) := by decide +kernel
theorem dX7_push_140 : decode cX7_push 140 = .ok (.iconst 0, 1) := by decide +kernel
theorem dX7_push_141 : decode cX7_push 141 = .ok (.istore_n 2, 1) := by decide +kernel
theorem dX7_push_142 : decode cX7_push 142 = .ok (.iconst 0, 1) := by decide +kernel
theorem dX7_push_143 : decode cX7_push 143 = .ok (.istore_n 3, 1) := by decide +kernel
theorem dX7_push_144 : decode cX7_push 144 = .ok (.iload_n 3, 1) := by decide +kernel
theorem dX7_push_145 : decode cX7_push 145 = .ok (.iload_n 1, 1) := by decide +kernel
theorem dX7_push_146 : decode cX7_push 146 = .ok (.if_icmp .ge 87, 3) := by decide +kernel
theorem dX7_push_149 : decode cX7_push 149 = .ok (.aload_n 0, 1) := by decide +kernel
theorem dX7_push_150 : decode cX7_push 150 = .ok (.getfield 51, 3) := by decide +kernel
theorem dX7_push_153 : decode cX7_push 153 = .ok (.iload_n 3, 1) := by decide +kernel
theorem dX7_push_154 : decode cX7_push 154 = .ok (.iaload, 1) := by decide +kernel
theorem dX7_push_155 : decode cX7_push 155 = .ok (.istore 4, 2) := by decide +kernel
theorem dX7_push_157 : decode cX7_push 157 = .ok (.aload_n 0, 1) := by decide +kernel
theorem dX7_push_158 : decode cX7_push 158 = .ok (.getfield 20, 3) := by decide +kernel
theorem dX7_push_161 : decode cX7_push 161 = .ok (.iload 4, 2) := by decide +kernel
theorem dX7_push_163 : decode cX7_push 163 = .ok (.iaload, 1) := by decide +kernel
theorem dX7_push_164 : decode cX7_push 164 = .ok (.aload_n 0, 1) := by decide +kernel
theorem dX7_push_165 : decode cX7_push 165 = .ok (.getfield 23, 3) := by decide +kernel
theorem dX7_push_168 : decode cX7_push 168 = .ok (.iload 4, 2) := by decide +kernel
theorem dX7_push_170 : decode cX7_push 170 = .ok (.iaload, 1) := by decide +kernel
theorem dX7_push_171 : decode cX7_push 171 = .ok (.iadd, 1) := by decide +kernel
theorem dX7_push_172 : decode cX7_push 172 = .ok (.istore 5, 2) := by decide +kernel
theorem dX7_push_174 : decode cX7_push 174 = .ok (.iconst 0, 1) := by decide +kernel
theorem dX7_push_175 : decode cX7_push 175 = .ok (.istore 6, 2) := by decide +kernel
theorem dX7_push_177 : decode cX7_push 177 = .ok (.iload 6, 2) := by decide +kernel
theorem dX7_push_179 : decode cX7_push 179 = .ok (.iload 5, 2) := by decide +kernel
theorem dX7_push_181 : decode cX7_push 181 = .ok (.if_icmp .ge 33, 3) := by decide +kernel
theorem dX7_push_184 : decode cX7_push 184 = .ok (.aload_n 0, 1) := by decide +kernel
theorem dX7_push_185 : decode cX7_push 185 = .ok (.getfield 57, 3) := by decide +kernel
theorem dX7_push_188 : decode cX7_push 188 = .ok (.iload_n 2, 1) := by decide +kernel
theorem dX7_push_189 : decode cX7_push 189 = .ok (.iload 6, 2) := by decide +kernel
theorem dX7_push_191 : decode cX7_push 191 = .ok (.iadd, 1) := by decide +kernel
theorem dX7_push_192 : decode cX7_push 192 = .ok (.aload_n 0, 1) := by decide +kernel
theorem dX7_push_193 : decode cX7_push 193 = .ok (.getfield 57, 3) := by decide +kernel
theorem dX7_push_196 : decode cX7_push 196 = .ok (.aload_n 0, 1) := by decide +kernel
theorem dX7_push_197 : decode cX7_push 197 = .ok (.getfield 17, 3) := by decide +kernel
theorem dX7_push_200 : decode cX7_push 200 = .ok (.iload 4, 2) := by decide +kernel
theorem dX7_push_202 : decode cX7_push 202 = .ok (.iaload, 1) := by decide +kernel
theorem dX7_push_203 : decode cX7_push 203 = .ok (.iload 6, 2) := by decide +kernel
theorem dX7_push_205 : decode cX7_push 205 = .ok (.iadd, 1) := by decide +kernel
theorem dX7_push_206 : decode cX7_push 206 = .ok (.laload, 1) := by decide +kernel
theorem dX7_push_207 : decode cX7_push 207 = .ok (.lastore, 1) := by decide +kernel
theorem dX7_push_208 : decode cX7_push 208 = .ok (.iinc 6 1, 3) := by decide +kernel
theorem dX7_push_211 : decode cX7_push 211 = .ok (.goto (-34), 3) := by decide +kernel
theorem dX7_push_214 : decode cX7_push 214 = .ok (.aload_n 0, 1) := by decide +kernel
theorem dX7_push_215 : decode cX7_push 215 = .ok (.getfield 17, 3) := by decide +kernel
theorem dX7_push_218 : decode cX7_push 218 = .ok (.iload 4, 2) := by decide +kernel
theorem dX7_push_220 : decode cX7_push 220 = .ok (.iload_n 2, 1) := by decide +kernel
theorem dX7_push_221 : decode cX7_push 221 = .ok (.iastore, 1) := by decide +kernel
theorem dX7_push_222 : decode cX7_push 222 = .ok (.iload_n 2, 1) := by decide +kernel
theorem dX7_push_223 : decode cX7_push 223 = .ok (.iload 5, 2) := by decide +kernel
theorem dX7_push_225 : decode cX7_push 225 = .ok (.iadd, 1) := by decide +kernel
theorem dX7_push_226 : decode cX7_push 226 = .ok (.istore_n 2, 1) := by decide +kernel
theorem dX7_push_227 : decode cX7_push 227 = .ok (.iinc 3 1, 3) := by decide +kernel
theorem dX7_push_230 : decode cX7_push 230 = .ok (.goto (-86), 3) := by decide +kernel
theorem dX7_push_233 : decode cX7_push 233 = .ok (.aload_n 0, 1) := by decide +kernel
theorem dX7_push_234 : decode cX7_push 234 = .ok (.iload_n 2, 1) := by decide +kernel
theorem dX7_push_235 : decode cX7_push 235 = .ok (.putfield 93, 3) := by decide +kernel
theorem dX7_push_238 : decode cX7_push 238 = .ok (.return_, 1) := by decide +kernel
theorem dX7_reach_0 : decode cX7_reach 0 = .ok (.iload_n 1, 1) := by decide +kernel
theorem dX7_reach_1 : decode cX7_reach 1 = .ok (.ifCond .eq 12, 3) := by decide +kernel
theorem dX7_reach_4 : decode cX7_reach 4 = .ok (.aload_n 0, 1) := by decide +kernel
theorem dX7_reach_5 : decode cX7_reach 5 = .ok (.getfield 48, 3) := by decide +kernel
theorem dX7_reach_8 : decode cX7_reach 8 = .ok (.iload_n 1, 1) := by decide +kernel
theorem dX7_reach_9 : decode cX7_reach 9 = .ok (.baload, 1) := by decide +kernel
theorem dX7_reach_10 : decode cX7_reach 10 = .ok (.ifCond .eq 4, 3) := by decide +kernel
theorem dX7_reach_13 : decode cX7_reach 13 = .ok (.return_, 1) := by decide +kernel
theorem dX7_reach_14 : decode cX7_reach 14 = .ok (.aload_n 0, 1) := by decide +kernel
theorem dX7_reach_15 : decode cX7_reach 15 = .ok (.getfield 48, 3) := by decide +kernel
theorem dX7_reach_18 : decode cX7_reach 18 = .ok (.iload_n 1, 1) := by decide +kernel
theorem dX7_reach_19 : decode cX7_reach 19 = .ok (.iconst 1, 1) := by decide +kernel
end
section
theorem dX7_reach_20 : decode cX7_reach 20 = .ok (.bastore, 1) := by decide +kernel
theorem dX7_reach_21 : decode cX7_reach 21 = .ok (.aload_n 0, 1) := by decide +kernel
theorem dX7_reach_22 : decode cX7_reach 22 = .ok (.getfield 51, 3) := by decide +kernel
theorem dX7_reach_25 : decode cX7_reach 25 = .ok (.aload_n 0, 1) := by decide +kernel
theorem dX7_reach_26 : decode cX7_reach 26 = .ok (.dup, 1) := by decide +kernel
theorem dX7_reach_27 : decode cX7_reach 27 = .ok (.getfield 108, 3) := by decide +kernel
theorem dX7_reach_30 : decode cX7_reach 30 = .ok (.dup_x1, 1) := by decide +kernel
theorem dX7_reach_31 : decode cX7_reach 31 = .ok (.iconst 1, 1) := by decide +kernel
theorem dX7_reach_32 : decode cX7_reach 32 = .ok (.iadd, 1) := by decide +kernel
theorem dX7_reach_33 : decode cX7_reach 33 = .ok (.putfield 108, 3) := by decide +kernel
theorem dX7_reach_36 : decode cX7_reach 36 = .ok (.iload_n 1, 1) := by decide +kernel
theorem dX7_reach_37 : decode cX7_reach 37 = .ok (.iastore, 1) := by decide +kernel
theorem dX7_reach_38 : decode cX7_reach 38 = .ok (.return_, 1) := by decide +kernel
theorem dX7_spread_0 : decode cX7_spread 0 = .ok (.aload_n 0, 1) := by decide +kernel
theorem dX7_spread_1 : decode cX7_spread 1 = .ok (.getfield 108, 3) := by decide +kernel
theorem dX7_spread_4 : decode cX7_spread 4 = .ok (.ifCond .le 148, 3) := by decide +kernel
theorem dX7_spread_7 : decode cX7_spread 7 = .ok (.aload_n 0, 1) := by decide +kernel
theorem dX7_spread_8 : decode cX7_spread 8 = .ok (.getfield 51, 3) := by decide +kernel
theorem dX7_spread_11 : decode cX7_spread 11 = .ok (.aload_n 0, 1) := by decide +kernel
theorem dX7_spread_12 : decode cX7_spread 12 = .ok (.dup, 1) := by decide +kernel
theorem dX7_spread_13 : decode cX7_spread 13 = .ok (.getfield 108, 3) := by decide +kernel
theorem dX7_spread_16 : decode cX7_spread 16 = .ok (.iconst 1, 1) := by decide +kernel
theorem dX7_spread_17 : decode cX7_spread 17 = .ok (.isub, 1) := by decide +kernel
theorem dX7_spread_18 : decode cX7_spread 18 = .ok (.dup_x1, 1) := by decide +kernel
theorem dX7_spread_19 : decode cX7_spread 19 = .ok (.putfield 108, 3) := by decide +kernel
theorem dX7_spread_22 : decode cX7_spread 22 = .ok (.iaload, 1) := by decide +kernel
theorem dX7_spread_23 : decode cX7_spread 23 = .ok (.istore_n 2, 1) := by decide +kernel
theorem dX7_spread_24 : decode cX7_spread 24 = .ok (.iconst 0, 1) := by decide +kernel
theorem dX7_spread_25 : decode cX7_spread 25 = .ok (.istore_n 3, 1) := by decide +kernel
theorem dX7_spread_26 : decode cX7_spread 26 = .ok (.iload_n 3, 1) := by decide +kernel
theorem dX7_spread_27 : decode cX7_spread 27 = .ok (.aload_n 0, 1) := by decide +kernel
theorem dX7_spread_28 : decode cX7_spread 28 = .ok (.getfield 20, 3) := by decide +kernel
theorem dX7_spread_31 : decode cX7_spread 31 = .ok (.iload_n 2, 1) := by decide +kernel
theorem dX7_spread_32 : decode cX7_spread 32 = .ok (.iaload, 1) := by decide +kernel
theorem dX7_spread_33 : decode cX7_spread 33 = .ok (.if_icmp .ge 27, 3) := by decide +kernel
theorem dX7_spread_36 : decode cX7_spread 36 = .ok (.aload_n 0, 1) := by decide +kernel
theorem dX7_spread_37 : decode cX7_spread 37 = .ok (.aload_n 0, 1) := by decide +kernel
theorem dX7_spread_38 : decode cX7_spread 38 = .ok (.getfield 57, 3) := by decide +kernel
theorem dX7_spread_41 : decode cX7_spread 41 = .ok (.aload_n 0, 1) := by decide +kernel
theorem dX7_spread_42 : decode cX7_spread 42 = .ok (.getfield 17, 3) := by decide +kernel
theorem dX7_spread_45 : decode cX7_spread 45 = .ok (.iload_n 2, 1) := by decide +kernel
theorem dX7_spread_46 : decode cX7_spread 46 = .ok (.iaload, 1) := by decide +kernel
theorem dX7_spread_47 : decode cX7_spread 47 = .ok (.iload_n 3, 1) := by decide +kernel
theorem dX7_spread_48 : decode cX7_spread 48 = .ok (.iadd, 1) := by decide +kernel
theorem dX7_spread_49 : decode cX7_spread 49 = .ok (.laload, 1) := by decide +kernel
theorem dX7_spread_50 : decode cX7_spread 50 = .ok (.l2i, 1) := by decide +kernel
theorem dX7_spread_51 : decode cX7_spread 51 = .ok (.invokevirtual 111, 3) := by decide +kernel
theorem dX7_spread_54 : decode cX7_spread 54 = .ok (.iinc 3 1, 3) := by decide +kernel
theorem dX7_spread_57 : decode cX7_spread 57 = .ok (.goto (-31), 3) := by decide +kernel
theorem dX7_spread_60 : decode cX7_spread 60 = .ok (.aload_n 0, 1) := by decide +kernel
theorem dX7_spread_61 : decode cX7_spread 61 = .ok (.getfield 13, 3) := by decide +kernel
theorem dX7_spread_64 : decode cX7_spread 64 = .ok (.iload_n 2, 1) := by decide +kernel
theorem dX7_spread_65 : decode cX7_spread 65 = .ok (.iaload, 1) := by decide +kernel
theorem dX7_spread_66 : decode cX7_spread 66 = .ok (.iconst 3, 1) := by decide +kernel
theorem dX7_spread_67 : decode cX7_spread 67 = .ok (.if_icmp .ne 29, 3) := by decide +kernel
theorem dX7_spread_70 : decode cX7_spread 70 = .ok (.aload_n 0, 1) := by decide +kernel
theorem dX7_spread_71 : decode cX7_spread 71 = .ok (.getfield 32, 3) := by decide +kernel
theorem dX7_spread_74 : decode cX7_spread 74 = .ok (.iload_n 2, 1) := by decide +kernel
theorem dX7_spread_75 : decode cX7_spread 75 = .ok (.iaload, 1) := by decide +kernel
theorem dX7_spread_76 : decode cX7_spread 76 = .ok (.istore_n 3, 1) := by decide +kernel
theorem dX7_spread_77 : decode cX7_spread 77 = .ok (.iload_n 3, 1) := by decide +kernel
theorem dX7_spread_78 : decode cX7_spread 78 = .ok (.ifCond .eq 18, 3) := by decide +kernel
theorem dX7_spread_81 : decode cX7_spread 81 = .ok (.aload_n 0, 1) := by decide +kernel
theorem dX7_spread_82 : decode cX7_spread 82 = .ok (.iload_n 3, 1) := by decide +kernel
theorem dX7_spread_83 : decode cX7_spread 83 = .ok (.invokevirtual 111, 3) := by decide +kernel
theorem dX7_spread_86 : decode cX7_spread 86 = .ok (.aload_n 0, 1) := by decide +kernel
theorem dX7_spread_87 : decode cX7_spread 87 = .ok (.getfield 29, 3) := by decide +kernel
theorem dX7_spread_90 : decode cX7_spread 90 = .ok (.iload_n 3, 1) := by decide +kernel
theorem dX7_spread_91 : decode cX7_spread 91 = .ok (.iaload, 1) := by decide +kernel
theorem dX7_spread_92 : decode cX7_spread 92 = .ok (.istore_n 3, 1) := by decide +kernel
theorem dX7_spread_93 : decode cX7_spread 93 = .ok (.goto (-16), 3) := by decide +kernel
theorem dX7_spread_96 : decode cX7_spread 96 = .ok (.aload_n 0, 1) := by decide +kernel
theorem dX7_spread_97 : decode cX7_spread 97 = .ok (.getfield 13, 3) := by decide +kernel
theorem dX7_spread_100 : decode cX7_spread 100 = .ok (.iload_n 2, 1) := by decide +kernel
theorem dX7_spread_101 : decode cX7_spread 101 = .ok (.iaload, 1) := by decide +kernel
theorem dX7_spread_102 : decode cX7_spread 102 = .ok (.iconst 4, 1) := by decide +kernel
theorem dX7_spread_103 : decode cX7_spread 103 = .ok (.if_icmp .ne 17, 3) := by decide +kernel
theorem dX7_spread_106 : decode cX7_spread 106 = .ok (.iload_n 1, 1) := by decide +kernel
theorem dX7_spread_107 : decode cX7_spread 107 = .ok (.ifCond .ne 13, 3) := by decide +kernel
theorem dX7_spread_110 : decode cX7_spread 110 = .ok (.aload_n 0, 1) := by decide +kernel
theorem dX7_spread_111 : decode cX7_spread 111 = .ok (.aload_n 0, 1) := by decide +kernel
theorem dX7_spread_112 : decode cX7_spread 112 = .ok (.getfield 32, 3) := by decide +kernel
theorem dX7_spread_115 : decode cX7_spread 115 = .ok (.iload_n 2, 1) := by decide +kernel
theorem dX7_spread_116 : decode cX7_spread 116 = .ok (.iaload, 1) := by decide +kernel
theorem dX7_spread_117 : decode cX7_spread 117 = .ok (.invokevirtual 111, 3) := by decide +kernel
theorem dX7_spread_120 : decode cX7_spread 120 = .ok (.aload_n 0, 1) := by decide +kernel
theorem dX7_spread_121 : decode cX7_spread 121 = .ok (.getfield 13, 3) := by decide +kernel
theorem dX7_spread_124 : decode cX7_spread 124 = .ok (.iload_n 2, 1) := by decide +kernel
theorem dX7_spread_125 : decode cX7_spread 125 = .ok (.iaload, 1) := by decide +kernel
theorem dX7_spread_126 : decode cX7_spread 126 = .ok (.iconst 4, 1) := by decide +kernel
theorem dX7_spread_127 : decode cX7_spread 127 = .ok (.if_icmp .lt 22, 3) := by decide +kernel
theorem dX7_spread_130 : decode cX7_spread 130 = .ok (.aload_n 0, 1) := by decide +kernel
theorem dX7_spread_131 : decode cX7_spread 131 = .ok (.getfield 44, 3) := by decide +kernel
theorem dX7_spread_134 : decode cX7_spread 134 = .ok (.iload_n 2, 1) := by decide +kernel
theorem dX7_spread_135 : decode cX7_spread 135 = .ok (.baload, 1) := by decide +kernel
theorem dX7_spread_136 : decode cX7_spread 136 = .ok (.ifCond .ne 13, 3) := by decide +kernel
theorem dX7_spread_139 : decode cX7_spread 139 = .ok (.aload_n 0, 1) := by decide +kernel
theorem dX7_spread_140 : decode cX7_spread 140 = .ok (.aload_n 0, 1) := by decide +kernel
theorem dX7_spread_141 : decode cX7_spread 141 = .ok (.getfield 38, 3) := by decide +kernel
theorem dX7_spread_144 : decode cX7_spread 144 = .ok (.iload_n 2, 1) := by decide +kernel
theorem dX7_spread_145 : decode cX7_spread 145 = .ok (.iaload, 1) := by decide +kernel
theorem dX7_spread_146 : decode cX7_spread 146 = .ok (.invokevirtual 111, 3) := by decide +kernel
theorem dX7_spread_149 : decode cX7_spread 149 = .ok (.goto (-149), 3) := by decide +kernel
theorem dX7_spread_152 : decode cX7_spread 152 = .ok (.return_, 1) := by decide +kernel
theorem dX7_collectAll_0 : decode cX7_collectAll 0 = .ok (.aload_n 0, 1) := by decide +kernel
theorem dX7_collectAll_1 : decode cX7_collectAll 1 = .ok (.dup, 1) := by decide +kernel
theorem dX7_collectAll_2 : decode cX7_collectAll 2 = .ok (.getfield 115, 3) := by decide +kernel
theorem dX7_collectAll_5 : decode cX7_collectAll 5 = .ok (.iconst 1, 1) := by decide +kernel
theorem dX7_collectAll_6 : decode cX7_collectAll 6 = .ok (.iadd, 1) := by decide +kernel
theorem dX7_collectAll_7 : decode cX7_collectAll 7 = .ok (.putfield 115, 3) := by decide +kernel
theorem dX7_collectAll_10 : decode cX7_collectAll 10 = .ok (.aload_n 0, 1) := by decide +kernel
theorem dX7_collectAll_11 : decode cX7_collectAll 11 = .ok (.getfield 80, 3) := by decide +kernel
theorem dX7_collectAll_14 : decode cX7_collectAll 14 = .ok (.istore_n 2, 1) := by decide +kernel
theorem dX7_collectAll_15 : decode cX7_collectAll 15 = .ok (.iconst 1, 1) := by decide +kernel
theorem dX7_collectAll_16 : decode cX7_collectAll 16 = .ok (.istore_n 3, 1) := by decide +kernel
theorem dX7_collectAll_17 : decode cX7_collectAll 17 = .ok (.iload_n 3, 1) := by decide +kernel
theorem dX7_collectAll_18 : decode cX7_collectAll 18 = .ok (.aload_n 0, 1) := by decide +kernel
theorem dX7_collectAll_19 : decode cX7_collectAll 19 = .ok (.getfield 61, 3) := by decide +kernel
theorem dX7_collectAll_22 : decode cX7_collectAll 22 = .ok (.if_icmp .ge 16, 3) := by decide +kernel
theorem dX7_collectAll_25 : decode cX7_collectAll 25 = .ok (.aload_n 0, 1) := by decide +kernel
theorem dX7_collectAll_26 : decode cX7_collectAll 26 = .ok (.getfield 48, 3) := by decide +kernel
theorem dX7_collectAll_29 : decode cX7_collectAll 29 = .ok (.iload_n 3, 1) := by decide +kernel
theorem dX7_collectAll_30 : decode cX7_collectAll 30 = .ok (.iconst 0, 1) := by decide +kernel
theorem dX7_collectAll_31 : decode cX7_collectAll 31 = .ok (.bastore, 1) := by decide +kernel
theorem dX7_collectAll_32 : decode cX7_collectAll 32 = .ok (.iinc 3 1, 3) := by decide +kernel
theorem dX7_collectAll_35 : decode cX7_collectAll 35 = .ok (.goto (-18), 3) := by decide +kernel
theorem dX7_collectAll_38 : decode cX7_collectAll 38 = .ok (.aload_n 0, 1) := by decide +kernel
theorem dX7_collectAll_39 : decode cX7_collectAll 39 = .ok (.iconst 0, 1) := by decide +kernel
theorem dX7_collectAll_40 : decode cX7_collectAll 40 = .ok (.putfield 108, 3) := by decide +kernel
theorem dX7_collectAll_43 : decode cX7_collectAll 43 = .ok (.iconst 0, 1) := by decide +kernel
theorem dX7_collectAll_44 : decode cX7_collectAll 44 = .ok (.istore_n 3, 1) := by decide +kernel
theorem dX7_collectAll_45 : decode cX7_collectAll 45 = .ok (.iload_n 3, 1) := by decide +kernel
theorem dX7_collectAll_46 : decode cX7_collectAll 46 = .ok (.aload_n 0, 1) := by decide +kernel
theorem dX7_collectAll_47 : decode cX7_collectAll 47 = .ok (.getfield 70, 3) := by decide +kernel
theorem dX7_collectAll_50 : decode cX7_collectAll 50 = .ok (.if_icmp .ge 19, 3) := by decide +kernel
theorem dX7_collectAll_53 : decode cX7_collectAll 53 = .ok (.aload_n 0, 1) := by decide +kernel
theorem dX7_collectAll_54 : decode cX7_collectAll 54 = .ok (.aload_n 0, 1) := by decide +kernel
theorem dX7_collectAll_55 : decode cX7_collectAll 55 = .ok (.getfield 64, 3) := by decide +kernel
theorem dX7_collectAll_58 : decode cX7_collectAll 58 = .ok (.iload_n 3, 1) := by decide +kernel
theorem dX7_collectAll_59 : decode cX7_collectAll 59 = .ok (.iaload, 1) := by decide +kernel
theorem dX7_collectAll_60 : decode cX7_collectAll 60 = .ok (.invokevirtual 111, 3) := by decide +kernel
theorem dX7_collectAll_63 : decode cX7_collectAll 63 = .ok (.iinc 3 1, 3) := by decide +kernel
theorem dX7_collectAll_66 : decode cX7_collectAll 66 = .ok (.goto (-21), 3) := by decide +kernel
theorem dX7_collectAll_69 : decode cX7_collectAll 69 = .ok (.aload_n 0, 1) := by decide +kernel
theorem dX7_collectAll_70 : decode cX7_collectAll 70 = .ok (.iload_n 1, 1) := by decide +kernel
theorem dX7_collectAll_71 : decode cX7_collectAll 71 = .ok (.invokevirtual 118, 3) := by decide +kernel
theorem dX7_collectAll_74 : decode cX7_collectAll 74 = .ok (.iconst 1, 1) := by decide +kernel
theorem dX7_collectAll_75 : decode cX7_collectAll 75 = .ok (.istore_n 3, 1) := by decide +kernel
theorem dX7_collectAll_76 : decode cX7_collectAll 76 = .ok (.iload_n 3, 1) := by decide +kernel
theorem dX7_collectAll_77 : decode cX7_collectAll 77 = .ok (.ifCond .eq 119, 3) := by decide +kernel
theorem dX7_collectAll_80 : decode cX7_collectAll 80 = .ok (.iconst 0, 1) := by decide +kernel
theorem dX7_collectAll_81 : decode cX7_collectAll 81 = .ok (.istore_n 3, 1) := by decide +kernel
theorem dX7_collectAll_82 : decode cX7_collectAll 82 = .ok (.iconst 1, 1) := by decide +kernel
theorem dX7_collectAll_83 : decode cX7_collectAll 83 = .ok (.istore 4, 2) := by decide +kernel
theorem dX7_collectAll_85 : decode cX7_collectAll 85 = .ok (.iload 4, 2) := by decide +kernel
theorem dX7_collectAll_87 : decode cX7_collectAll 87 = .ok (.aload_n 0, 1) := by decide +kernel
theorem dX7_collectAll_88 : decode cX7_collectAll 88 = .ok (.getfield 61, 3) := by decide +kernel
theorem dX7_collectAll_91 : decode cX7_collectAll 91 = .ok (.if_icmp .ge 102, 3) := by decide +kernel
theorem dX7_collectAll_94 : decode cX7_collectAll 94 = .ok (.aload_n 0, 1) := by decide +kernel
theorem dX7_collectAll_95 : decode cX7_collectAll 95 = .ok (.getfield 13, 3) := by decide +kernel
theorem dX7_collectAll_98 : decode cX7_collectAll 98 = .ok (.iload 4, 2) := by decide +kernel
theorem dX7_collectAll_100 : decode cX7_collectAll 100 = .ok (.iaload, 1) := by decide +kernel
theorem dX7_collectAll_101 : decode cX7_collectAll 101 = .ok (.bipush 7, 2) := by decide +kernel
theorem dX7_collectAll_103 : decode cX7_collectAll 103 = .ok (.if_icmp .ne 84, 3) := by decide +kernel
theorem dX7_collectAll_106 : decode cX7_collectAll 106 = .ok (.aload_n 0, 1) := by decide +kernel
theorem dX7_collectAll_107 : decode cX7_collectAll 107 = .ok (.getfield 48, 3) := by decide +kernel
theorem dX7_collectAll_110 : decode cX7_collectAll 110 = .ok (.iload 4, 2) := by decide +kernel
theorem dX7_collectAll_112 : decode cX7_collectAll 112 = .ok (.baload, 1) := by decide +kernel
theorem dX7_collectAll_113 : decode cX7_collectAll 113 = .ok (.ifCond .eq 74, 3) := by decide +kernel
theorem dX7_collectAll_116 : decode cX7_collectAll 116 = .ok (.aload_n 0, 1) := by decide +kernel
theorem dX7_collectAll_117 : decode cX7_collectAll 117 = .ok (.getfield 32, 3) := by decide +kernel
theorem dX7_collectAll_120 : decode cX7_collectAll 120 = .ok (.iload 4, 2) := by decide +kernel
theorem dX7_collectAll_122 : decode cX7_collectAll 122 = .ok (.iaload, 1) := by decide +kernel
theorem dX7_collectAll_123 : decode cX7_collectAll 123 = .ok (.ifCond .eq 64, 3) := by decide +kernel
theorem dX7_collectAll_126 : decode cX7_collectAll 126 = .ok (.aload_n 0, 1) := by decide +kernel
theorem dX7_collectAll_127 : decode cX7_collectAll 127 = .ok (.getfield 48, 3) := by decide +kernel
theorem dX7_collectAll_130 : decode cX7_collectAll 130 = .ok (.aload_n 0, 1) := by decide +kernel
theorem dX7_collectAll_131 : decode cX7_collectAll 131 = .ok (.getfield 32, 3) := by decide +kernel
theorem dX7_collectAll_134 : decode cX7_collectAll 134 = .ok (.iload 4, 2) := by decide +kernel
theorem dX7_collectAll_136 : decode cX7_collectAll 136 = .ok (.iaload, 1) := by decide +kernel
theorem dX7_collectAll_137 : decode cX7_collectAll 137 = .ok (.baload, 1) := by decide +kernel
theorem dX7_collectAll_138 : decode cX7_collectAll 138 = .ok (.ifCond .eq 49, 3) := by decide +kernel
theorem dX7_collectAll_141 : decode cX7_collectAll 141 = .ok (.aload_n 0, 1) := by decide +kernel
theorem dX7_collectAll_142 : decode cX7_collectAll 142 = .ok (.getfield 35, 3) := by decide +kernel
theorem dX7_collectAll_145 : decode cX7_collectAll 145 = .ok (.iload 4, 2) := by decide +kernel
theorem dX7_collectAll_147 : decode cX7_collectAll 147 = .ok (.iaload, 1) := by decide +kernel
theorem dX7_collectAll_148 : decode cX7_collectAll 148 = .ok (.ifCond .eq 39, 3) := by decide +kernel
theorem dX7_collectAll_151 : decode cX7_collectAll 151 = .ok (.aload_n 0, 1) := by decide +kernel
theorem dX7_collectAll_152 : decode cX7_collectAll 152 = .ok (.getfield 48, 3) := by decide +kernel
theorem dX7_collectAll_155 : decode cX7_collectAll 155 = .ok (.aload_n 0, 1) := by decide +kernel
theorem dX7_collectAll_156 : decode cX7_collectAll 156 = .ok (.getfield 35, 3) := by decide +kernel
theorem dX7_collectAll_159 : decode cX7_collectAll 159 = .ok (.iload 4, 2) := by decide +kernel
theorem dX7_collectAll_161 : decode cX7_collectAll 161 = .ok (.iaload, 1) := by decide +kernel
theorem dX7_collectAll_162 : decode cX7_collectAll 162 = .ok (.baload, 1) := by decide +kernel
theorem dX7_collectAll_163 : decode cX7_collectAll 163 = .ok (.ifCond .eq 6, 3) := by decide +kernel
theorem dX7_collectAll_166 : decode cX7_collectAll 166 = .ok (.goto 21, 3) := by decide +kernel
theorem dX7_collectAll_169 : decode cX7_collectAll 169 = .ok (.aload_n 0, 1) := by decide +kernel
theorem dX7_collectAll_170 : decode cX7_collectAll 170 = .ok (.aload_n 0, 1) := by decide +kernel
theorem dX7_collectAll_171 : decode cX7_collectAll 171 = .ok (.getfield 35, 3) := by decide +kernel
theorem dX7_collectAll_174 : decode cX7_collectAll 174 = .ok (.iload 4, 2) := by decide +kernel
theorem dX7_collectAll_176 : decode cX7_collectAll 176 = .ok (.iaload, 1) := by decide +kernel
theorem dX7_collectAll_177 : decode cX7_collectAll 177 = .ok (.invokevirtual 111, 3) := by decide +kernel
theorem dX7_collectAll_180 : decode cX7_collectAll 180 = .ok (.aload_n 0, 1) := by decide +kernel
theorem dX7_collectAll_181 : decode cX7_collectAll 181 = .ok (.iload_n 1, 1) := by decide +kernel
theorem dX7_collectAll_182 : decode cX7_collectAll 182 = .ok (.invokevirtual 118, 3) := by decide +kernel
theorem dX7_collectAll_185 : decode cX7_collectAll 185 = .ok (.iconst 1, 1) := by decide +kernel
theorem dX7_collectAll_186 : decode cX7_collectAll 186 = .ok (.istore_n 3, 1) := by decide +kernel
theorem dX7_collectAll_187 : decode cX7_collectAll 187 = .ok (.iinc 4 1, 3) := by decide +kernel
theorem dX7_collectAll_190 : decode cX7_collectAll 190 = .ok (.goto (-105), 3) := by decide +kernel
theorem dX7_collectAll_193 : decode cX7_collectAll 193 = .ok (.goto (-117), 3) := by decide +kernel
theorem dX7_collectAll_196 : decode cX7_collectAll 196 = .ok (.iconst 0, 1) := by decide +kernel
theorem dX7_collectAll_197 : decode cX7_collectAll 197 = .ok (.istore 4, 2) := by decide +kernel
theorem dX7_collectAll_199 : decode cX7_collectAll 199 = .ok (.iconst 1, 1) := by decide +kernel
theorem dX7_collectAll_200 : decode cX7_collectAll 200 = .ok (.istore 5, 2) := by decide +kernel
theorem dX7_collectAll_202 : decode cX7_collectAll 202 = .ok (.iload 5, 2) := by decide +kernel
theorem dX7_collectAll_204 : decode cX7_collectAll 204 = .ok (.aload_n 0, 1) := by decide +kernel
theorem dX7_collectAll_205 : decode cX7_collectAll 205 = .ok (.getfield 61, 3) := by decide +kernel
theorem dX7_collectAll_208 : decode cX7_collectAll 208 = .ok (.if_icmp .ge 67, 3) := by decide +kernel
theorem dX7_collectAll_211 : decode cX7_collectAll 211 = .ok (.aload_n 0, 1) := by decide +kernel
theorem dX7_collectAll_212 : decode cX7_collectAll 212 = .ok (.getfield 13, 3) := by decide +kernel
theorem dX7_collectAll_215 : decode cX7_collectAll 215 = .ok (.iload 5, 2) := by decide +kernel
theorem dX7_collectAll_217 : decode cX7_collectAll 217 = .ok (.iaload, 1) := by decide +kernel
theorem dX7_collectAll_218 : decode cX7_collectAll 218 = .ok (.iconst 4, 1) := by decide +kernel
theorem dX7_collectAll_219 : decode cX7_collectAll 219 = .ok (.if_icmp .lt 50, 3) := by decide +kernel
theorem dX7_collectAll_222 : decode cX7_collectAll 222 = .ok (.aload_n 0, 1) := by decide +kernel
theorem dX7_collectAll_223 : decode cX7_collectAll 223 = .ok (.getfield 48, 3) := by decide +kernel
theorem dX7_collectAll_226 : decode cX7_collectAll 226 = .ok (.iload 5, 2) := by decide +kernel
theorem dX7_collectAll_228 : decode cX7_collectAll 228 = .ok (.baload, 1) := by decide +kernel
theorem dX7_collectAll_229 : decode cX7_collectAll 229 = .ok (.ifCond .eq 40, 3) := by decide +kernel
theorem dX7_collectAll_232 : decode cX7_collectAll 232 = .ok (.aload_n 0, 1) := by decide +kernel
theorem dX7_collectAll_233 : decode cX7_collectAll 233 = .ok (.getfield 32, 3) := by decide +kernel
theorem dX7_collectAll_236 : decode cX7_collectAll 236 = .ok (.iload 5, 2) := by decide +kernel
theorem dX7_collectAll_238 : decode cX7_collectAll 238 = .ok (.iaload, 1) := by decide +kernel
theorem dX7_collectAll_239 : decode cX7_collectAll 239 = .ok (.ifCond .eq 30, 3) := by decide +kernel
theorem dX7_collectAll_242 : decode cX7_collectAll 242 = .ok (.aload_n 0, 1) := by decide +kernel
theorem dX7_collectAll_243 : decode cX7_collectAll 243 = .ok (.getfield 48, 3) := by decide +kernel
theorem dX7_collectAll_246 : decode cX7_collectAll 246 = .ok (.aload_n 0, 1) := by decide +kernel
theorem dX7_collectAll_247 : decode cX7_collectAll 247 = .ok (.getfield 32, 3) := by decide +kernel
theorem dX7_collectAll_250 : decode cX7_collectAll 250 = .ok (.iload 5, 2) := by decide +kernel
theorem dX7_collectAll_252 : decode cX7_collectAll 252 = .ok (.iaload, 1) := by decide +kernel
theorem dX7_collectAll_253 : decode cX7_collectAll 253 = .ok (.baload, 1) := by decide +kernel
theorem dX7_collectAll_254 : decode cX7_collectAll 254 = .ok (.ifCond .ne 15, 3) := by decide +kernel
theorem dX7_collectAll_257 : decode cX7_collectAll 257 = .ok (.aload_n 0, 1) := by decide +kernel
theorem dX7_collectAll_258 : decode cX7_collectAll 258 = .ok (.getfield 51, 3) := by decide +kernel
theorem dX7_collectAll_261 : decode cX7_collectAll 261 = .ok (.iload 4, 2) := by decide +kernel
theorem dX7_collectAll_263 : decode cX7_collectAll 263 = .ok (.iinc 4 1, 3) := by decide +kernel
theorem dX7_collectAll_266 : decode cX7_collectAll 266 = .ok (.iload 5, 2) := by decide +kernel
theorem dX7_collectAll_268 : decode cX7_collectAll 268 = .ok (.iastore, 1) := by decide +kernel
theorem dX7_collectAll_269 : decode cX7_collectAll 269 = .ok (.iinc 5 1, 3) := by decide +kernel
theorem dX7_collectAll_272 : decode cX7_collectAll 272 = .ok (.goto (-70), 3) := by decide +kernel
theorem dX7_collectAll_275 : decode cX7_collectAll 275 = .ok (.iload 4, 2) := by decide +kernel
theorem dX7_collectAll_277 : decode cX7_collectAll 277 = .ok (.iconst 2, 1) := by decide +kernel
theorem dX7_collectAll_278 : decode cX7_collectAll 278 = .ok (.idiv, 1) := by decide +kernel
theorem dX7_collectAll_279 : decode cX7_collectAll 279 = .ok (.istore 5, 2) := by decide +kernel
theorem dX7_collectAll_281 : decode cX7_collectAll 281 = .ok (.iload 5, 2) := by decide +kernel
theorem dX7_collectAll_283 : decode cX7_collectAll 283 = .ok (.ifCond .le 110, 3) := by decide +kernel
theorem dX7_collectAll_286 : decode cX7_collectAll 286 = .ok (.iload 5, 2) := by decide +kernel
theorem dX7_collectAll_288 : decode cX7_collectAll 288 = .ok (.istore 6, 2) := by decide +kernel
theorem dX7_collectAll_290 : decode cX7_collectAll 290 = .ok (.iload 6, 2) := by decide +kernel
theorem dX7_collectAll_292 : decode cX7_collectAll 292 = .ok (.iload 4, 2) := by decide +kernel
theorem dX7_collectAll_294 : decode cX7_collectAll 294 = .ok (.if_icmp .ge 90, 3) := by decide +kernel
theorem dX7_collectAll_297 : decode cX7_collectAll 297 = .ok (.aload_n 0, 1) := by decide +kernel
theorem dX7_collectAll_298 : decode cX7_collectAll 298 = .ok (.getfield 51, 3) := by decide +kernel
theorem dX7_collectAll_301 : decode cX7_collectAll 301 = .ok (.iload 6, 2) := by decide +kernel
theorem dX7_collectAll_303 : decode cX7_collectAll 303 = .ok (.iaload, 1) := by decide +kernel
theorem dX7_collectAll_304 : decode cX7_collectAll 304 = .ok (.istore 7, 2) := by decide +kernel
theorem dX7_collectAll_306 : decode cX7_collectAll 306 = .ok (.iload 6, 2) := by decide +kernel
theorem dX7_collectAll_308 : decode cX7_collectAll 308 = .ok (.istore 8, 2) := by decide +kernel
theorem dX7_collectAll_310 : decode cX7_collectAll 310 = .ok (.iload 8, 2) := by decide +kernel
theorem dX7_collectAll_312 : decode cX7_collectAll 312 = .ok (.iload 5, 2) := by decide +kernel
theorem dX7_collectAll_314 : decode cX7_collectAll 314 = .ok (.if_icmp .lt 55, 3) := by decide +kernel
theorem dX7_collectAll_317 : decode cX7_collectAll 317 = .ok (.aload_n 0, 1) := by decide +kernel
theorem dX7_collectAll_318 : decode cX7_collectAll 318 = .ok (.getfield 41, 3) := by decide +kernel
theorem dX7_collectAll_321 : decode cX7_collectAll 321 = .ok (.aload_n 0, 1) := by decide +kernel
theorem dX7_collectAll_322 : decode cX7_collectAll 322 = .ok (.getfield 51, 3) := by decide +kernel
theorem dX7_collectAll_325 : decode cX7_collectAll 325 = .ok (.iload 8, 2) := by decide +kernel
theorem dX7_collectAll_327 : decode cX7_collectAll 327 = .ok (.iload 5, 2) := by decide +kernel
theorem dX7_collectAll_329 : decode cX7_collectAll 329 = .ok (.isub, 1) := by decide +kernel
theorem dX7_collectAll_330 : decode cX7_collectAll 330 = .ok (.iaload, 1) := by decide +kernel
theorem dX7_collectAll_331 : decode cX7_collectAll 331 = .ok (.iaload, 1) := by decide +kernel
theorem dX7_collectAll_332 : decode cX7_collectAll 332 = .ok (.aload_n 0, 1) := by decide +kernel
theorem dX7_collectAll_333 : decode cX7_collectAll 333 = .ok (.getfield 41, 3) := by decide +kernel
theorem dX7_collectAll_336 : decode cX7_collectAll 336 = .ok (.iload 7, 2) := by decide +kernel
theorem dX7_collectAll_338 : decode cX7_collectAll 338 = .ok (.iaload, 1) := by decide +kernel
theorem dX7_collectAll_339 : decode cX7_collectAll 339 = .ok (.if_icmp .le 30, 3) := by decide +kernel
theorem dX7_collectAll_342 : decode cX7_collectAll 342 = .ok (.aload_n 0, 1) := by decide +kernel
theorem dX7_collectAll_343 : decode cX7_collectAll 343 = .ok (.getfield 51, 3) := by decide +kernel
theorem dX7_collectAll_346 : decode cX7_collectAll 346 = .ok (.iload 8, 2) := by decide +kernel
theorem dX7_collectAll_348 : decode cX7_collectAll 348 = .ok (.aload_n 0, 1) := by decide +kernel
theorem dX7_collectAll_349 : decode cX7_collectAll 349 = .ok (.getfield 51, 3) := by decide +kernel
theorem dX7_collectAll_352 : decode cX7_collectAll 352 = .ok (.iload 8, 2) := by decide +kernel
theorem dX7_collectAll_354 : decode cX7_collectAll 354 = .ok (.iload 5, 2) := by decide +kernel
theorem dX7_collectAll_356 : decode cX7_collectAll 356 = .ok (.isub, 1) := by decide +kernel
theorem dX7_collectAll_357 : decode cX7_collectAll 357 = .ok (.iaload, 1) := by decide +kernel
theorem dX7_collectAll_358 : decode cX7_collectAll 358 = .ok (.iastore, 1) := by decide +kernel
theorem dX7_collectAll_359 : decode cX7_collectAll 359 = .ok (.iload 8, 2) := by decide +kernel
theorem dX7_collectAll_361 : decode cX7_collectAll 361 = .ok (.iload 5, 2) := by decide +kernel
theorem dX7_collectAll_363 : decode cX7_collectAll 363 = .ok (.isub, 1) := by decide +kernel
theorem dX7_collectAll_364 : decode cX7_collectAll 364 = .ok (.istore 8, 2) := by decide +kernel
theorem dX7_collectAll_366 : decode cX7_collectAll 366 = .ok (.goto (-56), 3) := by decide +kernel
theorem dX7_collectAll_369 : decode cX7_collectAll 369 = .ok (.aload_n 0, 1) := by decide +kernel
theorem dX7_collectAll_370 : decode cX7_collectAll 370 = .ok (.getfield 51, 3) := by decide +kernel
theorem dX7_collectAll_373 : decode cX7_collectAll 373 = .ok (.iload 8, 2) := by decide +kernel
theorem dX7_collectAll_375 : decode cX7_collectAll 375 = .ok (.iload 7, 2) := by decide +kernel
theorem dX7_collectAll_377 : decode cX7_collectAll 377 = .ok (.iastore, 1) := by decide +kernel
theorem dX7_collectAll_378 : decode cX7_collectAll 378 = .ok (.iinc 6 1, 3) := by decide +kernel
theorem dX7_collectAll_381 : decode cX7_collectAll 381 = .ok (.goto (-91), 3) := by decide +kernel
theorem dX7_collectAll_384 : decode cX7_collectAll 384 = .ok (.iload 5, 2) := by decide +kernel
theorem dX7_collectAll_386 : decode cX7_collectAll 386 = .ok (.iconst 2, 1) := by decide +kernel
theorem dX7_collectAll_387 : decode cX7_collectAll 387 = .ok (.idiv, 1) := by decide +kernel
theorem dX7_collectAll_388 : decode cX7_collectAll 388 = .ok (.istore 5, 2) := by decide +kernel
theorem dX7_collectAll_390 : decode cX7_collectAll 390 = .ok (.goto (-109), 3) := by decide +kernel
theorem dX7_collectAll_393 : decode cX7_collectAll 393 = .ok (.iconst 0, 1) := by decide +kernel
theorem dX7_collectAll_394 : decode cX7_collectAll 394 = .ok (.istore 5, 2) := by decide +kernel
theorem dX7_collectAll_396 : decode cX7_collectAll 396 = .ok (.iload 5, 2) := by decide +kernel
theorem dX7_collectAll_398 : decode cX7_collectAll 398 = .ok (.iload 4, 2) := by decide +kernel
theorem dX7_collectAll_400 : decode cX7_collectAll 400 = .ok (.if_icmp .ge 57, 3) := by decide +kernel
theorem dX7_collectAll_403 : decode cX7_collectAll 403 = .ok (.aload_n 0, 1) := by decide +kernel
theorem dX7_collectAll_404 : decode cX7_collectAll 404 = .ok (.dup, 1) := by decide +kernel
theorem dX7_collectAll_405 : decode cX7_collectAll 405 = .ok (.getfield 122, 3) := by decide +kernel
theorem dX7_collectAll_408 : decode cX7_collectAll 408 = .ok (.iconst 1, 1) := by decide +kernel
theorem dX7_collectAll_409 : decode cX7_collectAll 409 = .ok (.iadd, 1) := by decide +kernel
theorem dX7_collectAll_410 : decode cX7_collectAll 410 = .ok (.putfield 122, 3) := by decide +kernel
theorem dX7_collectAll_413 : decode cX7_collectAll 413 = .ok (.aload_n 0, 1) := by decide +kernel
theorem dX7_collectAll_414 : decode cX7_collectAll 414 = .ok (.getfield 32, 3) := by decide +kernel
theorem dX7_collectAll_417 : decode cX7_collectAll 417 = .ok (.aload_n 0, 1) := by decide +kernel
theorem dX7_collectAll_418 : decode cX7_collectAll 418 = .ok (.getfield 51, 3) := by decide +kernel
theorem dX7_collectAll_421 : decode cX7_collectAll 421 = .ok (.iload 5, 2) := by decide +kernel
theorem dX7_collectAll_423 : decode cX7_collectAll 423 = .ok (.iaload, 1) := by decide +kernel
theorem dX7_collectAll_424 : decode cX7_collectAll 424 = .ok (.iconst 0, 1) := by decide +kernel
theorem dX7_collectAll_425 : decode cX7_collectAll 425 = .ok (.iastore, 1) := by decide +kernel
theorem dX7_collectAll_426 : decode cX7_collectAll 426 = .ok (.aload_n 0, 1) := by decide +kernel
theorem dX7_collectAll_427 : decode cX7_collectAll 427 = .ok (.getfield 35, 3) := by decide +kernel
theorem dX7_collectAll_430 : decode cX7_collectAll 430 = .ok (.aload_n 0, 1) := by decide +kernel
theorem dX7_collectAll_431 : decode cX7_collectAll 431 = .ok (.getfield 51, 3) := by decide +kernel
theorem dX7_collectAll_434 : decode cX7_collectAll 434 = .ok (.iload 5, 2) := by decide +kernel
theorem dX7_collectAll_436 : decode cX7_collectAll 436 = .ok (.iaload, 1) := by decide +kernel
theorem dX7_collectAll_437 : decode cX7_collectAll 437 = .ok (.iconst 0, 1) := by decide +kernel
theorem dX7_collectAll_438 : decode cX7_collectAll 438 = .ok (.iastore, 1) := by decide +kernel
theorem dX7_collectAll_439 : decode cX7_collectAll 439 = .ok (.aload_n 0, 1) := by decide +kernel
theorem dX7_collectAll_440 : decode cX7_collectAll 440 = .ok (.aload_n 0, 1) := by decide +kernel
theorem dX7_collectAll_441 : decode cX7_collectAll 441 = .ok (.getfield 51, 3) := by decide +kernel
theorem dX7_collectAll_444 : decode cX7_collectAll 444 = .ok (.iload 5, 2) := by decide +kernel
theorem dX7_collectAll_446 : decode cX7_collectAll 446 = .ok (.iaload, 1) := by decide +kernel
theorem dX7_collectAll_447 : decode cX7_collectAll 447 = .ok (.invokevirtual 125, 3) := by decide +kernel
theorem dX7_collectAll_450 : decode cX7_collectAll 450 = .ok (.pop, 1) := by decide +kernel
theorem dX7_collectAll_451 : decode cX7_collectAll 451 = .ok (.iinc 5 1, 3) := by decide +kernel
theorem dX7_collectAll_454 : decode cX7_collectAll 454 = .ok (.goto (-58), 3) := by decide +kernel
theorem dX7_collectAll_457 : decode cX7_collectAll 457 = .ok (.iconst 1, 1) := by decide +kernel
theorem dX7_collectAll_458 : decode cX7_collectAll 458 = .ok (.istore 5, 2) := by decide +kernel
theorem dX7_collectAll_460 : decode cX7_collectAll 460 = .ok (.iload 5, 2) := by decide +kernel
theorem dX7_collectAll_462 : decode cX7_collectAll 462 = .ok (.aload_n 0, 1) := by decide +kernel
theorem dX7_collectAll_463 : decode cX7_collectAll 463 = .ok (.getfield 61, 3) := by decide +kernel
theorem dX7_collectAll_466 : decode cX7_collectAll 466 = .ok (.if_icmp .ge 82, 3) := by decide +kernel
theorem dX7_collectAll_469 : decode cX7_collectAll 469 = .ok (.aload_n 0, 1) := by decide +kernel
theorem dX7_collectAll_470 : decode cX7_collectAll 470 = .ok (.getfield 13, 3) := by decide +kernel
theorem dX7_collectAll_473 : decode cX7_collectAll 473 = .ok (.iload 5, 2) := by decide +kernel
theorem dX7_collectAll_475 : decode cX7_collectAll 475 = .ok (.iaload, 1) := by decide +kernel
theorem dX7_collectAll_476 : decode cX7_collectAll 476 = .ok (.ifCond .lt 66, 3) := by decide +kernel
theorem dX7_collectAll_479 : decode cX7_collectAll 479 = .ok (.aload_n 0, 1) := by decide +kernel
theorem dX7_collectAll_480 : decode cX7_collectAll 480 = .ok (.getfield 48, 3) := by decide +kernel
theorem dX7_collectAll_483 : decode cX7_collectAll 483 = .ok (.iload 5, 2) := by decide +kernel
theorem dX7_collectAll_485 : decode cX7_collectAll 485 = .ok (.baload, 1) := by decide +kernel
theorem dX7_collectAll_486 : decode cX7_collectAll 486 = .ok (.ifCond .eq 6, 3) := by decide +kernel
theorem dX7_collectAll_489 : decode cX7_collectAll 489 = .ok (.goto 53, 3) := by decide +kernel
theorem dX7_collectAll_492 : decode cX7_collectAll 492 = .ok (.aload_n 0, 1) := by decide +kernel
theorem dX7_collectAll_493 : decode cX7_collectAll 493 = .ok (.dup, 1) := by decide +kernel
theorem dX7_collectAll_494 : decode cX7_collectAll 494 = .ok (.getfield 80, 3) := by decide +kernel
theorem dX7_collectAll_497 : decode cX7_collectAll 497 = .ok (.aload_n 0, 1) := by decide +kernel
theorem dX7_collectAll_498 : decode cX7_collectAll 498 = .ok (.iload 5, 2) := by decide +kernel
theorem dX7_collectAll_500 : decode cX7_collectAll 500 = .ok (.invokevirtual 129, 3) := by decide +kernel
theorem dX7_collectAll_503 : decode cX7_collectAll 503 = .ok (.isub, 1) := by decide +kernel
theorem dX7_collectAll_504 : decode cX7_collectAll 504 = .ok (.putfield 80, 3) := by decide +kernel
theorem dX7_collectAll_507 : decode cX7_collectAll 507 = .ok (.aload_n 0, 1) := by decide +kernel
theorem dX7_collectAll_508 : decode cX7_collectAll 508 = .ok (.dup, 1) := by decide +kernel
theorem dX7_collectAll_509 : decode cX7_collectAll 509 = .ok (.getfield 99, 3) := by decide +kernel
theorem dX7_collectAll_512 : decode cX7_collectAll 512 = .ok (.iconst 1, 1) := by decide +kernel
theorem dX7_collectAll_513 : decode cX7_collectAll 513 = .ok (.isub, 1) := by decide +kernel
theorem dX7_collectAll_514 : decode cX7_collectAll 514 = .ok (.putfield 99, 3) := by decide +kernel
theorem dX7_collectAll_517 : decode cX7_collectAll 517 = .ok (.aload_n 0, 1) := by decide +kernel
theorem dX7_collectAll_518 : decode cX7_collectAll 518 = .ok (.getfield 13, 3) := by decide +kernel
theorem dX7_collectAll_521 : decode cX7_collectAll 521 = .ok (.iload 5, 2) := by decide +kernel
theorem dX7_collectAll_523 : decode cX7_collectAll 523 = .ok (.iconst (-1), 1) := by decide +kernel
theorem dX7_collectAll_524 : decode cX7_collectAll 524 = .ok (.iastore, 1) := by decide +kernel
theorem dX7_collectAll_525 : decode cX7_collectAll 525 = .ok (.aload_n 0, 1) := by decide +kernel
theorem dX7_collectAll_526 : decode cX7_collectAll 526 = .ok (.getfield 29, 3) := by decide +kernel
theorem dX7_collectAll_529 : decode cX7_collectAll 529 = .ok (.iload 5, 2) := by decide +kernel
theorem dX7_collectAll_531 : decode cX7_collectAll 531 = .ok (.aload_n 0, 1) := by decide +kernel
theorem dX7_collectAll_532 : decode cX7_collectAll 532 = .ok (.getfield 90, 3) := by decide +kernel
theorem dX7_collectAll_535 : decode cX7_collectAll 535 = .ok (.iastore, 1) := by decide +kernel
theorem dX7_collectAll_536 : decode cX7_collectAll 536 = .ok (.aload_n 0, 1) := by decide +kernel
theorem dX7_collectAll_537 : decode cX7_collectAll 537 = .ok (.iload 5, 2) := by decide +kernel
theorem dX7_collectAll_539 : decode cX7_collectAll 539 = .ok (.putfield 90, 3) := by decide +kernel
theorem dX7_collectAll_542 : decode cX7_collectAll 542 = .ok (.iinc 5 1, 3) := by decide +kernel
theorem dX7_collectAll_545 : decode cX7_collectAll 545 = .ok (.goto (-85), 3) := by decide +kernel
theorem dX7_collectAll_548 : decode cX7_collectAll 548 = .ok (.iload_n 2, 1) := by decide +kernel
theorem dX7_collectAll_549 : decode cX7_collectAll 549 = .ok (.aload_n 0, 1) := by decide +kernel
theorem dX7_collectAll_550 : decode cX7_collectAll 550 = .ok (.getfield 80, 3) := by decide +kernel
theorem dX7_collectAll_553 : decode cX7_collectAll 553 = .ok (.isub, 1) := by decide +kernel
theorem dX7_collectAll_554 : decode cX7_collectAll 554 = .ok (.ireturn, 1) := by decide +kernel
theorem dX7_comes_0 : decode cX7_comes 0 = .ok (.aload_n 0, 1) := by decide +kernel
theorem dX7_comes_1 : decode cX7_comes 1 = .ok (.getfield 38, 3) := by decide +kernel
theorem dX7_comes_4 : decode cX7_comes 4 = .ok (.iload_n 1, 1) := by decide +kernel
theorem dX7_comes_5 : decode cX7_comes 5 = .ok (.iaload, 1) := by decide +kernel
theorem dX7_comes_6 : decode cX7_comes 6 = .ok (.istore_n 2, 1) := by decide +kernel
theorem dX7_comes_7 : decode cX7_comes 7 = .ok (.iload_n 2, 1) := by decide +kernel
theorem dX7_comes_8 : decode cX7_comes 8 = .ok (.ifCond .eq 12, 3) := by decide +kernel
theorem dX7_comes_11 : decode cX7_comes 11 = .ok (.aload_n 0, 1) := by decide +kernel
theorem dX7_comes_12 : decode cX7_comes 12 = .ok (.getfield 44, 3) := by decide +kernel
theorem dX7_comes_15 : decode cX7_comes 15 = .ok (.iload_n 1, 1) := by decide +kernel
theorem dX7_comes_16 : decode cX7_comes 16 = .ok (.baload, 1) := by decide +kernel
theorem dX7_comes_17 : decode cX7_comes 17 = .ok (.ifCond .eq 5, 3) := by decide +kernel
theorem dX7_comes_20 : decode cX7_comes 20 = .ok (.iconst 0, 1) := by decide +kernel
theorem dX7_comes_21 : decode cX7_comes 21 = .ok (.ireturn, 1) := by decide +kernel
theorem dX7_comes_22 : decode cX7_comes 22 = .ok (.aload_n 0, 1) := by decide +kernel
theorem dX7_comes_23 : decode cX7_comes 23 = .ok (.getfield 44, 3) := by decide +kernel
theorem dX7_comes_26 : decode cX7_comes 26 = .ok (.iload_n 1, 1) := by decide +kernel
theorem dX7_comes_27 : decode cX7_comes 27 = .ok (.iconst 1, 1) := by decide +kernel
theorem dX7_comes_28 : decode cX7_comes 28 = .ok (.bastore, 1) := by decide +kernel
theorem dX7_comes_29 : decode cX7_comes 29 = .ok (.aload_n 0, 1) := by decide +kernel
theorem dX7_comes_30 : decode cX7_comes 30 = .ok (.dup, 1) := by decide +kernel
theorem dX7_comes_31 : decode cX7_comes 31 = .ok (.getfield 133, 3) := by decide +kernel
theorem dX7_comes_34 : decode cX7_comes 34 = .ok (.iconst 1, 1) := by decide +kernel
theorem dX7_comes_35 : decode cX7_comes 35 = .ok (.iadd, 1) := by decide +kernel
theorem dX7_comes_36 : decode cX7_comes 36 = .ok (.putfield 133, 3) := by decide +kernel
theorem dX7_comes_39 : decode cX7_comes 39 = .ok (.aload_n 0, 1) := by decide +kernel
theorem dX7_comes_40 : decode cX7_comes 40 = .ok (.getfield 29, 3) := by decide +kernel
theorem dX7_comes_43 : decode cX7_comes 43 = .ok (.iload_n 1, 1) := by decide +kernel
theorem dX7_comes_44 : decode cX7_comes 44 = .ok (.iconst 0, 1) := by decide +kernel
theorem dX7_comes_45 : decode cX7_comes 45 = .ok (.iastore, 1) := by decide +kernel
theorem dX7_comes_46 : decode cX7_comes 46 = .ok (.aload_n 0, 1) := by decide +kernel
theorem dX7_comes_47 : decode cX7_comes 47 = .ok (.getfield 32, 3) := by decide +kernel
theorem dX7_comes_50 : decode cX7_comes 50 = .ok (.iload_n 2, 1) := by decide +kernel
theorem dX7_comes_51 : decode cX7_comes 51 = .ok (.iaload, 1) := by decide +kernel
theorem dX7_comes_52 : decode cX7_comes 52 = .ok (.ifCond .ne 13, 3) := by decide +kernel
theorem dX7_comes_55 : decode cX7_comes 55 = .ok (.aload_n 0, 1) := by decide +kernel
theorem dX7_comes_56 : decode cX7_comes 56 = .ok (.getfield 32, 3) := by decide +kernel
theorem dX7_comes_59 : decode cX7_comes 59 = .ok (.iload_n 2, 1) := by decide +kernel
theorem dX7_comes_60 : decode cX7_comes 60 = .ok (.iload_n 1, 1) := by decide +kernel
theorem dX7_comes_61 : decode cX7_comes 61 = .ok (.iastore, 1) := by decide +kernel
theorem dX7_comes_62 : decode cX7_comes 62 = .ok (.goto 15, 3) := by decide +kernel
theorem dX7_comes_65 : decode cX7_comes 65 = .ok (.aload_n 0, 1) := by decide +kernel
theorem dX7_comes_66 : decode cX7_comes 66 = .ok (.getfield 29, 3) := by decide +kernel
theorem dX7_comes_69 : decode cX7_comes 69 = .ok (.aload_n 0, 1) := by decide +kernel
theorem dX7_comes_70 : decode cX7_comes 70 = .ok (.getfield 35, 3) := by decide +kernel
theorem dX7_comes_73 : decode cX7_comes 73 = .ok (.iload_n 2, 1) := by decide +kernel
theorem dX7_comes_74 : decode cX7_comes 74 = .ok (.iaload, 1) := by decide +kernel
theorem dX7_comes_75 : decode cX7_comes 75 = .ok (.iload_n 1, 1) := by decide +kernel
theorem dX7_comes_76 : decode cX7_comes 76 = .ok (.iastore, 1) := by decide +kernel
theorem dX7_comes_77 : decode cX7_comes 77 = .ok (.aload_n 0, 1) := by decide +kernel
theorem dX7_comes_78 : decode cX7_comes 78 = .ok (.getfield 35, 3) := by decide +kernel
theorem dX7_comes_81 : decode cX7_comes 81 = .ok (.iload_n 2, 1) := by decide +kernel
theorem dX7_comes_82 : decode cX7_comes 82 = .ok (.iload_n 1, 1) := by decide +kernel
theorem dX7_comes_83 : decode cX7_comes 83 = .ok (.iastore, 1) := by decide +kernel
theorem dX7_comes_84 : decode cX7_comes 84 = .ok (.aload_n 0, 1) := by decide +kernel
theorem dX7_comes_85 : decode cX7_comes 85 = .ok (.getfield 41, 3) := by decide +kernel
theorem dX7_comes_88 : decode cX7_comes 88 = .ok (.iload_n 2, 1) := by decide +kernel
theorem dX7_comes_89 : decode cX7_comes 89 = .ok (.dup2, 1) := by decide +kernel
theorem dX7_comes_90 : decode cX7_comes 90 = .ok (.iaload, 1) := by decide +kernel
theorem dX7_comes_91 : decode cX7_comes 91 = .ok (.iconst 1, 1) := by decide +kernel
theorem dX7_comes_92 : decode cX7_comes 92 = .ok (.iadd, 1) := by decide +kernel
theorem dX7_comes_93 : decode cX7_comes 93 = .ok (.iastore, 1) := by decide +kernel
theorem dX7_comes_94 : decode cX7_comes 94 = .ok (.iconst 1, 1) := by decide +kernel
theorem dX7_comes_95 : decode cX7_comes 95 = .ok (.ireturn, 1) := by decide +kernel
theorem dX7_made_0 : decode cX7_made 0 = .ok (.iload_n 2, 1) := by decide +kernel
theorem dX7_made_1 : decode cX7_made 1 = .ok (.ifCond .ne 5, 3) := by decide +kernel
theorem dX7_made_4 : decode cX7_made 4 = .ok (.iconst 0, 1) := by decide +kernel
theorem dX7_made_5 : decode cX7_made 5 = .ok (.ireturn, 1) := by decide +kernel
theorem dX7_made_6 : decode cX7_made 6 = .ok (.aload_n 0, 1) := by decide +kernel
theorem dX7_made_7 : decode cX7_made 7 = .ok (.getfield 64, 3) := by decide +kernel
theorem dX7_made_10 : decode cX7_made 10 = .ok (.iload_n 1, 1) := by decide +kernel
theorem dX7_made_11 : decode cX7_made 11 = .ok (.iload_n 2, 1) := by decide +kernel
theorem dX7_made_12 : decode cX7_made 12 = .ok (.iastore, 1) := by decide +kernel
theorem dX7_made_13 : decode cX7_made 13 = .ok (.aload_n 0, 1) := by decide +kernel
theorem dX7_made_14 : decode cX7_made 14 = .ok (.iload_n 2, 1) := by decide +kernel
theorem dX7_made_15 : decode cX7_made 15 = .ok (.invokevirtual 129, 3) := by decide +kernel
theorem dX7_made_18 : decode cX7_made 18 = .ok (.ireturn, 1) := by decide +kernel
theorem dX7_plain_0 : decode cX7_plain 0 = .ok (.aload_n 0, 1) := by decide +kernel
theorem dX7_plain_1 : decode cX7_plain 1 = .ok (.iconst 0, 1) := by decide +kernel
theorem dX7_plain_2 : decode cX7_plain 2 = .ok (.putfield 1, 3) := by decide +kernel
theorem dX7_plain_5 : decode cX7_plain 5 = .ok (.aload_n 0, 1) := by decide +kernel
theorem dX7_plain_6 : decode cX7_plain 6 = .ok (.iload_n 1, 1) := by decide +kernel
theorem dX7_plain_7 : decode cX7_plain 7 = .ok (.invokevirtual 136, 3) := by decide +kernel
theorem dX7_plain_10 : decode cX7_plain 10 = .ok (.ifCond .ne 23, 3) := by decide +kernel
theorem dX7_plain_13 : decode cX7_plain 13 = .ok (.iload_n 2, 1) := by decide +kernel
theorem dX7_plain_14 : decode cX7_plain 14 = .ok (.ifCond .lt 19, 3) := by decide +kernel
theorem dX7_plain_17 : decode cX7_plain 17 = .ok (.iload_n 2, 1) := by decide +kernel
theorem dX7_plain_18 : decode cX7_plain 18 = .ok (.bipush 20, 2) := by decide +kernel
theorem dX7_plain_20 : decode cX7_plain 20 = .ok (.if_icmp .gt 13, 3) := by decide +kernel
theorem dX7_plain_23 : decode cX7_plain 23 = .ok (.iload_n 3, 1) := by decide +kernel
theorem dX7_plain_24 : decode cX7_plain 24 = .ok (.ifCond .lt 9, 3) := by decide +kernel
theorem dX7_plain_27 : decode cX7_plain 27 = .ok (.iload_n 3, 1) := by decide +kernel
theorem dX7_plain_28 : decode cX7_plain 28 = .ok (.bipush 20, 2) := by decide +kernel
theorem dX7_plain_30 : decode cX7_plain 30 = .ok (.if_icmp .le 8, 3) := by decide +kernel
theorem dX7_plain_33 : decode cX7_plain 33 = .ok (.aload_n 0, 1) := by decide +kernel
theorem dX7_plain_34 : decode cX7_plain 34 = .ok (.invokevirtual 139, 3) := by decide +kernel
theorem dX7_plain_37 : decode cX7_plain 37 = .ok (.ireturn, 1) := by decide +kernel
theorem dX7_plain_38 : decode cX7_plain 38 = .ok (.aload_n 0, 1) := by decide +kernel
theorem dX7_plain_39 : decode cX7_plain 39 = .ok (.iload_n 1, 1) := by decide +kernel
theorem dX7_plain_40 : decode cX7_plain 40 = .ok (.aload_n 0, 1) := by decide +kernel
theorem dX7_plain_41 : decode cX7_plain 41 = .ok (.iconst 0, 1) := by decide +kernel
theorem dX7_plain_42 : decode cX7_plain 42 = .ok (.iload_n 2, 1) := by decide +kernel
theorem dX7_plain_43 : decode cX7_plain 43 = .ok (.iload_n 3, 1) := by decide +kernel
theorem dX7_plain_44 : decode cX7_plain 44 = .ok (.invokevirtual 143, 3) := by decide +kernel
theorem dX7_plain_47 : decode cX7_plain 47 = .ok (.invokevirtual 147, 3) := by decide +kernel
theorem dX7_plain_50 : decode cX7_plain 50 = .ok (.ireturn, 1) := by decide +kernel
theorem dX7_row_0 : decode cX7_row 0 = .ok (.aload_n 0, 1) := by decide +kernel
theorem dX7_row_1 : decode cX7_row 1 = .ok (.iconst 0, 1) := by decide +kernel
theorem dX7_row_2 : decode cX7_row 2 = .ok (.putfield 1, 3) := by decide +kernel
theorem dX7_row_5 : decode cX7_row 5 = .ok (.aload_n 0, 1) := by decide +kernel
theorem dX7_row_6 : decode cX7_row 6 = .ok (.iload_n 1, 1) := by decide +kernel
theorem dX7_row_7 : decode cX7_row 7 = .ok (.invokevirtual 136, 3) := by decide +kernel
theorem dX7_row_10 : decode cX7_row 10 = .ok (.ifCond .ne 14, 3) := by decide +kernel
theorem dX7_row_13 : decode cX7_row 13 = .ok (.iload_n 2, 1) := by decide +kernel
theorem dX7_row_14 : decode cX7_row 14 = .ok (.ifCond .lt 10, 3) := by decide +kernel
theorem dX7_row_17 : decode cX7_row 17 = .ok (.iload_n 2, 1) := by decide +kernel
theorem dX7_row_18 : decode cX7_row 18 = .ok (.sipush 3000, 3) := by decide +kernel
theorem dX7_row_21 : decode cX7_row 21 = .ok (.if_icmp .le 8, 3) := by decide +kernel
theorem dX7_row_24 : decode cX7_row 24 = .ok (.aload_n 0, 1) := by decide +kernel
theorem dX7_row_25 : decode cX7_row 25 = .ok (.invokevirtual 139, 3) := by decide +kernel
theorem dX7_row_28 : decode cX7_row 28 = .ok (.ireturn, 1) := by decide +kernel
theorem dX7_row_29 : decode cX7_row 29 = .ok (.aload_n 0, 1) := by decide +kernel
theorem dX7_row_30 : decode cX7_row 30 = .ok (.iload_n 1, 1) := by decide +kernel
theorem dX7_row_31 : decode cX7_row 31 = .ok (.iload_n 3, 1) := by decide +kernel
theorem dX7_row_32 : decode cX7_row 32 = .ok (.ifCond .eq 13, 3) := by decide +kernel
theorem dX7_row_35 : decode cX7_row 35 = .ok (.aload_n 0, 1) := by decide +kernel
theorem dX7_row_36 : decode cX7_row 36 = .ok (.iconst 1, 1) := by decide +kernel
theorem dX7_row_37 : decode cX7_row 37 = .ok (.iload_n 2, 1) := by decide +kernel
theorem dX7_row_38 : decode cX7_row 38 = .ok (.iconst 0, 1) := by decide +kernel
theorem dX7_row_39 : decode cX7_row 39 = .ok (.invokevirtual 143, 3) := by decide +kernel
theorem dX7_row_42 : decode cX7_row 42 = .ok (.goto 10, 3) := by decide +kernel
theorem dX7_row_45 : decode cX7_row 45 = .ok (.aload_n 0, 1) := by decide +kernel
theorem dX7_row_46 : decode cX7_row 46 = .ok (.iconst 2, 1) := by decide +kernel
theorem dX7_row_47 : decode cX7_row 47 = .ok (.iconst 0, 1) := by decide +kernel
theorem dX7_row_48 : decode cX7_row 48 = .ok (.iload_n 2, 1) := by decide +kernel
theorem dX7_row_49 : decode cX7_row 49 = .ok (.invokevirtual 143, 3) := by decide +kernel
theorem dX7_row_52 : decode cX7_row 52 = .ok (.invokevirtual 147, 3) := by decide +kernel
theorem dX7_row_55 : decode cX7_row 55 = .ok (.ireturn, 1) := by decide +kernel
theorem dX7_queue_0 : decode cX7_queue 0 = .ok (.aload_n 0, 1) := by decide +kernel
theorem dX7_queue_1 : decode cX7_queue 1 = .ok (.iconst 0, 1) := by decide +kernel
theorem dX7_queue_2 : decode cX7_queue 2 = .ok (.putfield 1, 3) := by decide +kernel
theorem dX7_queue_5 : decode cX7_queue 5 = .ok (.aload_n 0, 1) := by decide +kernel
theorem dX7_queue_6 : decode cX7_queue 6 = .ok (.iload_n 1, 1) := by decide +kernel
theorem dX7_queue_7 : decode cX7_queue 7 = .ok (.invokevirtual 136, 3) := by decide +kernel
theorem dX7_queue_10 : decode cX7_queue 10 = .ok (.ifCond .eq 8, 3) := by decide +kernel
theorem dX7_queue_13 : decode cX7_queue 13 = .ok (.aload_n 0, 1) := by decide +kernel
theorem dX7_queue_14 : decode cX7_queue 14 = .ok (.invokevirtual 139, 3) := by decide +kernel
theorem dX7_queue_17 : decode cX7_queue 17 = .ok (.ireturn, 1) := by decide +kernel
theorem dX7_queue_18 : decode cX7_queue 18 = .ok (.aload_n 0, 1) := by decide +kernel
theorem dX7_queue_19 : decode cX7_queue 19 = .ok (.iconst 3, 1) := by decide +kernel
theorem dX7_queue_20 : decode cX7_queue 20 = .ok (.iconst 0, 1) := by decide +kernel
theorem dX7_queue_21 : decode cX7_queue 21 = .ok (.iconst 0, 1) := by decide +kernel
theorem dX7_queue_22 : decode cX7_queue 22 = .ok (.invokevirtual 143, 3) := by decide +kernel
theorem dX7_queue_25 : decode cX7_queue 25 = .ok (.istore_n 2, 1) := by decide +kernel
theorem dX7_queue_26 : decode cX7_queue 26 = .ok (.iload_n 2, 1) := by decide +kernel
theorem dX7_queue_27 : decode cX7_queue 27 = .ok (.ifCond .eq 10, 3) := by decide +kernel
theorem dX7_queue_30 : decode cX7_queue 30 = .ok (.aload_n 0, 1) := by decide +kernel
theorem dX7_queue_31 : decode cX7_queue 31 = .ok (.getfield 41, 3) := by decide +kernel
theorem dX7_queue_34 : decode cX7_queue 34 = .ok (.iload_n 2, 1) := by decide +kernel
theorem dX7_queue_35 : decode cX7_queue 35 = .ok (.iconst 0, 1) := by decide +kernel
theorem dX7_queue_36 : decode cX7_queue 36 = .ok (.iastore, 1) := by decide +kernel
theorem dX7_queue_37 : decode cX7_queue 37 = .ok (.aload_n 0, 1) := by decide +kernel
theorem dX7_queue_38 : decode cX7_queue 38 = .ok (.iload_n 1, 1) := by decide +kernel
theorem dX7_queue_39 : decode cX7_queue 39 = .ok (.iload_n 2, 1) := by decide +kernel
theorem dX7_queue_40 : decode cX7_queue 40 = .ok (.invokevirtual 147, 3) := by decide +kernel
theorem dX7_queue_43 : decode cX7_queue 43 = .ok (.ireturn, 1) := by decide +kernel
theorem dX7_makeLoose_0 : decode cX7_makeLoose 0 = .ok (.aload_n 0, 1) := by decide +kernel
theorem dX7_makeLoose_1 : decode cX7_makeLoose 1 = .ok (.iload_n 2, 1) := by decide +kernel
theorem dX7_makeLoose_2 : decode cX7_makeLoose 2 = .ok (.iconst 0, 1) := by decide +kernel
theorem dX7_makeLoose_3 : decode cX7_makeLoose 3 = .ok (.iconst 0, 1) := by decide +kernel
theorem dX7_makeLoose_4 : decode cX7_makeLoose 4 = .ok (.invokevirtual 143, 3) := by decide +kernel
theorem dX7_makeLoose_7 : decode cX7_makeLoose 7 = .ok (.istore 6, 2) := by decide +kernel
theorem dX7_makeLoose_9 : decode cX7_makeLoose 9 = .ok (.iload 6, 2) := by decide +kernel
theorem dX7_makeLoose_11 : decode cX7_makeLoose 11 = .ok (.ifCond .eq 47, 3) := by decide +kernel
theorem dX7_makeLoose_14 : decode cX7_makeLoose 14 = .ok (.aload_n 0, 1) := by decide +kernel
theorem dX7_makeLoose_15 : decode cX7_makeLoose 15 = .ok (.getfield 32, 3) := by decide +kernel
theorem dX7_makeLoose_18 : decode cX7_makeLoose 18 = .ok (.iload 6, 2) := by decide +kernel
theorem dX7_makeLoose_20 : decode cX7_makeLoose 20 = .ok (.iload_n 3, 1) := by decide +kernel
theorem dX7_makeLoose_21 : decode cX7_makeLoose 21 = .ok (.iastore, 1) := by decide +kernel
theorem dX7_makeLoose_22 : decode cX7_makeLoose 22 = .ok (.aload_n 0, 1) := by decide +kernel
theorem dX7_makeLoose_23 : decode cX7_makeLoose 23 = .ok (.getfield 35, 3) := by decide +kernel
theorem dX7_makeLoose_26 : decode cX7_makeLoose 26 = .ok (.iload 6, 2) := by decide +kernel
theorem dX7_makeLoose_28 : decode cX7_makeLoose 28 = .ok (.iload 4, 2) := by decide +kernel
theorem dX7_makeLoose_30 : decode cX7_makeLoose 30 = .ok (.iastore, 1) := by decide +kernel
theorem dX7_makeLoose_31 : decode cX7_makeLoose 31 = .ok (.aload_n 0, 1) := by decide +kernel
theorem dX7_makeLoose_32 : decode cX7_makeLoose 32 = .ok (.getfield 38, 3) := by decide +kernel
theorem dX7_makeLoose_35 : decode cX7_makeLoose 35 = .ok (.iload 6, 2) := by decide +kernel
theorem dX7_makeLoose_37 : decode cX7_makeLoose 37 = .ok (.iload 5, 2) := by decide +kernel
theorem dX7_makeLoose_39 : decode cX7_makeLoose 39 = .ok (.iastore, 1) := by decide +kernel
theorem dX7_makeLoose_40 : decode cX7_makeLoose 40 = .ok (.aload_n 0, 1) := by decide +kernel
theorem dX7_makeLoose_41 : decode cX7_makeLoose 41 = .ok (.getfield 41, 3) := by decide +kernel
theorem dX7_makeLoose_44 : decode cX7_makeLoose 44 = .ok (.iload 6, 2) := by decide +kernel
theorem dX7_makeLoose_46 : decode cX7_makeLoose 46 = .ok (.aload_n 0, 1) := by decide +kernel
theorem dX7_makeLoose_47 : decode cX7_makeLoose 47 = .ok (.dup, 1) := by decide +kernel
theorem dX7_makeLoose_48 : decode cX7_makeLoose 48 = .ok (.getfield 150, 3) := by decide +kernel
theorem dX7_makeLoose_51 : decode cX7_makeLoose 51 = .ok (.dup_x1, 1) := by decide +kernel
theorem dX7_makeLoose_52 : decode cX7_makeLoose 52 = .ok (.iconst 1, 1) := by decide +kernel
theorem dX7_makeLoose_53 : decode cX7_makeLoose 53 = .ok (.iadd, 1) := by decide +kernel
theorem dX7_makeLoose_54 : decode cX7_makeLoose 54 = .ok (.putfield 150, 3) := by decide +kernel
theorem dX7_makeLoose_57 : decode cX7_makeLoose 57 = .ok (.iastore, 1) := by decide +kernel
theorem dX7_makeLoose_58 : decode cX7_makeLoose 58 = .ok (.aload_n 0, 1) := by decide +kernel
theorem dX7_makeLoose_59 : decode cX7_makeLoose 59 = .ok (.iload_n 1, 1) := by decide +kernel
theorem dX7_makeLoose_60 : decode cX7_makeLoose 60 = .ok (.iload 6, 2) := by decide +kernel
theorem dX7_makeLoose_62 : decode cX7_makeLoose 62 = .ok (.invokevirtual 147, 3) := by decide +kernel
theorem dX7_makeLoose_65 : decode cX7_makeLoose 65 = .ok (.ireturn, 1) := by decide +kernel
theorem dX7_loose_0 : decode cX7_loose 0 = .ok (.aload_n 0, 1) := by decide +kernel
theorem dX7_loose_1 : decode cX7_loose 1 = .ok (.iconst 0, 1) := by decide +kernel
theorem dX7_loose_2 : decode cX7_loose 2 = .ok (.putfield 1, 3) := by decide +kernel
theorem dX7_loose_5 : decode cX7_loose 5 = .ok (.aload_n 0, 1) := by decide +kernel
theorem dX7_loose_6 : decode cX7_loose 6 = .ok (.iload_n 1, 1) := by decide +kernel
theorem dX7_loose_7 : decode cX7_loose 7 = .ok (.invokevirtual 136, 3) := by decide +kernel
theorem dX7_loose_10 : decode cX7_loose 10 = .ok (.ifCond .ne 29, 3) := by decide +kernel
theorem dX7_loose_13 : decode cX7_loose 13 = .ok (.iload_n 2, 1) := by decide +kernel
theorem dX7_loose_14 : decode cX7_loose 14 = .ok (.ifCond .lt 25, 3) := by decide +kernel
theorem dX7_loose_17 : decode cX7_loose 17 = .ok (.iload_n 2, 1) := by decide +kernel
theorem dX7_loose_18 : decode cX7_loose 18 = .ok (.iconst 2, 1) := by decide +kernel
theorem dX7_loose_19 : decode cX7_loose 19 = .ok (.if_icmp .gt 20, 3) := by decide +kernel
theorem dX7_loose_22 : decode cX7_loose 22 = .ok (.aload_n 0, 1) := by decide +kernel
theorem dX7_loose_23 : decode cX7_loose 23 = .ok (.iload_n 3, 1) := by decide +kernel
theorem dX7_loose_24 : decode cX7_loose 24 = .ok (.invokevirtual 136, 3) := by decide +kernel
theorem dX7_loose_27 : decode cX7_loose 27 = .ok (.ifCond .ne 12, 3) := by decide +kernel
theorem dX7_loose_30 : decode cX7_loose 30 = .ok (.aload_n 0, 1) := by decide +kernel
theorem dX7_loose_31 : decode cX7_loose 31 = .ok (.iload 4, 2) := by decide +kernel
theorem dX7_loose_33 : decode cX7_loose 33 = .ok (.invokevirtual 153, 3) := by decide +kernel
theorem dX7_loose_36 : decode cX7_loose 36 = .ok (.ifCond .eq 8, 3) := by decide +kernel
theorem dX7_loose_39 : decode cX7_loose 39 = .ok (.aload_n 0, 1) := by decide +kernel
theorem dX7_loose_40 : decode cX7_loose 40 = .ok (.invokevirtual 139, 3) := by decide +kernel
theorem dX7_loose_43 : decode cX7_loose 43 = .ok (.ireturn, 1) := by decide +kernel
theorem dX7_loose_44 : decode cX7_loose 44 = .ok (.aload_n 0, 1) := by decide +kernel
theorem dX7_loose_45 : decode cX7_loose 45 = .ok (.getfield 64, 3) := by decide +kernel
theorem dX7_loose_48 : decode cX7_loose 48 = .ok (.iload_n 3, 1) := by decide +kernel
theorem dX7_loose_49 : decode cX7_loose 49 = .ok (.iaload, 1) := by decide +kernel
theorem dX7_loose_50 : decode cX7_loose 50 = .ok (.ifCond .eq 18, 3) := by decide +kernel
theorem dX7_loose_53 : decode cX7_loose 53 = .ok (.iload 4, 2) := by decide +kernel
theorem dX7_loose_55 : decode cX7_loose 55 = .ok (.ifCond .lt 18, 3) := by decide +kernel
theorem dX7_loose_58 : decode cX7_loose 58 = .ok (.aload_n 0, 1) := by decide +kernel
theorem dX7_loose_59 : decode cX7_loose 59 = .ok (.iload 4, 2) := by decide +kernel
theorem dX7_loose_61 : decode cX7_loose 61 = .ok (.iconst 3, 1) := by decide +kernel
theorem dX7_loose_62 : decode cX7_loose 62 = .ok (.invokevirtual 156, 3) := by decide +kernel
theorem dX7_loose_65 : decode cX7_loose 65 = .ok (.ifCond .ne 8, 3) := by decide +kernel
theorem dX7_loose_68 : decode cX7_loose 68 = .ok (.aload_n 0, 1) := by decide +kernel
theorem dX7_loose_69 : decode cX7_loose 69 = .ok (.invokevirtual 160, 3) := by decide +kernel
theorem dX7_loose_72 : decode cX7_loose 72 = .ok (.ireturn, 1) := by decide +kernel
theorem dX7_loose_73 : decode cX7_loose 73 = .ok (.aload_n 0, 1) := by decide +kernel
theorem dX7_loose_74 : decode cX7_loose 74 = .ok (.iload_n 1, 1) := by decide +kernel
theorem dX7_loose_75 : decode cX7_loose 75 = .ok (.iconst 4, 1) := by decide +kernel
theorem dX7_loose_76 : decode cX7_loose 76 = .ok (.iload_n 2, 1) := by decide +kernel
theorem dX7_loose_77 : decode cX7_loose 77 = .ok (.iadd, 1) := by decide +kernel
theorem dX7_loose_78 : decode cX7_loose 78 = .ok (.aload_n 0, 1) := by decide +kernel
theorem dX7_loose_79 : decode cX7_loose 79 = .ok (.getfield 64, 3) := by decide +kernel
theorem dX7_loose_82 : decode cX7_loose 82 = .ok (.iload_n 3, 1) := by decide +kernel
theorem dX7_loose_83 : decode cX7_loose 83 = .ok (.iaload, 1) := by decide +kernel
theorem dX7_loose_84 : decode cX7_loose 84 = .ok (.iconst 0, 1) := by decide +kernel
theorem dX7_loose_85 : decode cX7_loose 85 = .ok (.aload_n 0, 1) := by decide +kernel
theorem dX7_loose_86 : decode cX7_loose 86 = .ok (.iload 4, 2) := by decide +kernel
theorem dX7_loose_88 : decode cX7_loose 88 = .ok (.invokevirtual 163, 3) := by decide +kernel
theorem dX7_loose_91 : decode cX7_loose 91 = .ok (.invokevirtual 166, 3) := by decide +kernel
theorem dX7_loose_94 : decode cX7_loose 94 = .ok (.ireturn, 1) := by decide +kernel
theorem dX7_pair_0 : decode cX7_pair 0 = .ok (.aload_n 0, 1) := by decide +kernel
theorem dX7_pair_1 : decode cX7_pair 1 = .ok (.iconst 0, 1) := by decide +kernel
theorem dX7_pair_2 : decode cX7_pair 2 = .ok (.putfield 1, 3) := by decide +kernel
theorem dX7_pair_5 : decode cX7_pair 5 = .ok (.aload_n 0, 1) := by decide +kernel
theorem dX7_pair_6 : decode cX7_pair 6 = .ok (.iload_n 1, 1) := by decide +kernel
theorem dX7_pair_7 : decode cX7_pair 7 = .ok (.invokevirtual 136, 3) := by decide +kernel
theorem dX7_pair_10 : decode cX7_pair 10 = .ok (.ifCond .ne 28, 3) := by decide +kernel
theorem dX7_pair_13 : decode cX7_pair 13 = .ok (.aload_n 0, 1) := by decide +kernel
theorem dX7_pair_14 : decode cX7_pair 14 = .ok (.iload_n 2, 1) := by decide +kernel
theorem dX7_pair_15 : decode cX7_pair 15 = .ok (.invokevirtual 136, 3) := by decide +kernel
theorem dX7_pair_18 : decode cX7_pair 18 = .ok (.ifCond .ne 20, 3) := by decide +kernel
theorem dX7_pair_21 : decode cX7_pair 21 = .ok (.aload_n 0, 1) := by decide +kernel
theorem dX7_pair_22 : decode cX7_pair 22 = .ok (.iload_n 3, 1) := by decide +kernel
theorem dX7_pair_23 : decode cX7_pair 23 = .ok (.invokevirtual 153, 3) := by decide +kernel
theorem dX7_pair_26 : decode cX7_pair 26 = .ok (.ifCond .ne 12, 3) := by decide +kernel
theorem dX7_pair_29 : decode cX7_pair 29 = .ok (.aload_n 0, 1) := by decide +kernel
theorem dX7_pair_30 : decode cX7_pair 30 = .ok (.iload 4, 2) := by decide +kernel
theorem dX7_pair_32 : decode cX7_pair 32 = .ok (.invokevirtual 153, 3) := by decide +kernel
theorem dX7_pair_35 : decode cX7_pair 35 = .ok (.ifCond .eq 8, 3) := by decide +kernel
theorem dX7_pair_38 : decode cX7_pair 38 = .ok (.aload_n 0, 1) := by decide +kernel
theorem dX7_pair_39 : decode cX7_pair 39 = .ok (.invokevirtual 139, 3) := by decide +kernel
theorem dX7_pair_42 : decode cX7_pair 42 = .ok (.ireturn, 1) := by decide +kernel
theorem dX7_pair_43 : decode cX7_pair 43 = .ok (.aload_n 0, 1) := by decide +kernel
theorem dX7_pair_44 : decode cX7_pair 44 = .ok (.getfield 64, 3) := by decide +kernel
theorem dX7_pair_47 : decode cX7_pair 47 = .ok (.iload_n 2, 1) := by decide +kernel
theorem dX7_pair_48 : decode cX7_pair 48 = .ok (.iaload, 1) := by decide +kernel
theorem dX7_pair_49 : decode cX7_pair 49 = .ok (.ifCond .eq 18, 3) := by decide +kernel
theorem dX7_pair_52 : decode cX7_pair 52 = .ok (.iload 4, 2) := by decide +kernel
theorem dX7_pair_54 : decode cX7_pair 54 = .ok (.ifCond .lt 18, 3) := by decide +kernel
theorem dX7_pair_57 : decode cX7_pair 57 = .ok (.aload_n 0, 1) := by decide +kernel
theorem dX7_pair_58 : decode cX7_pair 58 = .ok (.iload 4, 2) := by decide +kernel
theorem dX7_pair_60 : decode cX7_pair 60 = .ok (.iconst 3, 1) := by decide +kernel
theorem dX7_pair_61 : decode cX7_pair 61 = .ok (.invokevirtual 156, 3) := by decide +kernel
theorem dX7_pair_64 : decode cX7_pair 64 = .ok (.ifCond .ne 8, 3) := by decide +kernel
theorem dX7_pair_67 : decode cX7_pair 67 = .ok (.aload_n 0, 1) := by decide +kernel
theorem dX7_pair_68 : decode cX7_pair 68 = .ok (.invokevirtual 160, 3) := by decide +kernel
theorem dX7_pair_71 : decode cX7_pair 71 = .ok (.ireturn, 1) := by decide +kernel
theorem dX7_pair_72 : decode cX7_pair 72 = .ok (.aload_n 0, 1) := by decide +kernel
theorem dX7_pair_73 : decode cX7_pair 73 = .ok (.iload_n 1, 1) := by decide +kernel
theorem dX7_pair_74 : decode cX7_pair 74 = .ok (.bipush 7, 2) := by decide +kernel
theorem dX7_pair_76 : decode cX7_pair 76 = .ok (.aload_n 0, 1) := by decide +kernel
theorem dX7_pair_77 : decode cX7_pair 77 = .ok (.getfield 64, 3) := by decide +kernel
theorem dX7_pair_80 : decode cX7_pair 80 = .ok (.iload_n 2, 1) := by decide +kernel
theorem dX7_pair_81 : decode cX7_pair 81 = .ok (.iaload, 1) := by decide +kernel
theorem dX7_pair_82 : decode cX7_pair 82 = .ok (.aload_n 0, 1) := by decide +kernel
theorem dX7_pair_83 : decode cX7_pair 83 = .ok (.iload_n 3, 1) := by decide +kernel
theorem dX7_pair_84 : decode cX7_pair 84 = .ok (.invokevirtual 163, 3) := by decide +kernel
theorem dX7_pair_87 : decode cX7_pair 87 = .ok (.aload_n 0, 1) := by decide +kernel
theorem dX7_pair_88 : decode cX7_pair 88 = .ok (.iload 4, 2) := by decide +kernel
theorem dX7_pair_90 : decode cX7_pair 90 = .ok (.invokevirtual 163, 3) := by decide +kernel
theorem dX7_pair_93 : decode cX7_pair 93 = .ok (.invokevirtual 166, 3) := by decide +kernel
theorem dX7_pair_96 : decode cX7_pair 96 = .ok (.ireturn, 1) := by decide +kernel
theorem dX7_comesTo_0 : decode cX7_comesTo 0 = .ok (.aload_n 0, 1) := by decide +kernel
theorem dX7_comesTo_1 : decode cX7_comesTo 1 = .ok (.getfield 64, 3) := by decide +kernel
theorem dX7_comesTo_4 : decode cX7_comesTo 4 = .ok (.iload_n 1, 1) := by decide +kernel
theorem dX7_comesTo_5 : decode cX7_comesTo 5 = .ok (.iload_n 2, 1) := by decide +kernel
theorem dX7_comesTo_6 : decode cX7_comesTo 6 = .ok (.iastore, 1) := by decide +kernel
theorem dX7_comesTo_7 : decode cX7_comesTo 7 = .ok (.iload_n 2, 1) := by decide +kernel
theorem dX7_comesTo_8 : decode cX7_comesTo 8 = .ok (.ifCond .ne 7, 3) := by decide +kernel
theorem dX7_comesTo_11 : decode cX7_comesTo 11 = .ok (.iconst 0, 1) := by decide +kernel
theorem dX7_comesTo_12 : decode cX7_comesTo 12 = .ok (.goto 4, 3) := by decide +kernel
theorem dX7_comesTo_15 : decode cX7_comesTo 15 = .ok (.iconst 1, 1) := by decide +kernel
theorem dX7_comesTo_16 : decode cX7_comesTo 16 = .ok (.ireturn, 1) := by decide +kernel
theorem dX7_copy_0 : decode cX7_copy 0 = .ok (.aload_n 0, 1) := by decide +kernel
theorem dX7_copy_1 : decode cX7_copy 1 = .ok (.iconst 0, 1) := by decide +kernel
theorem dX7_copy_2 : decode cX7_copy 2 = .ok (.putfield 1, 3) := by decide +kernel
theorem dX7_copy_5 : decode cX7_copy 5 = .ok (.aload_n 0, 1) := by decide +kernel
theorem dX7_copy_6 : decode cX7_copy 6 = .ok (.iload_n 1, 1) := by decide +kernel
theorem dX7_copy_7 : decode cX7_copy 7 = .ok (.invokevirtual 136, 3) := by decide +kernel
theorem dX7_copy_10 : decode cX7_copy 10 = .ok (.ifCond .ne 11, 3) := by decide +kernel
theorem dX7_copy_13 : decode cX7_copy 13 = .ok (.aload_n 0, 1) := by decide +kernel
theorem dX7_copy_14 : decode cX7_copy 14 = .ok (.iload_n 2, 1) := by decide +kernel
theorem dX7_copy_15 : decode cX7_copy 15 = .ok (.invokevirtual 153, 3) := by decide +kernel
theorem dX7_copy_18 : decode cX7_copy 18 = .ok (.ifCond .eq 8, 3) := by decide +kernel
theorem dX7_copy_21 : decode cX7_copy 21 = .ok (.aload_n 0, 1) := by decide +kernel
theorem dX7_copy_22 : decode cX7_copy 22 = .ok (.invokevirtual 139, 3) := by decide +kernel
theorem dX7_copy_25 : decode cX7_copy 25 = .ok (.ireturn, 1) := by decide +kernel
theorem dX7_copy_26 : decode cX7_copy 26 = .ok (.aload_n 0, 1) := by decide +kernel
theorem dX7_copy_27 : decode cX7_copy 27 = .ok (.iload_n 1, 1) := by decide +kernel
theorem dX7_copy_28 : decode cX7_copy 28 = .ok (.aload_n 0, 1) := by decide +kernel
theorem dX7_copy_29 : decode cX7_copy 29 = .ok (.iload_n 2, 1) := by decide +kernel
theorem dX7_copy_30 : decode cX7_copy 30 = .ok (.invokevirtual 163, 3) := by decide +kernel
theorem dX7_copy_33 : decode cX7_copy 33 = .ok (.invokevirtual 170, 3) := by decide +kernel
theorem dX7_copy_36 : decode cX7_copy 36 = .ok (.ireturn, 1) := by decide +kernel
theorem dX7_link_0 : decode cX7_link 0 = .ok (.aload_n 0, 1) := by decide +kernel
theorem dX7_link_1 : decode cX7_link 1 = .ok (.iconst 0, 1) := by decide +kernel
theorem dX7_link_2 : decode cX7_link 2 = .ok (.putfield 1, 3) := by decide +kernel
theorem dX7_link_5 : decode cX7_link 5 = .ok (.aload_n 0, 1) := by decide +kernel
theorem dX7_link_6 : decode cX7_link 6 = .ok (.iload_n 1, 1) := by decide +kernel
theorem dX7_link_7 : decode cX7_link 7 = .ok (.invokevirtual 136, 3) := by decide +kernel
theorem dX7_link_10 : decode cX7_link 10 = .ok (.ifCond .ne 15, 3) := by decide +kernel
theorem dX7_link_13 : decode cX7_link 13 = .ok (.iload_n 2, 1) := by decide +kernel
theorem dX7_link_14 : decode cX7_link 14 = .ok (.ifCond .lt 11, 3) := by decide +kernel
theorem dX7_link_17 : decode cX7_link 17 = .ok (.aload_n 0, 1) := by decide +kernel
theorem dX7_link_18 : decode cX7_link 18 = .ok (.iload_n 3, 1) := by decide +kernel
theorem dX7_link_19 : decode cX7_link 19 = .ok (.invokevirtual 153, 3) := by decide +kernel
theorem dX7_link_22 : decode cX7_link 22 = .ok (.ifCond .eq 8, 3) := by decide +kernel
theorem dX7_link_25 : decode cX7_link 25 = .ok (.aload_n 0, 1) := by decide +kernel
theorem dX7_link_26 : decode cX7_link 26 = .ok (.invokevirtual 139, 3) := by decide +kernel
theorem dX7_link_29 : decode cX7_link 29 = .ok (.ireturn, 1) := by decide +kernel
theorem dX7_link_30 : decode cX7_link 30 = .ok (.aload_n 0, 1) := by decide +kernel
theorem dX7_link_31 : decode cX7_link 31 = .ok (.getfield 64, 3) := by decide +kernel
theorem dX7_link_34 : decode cX7_link 34 = .ok (.iload_n 1, 1) := by decide +kernel
theorem dX7_link_35 : decode cX7_link 35 = .ok (.iaload, 1) := by decide +kernel
theorem dX7_link_36 : decode cX7_link 36 = .ok (.istore 4, 2) := by decide +kernel
theorem dX7_link_38 : decode cX7_link 38 = .ok (.iload 4, 2) := by decide +kernel
theorem dX7_link_40 : decode cX7_link 40 = .ok (.ifCond .eq 25, 3) := by decide +kernel
theorem dX7_link_43 : decode cX7_link 43 = .ok (.aload_n 0, 1) := by decide +kernel
theorem dX7_link_44 : decode cX7_link 44 = .ok (.getfield 13, 3) := by decide +kernel
theorem dX7_link_47 : decode cX7_link 47 = .ok (.iload 4, 2) := by decide +kernel
theorem dX7_link_49 : decode cX7_link 49 = .ok (.iaload, 1) := by decide +kernel
theorem dX7_link_50 : decode cX7_link 50 = .ok (.iconst 1, 1) := by decide +kernel
theorem dX7_link_51 : decode cX7_link 51 = .ok (.if_icmp .gt 14, 3) := by decide +kernel
theorem dX7_link_54 : decode cX7_link 54 = .ok (.iload_n 2, 1) := by decide +kernel
theorem dX7_link_55 : decode cX7_link 55 = .ok (.aload_n 0, 1) := by decide +kernel
theorem dX7_link_56 : decode cX7_link 56 = .ok (.getfield 20, 3) := by decide +kernel
theorem dX7_link_59 : decode cX7_link 59 = .ok (.iload 4, 2) := by decide +kernel
theorem dX7_link_61 : decode cX7_link 61 = .ok (.iaload, 1) := by decide +kernel
theorem dX7_link_62 : decode cX7_link 62 = .ok (.if_icmp .lt 8, 3) := by decide +kernel
theorem dX7_link_65 : decode cX7_link 65 = .ok (.aload_n 0, 1) := by decide +kernel
theorem dX7_link_66 : decode cX7_link 66 = .ok (.invokevirtual 160, 3) := by decide +kernel
theorem dX7_link_69 : decode cX7_link 69 = .ok (.ireturn, 1) := by decide +kernel
theorem dX7_link_70 : decode cX7_link 70 = .ok (.aload_n 0, 1) := by decide +kernel
theorem dX7_link_71 : decode cX7_link 71 = .ok (.getfield 57, 3) := by decide +kernel
theorem dX7_link_74 : decode cX7_link 74 = .ok (.aload_n 0, 1) := by decide +kernel
theorem dX7_link_75 : decode cX7_link 75 = .ok (.getfield 17, 3) := by decide +kernel
theorem dX7_link_78 : decode cX7_link 78 = .ok (.iload 4, 2) := by decide +kernel
theorem dX7_link_80 : decode cX7_link 80 = .ok (.iaload, 1) := by decide +kernel
theorem dX7_link_81 : decode cX7_link 81 = .ok (.iload_n 2, 1) := by decide +kernel
theorem dX7_link_82 : decode cX7_link 82 = .ok (.iadd, 1) := by decide +kernel
theorem dX7_link_83 : decode cX7_link 83 = .ok (.aload_n 0, 1) := by decide +kernel
theorem dX7_link_84 : decode cX7_link 84 = .ok (.iload_n 3, 1) := by decide +kernel
theorem dX7_link_85 : decode cX7_link 85 = .ok (.invokevirtual 163, 3) := by decide +kernel
theorem dX7_link_88 : decode cX7_link 88 = .ok (.i2l, 1) := by decide +kernel
theorem dX7_link_89 : decode cX7_link 89 = .ok (.lastore, 1) := by decide +kernel
theorem dX7_link_90 : decode cX7_link 90 = .ok (.aload_n 0, 1) := by decide +kernel
theorem dX7_link_91 : decode cX7_link 91 = .ok (.iload_n 3, 1) := by decide +kernel
theorem dX7_link_92 : decode cX7_link 92 = .ok (.invokevirtual 163, 3) := by decide +kernel
theorem dX7_link_95 : decode cX7_link 95 = .ok (.ifCond .ne 7, 3) := by decide +kernel
theorem dX7_link_98 : decode cX7_link 98 = .ok (.iconst 0, 1) := by decide +kernel
theorem dX7_link_99 : decode cX7_link 99 = .ok (.goto 4, 3) := by decide +kernel
theorem dX7_link_102 : decode cX7_link 102 = .ok (.iconst 1, 1) := by decide +kernel
theorem dX7_link_103 : decode cX7_link 103 = .ok (.ireturn, 1) := by decide +kernel
theorem dX7_fetch_0 : decode cX7_fetch 0 = .ok (.aload_n 0, 1) := by decide +kernel
theorem dX7_fetch_1 : decode cX7_fetch 1 = .ok (.iconst 0, 1) := by decide +kernel
theorem dX7_fetch_2 : decode cX7_fetch 2 = .ok (.putfield 1, 3) := by decide +kernel
theorem dX7_fetch_5 : decode cX7_fetch 5 = .ok (.aload_n 0, 1) := by decide +kernel
theorem dX7_fetch_6 : decode cX7_fetch 6 = .ok (.iload_n 1, 1) := by decide +kernel
theorem dX7_fetch_7 : decode cX7_fetch 7 = .ok (.invokevirtual 136, 3) := by decide +kernel
theorem dX7_fetch_10 : decode cX7_fetch 10 = .ok (.ifCond .ne 15, 3) := by decide +kernel
theorem dX7_fetch_13 : decode cX7_fetch 13 = .ok (.aload_n 0, 1) := by decide +kernel
theorem dX7_fetch_14 : decode cX7_fetch 14 = .ok (.iload_n 2, 1) := by decide +kernel
theorem dX7_fetch_15 : decode cX7_fetch 15 = .ok (.invokevirtual 136, 3) := by decide +kernel
theorem dX7_fetch_18 : decode cX7_fetch 18 = .ok (.ifCond .ne 7, 3) := by decide +kernel
theorem dX7_fetch_21 : decode cX7_fetch 21 = .ok (.iload_n 3, 1) := by decide +kernel
theorem dX7_fetch_22 : decode cX7_fetch 22 = .ok (.ifCond .ge 8, 3) := by decide +kernel
theorem dX7_fetch_25 : decode cX7_fetch 25 = .ok (.aload_n 0, 1) := by decide +kernel
theorem dX7_fetch_26 : decode cX7_fetch 26 = .ok (.invokevirtual 139, 3) := by decide +kernel
theorem dX7_fetch_29 : decode cX7_fetch 29 = .ok (.ireturn, 1) := by decide +kernel
theorem dX7_fetch_30 : decode cX7_fetch 30 = .ok (.aload_n 0, 1) := by decide +kernel
theorem dX7_fetch_31 : decode cX7_fetch 31 = .ok (.getfield 64, 3) := by decide +kernel
theorem dX7_fetch_34 : decode cX7_fetch 34 = .ok (.iload_n 2, 1) := by decide +kernel
theorem dX7_fetch_35 : decode cX7_fetch 35 = .ok (.iaload, 1) := by decide +kernel
theorem dX7_fetch_36 : decode cX7_fetch 36 = .ok (.istore 4, 2) := by decide +kernel
theorem dX7_fetch_38 : decode cX7_fetch 38 = .ok (.iload 4, 2) := by decide +kernel
theorem dX7_fetch_40 : decode cX7_fetch 40 = .ok (.ifCond .eq 25, 3) := by decide +kernel
theorem dX7_fetch_43 : decode cX7_fetch 43 = .ok (.aload_n 0, 1) := by decide +kernel
theorem dX7_fetch_44 : decode cX7_fetch 44 = .ok (.getfield 13, 3) := by decide +kernel
theorem dX7_fetch_47 : decode cX7_fetch 47 = .ok (.iload 4, 2) := by decide +kernel
theorem dX7_fetch_49 : decode cX7_fetch 49 = .ok (.iaload, 1) := by decide +kernel
theorem dX7_fetch_50 : decode cX7_fetch 50 = .ok (.iconst 1, 1) := by decide +kernel
theorem dX7_fetch_51 : decode cX7_fetch 51 = .ok (.if_icmp .gt 14, 3) := by decide +kernel
theorem dX7_fetch_54 : decode cX7_fetch 54 = .ok (.iload_n 3, 1) := by decide +kernel
theorem dX7_fetch_55 : decode cX7_fetch 55 = .ok (.aload_n 0, 1) := by decide +kernel
theorem dX7_fetch_56 : decode cX7_fetch 56 = .ok (.getfield 20, 3) := by decide +kernel
theorem dX7_fetch_59 : decode cX7_fetch 59 = .ok (.iload 4, 2) := by decide +kernel
theorem dX7_fetch_61 : decode cX7_fetch 61 = .ok (.iaload, 1) := by decide +kernel
theorem dX7_fetch_62 : decode cX7_fetch 62 = .ok (.if_icmp .lt 8, 3) := by decide +kernel
theorem dX7_fetch_65 : decode cX7_fetch 65 = .ok (.aload_n 0, 1) := by decide +kernel
theorem dX7_fetch_66 : decode cX7_fetch 66 = .ok (.invokevirtual 160, 3) := by decide +kernel
theorem dX7_fetch_69 : decode cX7_fetch 69 = .ok (.ireturn, 1) := by decide +kernel
theorem dX7_fetch_70 : decode cX7_fetch 70 = .ok (.aload_n 0, 1) := by decide +kernel
theorem dX7_fetch_71 : decode cX7_fetch 71 = .ok (.iload_n 1, 1) := by decide +kernel
theorem dX7_fetch_72 : decode cX7_fetch 72 = .ok (.aload_n 0, 1) := by decide +kernel
theorem dX7_fetch_73 : decode cX7_fetch 73 = .ok (.getfield 57, 3) := by decide +kernel
theorem dX7_fetch_76 : decode cX7_fetch 76 = .ok (.aload_n 0, 1) := by decide +kernel
theorem dX7_fetch_77 : decode cX7_fetch 77 = .ok (.getfield 17, 3) := by decide +kernel
theorem dX7_fetch_80 : decode cX7_fetch 80 = .ok (.iload 4, 2) := by decide +kernel
theorem dX7_fetch_82 : decode cX7_fetch 82 = .ok (.iaload, 1) := by decide +kernel
theorem dX7_fetch_83 : decode cX7_fetch 83 = .ok (.iload_n 3, 1) := by decide +kernel
theorem dX7_fetch_84 : decode cX7_fetch 84 = .ok (.iadd, 1) := by decide +kernel
theorem dX7_fetch_85 : decode cX7_fetch 85 = .ok (.laload, 1) := by decide +kernel
theorem dX7_fetch_86 : decode cX7_fetch 86 = .ok (.l2i, 1) := by decide +kernel
theorem dX7_fetch_87 : decode cX7_fetch 87 = .ok (.invokevirtual 170, 3) := by decide +kernel
theorem dX7_fetch_90 : decode cX7_fetch 90 = .ok (.ireturn, 1) := by decide +kernel
theorem dX7_noNumber_0 : decode cX7_noNumber 0 = .ok (.aload_n 0, 1) := by decide +kernel
theorem dX7_noNumber_1 : decode cX7_noNumber 1 = .ok (.iconst 0, 1) := by decide +kernel
theorem dX7_noNumber_2 : decode cX7_noNumber 2 = .ok (.putfield 1, 3) := by decide +kernel
theorem dX7_noNumber_5 : decode cX7_noNumber 5 = .ok (.aload_n 0, 1) := by decide +kernel
theorem dX7_noNumber_6 : decode cX7_noNumber 6 = .ok (.iload_n 1, 1) := by decide +kernel
theorem dX7_noNumber_7 : decode cX7_noNumber 7 = .ok (.invokevirtual 136, 3) := by decide +kernel
theorem dX7_noNumber_10 : decode cX7_noNumber 10 = .ok (.ifCond .ne 7, 3) := by decide +kernel
theorem dX7_noNumber_13 : decode cX7_noNumber 13 = .ok (.iload_n 2, 1) := by decide +kernel
theorem dX7_noNumber_14 : decode cX7_noNumber 14 = .ok (.ifCond .ge 11, 3) := by decide +kernel
theorem dX7_noNumber_17 : decode cX7_noNumber 17 = .ok (.aload_n 0, 1) := by decide +kernel
theorem dX7_noNumber_18 : decode cX7_noNumber 18 = .ok (.iconst 1, 1) := by decide +kernel
theorem dX7_noNumber_19 : decode cX7_noNumber 19 = .ok (.putfield 1, 3) := by decide +kernel
theorem dX7_noNumber_22 : decode cX7_noNumber 22 = .ok (.goto 61, 3) := by decide +kernel
theorem dX7_noNumber_25 : decode cX7_noNumber 25 = .ok (.aload_n 0, 1) := by decide +kernel
theorem dX7_noNumber_26 : decode cX7_noNumber 26 = .ok (.getfield 64, 3) := by decide +kernel
theorem dX7_noNumber_29 : decode cX7_noNumber 29 = .ok (.iload_n 1, 1) := by decide +kernel
theorem dX7_noNumber_30 : decode cX7_noNumber 30 = .ok (.iaload, 1) := by decide +kernel
theorem dX7_noNumber_31 : decode cX7_noNumber 31 = .ok (.ifCond .eq 47, 3) := by decide +kernel
theorem dX7_noNumber_34 : decode cX7_noNumber 34 = .ok (.aload_n 0, 1) := by decide +kernel
theorem dX7_noNumber_35 : decode cX7_noNumber 35 = .ok (.getfield 13, 3) := by decide +kernel
theorem dX7_noNumber_38 : decode cX7_noNumber 38 = .ok (.aload_n 0, 1) := by decide +kernel
theorem dX7_noNumber_39 : decode cX7_noNumber 39 = .ok (.getfield 64, 3) := by decide +kernel
theorem dX7_noNumber_42 : decode cX7_noNumber 42 = .ok (.iload_n 1, 1) := by decide +kernel
theorem dX7_noNumber_43 : decode cX7_noNumber 43 = .ok (.iaload, 1) := by decide +kernel
theorem dX7_noNumber_44 : decode cX7_noNumber 44 = .ok (.iaload, 1) := by decide +kernel
theorem dX7_noNumber_45 : decode cX7_noNumber 45 = .ok (.ifCond .eq 18, 3) := by decide +kernel
theorem dX7_noNumber_48 : decode cX7_noNumber 48 = .ok (.aload_n 0, 1) := by decide +kernel
theorem dX7_noNumber_49 : decode cX7_noNumber 49 = .ok (.getfield 13, 3) := by decide +kernel
theorem dX7_noNumber_52 : decode cX7_noNumber 52 = .ok (.aload_n 0, 1) := by decide +kernel
theorem dX7_noNumber_53 : decode cX7_noNumber 53 = .ok (.getfield 64, 3) := by decide +kernel
theorem dX7_noNumber_56 : decode cX7_noNumber 56 = .ok (.iload_n 1, 1) := by decide +kernel
theorem dX7_noNumber_57 : decode cX7_noNumber 57 = .ok (.iaload, 1) := by decide +kernel
theorem dX7_noNumber_58 : decode cX7_noNumber 58 = .ok (.iaload, 1) := by decide +kernel
theorem dX7_noNumber_59 : decode cX7_noNumber 59 = .ok (.iconst 2, 1) := by decide +kernel
theorem dX7_noNumber_60 : decode cX7_noNumber 60 = .ok (.if_icmp .ne 18, 3) := by decide +kernel
theorem dX7_noNumber_63 : decode cX7_noNumber 63 = .ok (.iload_n 2, 1) := by decide +kernel
theorem dX7_noNumber_64 : decode cX7_noNumber 64 = .ok (.aload_n 0, 1) := by decide +kernel
theorem dX7_noNumber_65 : decode cX7_noNumber 65 = .ok (.getfield 23, 3) := by decide +kernel
theorem dX7_noNumber_68 : decode cX7_noNumber 68 = .ok (.aload_n 0, 1) := by decide +kernel
theorem dX7_noNumber_69 : decode cX7_noNumber 69 = .ok (.getfield 64, 3) := by decide +kernel
theorem dX7_noNumber_72 : decode cX7_noNumber 72 = .ok (.iload_n 1, 1) := by decide +kernel
theorem dX7_noNumber_73 : decode cX7_noNumber 73 = .ok (.iaload, 1) := by decide +kernel
theorem dX7_noNumber_74 : decode cX7_noNumber 74 = .ok (.iaload, 1) := by decide +kernel
theorem dX7_noNumber_75 : decode cX7_noNumber 75 = .ok (.if_icmp .lt 8, 3) := by decide +kernel
theorem dX7_noNumber_78 : decode cX7_noNumber 78 = .ok (.aload_n 0, 1) := by decide +kernel
theorem dX7_noNumber_79 : decode cX7_noNumber 79 = .ok (.iconst 2, 1) := by decide +kernel
theorem dX7_noNumber_80 : decode cX7_noNumber 80 = .ok (.putfield 1, 3) := by decide +kernel
theorem dX7_noNumber_83 : decode cX7_noNumber 83 = .ok (.aload_n 0, 1) := by decide +kernel
theorem dX7_noNumber_84 : decode cX7_noNumber 84 = .ok (.getfield 1, 3) := by decide +kernel
theorem dX7_noNumber_87 : decode cX7_noNumber 87 = .ok (.ifCond .eq 7, 3) := by decide +kernel
theorem dX7_noNumber_90 : decode cX7_noNumber 90 = .ok (.iconst 1, 1) := by decide +kernel
theorem dX7_noNumber_91 : decode cX7_noNumber 91 = .ok (.goto 4, 3) := by decide +kernel
theorem dX7_noNumber_94 : decode cX7_noNumber 94 = .ok (.iconst 0, 1) := by decide +kernel
theorem dX7_noNumber_95 : decode cX7_noNumber 95 = .ok (.ireturn, 1) := by decide +kernel
theorem dX7_set_0 : decode cX7_set 0 = .ok (.aload_n 0, 1) := by decide +kernel
theorem dX7_set_1 : decode cX7_set 1 = .ok (.iload_n 1, 1) := by decide +kernel
theorem dX7_set_2 : decode cX7_set 2 = .ok (.iload_n 2, 1) := by decide +kernel
theorem dX7_set_3 : decode cX7_set 3 = .ok (.invokevirtual 173, 3) := by decide +kernel
theorem dX7_set_6 : decode cX7_set 6 = .ok (.ifCond .eq 5, 3) := by decide +kernel
theorem dX7_set_9 : decode cX7_set 9 = .ok (.lconst 0, 1) := by decide +kernel
theorem dX7_set_10 : decode cX7_set 10 = .ok (.lreturn, 1) := by decide +kernel
theorem dX7_set_11 : decode cX7_set 11 = .ok (.aload_n 0, 1) := by decide +kernel
theorem dX7_set_12 : decode cX7_set 12 = .ok (.getfield 17, 3) := by decide +kernel
theorem dX7_set_15 : decode cX7_set 15 = .ok (.aload_n 0, 1) := by decide +kernel
theorem dX7_set_16 : decode cX7_set 16 = .ok (.getfield 64, 3) := by decide +kernel
theorem dX7_set_19 : decode cX7_set 19 = .ok (.iload_n 1, 1) := by decide +kernel
theorem dX7_set_20 : decode cX7_set 20 = .ok (.iaload, 1) := by decide +kernel
theorem dX7_set_21 : decode cX7_set 21 = .ok (.iaload, 1) := by decide +kernel
theorem dX7_set_22 : decode cX7_set 22 = .ok (.aload_n 0, 1) := by decide +kernel
theorem dX7_set_23 : decode cX7_set 23 = .ok (.getfield 20, 3) := by decide +kernel
theorem dX7_set_26 : decode cX7_set 26 = .ok (.aload_n 0, 1) := by decide +kernel
theorem dX7_set_27 : decode cX7_set 27 = .ok (.getfield 64, 3) := by decide +kernel
theorem dX7_set_30 : decode cX7_set 30 = .ok (.iload_n 1, 1) := by decide +kernel
theorem dX7_set_31 : decode cX7_set 31 = .ok (.iaload, 1) := by decide +kernel
theorem dX7_set_32 : decode cX7_set 32 = .ok (.iaload, 1) := by decide +kernel
theorem dX7_set_33 : decode cX7_set 33 = .ok (.iadd, 1) := by decide +kernel
theorem dX7_set_34 : decode cX7_set 34 = .ok (.iload_n 2, 1) := by decide +kernel
theorem dX7_set_35 : decode cX7_set 35 = .ok (.iadd, 1) := by decide +kernel
theorem dX7_set_36 : decode cX7_set 36 = .ok (.istore 5, 2) := by decide +kernel
theorem dX7_set_38 : decode cX7_set 38 = .ok (.aload_n 0, 1) := by decide +kernel
theorem dX7_set_39 : decode cX7_set 39 = .ok (.getfield 57, 3) := by decide +kernel
theorem dX7_set_42 : decode cX7_set 42 = .ok (.iload 5, 2) := by decide +kernel
theorem dX7_set_44 : decode cX7_set 44 = .ok (.laload, 1) := by decide +kernel
theorem dX7_set_45 : decode cX7_set 45 = .ok (.lstore 6, 2) := by decide +kernel
theorem dX7_set_47 : decode cX7_set 47 = .ok (.aload_n 0, 1) := by decide +kernel
theorem dX7_set_48 : decode cX7_set 48 = .ok (.getfield 57, 3) := by decide +kernel
theorem dX7_set_51 : decode cX7_set 51 = .ok (.iload 5, 2) := by decide +kernel
theorem dX7_set_53 : decode cX7_set 53 = .ok (.lload_n 3, 1) := by decide +kernel
theorem dX7_set_54 : decode cX7_set 54 = .ok (.lastore, 1) := by decide +kernel
theorem dX7_set_55 : decode cX7_set 55 = .ok (.lload 6, 2) := by decide +kernel
theorem dX7_set_57 : decode cX7_set 57 = .ok (.lreturn, 1) := by decide +kernel
theorem dX7_get_0 : decode cX7_get 0 = .ok (.aload_n 0, 1) := by decide +kernel
theorem dX7_get_1 : decode cX7_get 1 = .ok (.iload_n 1, 1) := by decide +kernel
theorem dX7_get_2 : decode cX7_get 2 = .ok (.iload_n 2, 1) := by decide +kernel
theorem dX7_get_3 : decode cX7_get 3 = .ok (.invokevirtual 173, 3) := by decide +kernel
theorem dX7_get_6 : decode cX7_get 6 = .ok (.ifCond .eq 7, 3) := by decide +kernel
theorem dX7_get_9 : decode cX7_get 9 = .ok (.lconst 0, 1) := by decide +kernel
theorem dX7_get_10 : decode cX7_get 10 = .ok (.goto 33, 3) := by decide +kernel
theorem dX7_get_13 : decode cX7_get 13 = .ok (.aload_n 0, 1) := by decide +kernel
theorem dX7_get_14 : decode cX7_get 14 = .ok (.getfield 57, 3) := by decide +kernel
theorem dX7_get_17 : decode cX7_get 17 = .ok (.aload_n 0, 1) := by decide +kernel
theorem dX7_get_18 : decode cX7_get 18 = .ok (.getfield 17, 3) := by decide +kernel
theorem dX7_get_21 : decode cX7_get 21 = .ok (.aload_n 0, 1) := by decide +kernel
theorem dX7_get_22 : decode cX7_get 22 = .ok (.getfield 64, 3) := by decide +kernel
theorem dX7_get_25 : decode cX7_get 25 = .ok (.iload_n 1, 1) := by decide +kernel
theorem dX7_get_26 : decode cX7_get 26 = .ok (.iaload, 1) := by decide +kernel
theorem dX7_get_27 : decode cX7_get 27 = .ok (.iaload, 1) := by decide +kernel
theorem dX7_get_28 : decode cX7_get 28 = .ok (.aload_n 0, 1) := by decide +kernel
theorem dX7_get_29 : decode cX7_get 29 = .ok (.getfield 20, 3) := by decide +kernel
theorem dX7_get_32 : decode cX7_get 32 = .ok (.aload_n 0, 1) := by decide +kernel
theorem dX7_get_33 : decode cX7_get 33 = .ok (.getfield 64, 3) := by decide +kernel
theorem dX7_get_36 : decode cX7_get 36 = .ok (.iload_n 1, 1) := by decide +kernel
theorem dX7_get_37 : decode cX7_get 37 = .ok (.iaload, 1) := by decide +kernel
theorem dX7_get_38 : decode cX7_get 38 = .ok (.iaload, 1) := by decide +kernel
theorem dX7_get_39 : decode cX7_get 39 = .ok (.iadd, 1) := by decide +kernel
theorem dX7_get_40 : decode cX7_get 40 = .ok (.iload_n 2, 1) := by decide +kernel
theorem dX7_get_41 : decode cX7_get 41 = .ok (.iadd, 1) := by decide +kernel
theorem dX7_get_42 : decode cX7_get 42 = .ok (.laload, 1) := by decide +kernel
theorem dX7_get_43 : decode cX7_get 43 = .ok (.lreturn, 1) := by decide +kernel
theorem dX7_referent_0 : decode cX7_referent 0 = .ok (.aload_n 0, 1) := by decide +kernel
theorem dX7_referent_1 : decode cX7_referent 1 = .ok (.iconst 0, 1) := by decide +kernel
theorem dX7_referent_2 : decode cX7_referent 2 = .ok (.putfield 1, 3) := by decide +kernel
theorem dX7_referent_5 : decode cX7_referent 5 = .ok (.aload_n 0, 1) := by decide +kernel
theorem dX7_referent_6 : decode cX7_referent 6 = .ok (.iload_n 1, 1) := by decide +kernel
theorem dX7_referent_7 : decode cX7_referent 7 = .ok (.invokevirtual 136, 3) := by decide +kernel
theorem dX7_referent_10 : decode cX7_referent 10 = .ok (.ifCond .ne 11, 3) := by decide +kernel
theorem dX7_referent_13 : decode cX7_referent 13 = .ok (.aload_n 0, 1) := by decide +kernel
theorem dX7_referent_14 : decode cX7_referent 14 = .ok (.iload_n 2, 1) := by decide +kernel
theorem dX7_referent_15 : decode cX7_referent 15 = .ok (.invokevirtual 136, 3) := by decide +kernel
theorem dX7_referent_18 : decode cX7_referent 18 = .ok (.ifCond .eq 8, 3) := by decide +kernel
theorem dX7_referent_21 : decode cX7_referent 21 = .ok (.aload_n 0, 1) := by decide +kernel
theorem dX7_referent_22 : decode cX7_referent 22 = .ok (.invokevirtual 139, 3) := by decide +kernel
theorem dX7_referent_25 : decode cX7_referent 25 = .ok (.ireturn, 1) := by decide +kernel
theorem dX7_referent_26 : decode cX7_referent 26 = .ok (.aload_n 0, 1) := by decide +kernel
theorem dX7_referent_27 : decode cX7_referent 27 = .ok (.getfield 64, 3) := by decide +kernel
theorem dX7_referent_30 : decode cX7_referent 30 = .ok (.iload_n 2, 1) := by decide +kernel
theorem dX7_referent_31 : decode cX7_referent 31 = .ok (.iaload, 1) := by decide +kernel
theorem dX7_referent_32 : decode cX7_referent 32 = .ok (.istore 4, 2) := by decide +kernel
theorem dX7_referent_34 : decode cX7_referent 34 = .ok (.iload_n 3, 1) := by decide +kernel
theorem dX7_referent_35 : decode cX7_referent 35 = .ok (.ifCond .eq 16, 3) := by decide +kernel
theorem dX7_referent_38 : decode cX7_referent 38 = .ok (.aload_n 0, 1) := by decide +kernel
theorem dX7_referent_39 : decode cX7_referent 39 = .ok (.iload_n 2, 1) := by decide +kernel
theorem dX7_referent_40 : decode cX7_referent 40 = .ok (.bipush 7, 2) := by decide +kernel
theorem dX7_referent_42 : decode cX7_referent 42 = .ok (.invokevirtual 156, 3) := by decide +kernel
theorem dX7_referent_45 : decode cX7_referent 45 = .ok (.ifCond .ne 20, 3) := by decide +kernel
theorem dX7_referent_48 : decode cX7_referent 48 = .ok (.goto 12, 3) := by decide +kernel
theorem dX7_referent_51 : decode cX7_referent 51 = .ok (.aload_n 0, 1) := by decide +kernel
theorem dX7_referent_52 : decode cX7_referent 52 = .ok (.iload 4, 2) := by decide +kernel
theorem dX7_referent_54 : decode cX7_referent 54 = .ok (.invokevirtual 176, 3) := by decide +kernel
theorem dX7_referent_57 : decode cX7_referent 57 = .ok (.ifCond .ne 8, 3) := by decide +kernel
theorem dX7_referent_60 : decode cX7_referent 60 = .ok (.aload_n 0, 1) := by decide +kernel
theorem dX7_referent_61 : decode cX7_referent 61 = .ok (.invokevirtual 160, 3) := by decide +kernel
theorem dX7_referent_64 : decode cX7_referent 64 = .ok (.ireturn, 1) := by decide +kernel
theorem dX7_referent_65 : decode cX7_referent 65 = .ok (.aload_n 0, 1) := by decide +kernel
theorem dX7_referent_66 : decode cX7_referent 66 = .ok (.iload_n 1, 1) := by decide +kernel
theorem dX7_referent_67 : decode cX7_referent 67 = .ok (.iload_n 3, 1) := by decide +kernel
theorem dX7_referent_68 : decode cX7_referent 68 = .ok (.ifCond .eq 13, 3) := by decide +kernel
theorem dX7_referent_71 : decode cX7_referent 71 = .ok (.aload_n 0, 1) := by decide +kernel
theorem dX7_referent_72 : decode cX7_referent 72 = .ok (.getfield 35, 3) := by decide +kernel
theorem dX7_referent_75 : decode cX7_referent 75 = .ok (.iload 4, 2) := by decide +kernel
theorem dX7_referent_77 : decode cX7_referent 77 = .ok (.iaload, 1) := by decide +kernel
theorem dX7_referent_78 : decode cX7_referent 78 = .ok (.goto 26, 3) := by decide +kernel
theorem dX7_referent_81 : decode cX7_referent 81 = .ok (.aload_n 0, 1) := by decide +kernel
theorem dX7_referent_82 : decode cX7_referent 82 = .ok (.getfield 13, 3) := by decide +kernel
theorem dX7_referent_85 : decode cX7_referent 85 = .ok (.iload 4, 2) := by decide +kernel
theorem dX7_referent_87 : decode cX7_referent 87 = .ok (.iaload, 1) := by decide +kernel
theorem dX7_referent_88 : decode cX7_referent 88 = .ok (.bipush 6, 2) := by decide +kernel
theorem dX7_referent_90 : decode cX7_referent 90 = .ok (.if_icmp .ne 7, 3) := by decide +kernel
theorem dX7_referent_93 : decode cX7_referent 93 = .ok (.iconst 0, 1) := by decide +kernel
theorem dX7_referent_94 : decode cX7_referent 94 = .ok (.goto 10, 3) := by decide +kernel
theorem dX7_referent_97 : decode cX7_referent 97 = .ok (.aload_n 0, 1) := by decide +kernel
theorem dX7_referent_98 : decode cX7_referent 98 = .ok (.getfield 32, 3) := by decide +kernel
theorem dX7_referent_101 : decode cX7_referent 101 = .ok (.iload 4, 2) := by decide +kernel
theorem dX7_referent_103 : decode cX7_referent 103 = .ok (.iaload, 1) := by decide +kernel
theorem dX7_referent_104 : decode cX7_referent 104 = .ok (.invokevirtual 170, 3) := by decide +kernel
theorem dX7_referent_107 : decode cX7_referent 107 = .ok (.ireturn, 1) := by decide +kernel
theorem dX7_give_0 : decode cX7_give 0 = .ok (.aload_n 0, 1) := by decide +kernel
theorem dX7_give_1 : decode cX7_give 1 = .ok (.iconst 0, 1) := by decide +kernel
theorem dX7_give_2 : decode cX7_give 2 = .ok (.putfield 1, 3) := by decide +kernel
theorem dX7_give_5 : decode cX7_give 5 = .ok (.aload_n 0, 1) := by decide +kernel
theorem dX7_give_6 : decode cX7_give 6 = .ok (.iload_n 1, 1) := by decide +kernel
theorem dX7_give_7 : decode cX7_give 7 = .ok (.invokevirtual 136, 3) := by decide +kernel
theorem dX7_give_10 : decode cX7_give 10 = .ok (.ifCond .ne 11, 3) := by decide +kernel
theorem dX7_give_13 : decode cX7_give 13 = .ok (.aload_n 0, 1) := by decide +kernel
theorem dX7_give_14 : decode cX7_give 14 = .ok (.iload_n 2, 1) := by decide +kernel
theorem dX7_give_15 : decode cX7_give 15 = .ok (.invokevirtual 153, 3) := by decide +kernel
theorem dX7_give_18 : decode cX7_give 18 = .ok (.ifCond .eq 8, 3) := by decide +kernel
theorem dX7_give_21 : decode cX7_give 21 = .ok (.aload_n 0, 1) := by decide +kernel
theorem dX7_give_22 : decode cX7_give 22 = .ok (.invokevirtual 139, 3) := by decide +kernel
theorem dX7_give_25 : decode cX7_give 25 = .ok (.ireturn, 1) := by decide +kernel
theorem dX7_give_26 : decode cX7_give 26 = .ok (.aload_n 0, 1) := by decide +kernel
theorem dX7_give_27 : decode cX7_give 27 = .ok (.iload_n 1, 1) := by decide +kernel
theorem dX7_give_28 : decode cX7_give 28 = .ok (.bipush 7, 2) := by decide +kernel
theorem dX7_give_30 : decode cX7_give 30 = .ok (.invokevirtual 156, 3) := by decide +kernel
theorem dX7_give_33 : decode cX7_give 33 = .ok (.ifCond .ne 8, 3) := by decide +kernel
theorem dX7_give_36 : decode cX7_give 36 = .ok (.aload_n 0, 1) := by decide +kernel
theorem dX7_give_37 : decode cX7_give 37 = .ok (.invokevirtual 160, 3) := by decide +kernel
end
section
theorem dX7_give_40 : decode cX7_give 40 = .ok (.ireturn, 1) := by decide +kernel
theorem dX7_give_41 : decode cX7_give 41 = .ok (.aload_n 0, 1) := by decide +kernel
theorem dX7_give_42 : decode cX7_give 42 = .ok (.getfield 32, 3) := by decide +kernel
theorem dX7_give_45 : decode cX7_give 45 = .ok (.aload_n 0, 1) := by decide +kernel
theorem dX7_give_46 : decode cX7_give 46 = .ok (.getfield 64, 3) := by decide +kernel
theorem dX7_give_49 : decode cX7_give 49 = .ok (.iload_n 1, 1) := by decide +kernel
theorem dX7_give_50 : decode cX7_give 50 = .ok (.iaload, 1) := by decide +kernel
theorem dX7_give_51 : decode cX7_give 51 = .ok (.iaload, 1) := by decide +kernel
theorem dX7_give_52 : decode cX7_give 52 = .ok (.ifCond .ne 5, 3) := by decide +kernel
theorem dX7_give_55 : decode cX7_give 55 = .ok (.iconst 0, 1) := by decide +kernel
theorem dX7_give_56 : decode cX7_give 56 = .ok (.ireturn, 1) := by decide +kernel
theorem dX7_give_57 : decode cX7_give 57 = .ok (.aload_n 0, 1) := by decide +kernel
theorem dX7_give_58 : decode cX7_give 58 = .ok (.getfield 35, 3) := by decide +kernel
theorem dX7_give_61 : decode cX7_give 61 = .ok (.aload_n 0, 1) := by decide +kernel
theorem dX7_give_62 : decode cX7_give 62 = .ok (.getfield 64, 3) := by decide +kernel
theorem dX7_give_65 : decode cX7_give 65 = .ok (.iload_n 1, 1) := by decide +kernel
theorem dX7_give_66 : decode cX7_give 66 = .ok (.iaload, 1) := by decide +kernel
theorem dX7_give_67 : decode cX7_give 67 = .ok (.aload_n 0, 1) := by decide +kernel
theorem dX7_give_68 : decode cX7_give 68 = .ok (.iload_n 2, 1) := by decide +kernel
theorem dX7_give_69 : decode cX7_give 69 = .ok (.invokevirtual 163, 3) := by decide +kernel
theorem dX7_give_72 : decode cX7_give 72 = .ok (.iastore, 1) := by decide +kernel
theorem dX7_give_73 : decode cX7_give 73 = .ok (.iconst 1, 1) := by decide +kernel
theorem dX7_give_74 : decode cX7_give 74 = .ok (.ireturn, 1) := by decide +kernel
theorem dX7_clear_0 : decode cX7_clear 0 = .ok (.aload_n 0, 1) := by decide +kernel
theorem dX7_clear_1 : decode cX7_clear 1 = .ok (.iconst 0, 1) := by decide +kernel
theorem dX7_clear_2 : decode cX7_clear 2 = .ok (.putfield 1, 3) := by decide +kernel
theorem dX7_clear_5 : decode cX7_clear 5 = .ok (.aload_n 0, 1) := by decide +kernel
theorem dX7_clear_6 : decode cX7_clear 6 = .ok (.iload_n 1, 1) := by decide +kernel
theorem dX7_clear_7 : decode cX7_clear 7 = .ok (.invokevirtual 136, 3) := by decide +kernel
theorem dX7_clear_10 : decode cX7_clear 10 = .ok (.ifCond .eq 8, 3) := by decide +kernel
theorem dX7_clear_13 : decode cX7_clear 13 = .ok (.aload_n 0, 1) := by decide +kernel
theorem dX7_clear_14 : decode cX7_clear 14 = .ok (.invokevirtual 139, 3) := by decide +kernel
theorem dX7_clear_17 : decode cX7_clear 17 = .ok (.ireturn, 1) := by decide +kernel
theorem dX7_clear_18 : decode cX7_clear 18 = .ok (.aload_n 0, 1) := by decide +kernel
theorem dX7_clear_19 : decode cX7_clear 19 = .ok (.getfield 64, 3) := by decide +kernel
theorem dX7_clear_22 : decode cX7_clear 22 = .ok (.iload_n 1, 1) := by decide +kernel
theorem dX7_clear_23 : decode cX7_clear 23 = .ok (.iaload, 1) := by decide +kernel
theorem dX7_clear_24 : decode cX7_clear 24 = .ok (.istore_n 3, 1) := by decide +kernel
theorem dX7_clear_25 : decode cX7_clear 25 = .ok (.aload_n 0, 1) := by decide +kernel
theorem dX7_clear_26 : decode cX7_clear 26 = .ok (.iload_n 3, 1) := by decide +kernel
theorem dX7_clear_27 : decode cX7_clear 27 = .ok (.invokevirtual 176, 3) := by decide +kernel
theorem dX7_clear_30 : decode cX7_clear 30 = .ok (.ifCond .ne 8, 3) := by decide +kernel
theorem dX7_clear_33 : decode cX7_clear 33 = .ok (.aload_n 0, 1) := by decide +kernel
theorem dX7_clear_34 : decode cX7_clear 34 = .ok (.invokevirtual 160, 3) := by decide +kernel
theorem dX7_clear_37 : decode cX7_clear 37 = .ok (.ireturn, 1) := by decide +kernel
theorem dX7_clear_38 : decode cX7_clear 38 = .ok (.aload_n 0, 1) := by decide +kernel
theorem dX7_clear_39 : decode cX7_clear 39 = .ok (.getfield 32, 3) := by decide +kernel
theorem dX7_clear_42 : decode cX7_clear 42 = .ok (.iload_n 3, 1) := by decide +kernel
theorem dX7_clear_43 : decode cX7_clear 43 = .ok (.iconst 0, 1) := by decide +kernel
theorem dX7_clear_44 : decode cX7_clear 44 = .ok (.iastore, 1) := by decide +kernel
theorem dX7_clear_45 : decode cX7_clear 45 = .ok (.aload_n 0, 1) := by decide +kernel
theorem dX7_clear_46 : decode cX7_clear 46 = .ok (.getfield 35, 3) := by decide +kernel
theorem dX7_clear_49 : decode cX7_clear 49 = .ok (.iload_n 3, 1) := by decide +kernel
theorem dX7_clear_50 : decode cX7_clear 50 = .ok (.iconst 0, 1) := by decide +kernel
theorem dX7_clear_51 : decode cX7_clear 51 = .ok (.iastore, 1) := by decide +kernel
theorem dX7_clear_52 : decode cX7_clear 52 = .ok (.iload_n 2, 1) := by decide +kernel
theorem dX7_clear_53 : decode cX7_clear 53 = .ok (.ifCond .eq 15, 3) := by decide +kernel
theorem dX7_clear_56 : decode cX7_clear 56 = .ok (.aload_n 0, 1) := by decide +kernel
theorem dX7_clear_57 : decode cX7_clear 57 = .ok (.iload_n 3, 1) := by decide +kernel
theorem dX7_clear_58 : decode cX7_clear 58 = .ok (.invokevirtual 125, 3) := by decide +kernel
theorem dX7_clear_61 : decode cX7_clear 61 = .ok (.ifCond .eq 7, 3) := by decide +kernel
theorem dX7_clear_64 : decode cX7_clear 64 = .ok (.iconst 1, 1) := by decide +kernel
theorem dX7_clear_65 : decode cX7_clear 65 = .ok (.goto 4, 3) := by decide +kernel
theorem dX7_clear_68 : decode cX7_clear 68 = .ok (.iconst 0, 1) := by decide +kernel
theorem dX7_clear_69 : decode cX7_clear 69 = .ok (.ireturn, 1) := by decide +kernel
theorem dX7_poll_0 : decode cX7_poll 0 = .ok (.aload_n 0, 1) := by decide +kernel
theorem dX7_poll_1 : decode cX7_poll 1 = .ok (.iconst 0, 1) := by decide +kernel
theorem dX7_poll_2 : decode cX7_poll 2 = .ok (.putfield 1, 3) := by decide +kernel
theorem dX7_poll_5 : decode cX7_poll 5 = .ok (.aload_n 0, 1) := by decide +kernel
theorem dX7_poll_6 : decode cX7_poll 6 = .ok (.iload_n 1, 1) := by decide +kernel
theorem dX7_poll_7 : decode cX7_poll 7 = .ok (.invokevirtual 136, 3) := by decide +kernel
theorem dX7_poll_10 : decode cX7_poll 10 = .ok (.ifCond .ne 11, 3) := by decide +kernel
theorem dX7_poll_13 : decode cX7_poll 13 = .ok (.aload_n 0, 1) := by decide +kernel
theorem dX7_poll_14 : decode cX7_poll 14 = .ok (.iload_n 2, 1) := by decide +kernel
theorem dX7_poll_15 : decode cX7_poll 15 = .ok (.invokevirtual 136, 3) := by decide +kernel
theorem dX7_poll_18 : decode cX7_poll 18 = .ok (.ifCond .eq 8, 3) := by decide +kernel
theorem dX7_poll_21 : decode cX7_poll 21 = .ok (.aload_n 0, 1) := by decide +kernel
theorem dX7_poll_22 : decode cX7_poll 22 = .ok (.invokevirtual 139, 3) := by decide +kernel
theorem dX7_poll_25 : decode cX7_poll 25 = .ok (.ireturn, 1) := by decide +kernel
theorem dX7_poll_26 : decode cX7_poll 26 = .ok (.aload_n 0, 1) := by decide +kernel
theorem dX7_poll_27 : decode cX7_poll 27 = .ok (.iload_n 2, 1) := by decide +kernel
theorem dX7_poll_28 : decode cX7_poll 28 = .ok (.iconst 3, 1) := by decide +kernel
theorem dX7_poll_29 : decode cX7_poll 29 = .ok (.invokevirtual 156, 3) := by decide +kernel
theorem dX7_poll_32 : decode cX7_poll 32 = .ok (.ifCond .ne 8, 3) := by decide +kernel
theorem dX7_poll_35 : decode cX7_poll 35 = .ok (.aload_n 0, 1) := by decide +kernel
theorem dX7_poll_36 : decode cX7_poll 36 = .ok (.invokevirtual 160, 3) := by decide +kernel
theorem dX7_poll_39 : decode cX7_poll 39 = .ok (.ireturn, 1) := by decide +kernel
theorem dX7_poll_40 : decode cX7_poll 40 = .ok (.aload_n 0, 1) := by decide +kernel
theorem dX7_poll_41 : decode cX7_poll 41 = .ok (.getfield 64, 3) := by decide +kernel
theorem dX7_poll_44 : decode cX7_poll 44 = .ok (.iload_n 2, 1) := by decide +kernel
theorem dX7_poll_45 : decode cX7_poll 45 = .ok (.iaload, 1) := by decide +kernel
theorem dX7_poll_46 : decode cX7_poll 46 = .ok (.istore_n 3, 1) := by decide +kernel
theorem dX7_poll_47 : decode cX7_poll 47 = .ok (.aload_n 0, 1) := by decide +kernel
theorem dX7_poll_48 : decode cX7_poll 48 = .ok (.getfield 32, 3) := by decide +kernel
theorem dX7_poll_51 : decode cX7_poll 51 = .ok (.iload_n 3, 1) := by decide +kernel
theorem dX7_poll_52 : decode cX7_poll 52 = .ok (.iaload, 1) := by decide +kernel
theorem dX7_poll_53 : decode cX7_poll 53 = .ok (.istore 4, 2) := by decide +kernel
theorem dX7_poll_55 : decode cX7_poll 55 = .ok (.iload 4, 2) := by decide +kernel
theorem dX7_poll_57 : decode cX7_poll 57 = .ok (.ifCond .eq 51, 3) := by decide +kernel
theorem dX7_poll_60 : decode cX7_poll 60 = .ok (.aload_n 0, 1) := by decide +kernel
theorem dX7_poll_61 : decode cX7_poll 61 = .ok (.getfield 32, 3) := by decide +kernel
theorem dX7_poll_64 : decode cX7_poll 64 = .ok (.iload_n 3, 1) := by decide +kernel
theorem dX7_poll_65 : decode cX7_poll 65 = .ok (.aload_n 0, 1) := by decide +kernel
theorem dX7_poll_66 : decode cX7_poll 66 = .ok (.getfield 29, 3) := by decide +kernel
theorem dX7_poll_69 : decode cX7_poll 69 = .ok (.iload 4, 2) := by decide +kernel
theorem dX7_poll_71 : decode cX7_poll 71 = .ok (.iaload, 1) := by decide +kernel
theorem dX7_poll_72 : decode cX7_poll 72 = .ok (.iastore, 1) := by decide +kernel
theorem dX7_poll_73 : decode cX7_poll 73 = .ok (.aload_n 0, 1) := by decide +kernel
theorem dX7_poll_74 : decode cX7_poll 74 = .ok (.getfield 29, 3) := by decide +kernel
theorem dX7_poll_77 : decode cX7_poll 77 = .ok (.iload 4, 2) := by decide +kernel
theorem dX7_poll_79 : decode cX7_poll 79 = .ok (.iaload, 1) := by decide +kernel
theorem dX7_poll_80 : decode cX7_poll 80 = .ok (.ifCond .ne 10, 3) := by decide +kernel
theorem dX7_poll_83 : decode cX7_poll 83 = .ok (.aload_n 0, 1) := by decide +kernel
theorem dX7_poll_84 : decode cX7_poll 84 = .ok (.getfield 35, 3) := by decide +kernel
theorem dX7_poll_87 : decode cX7_poll 87 = .ok (.iload_n 3, 1) := by decide +kernel
theorem dX7_poll_88 : decode cX7_poll 88 = .ok (.iconst 0, 1) := by decide +kernel
theorem dX7_poll_89 : decode cX7_poll 89 = .ok (.iastore, 1) := by decide +kernel
theorem dX7_poll_90 : decode cX7_poll 90 = .ok (.aload_n 0, 1) := by decide +kernel
theorem dX7_poll_91 : decode cX7_poll 91 = .ok (.getfield 29, 3) := by decide +kernel
theorem dX7_poll_94 : decode cX7_poll 94 = .ok (.iload 4, 2) := by decide +kernel
theorem dX7_poll_96 : decode cX7_poll 96 = .ok (.iconst 0, 1) := by decide +kernel
theorem dX7_poll_97 : decode cX7_poll 97 = .ok (.iastore, 1) := by decide +kernel
theorem dX7_poll_98 : decode cX7_poll 98 = .ok (.aload_n 0, 1) := by decide +kernel
theorem dX7_poll_99 : decode cX7_poll 99 = .ok (.getfield 41, 3) := by decide +kernel
theorem dX7_poll_102 : decode cX7_poll 102 = .ok (.iload_n 3, 1) := by decide +kernel
theorem dX7_poll_103 : decode cX7_poll 103 = .ok (.dup2, 1) := by decide +kernel
theorem dX7_poll_104 : decode cX7_poll 104 = .ok (.iaload, 1) := by decide +kernel
theorem dX7_poll_105 : decode cX7_poll 105 = .ok (.iconst 1, 1) := by decide +kernel
theorem dX7_poll_106 : decode cX7_poll 106 = .ok (.isub, 1) := by decide +kernel
theorem dX7_poll_107 : decode cX7_poll 107 = .ok (.iastore, 1) := by decide +kernel
theorem dX7_poll_108 : decode cX7_poll 108 = .ok (.aload_n 0, 1) := by decide +kernel
theorem dX7_poll_109 : decode cX7_poll 109 = .ok (.iload_n 1, 1) := by decide +kernel
theorem dX7_poll_110 : decode cX7_poll 110 = .ok (.iload 4, 2) := by decide +kernel
theorem dX7_poll_112 : decode cX7_poll 112 = .ok (.invokevirtual 170, 3) := by decide +kernel
theorem dX7_poll_115 : decode cX7_poll 115 = .ok (.ireturn, 1) := by decide +kernel
theorem dX7_waiting_0 : decode cX7_waiting 0 = .ok (.aload_n 0, 1) := by decide +kernel
theorem dX7_waiting_1 : decode cX7_waiting 1 = .ok (.iconst 0, 1) := by decide +kernel
theorem dX7_waiting_2 : decode cX7_waiting 2 = .ok (.putfield 1, 3) := by decide +kernel
theorem dX7_waiting_5 : decode cX7_waiting 5 = .ok (.aload_n 0, 1) := by decide +kernel
theorem dX7_waiting_6 : decode cX7_waiting 6 = .ok (.iload_n 1, 1) := by decide +kernel
theorem dX7_waiting_7 : decode cX7_waiting 7 = .ok (.invokevirtual 136, 3) := by decide +kernel
theorem dX7_waiting_10 : decode cX7_waiting 10 = .ok (.ifCond .eq 8, 3) := by decide +kernel
theorem dX7_waiting_13 : decode cX7_waiting 13 = .ok (.aload_n 0, 1) := by decide +kernel
theorem dX7_waiting_14 : decode cX7_waiting 14 = .ok (.invokevirtual 139, 3) := by decide +kernel
theorem dX7_waiting_17 : decode cX7_waiting 17 = .ok (.ireturn, 1) := by decide +kernel
theorem dX7_waiting_18 : decode cX7_waiting 18 = .ok (.aload_n 0, 1) := by decide +kernel
theorem dX7_waiting_19 : decode cX7_waiting 19 = .ok (.iload_n 1, 1) := by decide +kernel
theorem dX7_waiting_20 : decode cX7_waiting 20 = .ok (.iconst 3, 1) := by decide +kernel
theorem dX7_waiting_21 : decode cX7_waiting 21 = .ok (.invokevirtual 156, 3) := by decide +kernel
theorem dX7_waiting_24 : decode cX7_waiting 24 = .ok (.ifCond .eq 17, 3) := by decide +kernel
theorem dX7_waiting_27 : decode cX7_waiting 27 = .ok (.aload_n 0, 1) := by decide +kernel
theorem dX7_waiting_28 : decode cX7_waiting 28 = .ok (.getfield 41, 3) := by decide +kernel
theorem dX7_waiting_31 : decode cX7_waiting 31 = .ok (.aload_n 0, 1) := by decide +kernel
theorem dX7_waiting_32 : decode cX7_waiting 32 = .ok (.getfield 64, 3) := by decide +kernel
theorem dX7_waiting_35 : decode cX7_waiting 35 = .ok (.iload_n 1, 1) := by decide +kernel
theorem dX7_waiting_36 : decode cX7_waiting 36 = .ok (.iaload, 1) := by decide +kernel
theorem dX7_waiting_37 : decode cX7_waiting 37 = .ok (.iaload, 1) := by decide +kernel
theorem dX7_waiting_38 : decode cX7_waiting 38 = .ok (.goto 7, 3) := by decide +kernel
theorem dX7_waiting_41 : decode cX7_waiting 41 = .ok (.aload_n 0, 1) := by decide +kernel
theorem dX7_waiting_42 : decode cX7_waiting 42 = .ok (.invokevirtual 160, 3) := by decide +kernel
theorem dX7_waiting_45 : decode cX7_waiting 45 = .ok (.ireturn, 1) := by decide +kernel
theorem dX7_kind_0 : decode cX7_kind 0 = .ok (.aload_n 0, 1) := by decide +kernel
theorem dX7_kind_1 : decode cX7_kind 1 = .ok (.iconst 0, 1) := by decide +kernel
theorem dX7_kind_2 : decode cX7_kind 2 = .ok (.putfield 1, 3) := by decide +kernel
theorem dX7_kind_5 : decode cX7_kind 5 = .ok (.aload_n 0, 1) := by decide +kernel
theorem dX7_kind_6 : decode cX7_kind 6 = .ok (.iload_n 1, 1) := by decide +kernel
theorem dX7_kind_7 : decode cX7_kind 7 = .ok (.invokevirtual 136, 3) := by decide +kernel
theorem dX7_kind_10 : decode cX7_kind 10 = .ok (.ifCond .eq 8, 3) := by decide +kernel
theorem dX7_kind_13 : decode cX7_kind 13 = .ok (.aload_n 0, 1) := by decide +kernel
theorem dX7_kind_14 : decode cX7_kind 14 = .ok (.invokevirtual 139, 3) := by decide +kernel
theorem dX7_kind_17 : decode cX7_kind 17 = .ok (.ireturn, 1) := by decide +kernel
theorem dX7_kind_18 : decode cX7_kind 18 = .ok (.aload_n 0, 1) := by decide +kernel
theorem dX7_kind_19 : decode cX7_kind 19 = .ok (.getfield 64, 3) := by decide +kernel
theorem dX7_kind_22 : decode cX7_kind 22 = .ok (.iload_n 1, 1) := by decide +kernel
theorem dX7_kind_23 : decode cX7_kind 23 = .ok (.iaload, 1) := by decide +kernel
theorem dX7_kind_24 : decode cX7_kind 24 = .ok (.ifCond .ne 7, 3) := by decide +kernel
theorem dX7_kind_27 : decode cX7_kind 27 = .ok (.iconst (-1), 1) := by decide +kernel
theorem dX7_kind_28 : decode cX7_kind 28 = .ok (.goto 14, 3) := by decide +kernel
theorem dX7_kind_31 : decode cX7_kind 31 = .ok (.aload_n 0, 1) := by decide +kernel
theorem dX7_kind_32 : decode cX7_kind 32 = .ok (.getfield 13, 3) := by decide +kernel
theorem dX7_kind_35 : decode cX7_kind 35 = .ok (.aload_n 0, 1) := by decide +kernel
theorem dX7_kind_36 : decode cX7_kind 36 = .ok (.getfield 64, 3) := by decide +kernel
theorem dX7_kind_39 : decode cX7_kind 39 = .ok (.iload_n 1, 1) := by decide +kernel
theorem dX7_kind_40 : decode cX7_kind 40 = .ok (.iaload, 1) := by decide +kernel
theorem dX7_kind_41 : decode cX7_kind 41 = .ok (.iaload, 1) := by decide +kernel
theorem dX7_kind_42 : decode cX7_kind 42 = .ok (.ireturn, 1) := by decide +kernel
theorem dX7_hash_0 : decode cX7_hash 0 = .ok (.aload_n 0, 1) := by decide +kernel
theorem dX7_hash_1 : decode cX7_hash 1 = .ok (.iconst 0, 1) := by decide +kernel
theorem dX7_hash_2 : decode cX7_hash 2 = .ok (.putfield 1, 3) := by decide +kernel
theorem dX7_hash_5 : decode cX7_hash 5 = .ok (.aload_n 0, 1) := by decide +kernel
theorem dX7_hash_6 : decode cX7_hash 6 = .ok (.iload_n 1, 1) := by decide +kernel
theorem dX7_hash_7 : decode cX7_hash 7 = .ok (.invokevirtual 136, 3) := by decide +kernel
theorem dX7_hash_10 : decode cX7_hash 10 = .ok (.ifCond .eq 8, 3) := by decide +kernel
theorem dX7_hash_13 : decode cX7_hash 13 = .ok (.aload_n 0, 1) := by decide +kernel
theorem dX7_hash_14 : decode cX7_hash 14 = .ok (.invokevirtual 139, 3) := by decide +kernel
theorem dX7_hash_17 : decode cX7_hash 17 = .ok (.ireturn, 1) := by decide +kernel
theorem dX7_hash_18 : decode cX7_hash 18 = .ok (.aload_n 0, 1) := by decide +kernel
theorem dX7_hash_19 : decode cX7_hash 19 = .ok (.getfield 64, 3) := by decide +kernel
theorem dX7_hash_22 : decode cX7_hash 22 = .ok (.iload_n 1, 1) := by decide +kernel
theorem dX7_hash_23 : decode cX7_hash 23 = .ok (.iaload, 1) := by decide +kernel
theorem dX7_hash_24 : decode cX7_hash 24 = .ok (.istore_n 2, 1) := by decide +kernel
theorem dX7_hash_25 : decode cX7_hash 25 = .ok (.iload_n 2, 1) := by decide +kernel
theorem dX7_hash_26 : decode cX7_hash 26 = .ok (.ifCond .eq 29, 3) := by decide +kernel
theorem dX7_hash_29 : decode cX7_hash 29 = .ok (.aload_n 0, 1) := by decide +kernel
theorem dX7_hash_30 : decode cX7_hash 30 = .ok (.getfield 26, 3) := by decide +kernel
theorem dX7_hash_33 : decode cX7_hash 33 = .ok (.iload_n 2, 1) := by decide +kernel
theorem dX7_hash_34 : decode cX7_hash 34 = .ok (.iaload, 1) := by decide +kernel
theorem dX7_hash_35 : decode cX7_hash 35 = .ok (.ifCond .ne 20, 3) := by decide +kernel
theorem dX7_hash_38 : decode cX7_hash 38 = .ok (.aload_n 0, 1) := by decide +kernel
theorem dX7_hash_39 : decode cX7_hash 39 = .ok (.getfield 26, 3) := by decide +kernel
theorem dX7_hash_42 : decode cX7_hash 42 = .ok (.iload_n 2, 1) := by decide +kernel
theorem dX7_hash_43 : decode cX7_hash 43 = .ok (.aload_n 0, 1) := by decide +kernel
theorem dX7_hash_44 : decode cX7_hash 44 = .ok (.dup, 1) := by decide +kernel
theorem dX7_hash_45 : decode cX7_hash 45 = .ok (.getfield 179, 3) := by decide +kernel
theorem dX7_hash_48 : decode cX7_hash 48 = .ok (.iconst 1, 1) := by decide +kernel
theorem dX7_hash_49 : decode cX7_hash 49 = .ok (.iadd, 1) := by decide +kernel
theorem dX7_hash_50 : decode cX7_hash 50 = .ok (.dup_x1, 1) := by decide +kernel
theorem dX7_hash_51 : decode cX7_hash 51 = .ok (.putfield 179, 3) := by decide +kernel
theorem dX7_hash_54 : decode cX7_hash 54 = .ok (.iastore, 1) := by decide +kernel
theorem dX7_hash_55 : decode cX7_hash 55 = .ok (.iload_n 2, 1) := by decide +kernel
theorem dX7_hash_56 : decode cX7_hash 56 = .ok (.ifCond .ne 7, 3) := by decide +kernel
theorem dX7_hash_59 : decode cX7_hash 59 = .ok (.iconst 0, 1) := by decide +kernel
theorem dX7_hash_60 : decode cX7_hash 60 = .ok (.goto 9, 3) := by decide +kernel
theorem dX7_hash_63 : decode cX7_hash 63 = .ok (.aload_n 0, 1) := by decide +kernel
theorem dX7_hash_64 : decode cX7_hash 64 = .ok (.getfield 26, 3) := by decide +kernel
theorem dX7_hash_67 : decode cX7_hash 67 = .ok (.iload_n 2, 1) := by decide +kernel
theorem dX7_hash_68 : decode cX7_hash 68 = .ok (.iaload, 1) := by decide +kernel
theorem dX7_hash_69 : decode cX7_hash 69 = .ok (.ireturn, 1) := by decide +kernel
theorem dX7_same_0 : decode cX7_same 0 = .ok (.aload_n 0, 1) := by decide +kernel
theorem dX7_same_1 : decode cX7_same 1 = .ok (.iconst 0, 1) := by decide +kernel
theorem dX7_same_2 : decode cX7_same 2 = .ok (.putfield 1, 3) := by decide +kernel
theorem dX7_same_5 : decode cX7_same 5 = .ok (.aload_n 0, 1) := by decide +kernel
theorem dX7_same_6 : decode cX7_same 6 = .ok (.iload_n 1, 1) := by decide +kernel
theorem dX7_same_7 : decode cX7_same 7 = .ok (.invokevirtual 136, 3) := by decide +kernel
theorem dX7_same_10 : decode cX7_same 10 = .ok (.ifCond .ne 11, 3) := by decide +kernel
theorem dX7_same_13 : decode cX7_same 13 = .ok (.aload_n 0, 1) := by decide +kernel
theorem dX7_same_14 : decode cX7_same 14 = .ok (.iload_n 2, 1) := by decide +kernel
theorem dX7_same_15 : decode cX7_same 15 = .ok (.invokevirtual 136, 3) := by decide +kernel
theorem dX7_same_18 : decode cX7_same 18 = .ok (.ifCond .eq 10, 3) := by decide +kernel
theorem dX7_same_21 : decode cX7_same 21 = .ok (.aload_n 0, 1) := by decide +kernel
theorem dX7_same_22 : decode cX7_same 22 = .ok (.iconst 1, 1) := by decide +kernel
theorem dX7_same_23 : decode cX7_same 23 = .ok (.putfield 1, 3) := by decide +kernel
theorem dX7_same_26 : decode cX7_same 26 = .ok (.iconst 0, 1) := by decide +kernel
theorem dX7_same_27 : decode cX7_same 27 = .ok (.ireturn, 1) := by decide +kernel
theorem dX7_same_28 : decode cX7_same 28 = .ok (.aload_n 0, 1) := by decide +kernel
theorem dX7_same_29 : decode cX7_same 29 = .ok (.getfield 64, 3) := by decide +kernel
theorem dX7_same_32 : decode cX7_same 32 = .ok (.iload_n 1, 1) := by decide +kernel
theorem dX7_same_33 : decode cX7_same 33 = .ok (.iaload, 1) := by decide +kernel
theorem dX7_same_34 : decode cX7_same 34 = .ok (.aload_n 0, 1) := by decide +kernel
theorem dX7_same_35 : decode cX7_same 35 = .ok (.getfield 64, 3) := by decide +kernel
theorem dX7_same_38 : decode cX7_same 38 = .ok (.iload_n 2, 1) := by decide +kernel
theorem dX7_same_39 : decode cX7_same 39 = .ok (.iaload, 1) := by decide +kernel
theorem dX7_same_40 : decode cX7_same 40 = .ok (.if_icmp .ne 7, 3) := by decide +kernel
theorem dX7_same_43 : decode cX7_same 43 = .ok (.iconst 1, 1) := by decide +kernel
theorem dX7_same_44 : decode cX7_same 44 = .ok (.goto 4, 3) := by decide +kernel
theorem dX7_same_47 : decode cX7_same 47 = .ok (.iconst 0, 1) := by decide +kernel
theorem dX7_same_48 : decode cX7_same 48 = .ok (.ireturn, 1) := by decide +kernel
theorem dX7_open_0 : decode cX7_open 0 = .ok (.aload_n 0, 1) := by decide +kernel
theorem dX7_open_1 : decode cX7_open 1 = .ok (.iconst 0, 1) := by decide +kernel
theorem dX7_open_2 : decode cX7_open 2 = .ok (.putfield 1, 3) := by decide +kernel
theorem dX7_open_5 : decode cX7_open 5 = .ok (.iload_n 1, 1) := by decide +kernel
theorem dX7_open_6 : decode cX7_open 6 = .ok (.iconst 1, 1) := by decide +kernel
theorem dX7_open_7 : decode cX7_open 7 = .ok (.if_icmp .lt 9, 3) := by decide +kernel
theorem dX7_open_10 : decode cX7_open 10 = .ok (.iload_n 1, 1) := by decide +kernel
theorem dX7_open_11 : decode cX7_open 11 = .ok (.bipush 16, 2) := by decide +kernel
theorem dX7_open_13 : decode cX7_open 13 = .ok (.if_icmp .le 8, 3) := by decide +kernel
theorem dX7_open_16 : decode cX7_open 16 = .ok (.aload_n 0, 1) := by decide +kernel
theorem dX7_open_17 : decode cX7_open 17 = .ok (.invokevirtual 139, 3) := by decide +kernel
theorem dX7_open_20 : decode cX7_open 20 = .ok (.ireturn, 1) := by decide +kernel
theorem dX7_open_21 : decode cX7_open 21 = .ok (.aload_n 0, 1) := by decide +kernel
theorem dX7_open_22 : decode cX7_open 22 = .ok (.getfield 182, 3) := by decide +kernel
theorem dX7_open_25 : decode cX7_open 25 = .ok (.bipush 20, 2) := by decide +kernel
theorem dX7_open_27 : decode cX7_open 27 = .ok (.if_icmp .ne 8, 3) := by decide +kernel
theorem dX7_open_30 : decode cX7_open 30 = .ok (.aload_n 0, 1) := by decide +kernel
theorem dX7_open_31 : decode cX7_open 31 = .ok (.invokevirtual 160, 3) := by decide +kernel
theorem dX7_open_34 : decode cX7_open 34 = .ok (.ireturn, 1) := by decide +kernel
theorem dX7_open_35 : decode cX7_open 35 = .ok (.aload_n 0, 1) := by decide +kernel
theorem dX7_open_36 : decode cX7_open 36 = .ok (.getfield 67, 3) := by decide +kernel
theorem dX7_open_39 : decode cX7_open 39 = .ok (.aload_n 0, 1) := by decide +kernel
theorem dX7_open_40 : decode cX7_open 40 = .ok (.dup, 1) := by decide +kernel
theorem dX7_open_41 : decode cX7_open 41 = .ok (.getfield 182, 3) := by decide +kernel
theorem dX7_open_44 : decode cX7_open 44 = .ok (.dup_x1, 1) := by decide +kernel
theorem dX7_open_45 : decode cX7_open 45 = .ok (.iconst 1, 1) := by decide +kernel
theorem dX7_open_46 : decode cX7_open 46 = .ok (.iadd, 1) := by decide +kernel
theorem dX7_open_47 : decode cX7_open 47 = .ok (.putfield 182, 3) := by decide +kernel
theorem dX7_open_50 : decode cX7_open 50 = .ok (.aload_n 0, 1) := by decide +kernel
theorem dX7_open_51 : decode cX7_open 51 = .ok (.getfield 70, 3) := by decide +kernel
theorem dX7_open_54 : decode cX7_open 54 = .ok (.iastore, 1) := by decide +kernel
theorem dX7_open_55 : decode cX7_open 55 = .ok (.iconst 0, 1) := by decide +kernel
theorem dX7_open_56 : decode cX7_open 56 = .ok (.istore_n 2, 1) := by decide +kernel
theorem dX7_open_57 : decode cX7_open 57 = .ok (.iload_n 2, 1) := by decide +kernel
theorem dX7_open_58 : decode cX7_open 58 = .ok (.iload_n 1, 1) := by decide +kernel
theorem dX7_open_59 : decode cX7_open 59 = .ok (.if_icmp .ge 26, 3) := by decide +kernel
theorem dX7_open_62 : decode cX7_open 62 = .ok (.aload_n 0, 1) := by decide +kernel
theorem dX7_open_63 : decode cX7_open 63 = .ok (.getfield 64, 3) := by decide +kernel
theorem dX7_open_66 : decode cX7_open 66 = .ok (.aload_n 0, 1) := by decide +kernel
theorem dX7_open_67 : decode cX7_open 67 = .ok (.dup, 1) := by decide +kernel
theorem dX7_open_68 : decode cX7_open 68 = .ok (.getfield 70, 3) := by decide +kernel
theorem dX7_open_71 : decode cX7_open 71 = .ok (.dup_x1, 1) := by decide +kernel
theorem dX7_open_72 : decode cX7_open 72 = .ok (.iconst 1, 1) := by decide +kernel
theorem dX7_open_73 : decode cX7_open 73 = .ok (.iadd, 1) := by decide +kernel
theorem dX7_open_74 : decode cX7_open 74 = .ok (.putfield 70, 3) := by decide +kernel
theorem dX7_open_77 : decode cX7_open 77 = .ok (.iconst 0, 1) := by decide +kernel
theorem dX7_open_78 : decode cX7_open 78 = .ok (.iastore, 1) := by decide +kernel
theorem dX7_open_79 : decode cX7_open 79 = .ok (.iinc 2 1, 3) := by decide +kernel
theorem dX7_open_82 : decode cX7_open 82 = .ok (.goto (-25), 3) := by decide +kernel
theorem dX7_open_85 : decode cX7_open 85 = .ok (.aload_n 0, 1) := by decide +kernel
theorem dX7_open_86 : decode cX7_open 86 = .ok (.getfield 70, 3) := by decide +kernel
theorem dX7_open_89 : decode cX7_open 89 = .ok (.iload_n 1, 1) := by decide +kernel
theorem dX7_open_90 : decode cX7_open 90 = .ok (.isub, 1) := by decide +kernel
theorem dX7_open_91 : decode cX7_open 91 = .ok (.ireturn, 1) := by decide +kernel
theorem dX7_close_0 : decode cX7_close 0 = .ok (.aload_n 0, 1) := by decide +kernel
theorem dX7_close_1 : decode cX7_close 1 = .ok (.iconst 0, 1) := by decide +kernel
theorem dX7_close_2 : decode cX7_close 2 = .ok (.putfield 1, 3) := by decide +kernel
theorem dX7_close_5 : decode cX7_close 5 = .ok (.aload_n 0, 1) := by decide +kernel
theorem dX7_close_6 : decode cX7_close 6 = .ok (.getfield 182, 3) := by decide +kernel
theorem dX7_close_9 : decode cX7_close 9 = .ok (.ifCond .ne 10, 3) := by decide +kernel
theorem dX7_close_12 : decode cX7_close 12 = .ok (.aload_n 0, 1) := by decide +kernel
theorem dX7_close_13 : decode cX7_close 13 = .ok (.iconst 1, 1) := by decide +kernel
theorem dX7_close_14 : decode cX7_close 14 = .ok (.putfield 1, 3) := by decide +kernel
theorem dX7_close_17 : decode cX7_close 17 = .ok (.iconst 0, 1) := by decide +kernel
theorem dX7_close_18 : decode cX7_close 18 = .ok (.ireturn, 1) := by decide +kernel
theorem dX7_close_19 : decode cX7_close 19 = .ok (.aload_n 0, 1) := by decide +kernel
theorem dX7_close_20 : decode cX7_close 20 = .ok (.aload_n 0, 1) := by decide +kernel
theorem dX7_close_21 : decode cX7_close 21 = .ok (.getfield 67, 3) := by decide +kernel
theorem dX7_close_24 : decode cX7_close 24 = .ok (.aload_n 0, 1) := by decide +kernel
theorem dX7_close_25 : decode cX7_close 25 = .ok (.dup, 1) := by decide +kernel
theorem dX7_close_26 : decode cX7_close 26 = .ok (.getfield 182, 3) := by decide +kernel
theorem dX7_close_29 : decode cX7_close 29 = .ok (.iconst 1, 1) := by decide +kernel
theorem dX7_close_30 : decode cX7_close 30 = .ok (.isub, 1) := by decide +kernel
theorem dX7_close_31 : decode cX7_close 31 = .ok (.dup_x1, 1) := by decide +kernel
theorem dX7_close_32 : decode cX7_close 32 = .ok (.putfield 182, 3) := by decide +kernel
theorem dX7_close_35 : decode cX7_close 35 = .ok (.iaload, 1) := by decide +kernel
theorem dX7_close_36 : decode cX7_close 36 = .ok (.putfield 70, 3) := by decide +kernel
theorem dX7_close_39 : decode cX7_close 39 = .ok (.aload_n 0, 1) := by decide +kernel
theorem dX7_close_40 : decode cX7_close 40 = .ok (.getfield 70, 3) := by decide +kernel
theorem dX7_close_43 : decode cX7_close 43 = .ok (.ireturn, 1) := by decide +kernel
theorem dX7_collect_0 : decode cX7_collect 0 = .ok (.aload_n 0, 1) := by decide +kernel
theorem dX7_collect_1 : decode cX7_collect 1 = .ok (.iconst 0, 1) := by decide +kernel
theorem dX7_collect_2 : decode cX7_collect 2 = .ok (.putfield 1, 3) := by decide +kernel
theorem dX7_collect_5 : decode cX7_collect 5 = .ok (.aload_n 0, 1) := by decide +kernel
theorem dX7_collect_6 : decode cX7_collect 6 = .ok (.iload_n 1, 1) := by decide +kernel
theorem dX7_collect_7 : decode cX7_collect 7 = .ok (.invokevirtual 83, 3) := by decide +kernel
theorem dX7_collect_10 : decode cX7_collect 10 = .ok (.ireturn, 1) := by decide +kernel
theorem dX7_every_0 : decode cX7_every 0 = .ok (.aload_n 0, 1) := by decide +kernel
theorem dX7_every_1 : decode cX7_every 1 = .ok (.iconst 0, 1) := by decide +kernel
theorem dX7_every_2 : decode cX7_every 2 = .ok (.putfield 1, 3) := by decide +kernel
theorem dX7_every_5 : decode cX7_every 5 = .ok (.iload_n 1, 1) := by decide +kernel
theorem dX7_every_6 : decode cX7_every 6 = .ok (.ifCond .ge 10, 3) := by decide +kernel
theorem dX7_every_9 : decode cX7_every 9 = .ok (.aload_n 0, 1) := by decide +kernel
theorem dX7_every_10 : decode cX7_every 10 = .ok (.invokevirtual 139, 3) := by decide +kernel
theorem dX7_every_13 : decode cX7_every 13 = .ok (.goto 4, 3) := by decide +kernel
theorem dX7_every_16 : decode cX7_every 16 = .ok (.iload_n 1, 1) := by decide +kernel
theorem dX7_every_17 : decode cX7_every 17 = .ok (.ireturn, 1) := by decide +kernel
theorem dX7_count_0 : decode cX7_count 0 = .ok (.aload_n 0, 1) := by decide +kernel
theorem dX7_count_1 : decode cX7_count 1 = .ok (.iconst 0, 1) := by decide +kernel
theorem dX7_count_2 : decode cX7_count 2 = .ok (.putfield 1, 3) := by decide +kernel
theorem dX7_count_5 : decode cX7_count 5 = .ok (.iload_n 1, 1) := by decide +kernel
theorem dX7_count_6 : decode cX7_count 6 = .ok (.tableswitch 104 0 9 #[54, 59, 64, 69, 74, 79, 84, 89, 94, 99], 54) := by decide +kernel
theorem dX7_count_60 : decode cX7_count 60 = .ok (.aload_n 0, 1) := by decide +kernel
theorem dX7_count_61 : decode cX7_count 61 = .ok (.getfield 80, 3) := by decide +kernel
theorem dX7_count_64 : decode cX7_count 64 = .ok (.ireturn, 1) := by decide +kernel
theorem dX7_count_65 : decode cX7_count 65 = .ok (.aload_n 0, 1) := by decide +kernel
theorem dX7_count_66 : decode cX7_count 66 = .ok (.getfield 99, 3) := by decide +kernel
theorem dX7_count_69 : decode cX7_count 69 = .ok (.ireturn, 1) := by decide +kernel
theorem dX7_count_70 : decode cX7_count 70 = .ok (.aload_n 0, 1) := by decide +kernel
theorem dX7_count_71 : decode cX7_count 71 = .ok (.getfield 102, 3) := by decide +kernel
theorem dX7_count_74 : decode cX7_count 74 = .ok (.ireturn, 1) := by decide +kernel
theorem dX7_count_75 : decode cX7_count 75 = .ok (.aload_n 0, 1) := by decide +kernel
theorem dX7_count_76 : decode cX7_count 76 = .ok (.getfield 115, 3) := by decide +kernel
theorem dX7_count_79 : decode cX7_count 79 = .ok (.ireturn, 1) := by decide +kernel
theorem dX7_count_80 : decode cX7_count 80 = .ok (.aload_n 0, 1) := by decide +kernel
theorem dX7_count_81 : decode cX7_count 81 = .ok (.getfield 133, 3) := by decide +kernel
theorem dX7_count_84 : decode cX7_count 84 = .ok (.ireturn, 1) := by decide +kernel
theorem dX7_count_85 : decode cX7_count 85 = .ok (.aload_n 0, 1) := by decide +kernel
theorem dX7_count_86 : decode cX7_count 86 = .ok (.getfield 122, 3) := by decide +kernel
theorem dX7_count_89 : decode cX7_count 89 = .ok (.ireturn, 1) := by decide +kernel
theorem dX7_count_90 : decode cX7_count 90 = .ok (.aload_n 0, 1) := by decide +kernel
theorem dX7_count_91 : decode cX7_count 91 = .ok (.getfield 105, 3) := by decide +kernel
theorem dX7_count_94 : decode cX7_count 94 = .ok (.ireturn, 1) := by decide +kernel
theorem dX7_count_95 : decode cX7_count 95 = .ok (.aload_n 0, 1) := by decide +kernel
theorem dX7_count_96 : decode cX7_count 96 = .ok (.getfield 70, 3) := by decide +kernel
theorem dX7_count_99 : decode cX7_count 99 = .ok (.ireturn, 1) := by decide +kernel
theorem dX7_count_100 : decode cX7_count 100 = .ok (.aload_n 0, 1) := by decide +kernel
theorem dX7_count_101 : decode cX7_count 101 = .ok (.getfield 179, 3) := by decide +kernel
theorem dX7_count_104 : decode cX7_count 104 = .ok (.ireturn, 1) := by decide +kernel
theorem dX7_count_105 : decode cX7_count 105 = .ok (.aload_n 0, 1) := by decide +kernel
theorem dX7_count_106 : decode cX7_count 106 = .ok (.getfield 87, 3) := by decide +kernel
theorem dX7_count_109 : decode cX7_count 109 = .ok (.ireturn, 1) := by decide +kernel
theorem dX7_count_110 : decode cX7_count 110 = .ok (.aload_n 0, 1) := by decide +kernel
theorem dX7_count_111 : decode cX7_count 111 = .ok (.invokevirtual 139, 3) := by decide +kernel
theorem dX7_count_114 : decode cX7_count 114 = .ok (.ireturn, 1) := by decide +kernel
theorem dX7_digest_0 : decode cX7_digest 0 = .ok (.aload_n 0, 1) := by decide +kernel
theorem dX7_digest_1 : decode cX7_digest 1 = .ok (.iconst 0, 1) := by decide +kernel
theorem dX7_digest_2 : decode cX7_digest 2 = .ok (.putfield 1, 3) := by decide +kernel
theorem dX7_digest_5 : decode cX7_digest 5 = .ok (.aload_n 0, 1) := by decide +kernel
theorem dX7_digest_6 : decode cX7_digest 6 = .ok (.iload_n 1, 1) := by decide +kernel
theorem dX7_digest_7 : decode cX7_digest 7 = .ok (.invokevirtual 136, 3) := by decide +kernel
theorem dX7_digest_10 : decode cX7_digest 10 = .ok (.ifCond .eq 9, 3) := by decide +kernel
theorem dX7_digest_13 : decode cX7_digest 13 = .ok (.aload_n 0, 1) := by decide +kernel
theorem dX7_digest_14 : decode cX7_digest 14 = .ok (.invokevirtual 139, 3) := by decide +kernel
theorem dX7_digest_17 : decode cX7_digest 17 = .ok (.i2l, 1) := by decide +kernel
theorem dX7_digest_18 : decode cX7_digest 18 = .ok (.lreturn, 1) := by decide +kernel
theorem dX7_digest_19 : decode cX7_digest 19 = .ok (.ldc2_w 185, 3) := by decide +kernel
theorem dX7_digest_22 : decode cX7_digest 22 = .ok (.lstore_n 2, 1) := by decide +kernel
theorem dX7_digest_23 : decode cX7_digest 23 = .ok (.aload_n 0, 1) := by decide +kernel
theorem dX7_digest_24 : decode cX7_digest 24 = .ok (.getfield 64, 3) := by decide +kernel
theorem dX7_digest_27 : decode cX7_digest 27 = .ok (.iload_n 1, 1) := by decide +kernel
theorem dX7_digest_28 : decode cX7_digest 28 = .ok (.iaload, 1) := by decide +kernel
theorem dX7_digest_29 : decode cX7_digest 29 = .ok (.ifCond .ne 5, 3) := by decide +kernel
theorem dX7_digest_32 : decode cX7_digest 32 = .ok (.lload_n 2, 1) := by decide +kernel
theorem dX7_digest_33 : decode cX7_digest 33 = .ok (.lreturn, 1) := by decide +kernel
theorem dX7_digest_34 : decode cX7_digest 34 = .ok (.iconst 1, 1) := by decide +kernel
theorem dX7_digest_35 : decode cX7_digest 35 = .ok (.istore 4, 2) := by decide +kernel
theorem dX7_digest_37 : decode cX7_digest 37 = .ok (.iload 4, 2) := by decide +kernel
theorem dX7_digest_39 : decode cX7_digest 39 = .ok (.aload_n 0, 1) := by decide +kernel
theorem dX7_digest_40 : decode cX7_digest 40 = .ok (.getfield 61, 3) := by decide +kernel
theorem dX7_digest_43 : decode cX7_digest 43 = .ok (.if_icmp .ge 17, 3) := by decide +kernel
theorem dX7_digest_46 : decode cX7_digest 46 = .ok (.aload_n 0, 1) := by decide +kernel
theorem dX7_digest_47 : decode cX7_digest 47 = .ok (.getfield 54, 3) := by decide +kernel
theorem dX7_digest_50 : decode cX7_digest 50 = .ok (.iload 4, 2) := by decide +kernel
theorem dX7_digest_52 : decode cX7_digest 52 = .ok (.iconst 0, 1) := by decide +kernel
theorem dX7_digest_53 : decode cX7_digest 53 = .ok (.iastore, 1) := by decide +kernel
theorem dX7_digest_54 : decode cX7_digest 54 = .ok (.iinc 4 1, 3) := by decide +kernel
theorem dX7_digest_57 : decode cX7_digest 57 = .ok (.goto (-20), 3) := by decide +kernel
theorem dX7_digest_60 : decode cX7_digest 60 = .ok (.iconst 0, 1) := by decide +kernel
theorem dX7_digest_61 : decode cX7_digest 61 = .ok (.istore 4, 2) := by decide +kernel
theorem dX7_digest_63 : decode cX7_digest 63 = .ok (.aload_n 0, 1) := by decide +kernel
theorem dX7_digest_64 : decode cX7_digest 64 = .ok (.getfield 51, 3) := by decide +kernel
theorem dX7_digest_67 : decode cX7_digest 67 = .ok (.iload 4, 2) := by decide +kernel
theorem dX7_digest_69 : decode cX7_digest 69 = .ok (.iinc 4 1, 3) := by decide +kernel
theorem dX7_digest_72 : decode cX7_digest 72 = .ok (.aload_n 0, 1) := by decide +kernel
theorem dX7_digest_73 : decode cX7_digest 73 = .ok (.getfield 64, 3) := by decide +kernel
theorem dX7_digest_76 : decode cX7_digest 76 = .ok (.iload_n 1, 1) := by decide +kernel
theorem dX7_digest_77 : decode cX7_digest 77 = .ok (.iaload, 1) := by decide +kernel
theorem dX7_digest_78 : decode cX7_digest 78 = .ok (.iastore, 1) := by decide +kernel
theorem dX7_digest_79 : decode cX7_digest 79 = .ok (.aload_n 0, 1) := by decide +kernel
theorem dX7_digest_80 : decode cX7_digest 80 = .ok (.getfield 54, 3) := by decide +kernel
theorem dX7_digest_83 : decode cX7_digest 83 = .ok (.aload_n 0, 1) := by decide +kernel
theorem dX7_digest_84 : decode cX7_digest 84 = .ok (.getfield 64, 3) := by decide +kernel
theorem dX7_digest_87 : decode cX7_digest 87 = .ok (.iload_n 1, 1) := by decide +kernel
theorem dX7_digest_88 : decode cX7_digest 88 = .ok (.iaload, 1) := by decide +kernel
theorem dX7_digest_89 : decode cX7_digest 89 = .ok (.iload 4, 2) := by decide +kernel
theorem dX7_digest_91 : decode cX7_digest 91 = .ok (.iastore, 1) := by decide +kernel
theorem dX7_digest_92 : decode cX7_digest 92 = .ok (.iconst 0, 1) := by decide +kernel
theorem dX7_digest_93 : decode cX7_digest 93 = .ok (.istore 5, 2) := by decide +kernel
theorem dX7_digest_95 : decode cX7_digest 95 = .ok (.iload 5, 2) := by decide +kernel
theorem dX7_digest_97 : decode cX7_digest 97 = .ok (.iload 4, 2) := by decide +kernel
theorem dX7_digest_99 : decode cX7_digest 99 = .ok (.if_icmp .ge 213, 3) := by decide +kernel
theorem dX7_digest_102 : decode cX7_digest 102 = .ok (.aload_n 0, 1) := by decide +kernel
theorem dX7_digest_103 : decode cX7_digest 103 = .ok (.getfield 51, 3) := by decide +kernel
theorem dX7_digest_106 : decode cX7_digest 106 = .ok (.iload 5, 2) := by decide +kernel
theorem dX7_digest_108 : decode cX7_digest 108 = .ok (.iaload, 1) := by decide +kernel
theorem dX7_digest_109 : decode cX7_digest 109 = .ok (.istore 6, 2) := by decide +kernel
theorem dX7_digest_111 : decode cX7_digest 111 = .ok (.ldc2_w 187, 3) := by decide +kernel
theorem dX7_digest_114 : decode cX7_digest 114 = .ok (.lload_n 2, 1) := by decide +kernel
theorem dX7_digest_115 : decode cX7_digest 115 = .ok (.lmul, 1) := by decide +kernel
theorem dX7_digest_116 : decode cX7_digest 116 = .ok (.aload_n 0, 1) := by decide +kernel
theorem dX7_digest_117 : decode cX7_digest 117 = .ok (.getfield 13, 3) := by decide +kernel
theorem dX7_digest_120 : decode cX7_digest 120 = .ok (.iload 6, 2) := by decide +kernel
theorem dX7_digest_122 : decode cX7_digest 122 = .ok (.iaload, 1) := by decide +kernel
theorem dX7_digest_123 : decode cX7_digest 123 = .ok (.i2l, 1) := by decide +kernel
theorem dX7_digest_124 : decode cX7_digest 124 = .ok (.ladd, 1) := by decide +kernel
theorem dX7_digest_125 : decode cX7_digest 125 = .ok (.lstore_n 2, 1) := by decide +kernel
theorem dX7_digest_126 : decode cX7_digest 126 = .ok (.ldc2_w 187, 3) := by decide +kernel
theorem dX7_digest_129 : decode cX7_digest 129 = .ok (.lload_n 2, 1) := by decide +kernel
theorem dX7_digest_130 : decode cX7_digest 130 = .ok (.lmul, 1) := by decide +kernel
theorem dX7_digest_131 : decode cX7_digest 131 = .ok (.aload_n 0, 1) := by decide +kernel
theorem dX7_digest_132 : decode cX7_digest 132 = .ok (.getfield 20, 3) := by decide +kernel
theorem dX7_digest_135 : decode cX7_digest 135 = .ok (.iload 6, 2) := by decide +kernel
theorem dX7_digest_137 : decode cX7_digest 137 = .ok (.iaload, 1) := by decide +kernel
theorem dX7_digest_138 : decode cX7_digest 138 = .ok (.i2l, 1) := by decide +kernel
theorem dX7_digest_139 : decode cX7_digest 139 = .ok (.ladd, 1) := by decide +kernel
theorem dX7_digest_140 : decode cX7_digest 140 = .ok (.lstore_n 2, 1) := by decide +kernel
theorem dX7_digest_141 : decode cX7_digest 141 = .ok (.iconst 0, 1) := by decide +kernel
theorem dX7_digest_142 : decode cX7_digest 142 = .ok (.istore 7, 2) := by decide +kernel
theorem dX7_digest_144 : decode cX7_digest 144 = .ok (.iload 7, 2) := by decide +kernel
theorem dX7_digest_146 : decode cX7_digest 146 = .ok (.aload_n 0, 1) := by decide +kernel
theorem dX7_digest_147 : decode cX7_digest 147 = .ok (.getfield 20, 3) := by decide +kernel
theorem dX7_digest_150 : decode cX7_digest 150 = .ok (.iload 6, 2) := by decide +kernel
theorem dX7_digest_152 : decode cX7_digest 152 = .ok (.iaload, 1) := by decide +kernel
theorem dX7_digest_153 : decode cX7_digest 153 = .ok (.if_icmp .ge 87, 3) := by decide +kernel
theorem dX7_digest_156 : decode cX7_digest 156 = .ok (.aload_n 0, 1) := by decide +kernel
theorem dX7_digest_157 : decode cX7_digest 157 = .ok (.getfield 57, 3) := by decide +kernel
theorem dX7_digest_160 : decode cX7_digest 160 = .ok (.aload_n 0, 1) := by decide +kernel
theorem dX7_digest_161 : decode cX7_digest 161 = .ok (.getfield 17, 3) := by decide +kernel
theorem dX7_digest_164 : decode cX7_digest 164 = .ok (.iload 6, 2) := by decide +kernel
theorem dX7_digest_166 : decode cX7_digest 166 = .ok (.iaload, 1) := by decide +kernel
theorem dX7_digest_167 : decode cX7_digest 167 = .ok (.iload 7, 2) := by decide +kernel
theorem dX7_digest_169 : decode cX7_digest 169 = .ok (.iadd, 1) := by decide +kernel
theorem dX7_digest_170 : decode cX7_digest 170 = .ok (.laload, 1) := by decide +kernel
theorem dX7_digest_171 : decode cX7_digest 171 = .ok (.l2i, 1) := by decide +kernel
theorem dX7_digest_172 : decode cX7_digest 172 = .ok (.istore 8, 2) := by decide +kernel
theorem dX7_digest_174 : decode cX7_digest 174 = .ok (.iload 8, 2) := by decide +kernel
theorem dX7_digest_176 : decode cX7_digest 176 = .ok (.ifCond .eq 34, 3) := by decide +kernel
theorem dX7_digest_179 : decode cX7_digest 179 = .ok (.aload_n 0, 1) := by decide +kernel
theorem dX7_digest_180 : decode cX7_digest 180 = .ok (.getfield 54, 3) := by decide +kernel
theorem dX7_digest_183 : decode cX7_digest 183 = .ok (.iload 8, 2) := by decide +kernel
theorem dX7_digest_185 : decode cX7_digest 185 = .ok (.iaload, 1) := by decide +kernel
theorem dX7_digest_186 : decode cX7_digest 186 = .ok (.ifCond .ne 24, 3) := by decide +kernel
theorem dX7_digest_189 : decode cX7_digest 189 = .ok (.aload_n 0, 1) := by decide +kernel
theorem dX7_digest_190 : decode cX7_digest 190 = .ok (.getfield 51, 3) := by decide +kernel
theorem dX7_digest_193 : decode cX7_digest 193 = .ok (.iload 4, 2) := by decide +kernel
theorem dX7_digest_195 : decode cX7_digest 195 = .ok (.iinc 4 1, 3) := by decide +kernel
theorem dX7_digest_198 : decode cX7_digest 198 = .ok (.iload 8, 2) := by decide +kernel
theorem dX7_digest_200 : decode cX7_digest 200 = .ok (.iastore, 1) := by decide +kernel
theorem dX7_digest_201 : decode cX7_digest 201 = .ok (.aload_n 0, 1) := by decide +kernel
theorem dX7_digest_202 : decode cX7_digest 202 = .ok (.getfield 54, 3) := by decide +kernel
theorem dX7_digest_205 : decode cX7_digest 205 = .ok (.iload 8, 2) := by decide +kernel
theorem dX7_digest_207 : decode cX7_digest 207 = .ok (.iload 4, 2) := by decide +kernel
theorem dX7_digest_209 : decode cX7_digest 209 = .ok (.iastore, 1) := by decide +kernel
theorem dX7_digest_210 : decode cX7_digest 210 = .ok (.ldc2_w 187, 3) := by decide +kernel
theorem dX7_digest_213 : decode cX7_digest 213 = .ok (.lload_n 2, 1) := by decide +kernel
theorem dX7_digest_214 : decode cX7_digest 214 = .ok (.lmul, 1) := by decide +kernel
theorem dX7_digest_215 : decode cX7_digest 215 = .ok (.iload 8, 2) := by decide +kernel
theorem dX7_digest_217 : decode cX7_digest 217 = .ok (.ifCond .ne 7, 3) := by decide +kernel
theorem dX7_digest_220 : decode cX7_digest 220 = .ok (.iconst 0, 1) := by decide +kernel
theorem dX7_digest_221 : decode cX7_digest 221 = .ok (.goto 10, 3) := by decide +kernel
theorem dX7_digest_224 : decode cX7_digest 224 = .ok (.aload_n 0, 1) := by decide +kernel
theorem dX7_digest_225 : decode cX7_digest 225 = .ok (.getfield 54, 3) := by decide +kernel
theorem dX7_digest_228 : decode cX7_digest 228 = .ok (.iload 8, 2) := by decide +kernel
theorem dX7_digest_230 : decode cX7_digest 230 = .ok (.iaload, 1) := by decide +kernel
theorem dX7_digest_231 : decode cX7_digest 231 = .ok (.i2l, 1) := by decide +kernel
theorem dX7_digest_232 : decode cX7_digest 232 = .ok (.ladd, 1) := by decide +kernel
theorem dX7_digest_233 : decode cX7_digest 233 = .ok (.lstore_n 2, 1) := by decide +kernel
theorem dX7_digest_234 : decode cX7_digest 234 = .ok (.iinc 7 1, 3) := by decide +kernel
theorem dX7_digest_237 : decode cX7_digest 237 = .ok (.goto (-93), 3) := by decide +kernel
theorem dX7_digest_240 : decode cX7_digest 240 = .ok (.ldc2_w 187, 3) := by decide +kernel
theorem dX7_digest_243 : decode cX7_digest 243 = .ok (.lload_n 2, 1) := by decide +kernel
theorem dX7_digest_244 : decode cX7_digest 244 = .ok (.lmul, 1) := by decide +kernel
theorem dX7_digest_245 : decode cX7_digest 245 = .ok (.aload_n 0, 1) := by decide +kernel
theorem dX7_digest_246 : decode cX7_digest 246 = .ok (.getfield 23, 3) := by decide +kernel
theorem dX7_digest_249 : decode cX7_digest 249 = .ok (.iload 6, 2) := by decide +kernel
theorem dX7_digest_251 : decode cX7_digest 251 = .ok (.iaload, 1) := by decide +kernel
theorem dX7_digest_252 : decode cX7_digest 252 = .ok (.i2l, 1) := by decide +kernel
theorem dX7_digest_253 : decode cX7_digest 253 = .ok (.ladd, 1) := by decide +kernel
theorem dX7_digest_254 : decode cX7_digest 254 = .ok (.lstore_n 2, 1) := by decide +kernel
theorem dX7_digest_255 : decode cX7_digest 255 = .ok (.iconst 0, 1) := by decide +kernel
theorem dX7_digest_256 : decode cX7_digest 256 = .ok (.istore 7, 2) := by decide +kernel
theorem dX7_digest_258 : decode cX7_digest 258 = .ok (.iload 7, 2) := by decide +kernel
theorem dX7_digest_260 : decode cX7_digest 260 = .ok (.aload_n 0, 1) := by decide +kernel
theorem dX7_digest_261 : decode cX7_digest 261 = .ok (.getfield 23, 3) := by decide +kernel
theorem dX7_digest_264 : decode cX7_digest 264 = .ok (.iload 6, 2) := by decide +kernel
theorem dX7_digest_266 : decode cX7_digest 266 = .ok (.iaload, 1) := by decide +kernel
theorem dX7_digest_267 : decode cX7_digest 267 = .ok (.if_icmp .ge 39, 3) := by decide +kernel
theorem dX7_digest_270 : decode cX7_digest 270 = .ok (.ldc2_w 187, 3) := by decide +kernel
theorem dX7_digest_273 : decode cX7_digest 273 = .ok (.lload_n 2, 1) := by decide +kernel
theorem dX7_digest_274 : decode cX7_digest 274 = .ok (.lmul, 1) := by decide +kernel
theorem dX7_digest_275 : decode cX7_digest 275 = .ok (.aload_n 0, 1) := by decide +kernel
theorem dX7_digest_276 : decode cX7_digest 276 = .ok (.getfield 57, 3) := by decide +kernel
theorem dX7_digest_279 : decode cX7_digest 279 = .ok (.aload_n 0, 1) := by decide +kernel
theorem dX7_digest_280 : decode cX7_digest 280 = .ok (.getfield 17, 3) := by decide +kernel
theorem dX7_digest_283 : decode cX7_digest 283 = .ok (.iload 6, 2) := by decide +kernel
theorem dX7_digest_285 : decode cX7_digest 285 = .ok (.iaload, 1) := by decide +kernel
theorem dX7_digest_286 : decode cX7_digest 286 = .ok (.aload_n 0, 1) := by decide +kernel
theorem dX7_digest_287 : decode cX7_digest 287 = .ok (.getfield 20, 3) := by decide +kernel
theorem dX7_digest_290 : decode cX7_digest 290 = .ok (.iload 6, 2) := by decide +kernel
theorem dX7_digest_292 : decode cX7_digest 292 = .ok (.iaload, 1) := by decide +kernel
theorem dX7_digest_293 : decode cX7_digest 293 = .ok (.iadd, 1) := by decide +kernel
theorem dX7_digest_294 : decode cX7_digest 294 = .ok (.iload 7, 2) := by decide +kernel
theorem dX7_digest_296 : decode cX7_digest 296 = .ok (.iadd, 1) := by decide +kernel
theorem dX7_digest_297 : decode cX7_digest 297 = .ok (.laload, 1) := by decide +kernel
theorem dX7_digest_298 : decode cX7_digest 298 = .ok (.ladd, 1) := by decide +kernel
theorem dX7_digest_299 : decode cX7_digest 299 = .ok (.lstore_n 2, 1) := by decide +kernel
theorem dX7_digest_300 : decode cX7_digest 300 = .ok (.iinc 7 1, 3) := by decide +kernel
theorem dX7_digest_303 : decode cX7_digest 303 = .ok (.goto (-45), 3) := by decide +kernel
theorem dX7_digest_306 : decode cX7_digest 306 = .ok (.iinc 5 1, 3) := by decide +kernel
theorem dX7_digest_309 : decode cX7_digest 309 = .ok (.goto (-214), 3) := by decide +kernel
theorem dX7_digest_312 : decode cX7_digest 312 = .ok (.lload_n 2, 1) := by decide +kernel
theorem dX7_digest_313 : decode cX7_digest 313 = .ok (.lreturn, 1) := by decide +kernel
theorem dL_cell_0 : decode cL_cell 0 = .ok (.iload_n 1, 1) := by decide +kernel
theorem dL_cell_1 : decode cL_cell 1 = .ok (.aload_n 0, 1) := by decide +kernel
theorem dL_cell_2 : decode cL_cell 2 = .ok (.arraylength, 1) := by decide +kernel
theorem dL_cell_3 : decode cL_cell 3 = .ok (.if_icmp .ge 9, 3) := by decide +kernel
theorem dL_cell_6 : decode cL_cell 6 = .ok (.aload_n 0, 1) := by decide +kernel
theorem dL_cell_7 : decode cL_cell 7 = .ok (.iload_n 1, 1) := by decide +kernel
theorem dL_cell_8 : decode cL_cell 8 = .ok (.iaload, 1) := by decide +kernel
theorem dL_cell_9 : decode cL_cell 9 = .ok (.goto 4, 3) := by decide +kernel
theorem dL_cell_12 : decode cL_cell 12 = .ok (.iconst 0, 1) := by decide +kernel
theorem dL_cell_13 : decode cL_cell 13 = .ok (.ireturn, 1) := by decide +kernel
theorem dL_plain_0 : decode cL_plain 0 = .ok (.aload 4, 2) := by decide +kernel
theorem dL_plain_2 : decode cL_plain 2 = .ok (.iconst 0, 1) := by decide +kernel
theorem dL_plain_3 : decode cL_plain 3 = .ok (.aload_n 0, 1) := by decide +kernel
theorem dL_plain_4 : decode cL_plain 4 = .ok (.iload_n 1, 1) := by decide +kernel
theorem dL_plain_5 : decode cL_plain 5 = .ok (.iload_n 2, 1) := by decide +kernel
theorem dL_plain_6 : decode cL_plain 6 = .ok (.iload_n 3, 1) := by decide +kernel
theorem dL_plain_7 : decode cL_plain 7 = .ok (.invokevirtual 7, 3) := by decide +kernel
theorem dL_plain_10 : decode cL_plain 10 = .ok (.i2l, 1) := by decide +kernel
theorem dL_plain_11 : decode cL_plain 11 = .ok (.lastore, 1) := by decide +kernel
theorem dL_plain_12 : decode cL_plain 12 = .ok (.goto 7, 3) := by decide +kernel
theorem dL_plain_15 : decode cL_plain 15 = .ok (.astore 5, 2) := by decide +kernel
theorem dL_plain_17 : decode cL_plain 17 = .ok (.iconst 1, 1) := by decide +kernel
theorem dL_plain_18 : decode cL_plain 18 = .ok (.ireturn, 1) := by decide +kernel
theorem dL_plain_19 : decode cL_plain 19 = .ok (.iconst 0, 1) := by decide +kernel
theorem dL_plain_20 : decode cL_plain 20 = .ok (.ireturn, 1) := by decide +kernel
theorem dL_row_0 : decode cL_row 0 = .ok (.aload 4, 2) := by decide +kernel
theorem dL_row_2 : decode cL_row 2 = .ok (.iconst 0, 1) := by decide +kernel
theorem dL_row_3 : decode cL_row 3 = .ok (.aload_n 0, 1) := by decide +kernel
theorem dL_row_4 : decode cL_row 4 = .ok (.iload_n 1, 1) := by decide +kernel
theorem dL_row_5 : decode cL_row 5 = .ok (.iload_n 2, 1) := by decide +kernel
theorem dL_row_6 : decode cL_row 6 = .ok (.iload_n 3, 1) := by decide +kernel
theorem dL_row_7 : decode cL_row 7 = .ok (.invokevirtual 15, 3) := by decide +kernel
theorem dL_row_10 : decode cL_row 10 = .ok (.i2l, 1) := by decide +kernel
theorem dL_row_11 : decode cL_row 11 = .ok (.lastore, 1) := by decide +kernel
theorem dL_row_12 : decode cL_row 12 = .ok (.goto 7, 3) := by decide +kernel
theorem dL_row_15 : decode cL_row 15 = .ok (.astore 5, 2) := by decide +kernel
theorem dL_row_17 : decode cL_row 17 = .ok (.iconst 1, 1) := by decide +kernel
theorem dL_row_18 : decode cL_row 18 = .ok (.ireturn, 1) := by decide +kernel
theorem dL_row_19 : decode cL_row 19 = .ok (.iconst 0, 1) := by decide +kernel
theorem dL_row_20 : decode cL_row 20 = .ok (.ireturn, 1) := by decide +kernel
theorem dL_queue_0 : decode cL_queue 0 = .ok (.aload_n 2, 1) := by decide +kernel
theorem dL_queue_1 : decode cL_queue 1 = .ok (.iconst 0, 1) := by decide +kernel
theorem dL_queue_2 : decode cL_queue 2 = .ok (.aload_n 0, 1) := by decide +kernel
theorem dL_queue_3 : decode cL_queue 3 = .ok (.iload_n 1, 1) := by decide +kernel
theorem dL_queue_4 : decode cL_queue 4 = .ok (.invokevirtual 19, 3) := by decide +kernel
theorem dL_queue_7 : decode cL_queue 7 = .ok (.i2l, 1) := by decide +kernel
theorem dL_queue_8 : decode cL_queue 8 = .ok (.lastore, 1) := by decide +kernel
theorem dL_queue_9 : decode cL_queue 9 = .ok (.goto 6, 3) := by decide +kernel
theorem dL_queue_12 : decode cL_queue 12 = .ok (.astore_n 3, 1) := by decide +kernel
theorem dL_queue_13 : decode cL_queue 13 = .ok (.iconst 1, 1) := by decide +kernel
theorem dL_queue_14 : decode cL_queue 14 = .ok (.ireturn, 1) := by decide +kernel
theorem dL_queue_15 : decode cL_queue 15 = .ok (.iconst 0, 1) := by decide +kernel
theorem dL_queue_16 : decode cL_queue 16 = .ok (.ireturn, 1) := by decide +kernel
theorem dL_loose_0 : decode cL_loose 0 = .ok (.aload 5, 2) := by decide +kernel
theorem dL_loose_2 : decode cL_loose 2 = .ok (.iconst 0, 1) := by decide +kernel
theorem dL_loose_3 : decode cL_loose 3 = .ok (.aload_n 0, 1) := by decide +kernel
theorem dL_loose_4 : decode cL_loose 4 = .ok (.iload_n 1, 1) := by decide +kernel
theorem dL_loose_5 : decode cL_loose 5 = .ok (.iload_n 2, 1) := by decide +kernel
theorem dL_loose_6 : decode cL_loose 6 = .ok (.iload_n 3, 1) := by decide +kernel
theorem dL_loose_7 : decode cL_loose 7 = .ok (.iload 4, 2) := by decide +kernel
theorem dL_loose_9 : decode cL_loose 9 = .ok (.invokevirtual 23, 3) := by decide +kernel
theorem dL_loose_12 : decode cL_loose 12 = .ok (.i2l, 1) := by decide +kernel
theorem dL_loose_13 : decode cL_loose 13 = .ok (.lastore, 1) := by decide +kernel
theorem dL_loose_14 : decode cL_loose 14 = .ok (.goto 11, 3) := by decide +kernel
theorem dL_loose_17 : decode cL_loose 17 = .ok (.astore 6, 2) := by decide +kernel
theorem dL_loose_19 : decode cL_loose 19 = .ok (.iconst 1, 1) := by decide +kernel
theorem dL_loose_20 : decode cL_loose 20 = .ok (.ireturn, 1) := by decide +kernel
theorem dL_loose_21 : decode cL_loose 21 = .ok (.astore 6, 2) := by decide +kernel
theorem dL_loose_23 : decode cL_loose 23 = .ok (.iconst 2, 1) := by decide +kernel
theorem dL_loose_24 : decode cL_loose 24 = .ok (.ireturn, 1) := by decide +kernel
theorem dL_loose_25 : decode cL_loose 25 = .ok (.iconst 0, 1) := by decide +kernel
theorem dL_loose_26 : decode cL_loose 26 = .ok (.ireturn, 1) := by decide +kernel
theorem dL_pair_0 : decode cL_pair 0 = .ok (.aload 5, 2) := by decide +kernel
theorem dL_pair_2 : decode cL_pair 2 = .ok (.iconst 0, 1) := by decide +kernel
theorem dL_pair_3 : decode cL_pair 3 = .ok (.aload_n 0, 1) := by decide +kernel
theorem dL_pair_4 : decode cL_pair 4 = .ok (.iload_n 1, 1) := by decide +kernel
theorem dL_pair_5 : decode cL_pair 5 = .ok (.iload_n 2, 1) := by decide +kernel
theorem dL_pair_6 : decode cL_pair 6 = .ok (.iload_n 3, 1) := by decide +kernel
theorem dL_pair_7 : decode cL_pair 7 = .ok (.iload 4, 2) := by decide +kernel
theorem dL_pair_9 : decode cL_pair 9 = .ok (.invokevirtual 29, 3) := by decide +kernel
theorem dL_pair_12 : decode cL_pair 12 = .ok (.i2l, 1) := by decide +kernel
theorem dL_pair_13 : decode cL_pair 13 = .ok (.lastore, 1) := by decide +kernel
theorem dL_pair_14 : decode cL_pair 14 = .ok (.goto 11, 3) := by decide +kernel
theorem dL_pair_17 : decode cL_pair 17 = .ok (.astore 6, 2) := by decide +kernel
theorem dL_pair_19 : decode cL_pair 19 = .ok (.iconst 1, 1) := by decide +kernel
theorem dL_pair_20 : decode cL_pair 20 = .ok (.ireturn, 1) := by decide +kernel
theorem dL_pair_21 : decode cL_pair 21 = .ok (.astore 6, 2) := by decide +kernel
theorem dL_pair_23 : decode cL_pair 23 = .ok (.iconst 2, 1) := by decide +kernel
theorem dL_pair_24 : decode cL_pair 24 = .ok (.ireturn, 1) := by decide +kernel
theorem dL_pair_25 : decode cL_pair 25 = .ok (.iconst 0, 1) := by decide +kernel
theorem dL_pair_26 : decode cL_pair 26 = .ok (.ireturn, 1) := by decide +kernel
theorem dL_copy_0 : decode cL_copy 0 = .ok (.aload_n 3, 1) := by decide +kernel
theorem dL_copy_1 : decode cL_copy 1 = .ok (.iconst 0, 1) := by decide +kernel
theorem dL_copy_2 : decode cL_copy 2 = .ok (.aload_n 0, 1) := by decide +kernel
theorem dL_copy_3 : decode cL_copy 3 = .ok (.iload_n 1, 1) := by decide +kernel
theorem dL_copy_4 : decode cL_copy 4 = .ok (.iload_n 2, 1) := by decide +kernel
theorem dL_copy_5 : decode cL_copy 5 = .ok (.invokevirtual 32, 3) := by decide +kernel
theorem dL_copy_8 : decode cL_copy 8 = .ok (.i2l, 1) := by decide +kernel
theorem dL_copy_9 : decode cL_copy 9 = .ok (.lastore, 1) := by decide +kernel
theorem dL_copy_10 : decode cL_copy 10 = .ok (.goto 7, 3) := by decide +kernel
theorem dL_copy_13 : decode cL_copy 13 = .ok (.astore 4, 2) := by decide +kernel
theorem dL_copy_15 : decode cL_copy 15 = .ok (.iconst 1, 1) := by decide +kernel
theorem dL_copy_16 : decode cL_copy 16 = .ok (.ireturn, 1) := by decide +kernel
theorem dL_copy_17 : decode cL_copy 17 = .ok (.iconst 0, 1) := by decide +kernel
theorem dL_copy_18 : decode cL_copy 18 = .ok (.ireturn, 1) := by decide +kernel
theorem dL_link_0 : decode cL_link 0 = .ok (.aload 4, 2) := by decide +kernel
theorem dL_link_2 : decode cL_link 2 = .ok (.iconst 0, 1) := by decide +kernel
theorem dL_link_3 : decode cL_link 3 = .ok (.aload_n 0, 1) := by decide +kernel
theorem dL_link_4 : decode cL_link 4 = .ok (.iload_n 1, 1) := by decide +kernel
theorem dL_link_5 : decode cL_link 5 = .ok (.iload_n 2, 1) := by decide +kernel
theorem dL_link_6 : decode cL_link 6 = .ok (.iload_n 3, 1) := by decide +kernel
theorem dL_link_7 : decode cL_link 7 = .ok (.invokevirtual 36, 3) := by decide +kernel
theorem dL_link_10 : decode cL_link 10 = .ok (.i2l, 1) := by decide +kernel
theorem dL_link_11 : decode cL_link 11 = .ok (.lastore, 1) := by decide +kernel
theorem dL_link_12 : decode cL_link 12 = .ok (.goto 11, 3) := by decide +kernel
theorem dL_link_15 : decode cL_link 15 = .ok (.astore 5, 2) := by decide +kernel
theorem dL_link_17 : decode cL_link 17 = .ok (.iconst 1, 1) := by decide +kernel
theorem dL_link_18 : decode cL_link 18 = .ok (.ireturn, 1) := by decide +kernel
theorem dL_link_19 : decode cL_link 19 = .ok (.astore 5, 2) := by decide +kernel
theorem dL_link_21 : decode cL_link 21 = .ok (.iconst 2, 1) := by decide +kernel
theorem dL_link_22 : decode cL_link 22 = .ok (.ireturn, 1) := by decide +kernel
theorem dL_link_23 : decode cL_link 23 = .ok (.iconst 0, 1) := by decide +kernel
theorem dL_link_24 : decode cL_link 24 = .ok (.ireturn, 1) := by decide +kernel
theorem dL_fetch_0 : decode cL_fetch 0 = .ok (.aload 4, 2) := by decide +kernel
theorem dL_fetch_2 : decode cL_fetch 2 = .ok (.iconst 0, 1) := by decide +kernel
theorem dL_fetch_3 : decode cL_fetch 3 = .ok (.aload_n 0, 1) := by decide +kernel
theorem dL_fetch_4 : decode cL_fetch 4 = .ok (.iload_n 1, 1) := by decide +kernel
theorem dL_fetch_5 : decode cL_fetch 5 = .ok (.iload_n 2, 1) := by decide +kernel
theorem dL_fetch_6 : decode cL_fetch 6 = .ok (.iload_n 3, 1) := by decide +kernel
theorem dL_fetch_7 : decode cL_fetch 7 = .ok (.invokevirtual 39, 3) := by decide +kernel
theorem dL_fetch_10 : decode cL_fetch 10 = .ok (.i2l, 1) := by decide +kernel
theorem dL_fetch_11 : decode cL_fetch 11 = .ok (.lastore, 1) := by decide +kernel
theorem dL_fetch_12 : decode cL_fetch 12 = .ok (.goto 11, 3) := by decide +kernel
theorem dL_fetch_15 : decode cL_fetch 15 = .ok (.astore 5, 2) := by decide +kernel
theorem dL_fetch_17 : decode cL_fetch 17 = .ok (.iconst 1, 1) := by decide +kernel
theorem dL_fetch_18 : decode cL_fetch 18 = .ok (.ireturn, 1) := by decide +kernel
theorem dL_fetch_19 : decode cL_fetch 19 = .ok (.astore 5, 2) := by decide +kernel
theorem dL_fetch_21 : decode cL_fetch 21 = .ok (.iconst 2, 1) := by decide +kernel
theorem dL_fetch_22 : decode cL_fetch 22 = .ok (.ireturn, 1) := by decide +kernel
theorem dL_fetch_23 : decode cL_fetch 23 = .ok (.iconst 0, 1) := by decide +kernel
theorem dL_fetch_24 : decode cL_fetch 24 = .ok (.ireturn, 1) := by decide +kernel
theorem dL_set_0 : decode cL_set 0 = .ok (.aload 5, 2) := by decide +kernel
theorem dL_set_2 : decode cL_set 2 = .ok (.iconst 0, 1) := by decide +kernel
theorem dL_set_3 : decode cL_set 3 = .ok (.aload_n 0, 1) := by decide +kernel
theorem dL_set_4 : decode cL_set 4 = .ok (.iload_n 1, 1) := by decide +kernel
theorem dL_set_5 : decode cL_set 5 = .ok (.iload_n 2, 1) := by decide +kernel
theorem dL_set_6 : decode cL_set 6 = .ok (.lload_n 3, 1) := by decide +kernel
theorem dL_set_7 : decode cL_set 7 = .ok (.invokevirtual 42, 3) := by decide +kernel
theorem dL_set_10 : decode cL_set 10 = .ok (.lastore, 1) := by decide +kernel
theorem dL_set_11 : decode cL_set 11 = .ok (.goto 11, 3) := by decide +kernel
theorem dL_set_14 : decode cL_set 14 = .ok (.astore 6, 2) := by decide +kernel
theorem dL_set_16 : decode cL_set 16 = .ok (.iconst 1, 1) := by decide +kernel
theorem dL_set_17 : decode cL_set 17 = .ok (.ireturn, 1) := by decide +kernel
theorem dL_set_18 : decode cL_set 18 = .ok (.astore 6, 2) := by decide +kernel
theorem dL_set_20 : decode cL_set 20 = .ok (.iconst 2, 1) := by decide +kernel
theorem dL_set_21 : decode cL_set 21 = .ok (.ireturn, 1) := by decide +kernel
theorem dL_set_22 : decode cL_set 22 = .ok (.iconst 0, 1) := by decide +kernel
theorem dL_set_23 : decode cL_set 23 = .ok (.ireturn, 1) := by decide +kernel
theorem dL_get_0 : decode cL_get 0 = .ok (.aload_n 3, 1) := by decide +kernel
theorem dL_get_1 : decode cL_get 1 = .ok (.iconst 0, 1) := by decide +kernel
theorem dL_get_2 : decode cL_get 2 = .ok (.aload_n 0, 1) := by decide +kernel
theorem dL_get_3 : decode cL_get 3 = .ok (.iload_n 1, 1) := by decide +kernel
theorem dL_get_4 : decode cL_get 4 = .ok (.iload_n 2, 1) := by decide +kernel
theorem dL_get_5 : decode cL_get 5 = .ok (.invokevirtual 46, 3) := by decide +kernel
theorem dL_get_8 : decode cL_get 8 = .ok (.lastore, 1) := by decide +kernel
theorem dL_get_9 : decode cL_get 9 = .ok (.goto 11, 3) := by decide +kernel
theorem dL_get_12 : decode cL_get 12 = .ok (.astore 4, 2) := by decide +kernel
theorem dL_get_14 : decode cL_get 14 = .ok (.iconst 1, 1) := by decide +kernel
theorem dL_get_15 : decode cL_get 15 = .ok (.ireturn, 1) := by decide +kernel
theorem dL_get_16 : decode cL_get 16 = .ok (.astore 4, 2) := by decide +kernel
theorem dL_get_18 : decode cL_get 18 = .ok (.iconst 2, 1) := by decide +kernel
theorem dL_get_19 : decode cL_get 19 = .ok (.ireturn, 1) := by decide +kernel
theorem dL_get_20 : decode cL_get 20 = .ok (.iconst 0, 1) := by decide +kernel
theorem dL_get_21 : decode cL_get 21 = .ok (.ireturn, 1) := by decide +kernel
theorem dL_referent_0 : decode cL_referent 0 = .ok (.aload 4, 2) := by decide +kernel
theorem dL_referent_2 : decode cL_referent 2 = .ok (.iconst 0, 1) := by decide +kernel
theorem dL_referent_3 : decode cL_referent 3 = .ok (.aload_n 0, 1) := by decide +kernel
theorem dL_referent_4 : decode cL_referent 4 = .ok (.iload_n 1, 1) := by decide +kernel
theorem dL_referent_5 : decode cL_referent 5 = .ok (.iload_n 2, 1) := by decide +kernel
theorem dL_referent_6 : decode cL_referent 6 = .ok (.iload_n 3, 1) := by decide +kernel
theorem dL_referent_7 : decode cL_referent 7 = .ok (.invokevirtual 50, 3) := by decide +kernel
theorem dL_referent_10 : decode cL_referent 10 = .ok (.i2l, 1) := by decide +kernel
theorem dL_referent_11 : decode cL_referent 11 = .ok (.lastore, 1) := by decide +kernel
theorem dL_referent_12 : decode cL_referent 12 = .ok (.goto 11, 3) := by decide +kernel
theorem dL_referent_15 : decode cL_referent 15 = .ok (.astore 5, 2) := by decide +kernel
theorem dL_referent_17 : decode cL_referent 17 = .ok (.iconst 1, 1) := by decide +kernel
theorem dL_referent_18 : decode cL_referent 18 = .ok (.ireturn, 1) := by decide +kernel
theorem dL_referent_19 : decode cL_referent 19 = .ok (.astore 5, 2) := by decide +kernel
theorem dL_referent_21 : decode cL_referent 21 = .ok (.iconst 2, 1) := by decide +kernel
theorem dL_referent_22 : decode cL_referent 22 = .ok (.ireturn, 1) := by decide +kernel
theorem dL_referent_23 : decode cL_referent 23 = .ok (.iconst 0, 1) := by decide +kernel
theorem dL_referent_24 : decode cL_referent 24 = .ok (.ireturn, 1) := by decide +kernel
theorem dL_give_0 : decode cL_give 0 = .ok (.aload_n 3, 1) := by decide +kernel
theorem dL_give_1 : decode cL_give 1 = .ok (.iconst 0, 1) := by decide +kernel
theorem dL_give_2 : decode cL_give 2 = .ok (.aload_n 0, 1) := by decide +kernel
theorem dL_give_3 : decode cL_give 3 = .ok (.iload_n 1, 1) := by decide +kernel
theorem dL_give_4 : decode cL_give 4 = .ok (.iload_n 2, 1) := by decide +kernel
theorem dL_give_5 : decode cL_give 5 = .ok (.invokevirtual 53, 3) := by decide +kernel
theorem dL_give_8 : decode cL_give 8 = .ok (.i2l, 1) := by decide +kernel
theorem dL_give_9 : decode cL_give 9 = .ok (.lastore, 1) := by decide +kernel
theorem dL_give_10 : decode cL_give 10 = .ok (.goto 11, 3) := by decide +kernel
theorem dL_give_13 : decode cL_give 13 = .ok (.astore 4, 2) := by decide +kernel
theorem dL_give_15 : decode cL_give 15 = .ok (.iconst 1, 1) := by decide +kernel
theorem dL_give_16 : decode cL_give 16 = .ok (.ireturn, 1) := by decide +kernel
theorem dL_give_17 : decode cL_give 17 = .ok (.astore 4, 2) := by decide +kernel
theorem dL_give_19 : decode cL_give 19 = .ok (.iconst 2, 1) := by decide +kernel
theorem dL_give_20 : decode cL_give 20 = .ok (.ireturn, 1) := by decide +kernel
theorem dL_give_21 : decode cL_give 21 = .ok (.iconst 0, 1) := by decide +kernel
theorem dL_give_22 : decode cL_give 22 = .ok (.ireturn, 1) := by decide +kernel
theorem dL_clear_0 : decode cL_clear 0 = .ok (.aload_n 3, 1) := by decide +kernel
theorem dL_clear_1 : decode cL_clear 1 = .ok (.iconst 0, 1) := by decide +kernel
theorem dL_clear_2 : decode cL_clear 2 = .ok (.aload_n 0, 1) := by decide +kernel
theorem dL_clear_3 : decode cL_clear 3 = .ok (.iload_n 1, 1) := by decide +kernel
theorem dL_clear_4 : decode cL_clear 4 = .ok (.iload_n 2, 1) := by decide +kernel
theorem dL_clear_5 : decode cL_clear 5 = .ok (.invokevirtual 56, 3) := by decide +kernel
theorem dL_clear_8 : decode cL_clear 8 = .ok (.i2l, 1) := by decide +kernel
theorem dL_clear_9 : decode cL_clear 9 = .ok (.lastore, 1) := by decide +kernel
theorem dL_clear_10 : decode cL_clear 10 = .ok (.goto 11, 3) := by decide +kernel
theorem dL_clear_13 : decode cL_clear 13 = .ok (.astore 4, 2) := by decide +kernel
theorem dL_clear_15 : decode cL_clear 15 = .ok (.iconst 1, 1) := by decide +kernel
theorem dL_clear_16 : decode cL_clear 16 = .ok (.ireturn, 1) := by decide +kernel
theorem dL_clear_17 : decode cL_clear 17 = .ok (.astore 4, 2) := by decide +kernel
theorem dL_clear_19 : decode cL_clear 19 = .ok (.iconst 2, 1) := by decide +kernel
theorem dL_clear_20 : decode cL_clear 20 = .ok (.ireturn, 1) := by decide +kernel
theorem dL_clear_21 : decode cL_clear 21 = .ok (.iconst 0, 1) := by decide +kernel
theorem dL_clear_22 : decode cL_clear 22 = .ok (.ireturn, 1) := by decide +kernel
theorem dL_poll_0 : decode cL_poll 0 = .ok (.aload_n 3, 1) := by decide +kernel
theorem dL_poll_1 : decode cL_poll 1 = .ok (.iconst 0, 1) := by decide +kernel
theorem dL_poll_2 : decode cL_poll 2 = .ok (.aload_n 0, 1) := by decide +kernel
theorem dL_poll_3 : decode cL_poll 3 = .ok (.iload_n 1, 1) := by decide +kernel
theorem dL_poll_4 : decode cL_poll 4 = .ok (.iload_n 2, 1) := by decide +kernel
theorem dL_poll_5 : decode cL_poll 5 = .ok (.invokevirtual 60, 3) := by decide +kernel
theorem dL_poll_8 : decode cL_poll 8 = .ok (.i2l, 1) := by decide +kernel
theorem dL_poll_9 : decode cL_poll 9 = .ok (.lastore, 1) := by decide +kernel
theorem dL_poll_10 : decode cL_poll 10 = .ok (.goto 11, 3) := by decide +kernel
theorem dL_poll_13 : decode cL_poll 13 = .ok (.astore 4, 2) := by decide +kernel
theorem dL_poll_15 : decode cL_poll 15 = .ok (.iconst 1, 1) := by decide +kernel
theorem dL_poll_16 : decode cL_poll 16 = .ok (.ireturn, 1) := by decide +kernel
theorem dL_poll_17 : decode cL_poll 17 = .ok (.astore 4, 2) := by decide +kernel
theorem dL_poll_19 : decode cL_poll 19 = .ok (.iconst 2, 1) := by decide +kernel
theorem dL_poll_20 : decode cL_poll 20 = .ok (.ireturn, 1) := by decide +kernel
theorem dL_poll_21 : decode cL_poll 21 = .ok (.iconst 0, 1) := by decide +kernel
theorem dL_poll_22 : decode cL_poll 22 = .ok (.ireturn, 1) := by decide +kernel
theorem dL_waiting_0 : decode cL_waiting 0 = .ok (.aload_n 2, 1) := by decide +kernel
theorem dL_waiting_1 : decode cL_waiting 1 = .ok (.iconst 0, 1) := by decide +kernel
theorem dL_waiting_2 : decode cL_waiting 2 = .ok (.aload_n 0, 1) := by decide +kernel
theorem dL_waiting_3 : decode cL_waiting 3 = .ok (.iload_n 1, 1) := by decide +kernel
theorem dL_waiting_4 : decode cL_waiting 4 = .ok (.invokevirtual 63, 3) := by decide +kernel
theorem dL_waiting_7 : decode cL_waiting 7 = .ok (.i2l, 1) := by decide +kernel
theorem dL_waiting_8 : decode cL_waiting 8 = .ok (.lastore, 1) := by decide +kernel
theorem dL_waiting_9 : decode cL_waiting 9 = .ok (.goto 9, 3) := by decide +kernel
theorem dL_waiting_12 : decode cL_waiting 12 = .ok (.astore_n 3, 1) := by decide +kernel
theorem dL_waiting_13 : decode cL_waiting 13 = .ok (.iconst 1, 1) := by decide +kernel
theorem dL_waiting_14 : decode cL_waiting 14 = .ok (.ireturn, 1) := by decide +kernel
theorem dL_waiting_15 : decode cL_waiting 15 = .ok (.astore_n 3, 1) := by decide +kernel
theorem dL_waiting_16 : decode cL_waiting 16 = .ok (.iconst 2, 1) := by decide +kernel
theorem dL_waiting_17 : decode cL_waiting 17 = .ok (.ireturn, 1) := by decide +kernel
theorem dL_waiting_18 : decode cL_waiting 18 = .ok (.iconst 0, 1) := by decide +kernel
theorem dL_waiting_19 : decode cL_waiting 19 = .ok (.ireturn, 1) := by decide +kernel
theorem dL_kind_0 : decode cL_kind 0 = .ok (.aload_n 2, 1) := by decide +kernel
theorem dL_kind_1 : decode cL_kind 1 = .ok (.iconst 0, 1) := by decide +kernel
theorem dL_kind_2 : decode cL_kind 2 = .ok (.aload_n 0, 1) := by decide +kernel
theorem dL_kind_3 : decode cL_kind 3 = .ok (.iload_n 1, 1) := by decide +kernel
theorem dL_kind_4 : decode cL_kind 4 = .ok (.invokevirtual 66, 3) := by decide +kernel
theorem dL_kind_7 : decode cL_kind 7 = .ok (.i2l, 1) := by decide +kernel
theorem dL_kind_8 : decode cL_kind 8 = .ok (.lastore, 1) := by decide +kernel
theorem dL_kind_9 : decode cL_kind 9 = .ok (.goto 6, 3) := by decide +kernel
theorem dL_kind_12 : decode cL_kind 12 = .ok (.astore_n 3, 1) := by decide +kernel
theorem dL_kind_13 : decode cL_kind 13 = .ok (.iconst 1, 1) := by decide +kernel
theorem dL_kind_14 : decode cL_kind 14 = .ok (.ireturn, 1) := by decide +kernel
theorem dL_kind_15 : decode cL_kind 15 = .ok (.iconst 0, 1) := by decide +kernel
theorem dL_kind_16 : decode cL_kind 16 = .ok (.ireturn, 1) := by decide +kernel
theorem dL_hash_0 : decode cL_hash 0 = .ok (.aload_n 2, 1) := by decide +kernel
theorem dL_hash_1 : decode cL_hash 1 = .ok (.iconst 0, 1) := by decide +kernel
theorem dL_hash_2 : decode cL_hash 2 = .ok (.aload_n 0, 1) := by decide +kernel
theorem dL_hash_3 : decode cL_hash 3 = .ok (.iload_n 1, 1) := by decide +kernel
theorem dL_hash_4 : decode cL_hash 4 = .ok (.invokevirtual 69, 3) := by decide +kernel
theorem dL_hash_7 : decode cL_hash 7 = .ok (.i2l, 1) := by decide +kernel
theorem dL_hash_8 : decode cL_hash 8 = .ok (.lastore, 1) := by decide +kernel
theorem dL_hash_9 : decode cL_hash 9 = .ok (.goto 6, 3) := by decide +kernel
theorem dL_hash_12 : decode cL_hash 12 = .ok (.astore_n 3, 1) := by decide +kernel
theorem dL_hash_13 : decode cL_hash 13 = .ok (.iconst 1, 1) := by decide +kernel
theorem dL_hash_14 : decode cL_hash 14 = .ok (.ireturn, 1) := by decide +kernel
theorem dL_hash_15 : decode cL_hash 15 = .ok (.iconst 0, 1) := by decide +kernel
theorem dL_hash_16 : decode cL_hash 16 = .ok (.ireturn, 1) := by decide +kernel
theorem dL_same_0 : decode cL_same 0 = .ok (.aload_n 3, 1) := by decide +kernel
theorem dL_same_1 : decode cL_same 1 = .ok (.iconst 0, 1) := by decide +kernel
theorem dL_same_2 : decode cL_same 2 = .ok (.aload_n 0, 1) := by decide +kernel
theorem dL_same_3 : decode cL_same 3 = .ok (.iload_n 1, 1) := by decide +kernel
theorem dL_same_4 : decode cL_same 4 = .ok (.iload_n 2, 1) := by decide +kernel
theorem dL_same_5 : decode cL_same 5 = .ok (.invokevirtual 72, 3) := by decide +kernel
theorem dL_same_8 : decode cL_same 8 = .ok (.ifCond .eq 7, 3) := by decide +kernel
theorem dL_same_11 : decode cL_same 11 = .ok (.lconst 1, 1) := by decide +kernel
theorem dL_same_12 : decode cL_same 12 = .ok (.goto 4, 3) := by decide +kernel
theorem dL_same_15 : decode cL_same 15 = .ok (.lconst 0, 1) := by decide +kernel
theorem dL_same_16 : decode cL_same 16 = .ok (.lastore, 1) := by decide +kernel
theorem dL_same_17 : decode cL_same 17 = .ok (.goto 7, 3) := by decide +kernel
theorem dL_same_20 : decode cL_same 20 = .ok (.astore 4, 2) := by decide +kernel
theorem dL_same_22 : decode cL_same 22 = .ok (.iconst 1, 1) := by decide +kernel
theorem dL_same_23 : decode cL_same 23 = .ok (.ireturn, 1) := by decide +kernel
theorem dL_same_24 : decode cL_same 24 = .ok (.iconst 0, 1) := by decide +kernel
theorem dL_same_25 : decode cL_same 25 = .ok (.ireturn, 1) := by decide +kernel
theorem dL_open_0 : decode cL_open 0 = .ok (.aload_n 2, 1) := by decide +kernel
theorem dL_open_1 : decode cL_open 1 = .ok (.iconst 0, 1) := by decide +kernel
theorem dL_open_2 : decode cL_open 2 = .ok (.aload_n 0, 1) := by decide +kernel
theorem dL_open_3 : decode cL_open 3 = .ok (.iload_n 1, 1) := by decide +kernel
theorem dL_open_4 : decode cL_open 4 = .ok (.invokevirtual 76, 3) := by decide +kernel
theorem dL_open_7 : decode cL_open 7 = .ok (.i2l, 1) := by decide +kernel
theorem dL_open_8 : decode cL_open 8 = .ok (.lastore, 1) := by decide +kernel
theorem dL_open_9 : decode cL_open 9 = .ok (.goto 9, 3) := by decide +kernel
theorem dL_open_12 : decode cL_open 12 = .ok (.astore_n 3, 1) := by decide +kernel
theorem dL_open_13 : decode cL_open 13 = .ok (.iconst 1, 1) := by decide +kernel
theorem dL_open_14 : decode cL_open 14 = .ok (.ireturn, 1) := by decide +kernel
theorem dL_open_15 : decode cL_open 15 = .ok (.astore_n 3, 1) := by decide +kernel
theorem dL_open_16 : decode cL_open 16 = .ok (.iconst 2, 1) := by decide +kernel
theorem dL_open_17 : decode cL_open 17 = .ok (.ireturn, 1) := by decide +kernel
theorem dL_open_18 : decode cL_open 18 = .ok (.iconst 0, 1) := by decide +kernel
theorem dL_open_19 : decode cL_open 19 = .ok (.ireturn, 1) := by decide +kernel
theorem dL_close_0 : decode cL_close 0 = .ok (.aload_n 1, 1) := by decide +kernel
theorem dL_close_1 : decode cL_close 1 = .ok (.iconst 0, 1) := by decide +kernel
theorem dL_close_2 : decode cL_close 2 = .ok (.aload_n 0, 1) := by decide +kernel
theorem dL_close_3 : decode cL_close 3 = .ok (.invokevirtual 79, 3) := by decide +kernel
theorem dL_close_6 : decode cL_close 6 = .ok (.i2l, 1) := by decide +kernel
theorem dL_close_7 : decode cL_close 7 = .ok (.lastore, 1) := by decide +kernel
theorem dL_close_8 : decode cL_close 8 = .ok (.goto 6, 3) := by decide +kernel
theorem dL_close_11 : decode cL_close 11 = .ok (.astore_n 2, 1) := by decide +kernel
theorem dL_close_12 : decode cL_close 12 = .ok (.iconst 1, 1) := by decide +kernel
theorem dL_close_13 : decode cL_close 13 = .ok (.ireturn, 1) := by decide +kernel
theorem dL_close_14 : decode cL_close 14 = .ok (.iconst 0, 1) := by decide +kernel
theorem dL_close_15 : decode cL_close 15 = .ok (.ireturn, 1) := by decide +kernel
theorem dL_every_0 : decode cL_every 0 = .ok (.aload_n 2, 1) := by decide +kernel
theorem dL_every_1 : decode cL_every 1 = .ok (.iconst 0, 1) := by decide +kernel
theorem dL_every_2 : decode cL_every 2 = .ok (.aload_n 0, 1) := by decide +kernel
theorem dL_every_3 : decode cL_every 3 = .ok (.iload_n 1, 1) := by decide +kernel
theorem dL_every_4 : decode cL_every 4 = .ok (.invokevirtual 83, 3) := by decide +kernel
theorem dL_every_7 : decode cL_every 7 = .ok (.i2l, 1) := by decide +kernel
theorem dL_every_8 : decode cL_every 8 = .ok (.lastore, 1) := by decide +kernel
theorem dL_every_9 : decode cL_every 9 = .ok (.goto 6, 3) := by decide +kernel
theorem dL_every_12 : decode cL_every 12 = .ok (.astore_n 3, 1) := by decide +kernel
theorem dL_every_13 : decode cL_every 13 = .ok (.iconst 1, 1) := by decide +kernel
theorem dL_every_14 : decode cL_every 14 = .ok (.ireturn, 1) := by decide +kernel
theorem dL_every_15 : decode cL_every 15 = .ok (.iconst 0, 1) := by decide +kernel
theorem dL_every_16 : decode cL_every 16 = .ok (.ireturn, 1) := by decide +kernel
theorem dL_count_0 : decode cL_count 0 = .ok (.aload_n 2, 1) := by decide +kernel
theorem dL_count_1 : decode cL_count 1 = .ok (.iconst 0, 1) := by decide +kernel
theorem dL_count_2 : decode cL_count 2 = .ok (.aload_n 0, 1) := by decide +kernel
theorem dL_count_3 : decode cL_count 3 = .ok (.iload_n 1, 1) := by decide +kernel
theorem dL_count_4 : decode cL_count 4 = .ok (.invokevirtual 86, 3) := by decide +kernel
theorem dL_count_7 : decode cL_count 7 = .ok (.i2l, 1) := by decide +kernel
theorem dL_count_8 : decode cL_count 8 = .ok (.lastore, 1) := by decide +kernel
theorem dL_count_9 : decode cL_count 9 = .ok (.goto 6, 3) := by decide +kernel
theorem dL_count_12 : decode cL_count 12 = .ok (.astore_n 3, 1) := by decide +kernel
theorem dL_count_13 : decode cL_count 13 = .ok (.iconst 1, 1) := by decide +kernel
theorem dL_count_14 : decode cL_count 14 = .ok (.ireturn, 1) := by decide +kernel
theorem dL_count_15 : decode cL_count 15 = .ok (.iconst 0, 1) := by decide +kernel
theorem dL_count_16 : decode cL_count 16 = .ok (.ireturn, 1) := by decide +kernel
theorem dL_digest_0 : decode cL_digest 0 = .ok (.aload_n 2, 1) := by decide +kernel
theorem dL_digest_1 : decode cL_digest 1 = .ok (.iconst 0, 1) := by decide +kernel
theorem dL_digest_2 : decode cL_digest 2 = .ok (.aload_n 0, 1) := by decide +kernel
theorem dL_digest_3 : decode cL_digest 3 = .ok (.iload_n 1, 1) := by decide +kernel
theorem dL_digest_4 : decode cL_digest 4 = .ok (.invokevirtual 89, 3) := by decide +kernel
theorem dL_digest_7 : decode cL_digest 7 = .ok (.lastore, 1) := by decide +kernel
theorem dL_digest_8 : decode cL_digest 8 = .ok (.goto 6, 3) := by decide +kernel
theorem dL_digest_11 : decode cL_digest 11 = .ok (.astore_n 3, 1) := by decide +kernel
theorem dL_digest_12 : decode cL_digest 12 = .ok (.iconst 1, 1) := by decide +kernel
theorem dL_digest_13 : decode cL_digest 13 = .ok (.ireturn, 1) := by decide +kernel
theorem dL_digest_14 : decode cL_digest 14 = .ok (.iconst 0, 1) := by decide +kernel
theorem dL_digest_15 : decode cL_digest 15 = .ok (.ireturn, 1) := by decide +kernel
theorem dL_law_0 : decode cL_law 0 = .ok (.new 8, 3) := by decide +kernel
theorem dL_law_3 : decode cL_law 3 = .ok (.dup, 1) := by decide +kernel
theorem dL_law_4 : decode cL_law 4 = .ok (.aload_n 0, 1) := by decide +kernel
theorem dL_law_5 : decode cL_law 5 = .ok (.iconst 0, 1) := by decide +kernel
theorem dL_law_6 : decode cL_law 6 = .ok (.invokestatic 93, 3) := by decide +kernel
theorem dL_law_9 : decode cL_law 9 = .ok (.aload_n 0, 1) := by decide +kernel
theorem dL_law_10 : decode cL_law 10 = .ok (.iconst 1, 1) := by decide +kernel
theorem dL_law_11 : decode cL_law 11 = .ok (.invokestatic 93, 3) := by decide +kernel
theorem dL_law_14 : decode cL_law 14 = .ok (.invokespecial 99, 3) := by decide +kernel
theorem dL_law_17 : decode cL_law 17 = .ok (.astore_n 1, 1) := by decide +kernel
theorem dL_law_18 : decode cL_law 18 = .ok (.new 102, 3) := by decide +kernel
theorem dL_law_21 : decode cL_law 21 = .ok (.dup, 1) := by decide +kernel
theorem dL_law_22 : decode cL_law 22 = .ok (.aload_n 0, 1) := by decide +kernel
theorem dL_law_23 : decode cL_law 23 = .ok (.iconst 0, 1) := by decide +kernel
theorem dL_law_24 : decode cL_law 24 = .ok (.invokestatic 93, 3) := by decide +kernel
theorem dL_law_27 : decode cL_law 27 = .ok (.aload_n 0, 1) := by decide +kernel
theorem dL_law_28 : decode cL_law 28 = .ok (.iconst 1, 1) := by decide +kernel
theorem dL_law_29 : decode cL_law 29 = .ok (.invokestatic 93, 3) := by decide +kernel
theorem dL_law_32 : decode cL_law 32 = .ok (.invokespecial 104, 3) := by decide +kernel
theorem dL_law_35 : decode cL_law 35 = .ok (.astore_n 2, 1) := by decide +kernel
theorem dL_law_36 : decode cL_law 36 = .ok (.iconst 1, 1) := by decide +kernel
theorem dL_law_37 : decode cL_law 37 = .ok (.newarray .long, 2) := by decide +kernel
theorem dL_law_39 : decode cL_law 39 = .ok (.astore_n 3, 1) := by decide +kernel
theorem dL_law_40 : decode cL_law 40 = .ok (.iconst 2, 1) := by decide +kernel
theorem dL_law_41 : decode cL_law 41 = .ok (.istore 4, 2) := by decide +kernel
theorem dL_law_43 : decode cL_law 43 = .ok (.iload 4, 2) := by decide +kernel
theorem dL_law_45 : decode cL_law 45 = .ok (.aload_n 0, 1) := by decide +kernel
theorem dL_law_46 : decode cL_law 46 = .ok (.arraylength, 1) := by decide +kernel
theorem dL_law_47 : decode cL_law 47 = .ok (.iconst 5, 1) := by decide +kernel
theorem dL_law_48 : decode cL_law 48 = .ok (.isub, 1) := by decide +kernel
theorem dL_law_49 : decode cL_law 49 = .ok (.if_icmp .gt 1814, 3) := by decide +kernel
theorem dL_law_52 : decode cL_law 52 = .ok (.aload_n 0, 1) := by decide +kernel
theorem dL_law_53 : decode cL_law 53 = .ok (.iload 4, 2) := by decide +kernel
theorem dL_law_55 : decode cL_law 55 = .ok (.iaload, 1) := by decide +kernel
theorem dL_law_56 : decode cL_law 56 = .ok (.bipush 31, 2) := by decide +kernel
theorem dL_law_58 : decode cL_law 58 = .ok (.iand, 1) := by decide +kernel
theorem dL_law_59 : decode cL_law 59 = .ok (.tableswitch 1798 0 23 #[109, 189, 285, 341, 433, 525, 593, 673, 753, 864, 931, 1027, 1095, 1179, 1247, 1303, 1359, 1415, 1490, 1546, 1590, 1631, 1687, 1743], 109) := by decide +kernel
theorem dL_law_168 : decode cL_law 168 = .ok (.aload_n 1, 1) := by decide +kernel
theorem dL_law_169 : decode cL_law 169 = .ok (.aload_n 0, 1) := by decide +kernel
theorem dL_law_170 : decode cL_law 170 = .ok (.iload 4, 2) := by decide +kernel
theorem dL_law_172 : decode cL_law 172 = .ok (.iconst 1, 1) := by decide +kernel
theorem dL_law_173 : decode cL_law 173 = .ok (.iadd, 1) := by decide +kernel
theorem dL_law_174 : decode cL_law 174 = .ok (.iaload, 1) := by decide +kernel
theorem dL_law_175 : decode cL_law 175 = .ok (.aload_n 0, 1) := by decide +kernel
theorem dL_law_176 : decode cL_law 176 = .ok (.iload 4, 2) := by decide +kernel
theorem dL_law_178 : decode cL_law 178 = .ok (.iconst 2, 1) := by decide +kernel
theorem dL_law_179 : decode cL_law 179 = .ok (.iadd, 1) := by decide +kernel
theorem dL_law_180 : decode cL_law 180 = .ok (.iaload, 1) := by decide +kernel
theorem dL_law_181 : decode cL_law 181 = .ok (.aload_n 0, 1) := by decide +kernel
theorem dL_law_182 : decode cL_law 182 = .ok (.iload 4, 2) := by decide +kernel
theorem dL_law_184 : decode cL_law 184 = .ok (.iconst 3, 1) := by decide +kernel
theorem dL_law_185 : decode cL_law 185 = .ok (.iadd, 1) := by decide +kernel
theorem dL_law_186 : decode cL_law 186 = .ok (.iaload, 1) := by decide +kernel
theorem dL_law_187 : decode cL_law 187 = .ok (.aload_n 3, 1) := by decide +kernel
theorem dL_law_188 : decode cL_law 188 = .ok (.invokestatic 105, 3) := by decide +kernel
theorem dL_law_191 : decode cL_law 191 = .ok (.istore 5, 2) := by decide +kernel
theorem dL_law_193 : decode cL_law 193 = .ok (.aload_n 2, 1) := by decide +kernel
theorem dL_law_194 : decode cL_law 194 = .ok (.aload_n 0, 1) := by decide +kernel
theorem dL_law_195 : decode cL_law 195 = .ok (.iload 4, 2) := by decide +kernel
theorem dL_law_197 : decode cL_law 197 = .ok (.iconst 1, 1) := by decide +kernel
theorem dL_law_198 : decode cL_law 198 = .ok (.iadd, 1) := by decide +kernel
theorem dL_law_199 : decode cL_law 199 = .ok (.iaload, 1) := by decide +kernel
theorem dL_law_200 : decode cL_law 200 = .ok (.aload_n 0, 1) := by decide +kernel
theorem dL_law_201 : decode cL_law 201 = .ok (.iload 4, 2) := by decide +kernel
theorem dL_law_203 : decode cL_law 203 = .ok (.iconst 2, 1) := by decide +kernel
theorem dL_law_204 : decode cL_law 204 = .ok (.iadd, 1) := by decide +kernel
theorem dL_law_205 : decode cL_law 205 = .ok (.iaload, 1) := by decide +kernel
theorem dL_law_206 : decode cL_law 206 = .ok (.aload_n 0, 1) := by decide +kernel
theorem dL_law_207 : decode cL_law 207 = .ok (.iload 4, 2) := by decide +kernel
theorem dL_law_209 : decode cL_law 209 = .ok (.iconst 3, 1) := by decide +kernel
theorem dL_law_210 : decode cL_law 210 = .ok (.iadd, 1) := by decide +kernel
theorem dL_law_211 : decode cL_law 211 = .ok (.iaload, 1) := by decide +kernel
theorem dL_law_212 : decode cL_law 212 = .ok (.invokevirtual 108, 3) := by decide +kernel
theorem dL_law_215 : decode cL_law 215 = .ok (.istore 6, 2) := by decide +kernel
theorem dL_law_217 : decode cL_law 217 = .ok (.aload_n 2, 1) := by decide +kernel
theorem dL_law_218 : decode cL_law 218 = .ok (.invokevirtual 109, 3) := by decide +kernel
theorem dL_law_221 : decode cL_law 221 = .ok (.iload 5, 2) := by decide +kernel
theorem dL_law_223 : decode cL_law 223 = .ok (.if_icmp .eq 5, 3) := by decide +kernel
theorem dL_law_226 : decode cL_law 226 = .ok (.iconst 0, 1) := by decide +kernel
theorem dL_law_227 : decode cL_law 227 = .ok (.ireturn, 1) := by decide +kernel
theorem dL_law_228 : decode cL_law 228 = .ok (.iload 5, 2) := by decide +kernel
theorem dL_law_230 : decode cL_law 230 = .ok (.ifCond .ne 15, 3) := by decide +kernel
theorem dL_law_233 : decode cL_law 233 = .ok (.aload_n 3, 1) := by decide +kernel
theorem dL_law_234 : decode cL_law 234 = .ok (.iconst 0, 1) := by decide +kernel
theorem dL_law_235 : decode cL_law 235 = .ok (.laload, 1) := by decide +kernel
theorem dL_law_236 : decode cL_law 236 = .ok (.iload 6, 2) := by decide +kernel
theorem dL_law_238 : decode cL_law 238 = .ok (.i2l, 1) := by decide +kernel
theorem dL_law_239 : decode cL_law 239 = .ok (.lcmp, 1) := by decide +kernel
theorem dL_law_240 : decode cL_law 240 = .ok (.ifCond .eq 5, 3) := by decide +kernel
theorem dL_law_243 : decode cL_law 243 = .ok (.iconst 0, 1) := by decide +kernel
theorem dL_law_244 : decode cL_law 244 = .ok (.ireturn, 1) := by decide +kernel
theorem dL_law_245 : decode cL_law 245 = .ok (.goto 1612, 3) := by decide +kernel
theorem dL_law_248 : decode cL_law 248 = .ok (.aload_n 1, 1) := by decide +kernel
theorem dL_law_249 : decode cL_law 249 = .ok (.aload_n 0, 1) := by decide +kernel
theorem dL_law_250 : decode cL_law 250 = .ok (.iload 4, 2) := by decide +kernel
theorem dL_law_252 : decode cL_law 252 = .ok (.iconst 1, 1) := by decide +kernel
theorem dL_law_253 : decode cL_law 253 = .ok (.iadd, 1) := by decide +kernel
theorem dL_law_254 : decode cL_law 254 = .ok (.iaload, 1) := by decide +kernel
theorem dL_law_255 : decode cL_law 255 = .ok (.aload_n 0, 1) := by decide +kernel
theorem dL_law_256 : decode cL_law 256 = .ok (.iload 4, 2) := by decide +kernel
theorem dL_law_258 : decode cL_law 258 = .ok (.iconst 2, 1) := by decide +kernel
theorem dL_law_259 : decode cL_law 259 = .ok (.iadd, 1) := by decide +kernel
theorem dL_law_260 : decode cL_law 260 = .ok (.iaload, 1) := by decide +kernel
theorem dL_law_261 : decode cL_law 261 = .ok (.aload_n 0, 1) := by decide +kernel
theorem dL_law_262 : decode cL_law 262 = .ok (.iload 4, 2) := by decide +kernel
theorem dL_law_264 : decode cL_law 264 = .ok (.iconst 3, 1) := by decide +kernel
theorem dL_law_265 : decode cL_law 265 = .ok (.iadd, 1) := by decide +kernel
theorem dL_law_266 : decode cL_law 266 = .ok (.iaload, 1) := by decide +kernel
theorem dL_law_267 : decode cL_law 267 = .ok (.ifCond .eq 7, 3) := by decide +kernel
theorem dL_law_270 : decode cL_law 270 = .ok (.iconst 1, 1) := by decide +kernel
theorem dL_law_271 : decode cL_law 271 = .ok (.goto 4, 3) := by decide +kernel
theorem dL_law_274 : decode cL_law 274 = .ok (.iconst 0, 1) := by decide +kernel
end
section
theorem dL_law_275 : decode cL_law 275 = .ok (.aload_n 3, 1) := by decide +kernel
theorem dL_law_276 : decode cL_law 276 = .ok (.invokestatic 112, 3) := by decide +kernel
theorem dL_law_279 : decode cL_law 279 = .ok (.istore 5, 2) := by decide +kernel
theorem dL_law_281 : decode cL_law 281 = .ok (.aload_n 2, 1) := by decide +kernel
theorem dL_law_282 : decode cL_law 282 = .ok (.aload_n 0, 1) := by decide +kernel
theorem dL_law_283 : decode cL_law 283 = .ok (.iload 4, 2) := by decide +kernel
theorem dL_law_285 : decode cL_law 285 = .ok (.iconst 1, 1) := by decide +kernel
theorem dL_law_286 : decode cL_law 286 = .ok (.iadd, 1) := by decide +kernel
theorem dL_law_287 : decode cL_law 287 = .ok (.iaload, 1) := by decide +kernel
theorem dL_law_288 : decode cL_law 288 = .ok (.aload_n 0, 1) := by decide +kernel
theorem dL_law_289 : decode cL_law 289 = .ok (.iload 4, 2) := by decide +kernel
theorem dL_law_291 : decode cL_law 291 = .ok (.iconst 2, 1) := by decide +kernel
theorem dL_law_292 : decode cL_law 292 = .ok (.iadd, 1) := by decide +kernel
theorem dL_law_293 : decode cL_law 293 = .ok (.iaload, 1) := by decide +kernel
theorem dL_law_294 : decode cL_law 294 = .ok (.aload_n 0, 1) := by decide +kernel
theorem dL_law_295 : decode cL_law 295 = .ok (.iload 4, 2) := by decide +kernel
theorem dL_law_297 : decode cL_law 297 = .ok (.iconst 3, 1) := by decide +kernel
theorem dL_law_298 : decode cL_law 298 = .ok (.iadd, 1) := by decide +kernel
theorem dL_law_299 : decode cL_law 299 = .ok (.iaload, 1) := by decide +kernel
theorem dL_law_300 : decode cL_law 300 = .ok (.ifCond .eq 7, 3) := by decide +kernel
theorem dL_law_303 : decode cL_law 303 = .ok (.iconst 1, 1) := by decide +kernel
theorem dL_law_304 : decode cL_law 304 = .ok (.goto 4, 3) := by decide +kernel
theorem dL_law_307 : decode cL_law 307 = .ok (.iconst 0, 1) := by decide +kernel
theorem dL_law_308 : decode cL_law 308 = .ok (.invokevirtual 115, 3) := by decide +kernel
theorem dL_law_311 : decode cL_law 311 = .ok (.istore 6, 2) := by decide +kernel
theorem dL_law_313 : decode cL_law 313 = .ok (.aload_n 2, 1) := by decide +kernel
theorem dL_law_314 : decode cL_law 314 = .ok (.invokevirtual 109, 3) := by decide +kernel
theorem dL_law_317 : decode cL_law 317 = .ok (.iload 5, 2) := by decide +kernel
theorem dL_law_319 : decode cL_law 319 = .ok (.if_icmp .eq 5, 3) := by decide +kernel
theorem dL_law_322 : decode cL_law 322 = .ok (.iconst 0, 1) := by decide +kernel
theorem dL_law_323 : decode cL_law 323 = .ok (.ireturn, 1) := by decide +kernel
theorem dL_law_324 : decode cL_law 324 = .ok (.iload 5, 2) := by decide +kernel
theorem dL_law_326 : decode cL_law 326 = .ok (.ifCond .ne 15, 3) := by decide +kernel
theorem dL_law_329 : decode cL_law 329 = .ok (.aload_n 3, 1) := by decide +kernel
theorem dL_law_330 : decode cL_law 330 = .ok (.iconst 0, 1) := by decide +kernel
theorem dL_law_331 : decode cL_law 331 = .ok (.laload, 1) := by decide +kernel
theorem dL_law_332 : decode cL_law 332 = .ok (.iload 6, 2) := by decide +kernel
theorem dL_law_334 : decode cL_law 334 = .ok (.i2l, 1) := by decide +kernel
theorem dL_law_335 : decode cL_law 335 = .ok (.lcmp, 1) := by decide +kernel
theorem dL_law_336 : decode cL_law 336 = .ok (.ifCond .eq 5, 3) := by decide +kernel
theorem dL_law_339 : decode cL_law 339 = .ok (.iconst 0, 1) := by decide +kernel
theorem dL_law_340 : decode cL_law 340 = .ok (.ireturn, 1) := by decide +kernel
theorem dL_law_341 : decode cL_law 341 = .ok (.goto 1516, 3) := by decide +kernel
theorem dL_law_344 : decode cL_law 344 = .ok (.aload_n 1, 1) := by decide +kernel
theorem dL_law_345 : decode cL_law 345 = .ok (.aload_n 0, 1) := by decide +kernel
theorem dL_law_346 : decode cL_law 346 = .ok (.iload 4, 2) := by decide +kernel
theorem dL_law_348 : decode cL_law 348 = .ok (.iconst 1, 1) := by decide +kernel
theorem dL_law_349 : decode cL_law 349 = .ok (.iadd, 1) := by decide +kernel
theorem dL_law_350 : decode cL_law 350 = .ok (.iaload, 1) := by decide +kernel
theorem dL_law_351 : decode cL_law 351 = .ok (.aload_n 3, 1) := by decide +kernel
theorem dL_law_352 : decode cL_law 352 = .ok (.invokestatic 116, 3) := by decide +kernel
theorem dL_law_355 : decode cL_law 355 = .ok (.istore 5, 2) := by decide +kernel
theorem dL_law_357 : decode cL_law 357 = .ok (.aload_n 2, 1) := by decide +kernel
theorem dL_law_358 : decode cL_law 358 = .ok (.aload_n 0, 1) := by decide +kernel
theorem dL_law_359 : decode cL_law 359 = .ok (.iload 4, 2) := by decide +kernel
theorem dL_law_361 : decode cL_law 361 = .ok (.iconst 1, 1) := by decide +kernel
theorem dL_law_362 : decode cL_law 362 = .ok (.iadd, 1) := by decide +kernel
theorem dL_law_363 : decode cL_law 363 = .ok (.iaload, 1) := by decide +kernel
theorem dL_law_364 : decode cL_law 364 = .ok (.invokevirtual 119, 3) := by decide +kernel
theorem dL_law_367 : decode cL_law 367 = .ok (.istore 6, 2) := by decide +kernel
theorem dL_law_369 : decode cL_law 369 = .ok (.aload_n 2, 1) := by decide +kernel
theorem dL_law_370 : decode cL_law 370 = .ok (.invokevirtual 109, 3) := by decide +kernel
theorem dL_law_373 : decode cL_law 373 = .ok (.iload 5, 2) := by decide +kernel
theorem dL_law_375 : decode cL_law 375 = .ok (.if_icmp .eq 5, 3) := by decide +kernel
theorem dL_law_378 : decode cL_law 378 = .ok (.iconst 0, 1) := by decide +kernel
theorem dL_law_379 : decode cL_law 379 = .ok (.ireturn, 1) := by decide +kernel
theorem dL_law_380 : decode cL_law 380 = .ok (.iload 5, 2) := by decide +kernel
theorem dL_law_382 : decode cL_law 382 = .ok (.ifCond .ne 15, 3) := by decide +kernel
theorem dL_law_385 : decode cL_law 385 = .ok (.aload_n 3, 1) := by decide +kernel
theorem dL_law_386 : decode cL_law 386 = .ok (.iconst 0, 1) := by decide +kernel
theorem dL_law_387 : decode cL_law 387 = .ok (.laload, 1) := by decide +kernel
theorem dL_law_388 : decode cL_law 388 = .ok (.iload 6, 2) := by decide +kernel
theorem dL_law_390 : decode cL_law 390 = .ok (.i2l, 1) := by decide +kernel
theorem dL_law_391 : decode cL_law 391 = .ok (.lcmp, 1) := by decide +kernel
theorem dL_law_392 : decode cL_law 392 = .ok (.ifCond .eq 5, 3) := by decide +kernel
theorem dL_law_395 : decode cL_law 395 = .ok (.iconst 0, 1) := by decide +kernel
theorem dL_law_396 : decode cL_law 396 = .ok (.ireturn, 1) := by decide +kernel
theorem dL_law_397 : decode cL_law 397 = .ok (.goto 1460, 3) := by decide +kernel
theorem dL_law_400 : decode cL_law 400 = .ok (.aload_n 1, 1) := by decide +kernel
theorem dL_law_401 : decode cL_law 401 = .ok (.aload_n 0, 1) := by decide +kernel
theorem dL_law_402 : decode cL_law 402 = .ok (.iload 4, 2) := by decide +kernel
theorem dL_law_404 : decode cL_law 404 = .ok (.iconst 1, 1) := by decide +kernel
theorem dL_law_405 : decode cL_law 405 = .ok (.iadd, 1) := by decide +kernel
theorem dL_law_406 : decode cL_law 406 = .ok (.iaload, 1) := by decide +kernel
theorem dL_law_407 : decode cL_law 407 = .ok (.aload_n 0, 1) := by decide +kernel
theorem dL_law_408 : decode cL_law 408 = .ok (.iload 4, 2) := by decide +kernel
theorem dL_law_410 : decode cL_law 410 = .ok (.iconst 2, 1) := by decide +kernel
theorem dL_law_411 : decode cL_law 411 = .ok (.iadd, 1) := by decide +kernel
theorem dL_law_412 : decode cL_law 412 = .ok (.iaload, 1) := by decide +kernel
theorem dL_law_413 : decode cL_law 413 = .ok (.aload_n 0, 1) := by decide +kernel
theorem dL_law_414 : decode cL_law 414 = .ok (.iload 4, 2) := by decide +kernel
theorem dL_law_416 : decode cL_law 416 = .ok (.iconst 3, 1) := by decide +kernel
theorem dL_law_417 : decode cL_law 417 = .ok (.iadd, 1) := by decide +kernel
theorem dL_law_418 : decode cL_law 418 = .ok (.iaload, 1) := by decide +kernel
theorem dL_law_419 : decode cL_law 419 = .ok (.aload_n 0, 1) := by decide +kernel
theorem dL_law_420 : decode cL_law 420 = .ok (.iload 4, 2) := by decide +kernel
theorem dL_law_422 : decode cL_law 422 = .ok (.iconst 4, 1) := by decide +kernel
theorem dL_law_423 : decode cL_law 423 = .ok (.iadd, 1) := by decide +kernel
theorem dL_law_424 : decode cL_law 424 = .ok (.iaload, 1) := by decide +kernel
theorem dL_law_425 : decode cL_law 425 = .ok (.aload_n 3, 1) := by decide +kernel
theorem dL_law_426 : decode cL_law 426 = .ok (.invokestatic 120, 3) := by decide +kernel
theorem dL_law_429 : decode cL_law 429 = .ok (.istore 5, 2) := by decide +kernel
theorem dL_law_431 : decode cL_law 431 = .ok (.aload_n 2, 1) := by decide +kernel
theorem dL_law_432 : decode cL_law 432 = .ok (.aload_n 0, 1) := by decide +kernel
theorem dL_law_433 : decode cL_law 433 = .ok (.iload 4, 2) := by decide +kernel
theorem dL_law_435 : decode cL_law 435 = .ok (.iconst 1, 1) := by decide +kernel
theorem dL_law_436 : decode cL_law 436 = .ok (.iadd, 1) := by decide +kernel
theorem dL_law_437 : decode cL_law 437 = .ok (.iaload, 1) := by decide +kernel
theorem dL_law_438 : decode cL_law 438 = .ok (.aload_n 0, 1) := by decide +kernel
theorem dL_law_439 : decode cL_law 439 = .ok (.iload 4, 2) := by decide +kernel
theorem dL_law_441 : decode cL_law 441 = .ok (.iconst 2, 1) := by decide +kernel
theorem dL_law_442 : decode cL_law 442 = .ok (.iadd, 1) := by decide +kernel
theorem dL_law_443 : decode cL_law 443 = .ok (.iaload, 1) := by decide +kernel
theorem dL_law_444 : decode cL_law 444 = .ok (.aload_n 0, 1) := by decide +kernel
theorem dL_law_445 : decode cL_law 445 = .ok (.iload 4, 2) := by decide +kernel
theorem dL_law_447 : decode cL_law 447 = .ok (.iconst 3, 1) := by decide +kernel
theorem dL_law_448 : decode cL_law 448 = .ok (.iadd, 1) := by decide +kernel
theorem dL_law_449 : decode cL_law 449 = .ok (.iaload, 1) := by decide +kernel
theorem dL_law_450 : decode cL_law 450 = .ok (.aload_n 0, 1) := by decide +kernel
theorem dL_law_451 : decode cL_law 451 = .ok (.iload 4, 2) := by decide +kernel
theorem dL_law_453 : decode cL_law 453 = .ok (.iconst 4, 1) := by decide +kernel
theorem dL_law_454 : decode cL_law 454 = .ok (.iadd, 1) := by decide +kernel
theorem dL_law_455 : decode cL_law 455 = .ok (.iaload, 1) := by decide +kernel
theorem dL_law_456 : decode cL_law 456 = .ok (.invokevirtual 123, 3) := by decide +kernel
theorem dL_law_459 : decode cL_law 459 = .ok (.istore 6, 2) := by decide +kernel
theorem dL_law_461 : decode cL_law 461 = .ok (.aload_n 2, 1) := by decide +kernel
theorem dL_law_462 : decode cL_law 462 = .ok (.invokevirtual 109, 3) := by decide +kernel
theorem dL_law_465 : decode cL_law 465 = .ok (.iload 5, 2) := by decide +kernel
theorem dL_law_467 : decode cL_law 467 = .ok (.if_icmp .eq 5, 3) := by decide +kernel
theorem dL_law_470 : decode cL_law 470 = .ok (.iconst 0, 1) := by decide +kernel
theorem dL_law_471 : decode cL_law 471 = .ok (.ireturn, 1) := by decide +kernel
theorem dL_law_472 : decode cL_law 472 = .ok (.iload 5, 2) := by decide +kernel
theorem dL_law_474 : decode cL_law 474 = .ok (.ifCond .ne 15, 3) := by decide +kernel
theorem dL_law_477 : decode cL_law 477 = .ok (.aload_n 3, 1) := by decide +kernel
theorem dL_law_478 : decode cL_law 478 = .ok (.iconst 0, 1) := by decide +kernel
theorem dL_law_479 : decode cL_law 479 = .ok (.laload, 1) := by decide +kernel
theorem dL_law_480 : decode cL_law 480 = .ok (.iload 6, 2) := by decide +kernel
theorem dL_law_482 : decode cL_law 482 = .ok (.i2l, 1) := by decide +kernel
theorem dL_law_483 : decode cL_law 483 = .ok (.lcmp, 1) := by decide +kernel
theorem dL_law_484 : decode cL_law 484 = .ok (.ifCond .eq 5, 3) := by decide +kernel
theorem dL_law_487 : decode cL_law 487 = .ok (.iconst 0, 1) := by decide +kernel
theorem dL_law_488 : decode cL_law 488 = .ok (.ireturn, 1) := by decide +kernel
theorem dL_law_489 : decode cL_law 489 = .ok (.goto 1368, 3) := by decide +kernel
theorem dL_law_492 : decode cL_law 492 = .ok (.aload_n 1, 1) := by decide +kernel
theorem dL_law_493 : decode cL_law 493 = .ok (.aload_n 0, 1) := by decide +kernel
theorem dL_law_494 : decode cL_law 494 = .ok (.iload 4, 2) := by decide +kernel
theorem dL_law_496 : decode cL_law 496 = .ok (.iconst 1, 1) := by decide +kernel
theorem dL_law_497 : decode cL_law 497 = .ok (.iadd, 1) := by decide +kernel
theorem dL_law_498 : decode cL_law 498 = .ok (.iaload, 1) := by decide +kernel
theorem dL_law_499 : decode cL_law 499 = .ok (.aload_n 0, 1) := by decide +kernel
theorem dL_law_500 : decode cL_law 500 = .ok (.iload 4, 2) := by decide +kernel
theorem dL_law_502 : decode cL_law 502 = .ok (.iconst 2, 1) := by decide +kernel
theorem dL_law_503 : decode cL_law 503 = .ok (.iadd, 1) := by decide +kernel
theorem dL_law_504 : decode cL_law 504 = .ok (.iaload, 1) := by decide +kernel
theorem dL_law_505 : decode cL_law 505 = .ok (.aload_n 0, 1) := by decide +kernel
theorem dL_law_506 : decode cL_law 506 = .ok (.iload 4, 2) := by decide +kernel
theorem dL_law_508 : decode cL_law 508 = .ok (.iconst 3, 1) := by decide +kernel
theorem dL_law_509 : decode cL_law 509 = .ok (.iadd, 1) := by decide +kernel
theorem dL_law_510 : decode cL_law 510 = .ok (.iaload, 1) := by decide +kernel
theorem dL_law_511 : decode cL_law 511 = .ok (.aload_n 0, 1) := by decide +kernel
theorem dL_law_512 : decode cL_law 512 = .ok (.iload 4, 2) := by decide +kernel
theorem dL_law_514 : decode cL_law 514 = .ok (.iconst 4, 1) := by decide +kernel
theorem dL_law_515 : decode cL_law 515 = .ok (.iadd, 1) := by decide +kernel
theorem dL_law_516 : decode cL_law 516 = .ok (.iaload, 1) := by decide +kernel
theorem dL_law_517 : decode cL_law 517 = .ok (.aload_n 3, 1) := by decide +kernel
theorem dL_law_518 : decode cL_law 518 = .ok (.invokestatic 124, 3) := by decide +kernel
theorem dL_law_521 : decode cL_law 521 = .ok (.istore 5, 2) := by decide +kernel
theorem dL_law_523 : decode cL_law 523 = .ok (.aload_n 2, 1) := by decide +kernel
theorem dL_law_524 : decode cL_law 524 = .ok (.aload_n 0, 1) := by decide +kernel
theorem dL_law_525 : decode cL_law 525 = .ok (.iload 4, 2) := by decide +kernel
theorem dL_law_527 : decode cL_law 527 = .ok (.iconst 1, 1) := by decide +kernel
theorem dL_law_528 : decode cL_law 528 = .ok (.iadd, 1) := by decide +kernel
theorem dL_law_529 : decode cL_law 529 = .ok (.iaload, 1) := by decide +kernel
theorem dL_law_530 : decode cL_law 530 = .ok (.aload_n 0, 1) := by decide +kernel
theorem dL_law_531 : decode cL_law 531 = .ok (.iload 4, 2) := by decide +kernel
theorem dL_law_533 : decode cL_law 533 = .ok (.iconst 2, 1) := by decide +kernel
theorem dL_law_534 : decode cL_law 534 = .ok (.iadd, 1) := by decide +kernel
theorem dL_law_535 : decode cL_law 535 = .ok (.iaload, 1) := by decide +kernel
theorem dL_law_536 : decode cL_law 536 = .ok (.aload_n 0, 1) := by decide +kernel
theorem dL_law_537 : decode cL_law 537 = .ok (.iload 4, 2) := by decide +kernel
theorem dL_law_539 : decode cL_law 539 = .ok (.iconst 3, 1) := by decide +kernel
theorem dL_law_540 : decode cL_law 540 = .ok (.iadd, 1) := by decide +kernel
theorem dL_law_541 : decode cL_law 541 = .ok (.iaload, 1) := by decide +kernel
theorem dL_law_542 : decode cL_law 542 = .ok (.aload_n 0, 1) := by decide +kernel
theorem dL_law_543 : decode cL_law 543 = .ok (.iload 4, 2) := by decide +kernel
theorem dL_law_545 : decode cL_law 545 = .ok (.iconst 4, 1) := by decide +kernel
theorem dL_law_546 : decode cL_law 546 = .ok (.iadd, 1) := by decide +kernel
theorem dL_law_547 : decode cL_law 547 = .ok (.iaload, 1) := by decide +kernel
theorem dL_law_548 : decode cL_law 548 = .ok (.invokevirtual 126, 3) := by decide +kernel
theorem dL_law_551 : decode cL_law 551 = .ok (.istore 6, 2) := by decide +kernel
theorem dL_law_553 : decode cL_law 553 = .ok (.aload_n 2, 1) := by decide +kernel
theorem dL_law_554 : decode cL_law 554 = .ok (.invokevirtual 109, 3) := by decide +kernel
theorem dL_law_557 : decode cL_law 557 = .ok (.iload 5, 2) := by decide +kernel
theorem dL_law_559 : decode cL_law 559 = .ok (.if_icmp .eq 5, 3) := by decide +kernel
theorem dL_law_562 : decode cL_law 562 = .ok (.iconst 0, 1) := by decide +kernel
theorem dL_law_563 : decode cL_law 563 = .ok (.ireturn, 1) := by decide +kernel
theorem dL_law_564 : decode cL_law 564 = .ok (.iload 5, 2) := by decide +kernel
theorem dL_law_566 : decode cL_law 566 = .ok (.ifCond .ne 15, 3) := by decide +kernel
theorem dL_law_569 : decode cL_law 569 = .ok (.aload_n 3, 1) := by decide +kernel
theorem dL_law_570 : decode cL_law 570 = .ok (.iconst 0, 1) := by decide +kernel
theorem dL_law_571 : decode cL_law 571 = .ok (.laload, 1) := by decide +kernel
theorem dL_law_572 : decode cL_law 572 = .ok (.iload 6, 2) := by decide +kernel
theorem dL_law_574 : decode cL_law 574 = .ok (.i2l, 1) := by decide +kernel
theorem dL_law_575 : decode cL_law 575 = .ok (.lcmp, 1) := by decide +kernel
theorem dL_law_576 : decode cL_law 576 = .ok (.ifCond .eq 5, 3) := by decide +kernel
theorem dL_law_579 : decode cL_law 579 = .ok (.iconst 0, 1) := by decide +kernel
theorem dL_law_580 : decode cL_law 580 = .ok (.ireturn, 1) := by decide +kernel
theorem dL_law_581 : decode cL_law 581 = .ok (.goto 1276, 3) := by decide +kernel
theorem dL_law_584 : decode cL_law 584 = .ok (.aload_n 1, 1) := by decide +kernel
theorem dL_law_585 : decode cL_law 585 = .ok (.aload_n 0, 1) := by decide +kernel
theorem dL_law_586 : decode cL_law 586 = .ok (.iload 4, 2) := by decide +kernel
theorem dL_law_588 : decode cL_law 588 = .ok (.iconst 1, 1) := by decide +kernel
theorem dL_law_589 : decode cL_law 589 = .ok (.iadd, 1) := by decide +kernel
theorem dL_law_590 : decode cL_law 590 = .ok (.iaload, 1) := by decide +kernel
theorem dL_law_591 : decode cL_law 591 = .ok (.aload_n 0, 1) := by decide +kernel
theorem dL_law_592 : decode cL_law 592 = .ok (.iload 4, 2) := by decide +kernel
theorem dL_law_594 : decode cL_law 594 = .ok (.iconst 2, 1) := by decide +kernel
theorem dL_law_595 : decode cL_law 595 = .ok (.iadd, 1) := by decide +kernel
theorem dL_law_596 : decode cL_law 596 = .ok (.iaload, 1) := by decide +kernel
theorem dL_law_597 : decode cL_law 597 = .ok (.aload_n 3, 1) := by decide +kernel
theorem dL_law_598 : decode cL_law 598 = .ok (.invokestatic 127, 3) := by decide +kernel
theorem dL_law_601 : decode cL_law 601 = .ok (.istore 5, 2) := by decide +kernel
theorem dL_law_603 : decode cL_law 603 = .ok (.aload_n 2, 1) := by decide +kernel
theorem dL_law_604 : decode cL_law 604 = .ok (.aload_n 0, 1) := by decide +kernel
theorem dL_law_605 : decode cL_law 605 = .ok (.iload 4, 2) := by decide +kernel
theorem dL_law_607 : decode cL_law 607 = .ok (.iconst 1, 1) := by decide +kernel
theorem dL_law_608 : decode cL_law 608 = .ok (.iadd, 1) := by decide +kernel
theorem dL_law_609 : decode cL_law 609 = .ok (.iaload, 1) := by decide +kernel
theorem dL_law_610 : decode cL_law 610 = .ok (.aload_n 0, 1) := by decide +kernel
theorem dL_law_611 : decode cL_law 611 = .ok (.iload 4, 2) := by decide +kernel
theorem dL_law_613 : decode cL_law 613 = .ok (.iconst 2, 1) := by decide +kernel
theorem dL_law_614 : decode cL_law 614 = .ok (.iadd, 1) := by decide +kernel
theorem dL_law_615 : decode cL_law 615 = .ok (.iaload, 1) := by decide +kernel
theorem dL_law_616 : decode cL_law 616 = .ok (.invokevirtual 130, 3) := by decide +kernel
theorem dL_law_619 : decode cL_law 619 = .ok (.istore 6, 2) := by decide +kernel
theorem dL_law_621 : decode cL_law 621 = .ok (.aload_n 2, 1) := by decide +kernel
theorem dL_law_622 : decode cL_law 622 = .ok (.invokevirtual 109, 3) := by decide +kernel
theorem dL_law_625 : decode cL_law 625 = .ok (.iload 5, 2) := by decide +kernel
theorem dL_law_627 : decode cL_law 627 = .ok (.if_icmp .eq 5, 3) := by decide +kernel
theorem dL_law_630 : decode cL_law 630 = .ok (.iconst 0, 1) := by decide +kernel
theorem dL_law_631 : decode cL_law 631 = .ok (.ireturn, 1) := by decide +kernel
theorem dL_law_632 : decode cL_law 632 = .ok (.iload 5, 2) := by decide +kernel
theorem dL_law_634 : decode cL_law 634 = .ok (.ifCond .ne 15, 3) := by decide +kernel
theorem dL_law_637 : decode cL_law 637 = .ok (.aload_n 3, 1) := by decide +kernel
theorem dL_law_638 : decode cL_law 638 = .ok (.iconst 0, 1) := by decide +kernel
theorem dL_law_639 : decode cL_law 639 = .ok (.laload, 1) := by decide +kernel
theorem dL_law_640 : decode cL_law 640 = .ok (.iload 6, 2) := by decide +kernel
theorem dL_law_642 : decode cL_law 642 = .ok (.i2l, 1) := by decide +kernel
theorem dL_law_643 : decode cL_law 643 = .ok (.lcmp, 1) := by decide +kernel
theorem dL_law_644 : decode cL_law 644 = .ok (.ifCond .eq 5, 3) := by decide +kernel
theorem dL_law_647 : decode cL_law 647 = .ok (.iconst 0, 1) := by decide +kernel
theorem dL_law_648 : decode cL_law 648 = .ok (.ireturn, 1) := by decide +kernel
theorem dL_law_649 : decode cL_law 649 = .ok (.goto 1208, 3) := by decide +kernel
theorem dL_law_652 : decode cL_law 652 = .ok (.aload_n 1, 1) := by decide +kernel
theorem dL_law_653 : decode cL_law 653 = .ok (.aload_n 0, 1) := by decide +kernel
theorem dL_law_654 : decode cL_law 654 = .ok (.iload 4, 2) := by decide +kernel
theorem dL_law_656 : decode cL_law 656 = .ok (.iconst 1, 1) := by decide +kernel
theorem dL_law_657 : decode cL_law 657 = .ok (.iadd, 1) := by decide +kernel
theorem dL_law_658 : decode cL_law 658 = .ok (.iaload, 1) := by decide +kernel
theorem dL_law_659 : decode cL_law 659 = .ok (.aload_n 0, 1) := by decide +kernel
theorem dL_law_660 : decode cL_law 660 = .ok (.iload 4, 2) := by decide +kernel
theorem dL_law_662 : decode cL_law 662 = .ok (.iconst 2, 1) := by decide +kernel
theorem dL_law_663 : decode cL_law 663 = .ok (.iadd, 1) := by decide +kernel
theorem dL_law_664 : decode cL_law 664 = .ok (.iaload, 1) := by decide +kernel
theorem dL_law_665 : decode cL_law 665 = .ok (.aload_n 0, 1) := by decide +kernel
theorem dL_law_666 : decode cL_law 666 = .ok (.iload 4, 2) := by decide +kernel
theorem dL_law_668 : decode cL_law 668 = .ok (.iconst 3, 1) := by decide +kernel
theorem dL_law_669 : decode cL_law 669 = .ok (.iadd, 1) := by decide +kernel
theorem dL_law_670 : decode cL_law 670 = .ok (.iaload, 1) := by decide +kernel
theorem dL_law_671 : decode cL_law 671 = .ok (.aload_n 3, 1) := by decide +kernel
theorem dL_law_672 : decode cL_law 672 = .ok (.invokestatic 131, 3) := by decide +kernel
theorem dL_law_675 : decode cL_law 675 = .ok (.istore 5, 2) := by decide +kernel
theorem dL_law_677 : decode cL_law 677 = .ok (.aload_n 2, 1) := by decide +kernel
theorem dL_law_678 : decode cL_law 678 = .ok (.aload_n 0, 1) := by decide +kernel
theorem dL_law_679 : decode cL_law 679 = .ok (.iload 4, 2) := by decide +kernel
theorem dL_law_681 : decode cL_law 681 = .ok (.iconst 1, 1) := by decide +kernel
theorem dL_law_682 : decode cL_law 682 = .ok (.iadd, 1) := by decide +kernel
theorem dL_law_683 : decode cL_law 683 = .ok (.iaload, 1) := by decide +kernel
theorem dL_law_684 : decode cL_law 684 = .ok (.aload_n 0, 1) := by decide +kernel
theorem dL_law_685 : decode cL_law 685 = .ok (.iload 4, 2) := by decide +kernel
theorem dL_law_687 : decode cL_law 687 = .ok (.iconst 2, 1) := by decide +kernel
theorem dL_law_688 : decode cL_law 688 = .ok (.iadd, 1) := by decide +kernel
theorem dL_law_689 : decode cL_law 689 = .ok (.iaload, 1) := by decide +kernel
theorem dL_law_690 : decode cL_law 690 = .ok (.aload_n 0, 1) := by decide +kernel
theorem dL_law_691 : decode cL_law 691 = .ok (.iload 4, 2) := by decide +kernel
theorem dL_law_693 : decode cL_law 693 = .ok (.iconst 3, 1) := by decide +kernel
theorem dL_law_694 : decode cL_law 694 = .ok (.iadd, 1) := by decide +kernel
theorem dL_law_695 : decode cL_law 695 = .ok (.iaload, 1) := by decide +kernel
theorem dL_law_696 : decode cL_law 696 = .ok (.invokevirtual 133, 3) := by decide +kernel
theorem dL_law_699 : decode cL_law 699 = .ok (.istore 6, 2) := by decide +kernel
theorem dL_law_701 : decode cL_law 701 = .ok (.aload_n 2, 1) := by decide +kernel
theorem dL_law_702 : decode cL_law 702 = .ok (.invokevirtual 109, 3) := by decide +kernel
theorem dL_law_705 : decode cL_law 705 = .ok (.iload 5, 2) := by decide +kernel
theorem dL_law_707 : decode cL_law 707 = .ok (.if_icmp .eq 5, 3) := by decide +kernel
theorem dL_law_710 : decode cL_law 710 = .ok (.iconst 0, 1) := by decide +kernel
theorem dL_law_711 : decode cL_law 711 = .ok (.ireturn, 1) := by decide +kernel
theorem dL_law_712 : decode cL_law 712 = .ok (.iload 5, 2) := by decide +kernel
theorem dL_law_714 : decode cL_law 714 = .ok (.ifCond .ne 15, 3) := by decide +kernel
theorem dL_law_717 : decode cL_law 717 = .ok (.aload_n 3, 1) := by decide +kernel
theorem dL_law_718 : decode cL_law 718 = .ok (.iconst 0, 1) := by decide +kernel
theorem dL_law_719 : decode cL_law 719 = .ok (.laload, 1) := by decide +kernel
theorem dL_law_720 : decode cL_law 720 = .ok (.iload 6, 2) := by decide +kernel
theorem dL_law_722 : decode cL_law 722 = .ok (.i2l, 1) := by decide +kernel
theorem dL_law_723 : decode cL_law 723 = .ok (.lcmp, 1) := by decide +kernel
theorem dL_law_724 : decode cL_law 724 = .ok (.ifCond .eq 5, 3) := by decide +kernel
theorem dL_law_727 : decode cL_law 727 = .ok (.iconst 0, 1) := by decide +kernel
theorem dL_law_728 : decode cL_law 728 = .ok (.ireturn, 1) := by decide +kernel
theorem dL_law_729 : decode cL_law 729 = .ok (.goto 1128, 3) := by decide +kernel
theorem dL_law_732 : decode cL_law 732 = .ok (.aload_n 1, 1) := by decide +kernel
theorem dL_law_733 : decode cL_law 733 = .ok (.aload_n 0, 1) := by decide +kernel
theorem dL_law_734 : decode cL_law 734 = .ok (.iload 4, 2) := by decide +kernel
theorem dL_law_736 : decode cL_law 736 = .ok (.iconst 1, 1) := by decide +kernel
theorem dL_law_737 : decode cL_law 737 = .ok (.iadd, 1) := by decide +kernel
theorem dL_law_738 : decode cL_law 738 = .ok (.iaload, 1) := by decide +kernel
theorem dL_law_739 : decode cL_law 739 = .ok (.aload_n 0, 1) := by decide +kernel
theorem dL_law_740 : decode cL_law 740 = .ok (.iload 4, 2) := by decide +kernel
theorem dL_law_742 : decode cL_law 742 = .ok (.iconst 2, 1) := by decide +kernel
theorem dL_law_743 : decode cL_law 743 = .ok (.iadd, 1) := by decide +kernel
theorem dL_law_744 : decode cL_law 744 = .ok (.iaload, 1) := by decide +kernel
theorem dL_law_745 : decode cL_law 745 = .ok (.aload_n 0, 1) := by decide +kernel
theorem dL_law_746 : decode cL_law 746 = .ok (.iload 4, 2) := by decide +kernel
theorem dL_law_748 : decode cL_law 748 = .ok (.iconst 3, 1) := by decide +kernel
theorem dL_law_749 : decode cL_law 749 = .ok (.iadd, 1) := by decide +kernel
theorem dL_law_750 : decode cL_law 750 = .ok (.iaload, 1) := by decide +kernel
theorem dL_law_751 : decode cL_law 751 = .ok (.aload_n 3, 1) := by decide +kernel
theorem dL_law_752 : decode cL_law 752 = .ok (.invokestatic 134, 3) := by decide +kernel
theorem dL_law_755 : decode cL_law 755 = .ok (.istore 5, 2) := by decide +kernel
theorem dL_law_757 : decode cL_law 757 = .ok (.aload_n 2, 1) := by decide +kernel
theorem dL_law_758 : decode cL_law 758 = .ok (.aload_n 0, 1) := by decide +kernel
theorem dL_law_759 : decode cL_law 759 = .ok (.iload 4, 2) := by decide +kernel
theorem dL_law_761 : decode cL_law 761 = .ok (.iconst 1, 1) := by decide +kernel
theorem dL_law_762 : decode cL_law 762 = .ok (.iadd, 1) := by decide +kernel
theorem dL_law_763 : decode cL_law 763 = .ok (.iaload, 1) := by decide +kernel
theorem dL_law_764 : decode cL_law 764 = .ok (.aload_n 0, 1) := by decide +kernel
theorem dL_law_765 : decode cL_law 765 = .ok (.iload 4, 2) := by decide +kernel
theorem dL_law_767 : decode cL_law 767 = .ok (.iconst 2, 1) := by decide +kernel
theorem dL_law_768 : decode cL_law 768 = .ok (.iadd, 1) := by decide +kernel
theorem dL_law_769 : decode cL_law 769 = .ok (.iaload, 1) := by decide +kernel
theorem dL_law_770 : decode cL_law 770 = .ok (.aload_n 0, 1) := by decide +kernel
theorem dL_law_771 : decode cL_law 771 = .ok (.iload 4, 2) := by decide +kernel
theorem dL_law_773 : decode cL_law 773 = .ok (.iconst 3, 1) := by decide +kernel
theorem dL_law_774 : decode cL_law 774 = .ok (.iadd, 1) := by decide +kernel
theorem dL_law_775 : decode cL_law 775 = .ok (.iaload, 1) := by decide +kernel
theorem dL_law_776 : decode cL_law 776 = .ok (.invokevirtual 136, 3) := by decide +kernel
theorem dL_law_779 : decode cL_law 779 = .ok (.istore 6, 2) := by decide +kernel
theorem dL_law_781 : decode cL_law 781 = .ok (.aload_n 2, 1) := by decide +kernel
theorem dL_law_782 : decode cL_law 782 = .ok (.invokevirtual 109, 3) := by decide +kernel
theorem dL_law_785 : decode cL_law 785 = .ok (.iload 5, 2) := by decide +kernel
theorem dL_law_787 : decode cL_law 787 = .ok (.if_icmp .eq 5, 3) := by decide +kernel
theorem dL_law_790 : decode cL_law 790 = .ok (.iconst 0, 1) := by decide +kernel
theorem dL_law_791 : decode cL_law 791 = .ok (.ireturn, 1) := by decide +kernel
theorem dL_law_792 : decode cL_law 792 = .ok (.iload 5, 2) := by decide +kernel
theorem dL_law_794 : decode cL_law 794 = .ok (.ifCond .ne 15, 3) := by decide +kernel
theorem dL_law_797 : decode cL_law 797 = .ok (.aload_n 3, 1) := by decide +kernel
theorem dL_law_798 : decode cL_law 798 = .ok (.iconst 0, 1) := by decide +kernel
theorem dL_law_799 : decode cL_law 799 = .ok (.laload, 1) := by decide +kernel
theorem dL_law_800 : decode cL_law 800 = .ok (.iload 6, 2) := by decide +kernel
theorem dL_law_802 : decode cL_law 802 = .ok (.i2l, 1) := by decide +kernel
theorem dL_law_803 : decode cL_law 803 = .ok (.lcmp, 1) := by decide +kernel
theorem dL_law_804 : decode cL_law 804 = .ok (.ifCond .eq 5, 3) := by decide +kernel
theorem dL_law_807 : decode cL_law 807 = .ok (.iconst 0, 1) := by decide +kernel
theorem dL_law_808 : decode cL_law 808 = .ok (.ireturn, 1) := by decide +kernel
theorem dL_law_809 : decode cL_law 809 = .ok (.goto 1048, 3) := by decide +kernel
theorem dL_law_812 : decode cL_law 812 = .ok (.aload_n 1, 1) := by decide +kernel
theorem dL_law_813 : decode cL_law 813 = .ok (.aload_n 0, 1) := by decide +kernel
theorem dL_law_814 : decode cL_law 814 = .ok (.iload 4, 2) := by decide +kernel
theorem dL_law_816 : decode cL_law 816 = .ok (.iconst 1, 1) := by decide +kernel
theorem dL_law_817 : decode cL_law 817 = .ok (.iadd, 1) := by decide +kernel
theorem dL_law_818 : decode cL_law 818 = .ok (.iaload, 1) := by decide +kernel
theorem dL_law_819 : decode cL_law 819 = .ok (.aload_n 0, 1) := by decide +kernel
theorem dL_law_820 : decode cL_law 820 = .ok (.iload 4, 2) := by decide +kernel
theorem dL_law_822 : decode cL_law 822 = .ok (.iconst 2, 1) := by decide +kernel
theorem dL_law_823 : decode cL_law 823 = .ok (.iadd, 1) := by decide +kernel
theorem dL_law_824 : decode cL_law 824 = .ok (.iaload, 1) := by decide +kernel
theorem dL_law_825 : decode cL_law 825 = .ok (.aload_n 0, 1) := by decide +kernel
theorem dL_law_826 : decode cL_law 826 = .ok (.iload 4, 2) := by decide +kernel
theorem dL_law_828 : decode cL_law 828 = .ok (.iconst 3, 1) := by decide +kernel
theorem dL_law_829 : decode cL_law 829 = .ok (.iadd, 1) := by decide +kernel
theorem dL_law_830 : decode cL_law 830 = .ok (.iaload, 1) := by decide +kernel
theorem dL_law_831 : decode cL_law 831 = .ok (.i2l, 1) := by decide +kernel
theorem dL_law_832 : decode cL_law 832 = .ok (.bipush 32, 2) := by decide +kernel
theorem dL_law_834 : decode cL_law 834 = .ok (.lshl, 1) := by decide +kernel
theorem dL_law_835 : decode cL_law 835 = .ok (.aload_n 0, 1) := by decide +kernel
theorem dL_law_836 : decode cL_law 836 = .ok (.iload 4, 2) := by decide +kernel
theorem dL_law_838 : decode cL_law 838 = .ok (.iconst 4, 1) := by decide +kernel
theorem dL_law_839 : decode cL_law 839 = .ok (.iadd, 1) := by decide +kernel
theorem dL_law_840 : decode cL_law 840 = .ok (.iaload, 1) := by decide +kernel
theorem dL_law_841 : decode cL_law 841 = .ok (.i2l, 1) := by decide +kernel
theorem dL_law_842 : decode cL_law 842 = .ok (.ldc2_w 137, 3) := by decide +kernel
theorem dL_law_845 : decode cL_law 845 = .ok (.land, 1) := by decide +kernel
theorem dL_law_846 : decode cL_law 846 = .ok (.lor, 1) := by decide +kernel
theorem dL_law_847 : decode cL_law 847 = .ok (.aload_n 3, 1) := by decide +kernel
theorem dL_law_848 : decode cL_law 848 = .ok (.invokestatic 139, 3) := by decide +kernel
theorem dL_law_851 : decode cL_law 851 = .ok (.istore 5, 2) := by decide +kernel
theorem dL_law_853 : decode cL_law 853 = .ok (.aload_n 2, 1) := by decide +kernel
theorem dL_law_854 : decode cL_law 854 = .ok (.aload_n 0, 1) := by decide +kernel
theorem dL_law_855 : decode cL_law 855 = .ok (.iload 4, 2) := by decide +kernel
theorem dL_law_857 : decode cL_law 857 = .ok (.iconst 1, 1) := by decide +kernel
theorem dL_law_858 : decode cL_law 858 = .ok (.iadd, 1) := by decide +kernel
theorem dL_law_859 : decode cL_law 859 = .ok (.iaload, 1) := by decide +kernel
theorem dL_law_860 : decode cL_law 860 = .ok (.aload_n 0, 1) := by decide +kernel
theorem dL_law_861 : decode cL_law 861 = .ok (.iload 4, 2) := by decide +kernel
theorem dL_law_863 : decode cL_law 863 = .ok (.iconst 2, 1) := by decide +kernel
theorem dL_law_864 : decode cL_law 864 = .ok (.iadd, 1) := by decide +kernel
theorem dL_law_865 : decode cL_law 865 = .ok (.iaload, 1) := by decide +kernel
theorem dL_law_866 : decode cL_law 866 = .ok (.aload_n 0, 1) := by decide +kernel
theorem dL_law_867 : decode cL_law 867 = .ok (.iload 4, 2) := by decide +kernel
theorem dL_law_869 : decode cL_law 869 = .ok (.iconst 3, 1) := by decide +kernel
theorem dL_law_870 : decode cL_law 870 = .ok (.iadd, 1) := by decide +kernel
theorem dL_law_871 : decode cL_law 871 = .ok (.iaload, 1) := by decide +kernel
theorem dL_law_872 : decode cL_law 872 = .ok (.i2l, 1) := by decide +kernel
theorem dL_law_873 : decode cL_law 873 = .ok (.bipush 32, 2) := by decide +kernel
theorem dL_law_875 : decode cL_law 875 = .ok (.lshl, 1) := by decide +kernel
theorem dL_law_876 : decode cL_law 876 = .ok (.aload_n 0, 1) := by decide +kernel
theorem dL_law_877 : decode cL_law 877 = .ok (.iload 4, 2) := by decide +kernel
theorem dL_law_879 : decode cL_law 879 = .ok (.iconst 4, 1) := by decide +kernel
theorem dL_law_880 : decode cL_law 880 = .ok (.iadd, 1) := by decide +kernel
theorem dL_law_881 : decode cL_law 881 = .ok (.iaload, 1) := by decide +kernel
theorem dL_law_882 : decode cL_law 882 = .ok (.i2l, 1) := by decide +kernel
theorem dL_law_883 : decode cL_law 883 = .ok (.ldc2_w 137, 3) := by decide +kernel
theorem dL_law_886 : decode cL_law 886 = .ok (.land, 1) := by decide +kernel
theorem dL_law_887 : decode cL_law 887 = .ok (.lor, 1) := by decide +kernel
theorem dL_law_888 : decode cL_law 888 = .ok (.invokevirtual 142, 3) := by decide +kernel
theorem dL_law_891 : decode cL_law 891 = .ok (.lstore 6, 2) := by decide +kernel
theorem dL_law_893 : decode cL_law 893 = .ok (.aload_n 2, 1) := by decide +kernel
theorem dL_law_894 : decode cL_law 894 = .ok (.invokevirtual 109, 3) := by decide +kernel
theorem dL_law_897 : decode cL_law 897 = .ok (.iload 5, 2) := by decide +kernel
theorem dL_law_899 : decode cL_law 899 = .ok (.if_icmp .eq 5, 3) := by decide +kernel
theorem dL_law_902 : decode cL_law 902 = .ok (.iconst 0, 1) := by decide +kernel
theorem dL_law_903 : decode cL_law 903 = .ok (.ireturn, 1) := by decide +kernel
theorem dL_law_904 : decode cL_law 904 = .ok (.iload 5, 2) := by decide +kernel
theorem dL_law_906 : decode cL_law 906 = .ok (.ifCond .ne 14, 3) := by decide +kernel
theorem dL_law_909 : decode cL_law 909 = .ok (.aload_n 3, 1) := by decide +kernel
theorem dL_law_910 : decode cL_law 910 = .ok (.iconst 0, 1) := by decide +kernel
theorem dL_law_911 : decode cL_law 911 = .ok (.laload, 1) := by decide +kernel
theorem dL_law_912 : decode cL_law 912 = .ok (.lload 6, 2) := by decide +kernel
theorem dL_law_914 : decode cL_law 914 = .ok (.lcmp, 1) := by decide +kernel
theorem dL_law_915 : decode cL_law 915 = .ok (.ifCond .eq 5, 3) := by decide +kernel
theorem dL_law_918 : decode cL_law 918 = .ok (.iconst 0, 1) := by decide +kernel
theorem dL_law_919 : decode cL_law 919 = .ok (.ireturn, 1) := by decide +kernel
theorem dL_law_920 : decode cL_law 920 = .ok (.goto 937, 3) := by decide +kernel
theorem dL_law_923 : decode cL_law 923 = .ok (.aload_n 1, 1) := by decide +kernel
theorem dL_law_924 : decode cL_law 924 = .ok (.aload_n 0, 1) := by decide +kernel
theorem dL_law_925 : decode cL_law 925 = .ok (.iload 4, 2) := by decide +kernel
theorem dL_law_927 : decode cL_law 927 = .ok (.iconst 1, 1) := by decide +kernel
theorem dL_law_928 : decode cL_law 928 = .ok (.iadd, 1) := by decide +kernel
theorem dL_law_929 : decode cL_law 929 = .ok (.iaload, 1) := by decide +kernel
theorem dL_law_930 : decode cL_law 930 = .ok (.aload_n 0, 1) := by decide +kernel
theorem dL_law_931 : decode cL_law 931 = .ok (.iload 4, 2) := by decide +kernel
theorem dL_law_933 : decode cL_law 933 = .ok (.iconst 2, 1) := by decide +kernel
theorem dL_law_934 : decode cL_law 934 = .ok (.iadd, 1) := by decide +kernel
theorem dL_law_935 : decode cL_law 935 = .ok (.iaload, 1) := by decide +kernel
theorem dL_law_936 : decode cL_law 936 = .ok (.aload_n 3, 1) := by decide +kernel
theorem dL_law_937 : decode cL_law 937 = .ok (.invokestatic 143, 3) := by decide +kernel
theorem dL_law_940 : decode cL_law 940 = .ok (.istore 5, 2) := by decide +kernel
theorem dL_law_942 : decode cL_law 942 = .ok (.aload_n 2, 1) := by decide +kernel
theorem dL_law_943 : decode cL_law 943 = .ok (.aload_n 0, 1) := by decide +kernel
theorem dL_law_944 : decode cL_law 944 = .ok (.iload 4, 2) := by decide +kernel
theorem dL_law_946 : decode cL_law 946 = .ok (.iconst 1, 1) := by decide +kernel
theorem dL_law_947 : decode cL_law 947 = .ok (.iadd, 1) := by decide +kernel
theorem dL_law_948 : decode cL_law 948 = .ok (.iaload, 1) := by decide +kernel
theorem dL_law_949 : decode cL_law 949 = .ok (.aload_n 0, 1) := by decide +kernel
theorem dL_law_950 : decode cL_law 950 = .ok (.iload 4, 2) := by decide +kernel
theorem dL_law_952 : decode cL_law 952 = .ok (.iconst 2, 1) := by decide +kernel
theorem dL_law_953 : decode cL_law 953 = .ok (.iadd, 1) := by decide +kernel
theorem dL_law_954 : decode cL_law 954 = .ok (.iaload, 1) := by decide +kernel
theorem dL_law_955 : decode cL_law 955 = .ok (.invokevirtual 145, 3) := by decide +kernel
theorem dL_law_958 : decode cL_law 958 = .ok (.lstore 6, 2) := by decide +kernel
theorem dL_law_960 : decode cL_law 960 = .ok (.aload_n 2, 1) := by decide +kernel
theorem dL_law_961 : decode cL_law 961 = .ok (.invokevirtual 109, 3) := by decide +kernel
theorem dL_law_964 : decode cL_law 964 = .ok (.iload 5, 2) := by decide +kernel
theorem dL_law_966 : decode cL_law 966 = .ok (.if_icmp .eq 5, 3) := by decide +kernel
theorem dL_law_969 : decode cL_law 969 = .ok (.iconst 0, 1) := by decide +kernel
theorem dL_law_970 : decode cL_law 970 = .ok (.ireturn, 1) := by decide +kernel
theorem dL_law_971 : decode cL_law 971 = .ok (.iload 5, 2) := by decide +kernel
theorem dL_law_973 : decode cL_law 973 = .ok (.ifCond .ne 14, 3) := by decide +kernel
theorem dL_law_976 : decode cL_law 976 = .ok (.aload_n 3, 1) := by decide +kernel
theorem dL_law_977 : decode cL_law 977 = .ok (.iconst 0, 1) := by decide +kernel
theorem dL_law_978 : decode cL_law 978 = .ok (.laload, 1) := by decide +kernel
theorem dL_law_979 : decode cL_law 979 = .ok (.lload 6, 2) := by decide +kernel
theorem dL_law_981 : decode cL_law 981 = .ok (.lcmp, 1) := by decide +kernel
theorem dL_law_982 : decode cL_law 982 = .ok (.ifCond .eq 5, 3) := by decide +kernel
theorem dL_law_985 : decode cL_law 985 = .ok (.iconst 0, 1) := by decide +kernel
theorem dL_law_986 : decode cL_law 986 = .ok (.ireturn, 1) := by decide +kernel
theorem dL_law_987 : decode cL_law 987 = .ok (.goto 870, 3) := by decide +kernel
theorem dL_law_990 : decode cL_law 990 = .ok (.aload_n 1, 1) := by decide +kernel
theorem dL_law_991 : decode cL_law 991 = .ok (.aload_n 0, 1) := by decide +kernel
theorem dL_law_992 : decode cL_law 992 = .ok (.iload 4, 2) := by decide +kernel
theorem dL_law_994 : decode cL_law 994 = .ok (.iconst 1, 1) := by decide +kernel
theorem dL_law_995 : decode cL_law 995 = .ok (.iadd, 1) := by decide +kernel
theorem dL_law_996 : decode cL_law 996 = .ok (.iaload, 1) := by decide +kernel
theorem dL_law_997 : decode cL_law 997 = .ok (.aload_n 0, 1) := by decide +kernel
theorem dL_law_998 : decode cL_law 998 = .ok (.iload 4, 2) := by decide +kernel
theorem dL_law_1000 : decode cL_law 1000 = .ok (.iconst 2, 1) := by decide +kernel
theorem dL_law_1001 : decode cL_law 1001 = .ok (.iadd, 1) := by decide +kernel
theorem dL_law_1002 : decode cL_law 1002 = .ok (.iaload, 1) := by decide +kernel
theorem dL_law_1003 : decode cL_law 1003 = .ok (.aload_n 0, 1) := by decide +kernel
theorem dL_law_1004 : decode cL_law 1004 = .ok (.iload 4, 2) := by decide +kernel
theorem dL_law_1006 : decode cL_law 1006 = .ok (.iconst 3, 1) := by decide +kernel
theorem dL_law_1007 : decode cL_law 1007 = .ok (.iadd, 1) := by decide +kernel
theorem dL_law_1008 : decode cL_law 1008 = .ok (.iaload, 1) := by decide +kernel
theorem dL_law_1009 : decode cL_law 1009 = .ok (.ifCond .eq 7, 3) := by decide +kernel
theorem dL_law_1012 : decode cL_law 1012 = .ok (.iconst 1, 1) := by decide +kernel
theorem dL_law_1013 : decode cL_law 1013 = .ok (.goto 4, 3) := by decide +kernel
theorem dL_law_1016 : decode cL_law 1016 = .ok (.iconst 0, 1) := by decide +kernel
theorem dL_law_1017 : decode cL_law 1017 = .ok (.aload_n 3, 1) := by decide +kernel
theorem dL_law_1018 : decode cL_law 1018 = .ok (.invokestatic 146, 3) := by decide +kernel
theorem dL_law_1021 : decode cL_law 1021 = .ok (.istore 5, 2) := by decide +kernel
theorem dL_law_1023 : decode cL_law 1023 = .ok (.aload_n 2, 1) := by decide +kernel
theorem dL_law_1024 : decode cL_law 1024 = .ok (.aload_n 0, 1) := by decide +kernel
theorem dL_law_1025 : decode cL_law 1025 = .ok (.iload 4, 2) := by decide +kernel
theorem dL_law_1027 : decode cL_law 1027 = .ok (.iconst 1, 1) := by decide +kernel
theorem dL_law_1028 : decode cL_law 1028 = .ok (.iadd, 1) := by decide +kernel
theorem dL_law_1029 : decode cL_law 1029 = .ok (.iaload, 1) := by decide +kernel
theorem dL_law_1030 : decode cL_law 1030 = .ok (.aload_n 0, 1) := by decide +kernel
theorem dL_law_1031 : decode cL_law 1031 = .ok (.iload 4, 2) := by decide +kernel
theorem dL_law_1033 : decode cL_law 1033 = .ok (.iconst 2, 1) := by decide +kernel
theorem dL_law_1034 : decode cL_law 1034 = .ok (.iadd, 1) := by decide +kernel
theorem dL_law_1035 : decode cL_law 1035 = .ok (.iaload, 1) := by decide +kernel
theorem dL_law_1036 : decode cL_law 1036 = .ok (.aload_n 0, 1) := by decide +kernel
theorem dL_law_1037 : decode cL_law 1037 = .ok (.iload 4, 2) := by decide +kernel
theorem dL_law_1039 : decode cL_law 1039 = .ok (.iconst 3, 1) := by decide +kernel
theorem dL_law_1040 : decode cL_law 1040 = .ok (.iadd, 1) := by decide +kernel
theorem dL_law_1041 : decode cL_law 1041 = .ok (.iaload, 1) := by decide +kernel
theorem dL_law_1042 : decode cL_law 1042 = .ok (.ifCond .eq 7, 3) := by decide +kernel
theorem dL_law_1045 : decode cL_law 1045 = .ok (.iconst 1, 1) := by decide +kernel
theorem dL_law_1046 : decode cL_law 1046 = .ok (.goto 4, 3) := by decide +kernel
theorem dL_law_1049 : decode cL_law 1049 = .ok (.iconst 0, 1) := by decide +kernel
theorem dL_law_1050 : decode cL_law 1050 = .ok (.invokevirtual 148, 3) := by decide +kernel
theorem dL_law_1053 : decode cL_law 1053 = .ok (.istore 6, 2) := by decide +kernel
theorem dL_law_1055 : decode cL_law 1055 = .ok (.aload_n 2, 1) := by decide +kernel
theorem dL_law_1056 : decode cL_law 1056 = .ok (.invokevirtual 109, 3) := by decide +kernel
theorem dL_law_1059 : decode cL_law 1059 = .ok (.iload 5, 2) := by decide +kernel
theorem dL_law_1061 : decode cL_law 1061 = .ok (.if_icmp .eq 5, 3) := by decide +kernel
theorem dL_law_1064 : decode cL_law 1064 = .ok (.iconst 0, 1) := by decide +kernel
theorem dL_law_1065 : decode cL_law 1065 = .ok (.ireturn, 1) := by decide +kernel
theorem dL_law_1066 : decode cL_law 1066 = .ok (.iload 5, 2) := by decide +kernel
theorem dL_law_1068 : decode cL_law 1068 = .ok (.ifCond .ne 15, 3) := by decide +kernel
theorem dL_law_1071 : decode cL_law 1071 = .ok (.aload_n 3, 1) := by decide +kernel
theorem dL_law_1072 : decode cL_law 1072 = .ok (.iconst 0, 1) := by decide +kernel
theorem dL_law_1073 : decode cL_law 1073 = .ok (.laload, 1) := by decide +kernel
theorem dL_law_1074 : decode cL_law 1074 = .ok (.iload 6, 2) := by decide +kernel
theorem dL_law_1076 : decode cL_law 1076 = .ok (.i2l, 1) := by decide +kernel
theorem dL_law_1077 : decode cL_law 1077 = .ok (.lcmp, 1) := by decide +kernel
theorem dL_law_1078 : decode cL_law 1078 = .ok (.ifCond .eq 5, 3) := by decide +kernel
theorem dL_law_1081 : decode cL_law 1081 = .ok (.iconst 0, 1) := by decide +kernel
theorem dL_law_1082 : decode cL_law 1082 = .ok (.ireturn, 1) := by decide +kernel
theorem dL_law_1083 : decode cL_law 1083 = .ok (.goto 774, 3) := by decide +kernel
theorem dL_law_1086 : decode cL_law 1086 = .ok (.aload_n 1, 1) := by decide +kernel
theorem dL_law_1087 : decode cL_law 1087 = .ok (.aload_n 0, 1) := by decide +kernel
theorem dL_law_1088 : decode cL_law 1088 = .ok (.iload 4, 2) := by decide +kernel
theorem dL_law_1090 : decode cL_law 1090 = .ok (.iconst 1, 1) := by decide +kernel
theorem dL_law_1091 : decode cL_law 1091 = .ok (.iadd, 1) := by decide +kernel
theorem dL_law_1092 : decode cL_law 1092 = .ok (.iaload, 1) := by decide +kernel
theorem dL_law_1093 : decode cL_law 1093 = .ok (.aload_n 0, 1) := by decide +kernel
theorem dL_law_1094 : decode cL_law 1094 = .ok (.iload 4, 2) := by decide +kernel
theorem dL_law_1096 : decode cL_law 1096 = .ok (.iconst 2, 1) := by decide +kernel
theorem dL_law_1097 : decode cL_law 1097 = .ok (.iadd, 1) := by decide +kernel
theorem dL_law_1098 : decode cL_law 1098 = .ok (.iaload, 1) := by decide +kernel
theorem dL_law_1099 : decode cL_law 1099 = .ok (.aload_n 3, 1) := by decide +kernel
theorem dL_law_1100 : decode cL_law 1100 = .ok (.invokestatic 149, 3) := by decide +kernel
theorem dL_law_1103 : decode cL_law 1103 = .ok (.istore 5, 2) := by decide +kernel
theorem dL_law_1105 : decode cL_law 1105 = .ok (.aload_n 2, 1) := by decide +kernel
theorem dL_law_1106 : decode cL_law 1106 = .ok (.aload_n 0, 1) := by decide +kernel
theorem dL_law_1107 : decode cL_law 1107 = .ok (.iload 4, 2) := by decide +kernel
theorem dL_law_1109 : decode cL_law 1109 = .ok (.iconst 1, 1) := by decide +kernel
theorem dL_law_1110 : decode cL_law 1110 = .ok (.iadd, 1) := by decide +kernel
theorem dL_law_1111 : decode cL_law 1111 = .ok (.iaload, 1) := by decide +kernel
theorem dL_law_1112 : decode cL_law 1112 = .ok (.aload_n 0, 1) := by decide +kernel
theorem dL_law_1113 : decode cL_law 1113 = .ok (.iload 4, 2) := by decide +kernel
theorem dL_law_1115 : decode cL_law 1115 = .ok (.iconst 2, 1) := by decide +kernel
theorem dL_law_1116 : decode cL_law 1116 = .ok (.iadd, 1) := by decide +kernel
theorem dL_law_1117 : decode cL_law 1117 = .ok (.iaload, 1) := by decide +kernel
theorem dL_law_1118 : decode cL_law 1118 = .ok (.invokevirtual 151, 3) := by decide +kernel
theorem dL_law_1121 : decode cL_law 1121 = .ok (.istore 6, 2) := by decide +kernel
theorem dL_law_1123 : decode cL_law 1123 = .ok (.aload_n 2, 1) := by decide +kernel
theorem dL_law_1124 : decode cL_law 1124 = .ok (.invokevirtual 109, 3) := by decide +kernel
theorem dL_law_1127 : decode cL_law 1127 = .ok (.iload 5, 2) := by decide +kernel
theorem dL_law_1129 : decode cL_law 1129 = .ok (.if_icmp .eq 5, 3) := by decide +kernel
theorem dL_law_1132 : decode cL_law 1132 = .ok (.iconst 0, 1) := by decide +kernel
theorem dL_law_1133 : decode cL_law 1133 = .ok (.ireturn, 1) := by decide +kernel
theorem dL_law_1134 : decode cL_law 1134 = .ok (.iload 5, 2) := by decide +kernel
theorem dL_law_1136 : decode cL_law 1136 = .ok (.ifCond .ne 15, 3) := by decide +kernel
theorem dL_law_1139 : decode cL_law 1139 = .ok (.aload_n 3, 1) := by decide +kernel
theorem dL_law_1140 : decode cL_law 1140 = .ok (.iconst 0, 1) := by decide +kernel
theorem dL_law_1141 : decode cL_law 1141 = .ok (.laload, 1) := by decide +kernel
theorem dL_law_1142 : decode cL_law 1142 = .ok (.iload 6, 2) := by decide +kernel
theorem dL_law_1144 : decode cL_law 1144 = .ok (.i2l, 1) := by decide +kernel
theorem dL_law_1145 : decode cL_law 1145 = .ok (.lcmp, 1) := by decide +kernel
theorem dL_law_1146 : decode cL_law 1146 = .ok (.ifCond .eq 5, 3) := by decide +kernel
theorem dL_law_1149 : decode cL_law 1149 = .ok (.iconst 0, 1) := by decide +kernel
theorem dL_law_1150 : decode cL_law 1150 = .ok (.ireturn, 1) := by decide +kernel
theorem dL_law_1151 : decode cL_law 1151 = .ok (.goto 706, 3) := by decide +kernel
theorem dL_law_1154 : decode cL_law 1154 = .ok (.aload_n 1, 1) := by decide +kernel
theorem dL_law_1155 : decode cL_law 1155 = .ok (.aload_n 0, 1) := by decide +kernel
theorem dL_law_1156 : decode cL_law 1156 = .ok (.iload 4, 2) := by decide +kernel
theorem dL_law_1158 : decode cL_law 1158 = .ok (.iconst 1, 1) := by decide +kernel
theorem dL_law_1159 : decode cL_law 1159 = .ok (.iadd, 1) := by decide +kernel
theorem dL_law_1160 : decode cL_law 1160 = .ok (.iaload, 1) := by decide +kernel
theorem dL_law_1161 : decode cL_law 1161 = .ok (.aload_n 0, 1) := by decide +kernel
theorem dL_law_1162 : decode cL_law 1162 = .ok (.iload 4, 2) := by decide +kernel
theorem dL_law_1164 : decode cL_law 1164 = .ok (.iconst 2, 1) := by decide +kernel
theorem dL_law_1165 : decode cL_law 1165 = .ok (.iadd, 1) := by decide +kernel
theorem dL_law_1166 : decode cL_law 1166 = .ok (.iaload, 1) := by decide +kernel
theorem dL_law_1167 : decode cL_law 1167 = .ok (.ifCond .eq 7, 3) := by decide +kernel
theorem dL_law_1170 : decode cL_law 1170 = .ok (.iconst 1, 1) := by decide +kernel
theorem dL_law_1171 : decode cL_law 1171 = .ok (.goto 4, 3) := by decide +kernel
theorem dL_law_1174 : decode cL_law 1174 = .ok (.iconst 0, 1) := by decide +kernel
theorem dL_law_1175 : decode cL_law 1175 = .ok (.aload_n 3, 1) := by decide +kernel
theorem dL_law_1176 : decode cL_law 1176 = .ok (.invokestatic 152, 3) := by decide +kernel
theorem dL_law_1179 : decode cL_law 1179 = .ok (.istore 5, 2) := by decide +kernel
theorem dL_law_1181 : decode cL_law 1181 = .ok (.aload_n 2, 1) := by decide +kernel
theorem dL_law_1182 : decode cL_law 1182 = .ok (.aload_n 0, 1) := by decide +kernel
theorem dL_law_1183 : decode cL_law 1183 = .ok (.iload 4, 2) := by decide +kernel
theorem dL_law_1185 : decode cL_law 1185 = .ok (.iconst 1, 1) := by decide +kernel
theorem dL_law_1186 : decode cL_law 1186 = .ok (.iadd, 1) := by decide +kernel
theorem dL_law_1187 : decode cL_law 1187 = .ok (.iaload, 1) := by decide +kernel
theorem dL_law_1188 : decode cL_law 1188 = .ok (.aload_n 0, 1) := by decide +kernel
theorem dL_law_1189 : decode cL_law 1189 = .ok (.iload 4, 2) := by decide +kernel
theorem dL_law_1191 : decode cL_law 1191 = .ok (.iconst 2, 1) := by decide +kernel
theorem dL_law_1192 : decode cL_law 1192 = .ok (.iadd, 1) := by decide +kernel
theorem dL_law_1193 : decode cL_law 1193 = .ok (.iaload, 1) := by decide +kernel
theorem dL_law_1194 : decode cL_law 1194 = .ok (.ifCond .eq 7, 3) := by decide +kernel
theorem dL_law_1197 : decode cL_law 1197 = .ok (.iconst 1, 1) := by decide +kernel
theorem dL_law_1198 : decode cL_law 1198 = .ok (.goto 4, 3) := by decide +kernel
theorem dL_law_1201 : decode cL_law 1201 = .ok (.iconst 0, 1) := by decide +kernel
theorem dL_law_1202 : decode cL_law 1202 = .ok (.invokevirtual 155, 3) := by decide +kernel
theorem dL_law_1205 : decode cL_law 1205 = .ok (.istore 6, 2) := by decide +kernel
theorem dL_law_1207 : decode cL_law 1207 = .ok (.aload_n 2, 1) := by decide +kernel
theorem dL_law_1208 : decode cL_law 1208 = .ok (.invokevirtual 109, 3) := by decide +kernel
theorem dL_law_1211 : decode cL_law 1211 = .ok (.iload 5, 2) := by decide +kernel
theorem dL_law_1213 : decode cL_law 1213 = .ok (.if_icmp .eq 5, 3) := by decide +kernel
theorem dL_law_1216 : decode cL_law 1216 = .ok (.iconst 0, 1) := by decide +kernel
theorem dL_law_1217 : decode cL_law 1217 = .ok (.ireturn, 1) := by decide +kernel
theorem dL_law_1218 : decode cL_law 1218 = .ok (.iload 5, 2) := by decide +kernel
theorem dL_law_1220 : decode cL_law 1220 = .ok (.ifCond .ne 15, 3) := by decide +kernel
theorem dL_law_1223 : decode cL_law 1223 = .ok (.aload_n 3, 1) := by decide +kernel
theorem dL_law_1224 : decode cL_law 1224 = .ok (.iconst 0, 1) := by decide +kernel
theorem dL_law_1225 : decode cL_law 1225 = .ok (.laload, 1) := by decide +kernel
theorem dL_law_1226 : decode cL_law 1226 = .ok (.iload 6, 2) := by decide +kernel
theorem dL_law_1228 : decode cL_law 1228 = .ok (.i2l, 1) := by decide +kernel
theorem dL_law_1229 : decode cL_law 1229 = .ok (.lcmp, 1) := by decide +kernel
theorem dL_law_1230 : decode cL_law 1230 = .ok (.ifCond .eq 5, 3) := by decide +kernel
theorem dL_law_1233 : decode cL_law 1233 = .ok (.iconst 0, 1) := by decide +kernel
theorem dL_law_1234 : decode cL_law 1234 = .ok (.ireturn, 1) := by decide +kernel
theorem dL_law_1235 : decode cL_law 1235 = .ok (.goto 622, 3) := by decide +kernel
theorem dL_law_1238 : decode cL_law 1238 = .ok (.aload_n 1, 1) := by decide +kernel
theorem dL_law_1239 : decode cL_law 1239 = .ok (.aload_n 0, 1) := by decide +kernel
theorem dL_law_1240 : decode cL_law 1240 = .ok (.iload 4, 2) := by decide +kernel
theorem dL_law_1242 : decode cL_law 1242 = .ok (.iconst 1, 1) := by decide +kernel
theorem dL_law_1243 : decode cL_law 1243 = .ok (.iadd, 1) := by decide +kernel
theorem dL_law_1244 : decode cL_law 1244 = .ok (.iaload, 1) := by decide +kernel
theorem dL_law_1245 : decode cL_law 1245 = .ok (.aload_n 0, 1) := by decide +kernel
theorem dL_law_1246 : decode cL_law 1246 = .ok (.iload 4, 2) := by decide +kernel
theorem dL_law_1248 : decode cL_law 1248 = .ok (.iconst 2, 1) := by decide +kernel
theorem dL_law_1249 : decode cL_law 1249 = .ok (.iadd, 1) := by decide +kernel
theorem dL_law_1250 : decode cL_law 1250 = .ok (.iaload, 1) := by decide +kernel
theorem dL_law_1251 : decode cL_law 1251 = .ok (.aload_n 3, 1) := by decide +kernel
theorem dL_law_1252 : decode cL_law 1252 = .ok (.invokestatic 156, 3) := by decide +kernel
theorem dL_law_1255 : decode cL_law 1255 = .ok (.istore 5, 2) := by decide +kernel
theorem dL_law_1257 : decode cL_law 1257 = .ok (.aload_n 2, 1) := by decide +kernel
theorem dL_law_1258 : decode cL_law 1258 = .ok (.aload_n 0, 1) := by decide +kernel
theorem dL_law_1259 : decode cL_law 1259 = .ok (.iload 4, 2) := by decide +kernel
theorem dL_law_1261 : decode cL_law 1261 = .ok (.iconst 1, 1) := by decide +kernel
theorem dL_law_1262 : decode cL_law 1262 = .ok (.iadd, 1) := by decide +kernel
theorem dL_law_1263 : decode cL_law 1263 = .ok (.iaload, 1) := by decide +kernel
theorem dL_law_1264 : decode cL_law 1264 = .ok (.aload_n 0, 1) := by decide +kernel
theorem dL_law_1265 : decode cL_law 1265 = .ok (.iload 4, 2) := by decide +kernel
theorem dL_law_1267 : decode cL_law 1267 = .ok (.iconst 2, 1) := by decide +kernel
theorem dL_law_1268 : decode cL_law 1268 = .ok (.iadd, 1) := by decide +kernel
theorem dL_law_1269 : decode cL_law 1269 = .ok (.iaload, 1) := by decide +kernel
theorem dL_law_1270 : decode cL_law 1270 = .ok (.invokevirtual 158, 3) := by decide +kernel
theorem dL_law_1273 : decode cL_law 1273 = .ok (.istore 6, 2) := by decide +kernel
theorem dL_law_1275 : decode cL_law 1275 = .ok (.aload_n 2, 1) := by decide +kernel
theorem dL_law_1276 : decode cL_law 1276 = .ok (.invokevirtual 109, 3) := by decide +kernel
theorem dL_law_1279 : decode cL_law 1279 = .ok (.iload 5, 2) := by decide +kernel
theorem dL_law_1281 : decode cL_law 1281 = .ok (.if_icmp .eq 5, 3) := by decide +kernel
theorem dL_law_1284 : decode cL_law 1284 = .ok (.iconst 0, 1) := by decide +kernel
theorem dL_law_1285 : decode cL_law 1285 = .ok (.ireturn, 1) := by decide +kernel
theorem dL_law_1286 : decode cL_law 1286 = .ok (.iload 5, 2) := by decide +kernel
theorem dL_law_1288 : decode cL_law 1288 = .ok (.ifCond .ne 15, 3) := by decide +kernel
theorem dL_law_1291 : decode cL_law 1291 = .ok (.aload_n 3, 1) := by decide +kernel
theorem dL_law_1292 : decode cL_law 1292 = .ok (.iconst 0, 1) := by decide +kernel
theorem dL_law_1293 : decode cL_law 1293 = .ok (.laload, 1) := by decide +kernel
theorem dL_law_1294 : decode cL_law 1294 = .ok (.iload 6, 2) := by decide +kernel
theorem dL_law_1296 : decode cL_law 1296 = .ok (.i2l, 1) := by decide +kernel
theorem dL_law_1297 : decode cL_law 1297 = .ok (.lcmp, 1) := by decide +kernel
theorem dL_law_1298 : decode cL_law 1298 = .ok (.ifCond .eq 5, 3) := by decide +kernel
theorem dL_law_1301 : decode cL_law 1301 = .ok (.iconst 0, 1) := by decide +kernel
theorem dL_law_1302 : decode cL_law 1302 = .ok (.ireturn, 1) := by decide +kernel
theorem dL_law_1303 : decode cL_law 1303 = .ok (.goto 554, 3) := by decide +kernel
theorem dL_law_1306 : decode cL_law 1306 = .ok (.aload_n 1, 1) := by decide +kernel
theorem dL_law_1307 : decode cL_law 1307 = .ok (.aload_n 0, 1) := by decide +kernel
theorem dL_law_1308 : decode cL_law 1308 = .ok (.iload 4, 2) := by decide +kernel
theorem dL_law_1310 : decode cL_law 1310 = .ok (.iconst 1, 1) := by decide +kernel
theorem dL_law_1311 : decode cL_law 1311 = .ok (.iadd, 1) := by decide +kernel
theorem dL_law_1312 : decode cL_law 1312 = .ok (.iaload, 1) := by decide +kernel
theorem dL_law_1313 : decode cL_law 1313 = .ok (.aload_n 3, 1) := by decide +kernel
theorem dL_law_1314 : decode cL_law 1314 = .ok (.invokestatic 159, 3) := by decide +kernel
theorem dL_law_1317 : decode cL_law 1317 = .ok (.istore 5, 2) := by decide +kernel
theorem dL_law_1319 : decode cL_law 1319 = .ok (.aload_n 2, 1) := by decide +kernel
theorem dL_law_1320 : decode cL_law 1320 = .ok (.aload_n 0, 1) := by decide +kernel
theorem dL_law_1321 : decode cL_law 1321 = .ok (.iload 4, 2) := by decide +kernel
theorem dL_law_1323 : decode cL_law 1323 = .ok (.iconst 1, 1) := by decide +kernel
theorem dL_law_1324 : decode cL_law 1324 = .ok (.iadd, 1) := by decide +kernel
theorem dL_law_1325 : decode cL_law 1325 = .ok (.iaload, 1) := by decide +kernel
theorem dL_law_1326 : decode cL_law 1326 = .ok (.invokevirtual 161, 3) := by decide +kernel
theorem dL_law_1329 : decode cL_law 1329 = .ok (.istore 6, 2) := by decide +kernel
theorem dL_law_1331 : decode cL_law 1331 = .ok (.aload_n 2, 1) := by decide +kernel
theorem dL_law_1332 : decode cL_law 1332 = .ok (.invokevirtual 109, 3) := by decide +kernel
theorem dL_law_1335 : decode cL_law 1335 = .ok (.iload 5, 2) := by decide +kernel
theorem dL_law_1337 : decode cL_law 1337 = .ok (.if_icmp .eq 5, 3) := by decide +kernel
theorem dL_law_1340 : decode cL_law 1340 = .ok (.iconst 0, 1) := by decide +kernel
theorem dL_law_1341 : decode cL_law 1341 = .ok (.ireturn, 1) := by decide +kernel
theorem dL_law_1342 : decode cL_law 1342 = .ok (.iload 5, 2) := by decide +kernel
theorem dL_law_1344 : decode cL_law 1344 = .ok (.ifCond .ne 15, 3) := by decide +kernel
theorem dL_law_1347 : decode cL_law 1347 = .ok (.aload_n 3, 1) := by decide +kernel
theorem dL_law_1348 : decode cL_law 1348 = .ok (.iconst 0, 1) := by decide +kernel
theorem dL_law_1349 : decode cL_law 1349 = .ok (.laload, 1) := by decide +kernel
theorem dL_law_1350 : decode cL_law 1350 = .ok (.iload 6, 2) := by decide +kernel
theorem dL_law_1352 : decode cL_law 1352 = .ok (.i2l, 1) := by decide +kernel
theorem dL_law_1353 : decode cL_law 1353 = .ok (.lcmp, 1) := by decide +kernel
theorem dL_law_1354 : decode cL_law 1354 = .ok (.ifCond .eq 5, 3) := by decide +kernel
theorem dL_law_1357 : decode cL_law 1357 = .ok (.iconst 0, 1) := by decide +kernel
theorem dL_law_1358 : decode cL_law 1358 = .ok (.ireturn, 1) := by decide +kernel
theorem dL_law_1359 : decode cL_law 1359 = .ok (.goto 498, 3) := by decide +kernel
theorem dL_law_1362 : decode cL_law 1362 = .ok (.aload_n 1, 1) := by decide +kernel
theorem dL_law_1363 : decode cL_law 1363 = .ok (.aload_n 0, 1) := by decide +kernel
theorem dL_law_1364 : decode cL_law 1364 = .ok (.iload 4, 2) := by decide +kernel
theorem dL_law_1366 : decode cL_law 1366 = .ok (.iconst 1, 1) := by decide +kernel
theorem dL_law_1367 : decode cL_law 1367 = .ok (.iadd, 1) := by decide +kernel
theorem dL_law_1368 : decode cL_law 1368 = .ok (.iaload, 1) := by decide +kernel
theorem dL_law_1369 : decode cL_law 1369 = .ok (.aload_n 3, 1) := by decide +kernel
theorem dL_law_1370 : decode cL_law 1370 = .ok (.invokestatic 162, 3) := by decide +kernel
theorem dL_law_1373 : decode cL_law 1373 = .ok (.istore 5, 2) := by decide +kernel
theorem dL_law_1375 : decode cL_law 1375 = .ok (.aload_n 2, 1) := by decide +kernel
theorem dL_law_1376 : decode cL_law 1376 = .ok (.aload_n 0, 1) := by decide +kernel
theorem dL_law_1377 : decode cL_law 1377 = .ok (.iload 4, 2) := by decide +kernel
theorem dL_law_1379 : decode cL_law 1379 = .ok (.iconst 1, 1) := by decide +kernel
theorem dL_law_1380 : decode cL_law 1380 = .ok (.iadd, 1) := by decide +kernel
theorem dL_law_1381 : decode cL_law 1381 = .ok (.iaload, 1) := by decide +kernel
theorem dL_law_1382 : decode cL_law 1382 = .ok (.invokevirtual 164, 3) := by decide +kernel
theorem dL_law_1385 : decode cL_law 1385 = .ok (.istore 6, 2) := by decide +kernel
theorem dL_law_1387 : decode cL_law 1387 = .ok (.aload_n 2, 1) := by decide +kernel
theorem dL_law_1388 : decode cL_law 1388 = .ok (.invokevirtual 109, 3) := by decide +kernel
theorem dL_law_1391 : decode cL_law 1391 = .ok (.iload 5, 2) := by decide +kernel
theorem dL_law_1393 : decode cL_law 1393 = .ok (.if_icmp .eq 5, 3) := by decide +kernel
theorem dL_law_1396 : decode cL_law 1396 = .ok (.iconst 0, 1) := by decide +kernel
theorem dL_law_1397 : decode cL_law 1397 = .ok (.ireturn, 1) := by decide +kernel
theorem dL_law_1398 : decode cL_law 1398 = .ok (.iload 5, 2) := by decide +kernel
theorem dL_law_1400 : decode cL_law 1400 = .ok (.ifCond .ne 15, 3) := by decide +kernel
theorem dL_law_1403 : decode cL_law 1403 = .ok (.aload_n 3, 1) := by decide +kernel
theorem dL_law_1404 : decode cL_law 1404 = .ok (.iconst 0, 1) := by decide +kernel
theorem dL_law_1405 : decode cL_law 1405 = .ok (.laload, 1) := by decide +kernel
theorem dL_law_1406 : decode cL_law 1406 = .ok (.iload 6, 2) := by decide +kernel
theorem dL_law_1408 : decode cL_law 1408 = .ok (.i2l, 1) := by decide +kernel
theorem dL_law_1409 : decode cL_law 1409 = .ok (.lcmp, 1) := by decide +kernel
theorem dL_law_1410 : decode cL_law 1410 = .ok (.ifCond .eq 5, 3) := by decide +kernel
theorem dL_law_1413 : decode cL_law 1413 = .ok (.iconst 0, 1) := by decide +kernel
theorem dL_law_1414 : decode cL_law 1414 = .ok (.ireturn, 1) := by decide +kernel
theorem dL_law_1415 : decode cL_law 1415 = .ok (.goto 442, 3) := by decide +kernel
theorem dL_law_1418 : decode cL_law 1418 = .ok (.aload_n 1, 1) := by decide +kernel
theorem dL_law_1419 : decode cL_law 1419 = .ok (.aload_n 0, 1) := by decide +kernel
theorem dL_law_1420 : decode cL_law 1420 = .ok (.iload 4, 2) := by decide +kernel
theorem dL_law_1422 : decode cL_law 1422 = .ok (.iconst 1, 1) := by decide +kernel
theorem dL_law_1423 : decode cL_law 1423 = .ok (.iadd, 1) := by decide +kernel
theorem dL_law_1424 : decode cL_law 1424 = .ok (.iaload, 1) := by decide +kernel
theorem dL_law_1425 : decode cL_law 1425 = .ok (.aload_n 3, 1) := by decide +kernel
theorem dL_law_1426 : decode cL_law 1426 = .ok (.invokestatic 165, 3) := by decide +kernel
theorem dL_law_1429 : decode cL_law 1429 = .ok (.istore 5, 2) := by decide +kernel
theorem dL_law_1431 : decode cL_law 1431 = .ok (.aload_n 2, 1) := by decide +kernel
theorem dL_law_1432 : decode cL_law 1432 = .ok (.aload_n 0, 1) := by decide +kernel
theorem dL_law_1433 : decode cL_law 1433 = .ok (.iload 4, 2) := by decide +kernel
theorem dL_law_1435 : decode cL_law 1435 = .ok (.iconst 1, 1) := by decide +kernel
theorem dL_law_1436 : decode cL_law 1436 = .ok (.iadd, 1) := by decide +kernel
theorem dL_law_1437 : decode cL_law 1437 = .ok (.iaload, 1) := by decide +kernel
theorem dL_law_1438 : decode cL_law 1438 = .ok (.invokevirtual 167, 3) := by decide +kernel
theorem dL_law_1441 : decode cL_law 1441 = .ok (.istore 6, 2) := by decide +kernel
theorem dL_law_1443 : decode cL_law 1443 = .ok (.aload_n 2, 1) := by decide +kernel
theorem dL_law_1444 : decode cL_law 1444 = .ok (.invokevirtual 109, 3) := by decide +kernel
theorem dL_law_1447 : decode cL_law 1447 = .ok (.iload 5, 2) := by decide +kernel
theorem dL_law_1449 : decode cL_law 1449 = .ok (.if_icmp .eq 5, 3) := by decide +kernel
theorem dL_law_1452 : decode cL_law 1452 = .ok (.iconst 0, 1) := by decide +kernel
theorem dL_law_1453 : decode cL_law 1453 = .ok (.ireturn, 1) := by decide +kernel
theorem dL_law_1454 : decode cL_law 1454 = .ok (.iload 5, 2) := by decide +kernel
theorem dL_law_1456 : decode cL_law 1456 = .ok (.ifCond .ne 15, 3) := by decide +kernel
theorem dL_law_1459 : decode cL_law 1459 = .ok (.aload_n 3, 1) := by decide +kernel
theorem dL_law_1460 : decode cL_law 1460 = .ok (.iconst 0, 1) := by decide +kernel
theorem dL_law_1461 : decode cL_law 1461 = .ok (.laload, 1) := by decide +kernel
theorem dL_law_1462 : decode cL_law 1462 = .ok (.iload 6, 2) := by decide +kernel
theorem dL_law_1464 : decode cL_law 1464 = .ok (.i2l, 1) := by decide +kernel
theorem dL_law_1465 : decode cL_law 1465 = .ok (.lcmp, 1) := by decide +kernel
theorem dL_law_1466 : decode cL_law 1466 = .ok (.ifCond .eq 5, 3) := by decide +kernel
theorem dL_law_1469 : decode cL_law 1469 = .ok (.iconst 0, 1) := by decide +kernel
theorem dL_law_1470 : decode cL_law 1470 = .ok (.ireturn, 1) := by decide +kernel
theorem dL_law_1471 : decode cL_law 1471 = .ok (.goto 386, 3) := by decide +kernel
theorem dL_law_1474 : decode cL_law 1474 = .ok (.aload_n 1, 1) := by decide +kernel
theorem dL_law_1475 : decode cL_law 1475 = .ok (.aload_n 0, 1) := by decide +kernel
theorem dL_law_1476 : decode cL_law 1476 = .ok (.iload 4, 2) := by decide +kernel
theorem dL_law_1478 : decode cL_law 1478 = .ok (.iconst 1, 1) := by decide +kernel
theorem dL_law_1479 : decode cL_law 1479 = .ok (.iadd, 1) := by decide +kernel
theorem dL_law_1480 : decode cL_law 1480 = .ok (.iaload, 1) := by decide +kernel
theorem dL_law_1481 : decode cL_law 1481 = .ok (.aload_n 0, 1) := by decide +kernel
theorem dL_law_1482 : decode cL_law 1482 = .ok (.iload 4, 2) := by decide +kernel
theorem dL_law_1484 : decode cL_law 1484 = .ok (.iconst 2, 1) := by decide +kernel
theorem dL_law_1485 : decode cL_law 1485 = .ok (.iadd, 1) := by decide +kernel
theorem dL_law_1486 : decode cL_law 1486 = .ok (.iaload, 1) := by decide +kernel
theorem dL_law_1487 : decode cL_law 1487 = .ok (.aload_n 3, 1) := by decide +kernel
theorem dL_law_1488 : decode cL_law 1488 = .ok (.invokestatic 168, 3) := by decide +kernel
theorem dL_law_1491 : decode cL_law 1491 = .ok (.istore 5, 2) := by decide +kernel
theorem dL_law_1493 : decode cL_law 1493 = .ok (.aload_n 2, 1) := by decide +kernel
theorem dL_law_1494 : decode cL_law 1494 = .ok (.aload_n 0, 1) := by decide +kernel
theorem dL_law_1495 : decode cL_law 1495 = .ok (.iload 4, 2) := by decide +kernel
theorem dL_law_1497 : decode cL_law 1497 = .ok (.iconst 1, 1) := by decide +kernel
theorem dL_law_1498 : decode cL_law 1498 = .ok (.iadd, 1) := by decide +kernel
theorem dL_law_1499 : decode cL_law 1499 = .ok (.iaload, 1) := by decide +kernel
theorem dL_law_1500 : decode cL_law 1500 = .ok (.aload_n 0, 1) := by decide +kernel
theorem dL_law_1501 : decode cL_law 1501 = .ok (.iload 4, 2) := by decide +kernel
theorem dL_law_1503 : decode cL_law 1503 = .ok (.iconst 2, 1) := by decide +kernel
theorem dL_law_1504 : decode cL_law 1504 = .ok (.iadd, 1) := by decide +kernel
theorem dL_law_1505 : decode cL_law 1505 = .ok (.iaload, 1) := by decide +kernel
theorem dL_law_1506 : decode cL_law 1506 = .ok (.invokevirtual 170, 3) := by decide +kernel
theorem dL_law_1509 : decode cL_law 1509 = .ok (.istore 6, 2) := by decide +kernel
theorem dL_law_1511 : decode cL_law 1511 = .ok (.aload_n 2, 1) := by decide +kernel
theorem dL_law_1512 : decode cL_law 1512 = .ok (.invokevirtual 109, 3) := by decide +kernel
theorem dL_law_1515 : decode cL_law 1515 = .ok (.iload 5, 2) := by decide +kernel
theorem dL_law_1517 : decode cL_law 1517 = .ok (.if_icmp .eq 5, 3) := by decide +kernel
theorem dL_law_1520 : decode cL_law 1520 = .ok (.iconst 0, 1) := by decide +kernel
theorem dL_law_1521 : decode cL_law 1521 = .ok (.ireturn, 1) := by decide +kernel
theorem dL_law_1522 : decode cL_law 1522 = .ok (.iload 5, 2) := by decide +kernel
theorem dL_law_1524 : decode cL_law 1524 = .ok (.ifCond .ne 22, 3) := by decide +kernel
theorem dL_law_1527 : decode cL_law 1527 = .ok (.aload_n 3, 1) := by decide +kernel
theorem dL_law_1528 : decode cL_law 1528 = .ok (.iconst 0, 1) := by decide +kernel
theorem dL_law_1529 : decode cL_law 1529 = .ok (.laload, 1) := by decide +kernel
theorem dL_law_1530 : decode cL_law 1530 = .ok (.iload 6, 2) := by decide +kernel
theorem dL_law_1532 : decode cL_law 1532 = .ok (.ifCond .eq 7, 3) := by decide +kernel
theorem dL_law_1535 : decode cL_law 1535 = .ok (.lconst 1, 1) := by decide +kernel
theorem dL_law_1536 : decode cL_law 1536 = .ok (.goto 4, 3) := by decide +kernel
theorem dL_law_1539 : decode cL_law 1539 = .ok (.lconst 0, 1) := by decide +kernel
theorem dL_law_1540 : decode cL_law 1540 = .ok (.lcmp, 1) := by decide +kernel
theorem dL_law_1541 : decode cL_law 1541 = .ok (.ifCond .eq 5, 3) := by decide +kernel
theorem dL_law_1544 : decode cL_law 1544 = .ok (.iconst 0, 1) := by decide +kernel
theorem dL_law_1545 : decode cL_law 1545 = .ok (.ireturn, 1) := by decide +kernel
theorem dL_law_1546 : decode cL_law 1546 = .ok (.goto 311, 3) := by decide +kernel
theorem dL_law_1549 : decode cL_law 1549 = .ok (.aload_n 1, 1) := by decide +kernel
theorem dL_law_1550 : decode cL_law 1550 = .ok (.aload_n 0, 1) := by decide +kernel
theorem dL_law_1551 : decode cL_law 1551 = .ok (.iload 4, 2) := by decide +kernel
theorem dL_law_1553 : decode cL_law 1553 = .ok (.iconst 1, 1) := by decide +kernel
theorem dL_law_1554 : decode cL_law 1554 = .ok (.iadd, 1) := by decide +kernel
theorem dL_law_1555 : decode cL_law 1555 = .ok (.iaload, 1) := by decide +kernel
theorem dL_law_1556 : decode cL_law 1556 = .ok (.aload_n 3, 1) := by decide +kernel
theorem dL_law_1557 : decode cL_law 1557 = .ok (.invokestatic 171, 3) := by decide +kernel
theorem dL_law_1560 : decode cL_law 1560 = .ok (.istore 5, 2) := by decide +kernel
theorem dL_law_1562 : decode cL_law 1562 = .ok (.aload_n 2, 1) := by decide +kernel
theorem dL_law_1563 : decode cL_law 1563 = .ok (.aload_n 0, 1) := by decide +kernel
theorem dL_law_1564 : decode cL_law 1564 = .ok (.iload 4, 2) := by decide +kernel
theorem dL_law_1566 : decode cL_law 1566 = .ok (.iconst 1, 1) := by decide +kernel
theorem dL_law_1567 : decode cL_law 1567 = .ok (.iadd, 1) := by decide +kernel
theorem dL_law_1568 : decode cL_law 1568 = .ok (.iaload, 1) := by decide +kernel
theorem dL_law_1569 : decode cL_law 1569 = .ok (.invokevirtual 173, 3) := by decide +kernel
theorem dL_law_1572 : decode cL_law 1572 = .ok (.istore 6, 2) := by decide +kernel
theorem dL_law_1574 : decode cL_law 1574 = .ok (.aload_n 2, 1) := by decide +kernel
theorem dL_law_1575 : decode cL_law 1575 = .ok (.invokevirtual 109, 3) := by decide +kernel
theorem dL_law_1578 : decode cL_law 1578 = .ok (.iload 5, 2) := by decide +kernel
theorem dL_law_1580 : decode cL_law 1580 = .ok (.if_icmp .eq 5, 3) := by decide +kernel
theorem dL_law_1583 : decode cL_law 1583 = .ok (.iconst 0, 1) := by decide +kernel
theorem dL_law_1584 : decode cL_law 1584 = .ok (.ireturn, 1) := by decide +kernel
theorem dL_law_1585 : decode cL_law 1585 = .ok (.iload 5, 2) := by decide +kernel
theorem dL_law_1587 : decode cL_law 1587 = .ok (.ifCond .ne 15, 3) := by decide +kernel
theorem dL_law_1590 : decode cL_law 1590 = .ok (.aload_n 3, 1) := by decide +kernel
theorem dL_law_1591 : decode cL_law 1591 = .ok (.iconst 0, 1) := by decide +kernel
theorem dL_law_1592 : decode cL_law 1592 = .ok (.laload, 1) := by decide +kernel
theorem dL_law_1593 : decode cL_law 1593 = .ok (.iload 6, 2) := by decide +kernel
theorem dL_law_1595 : decode cL_law 1595 = .ok (.i2l, 1) := by decide +kernel
theorem dL_law_1596 : decode cL_law 1596 = .ok (.lcmp, 1) := by decide +kernel
theorem dL_law_1597 : decode cL_law 1597 = .ok (.ifCond .eq 5, 3) := by decide +kernel
theorem dL_law_1600 : decode cL_law 1600 = .ok (.iconst 0, 1) := by decide +kernel
theorem dL_law_1601 : decode cL_law 1601 = .ok (.ireturn, 1) := by decide +kernel
theorem dL_law_1602 : decode cL_law 1602 = .ok (.goto 255, 3) := by decide +kernel
theorem dL_law_1605 : decode cL_law 1605 = .ok (.aload_n 1, 1) := by decide +kernel
theorem dL_law_1606 : decode cL_law 1606 = .ok (.aload_n 3, 1) := by decide +kernel
theorem dL_law_1607 : decode cL_law 1607 = .ok (.invokestatic 174, 3) := by decide +kernel
theorem dL_law_1610 : decode cL_law 1610 = .ok (.istore 5, 2) := by decide +kernel
theorem dL_law_1612 : decode cL_law 1612 = .ok (.aload_n 2, 1) := by decide +kernel
theorem dL_law_1613 : decode cL_law 1613 = .ok (.invokevirtual 177, 3) := by decide +kernel
theorem dL_law_1616 : decode cL_law 1616 = .ok (.istore 6, 2) := by decide +kernel
theorem dL_law_1618 : decode cL_law 1618 = .ok (.aload_n 2, 1) := by decide +kernel
theorem dL_law_1619 : decode cL_law 1619 = .ok (.invokevirtual 109, 3) := by decide +kernel
theorem dL_law_1622 : decode cL_law 1622 = .ok (.iload 5, 2) := by decide +kernel
theorem dL_law_1624 : decode cL_law 1624 = .ok (.if_icmp .eq 5, 3) := by decide +kernel
theorem dL_law_1627 : decode cL_law 1627 = .ok (.iconst 0, 1) := by decide +kernel
theorem dL_law_1628 : decode cL_law 1628 = .ok (.ireturn, 1) := by decide +kernel
theorem dL_law_1629 : decode cL_law 1629 = .ok (.iload 5, 2) := by decide +kernel
theorem dL_law_1631 : decode cL_law 1631 = .ok (.ifCond .ne 15, 3) := by decide +kernel
theorem dL_law_1634 : decode cL_law 1634 = .ok (.aload_n 3, 1) := by decide +kernel
theorem dL_law_1635 : decode cL_law 1635 = .ok (.iconst 0, 1) := by decide +kernel
theorem dL_law_1636 : decode cL_law 1636 = .ok (.laload, 1) := by decide +kernel
theorem dL_law_1637 : decode cL_law 1637 = .ok (.iload 6, 2) := by decide +kernel
theorem dL_law_1639 : decode cL_law 1639 = .ok (.i2l, 1) := by decide +kernel
theorem dL_law_1640 : decode cL_law 1640 = .ok (.lcmp, 1) := by decide +kernel
theorem dL_law_1641 : decode cL_law 1641 = .ok (.ifCond .eq 5, 3) := by decide +kernel
theorem dL_law_1644 : decode cL_law 1644 = .ok (.iconst 0, 1) := by decide +kernel
theorem dL_law_1645 : decode cL_law 1645 = .ok (.ireturn, 1) := by decide +kernel
theorem dL_law_1646 : decode cL_law 1646 = .ok (.goto 211, 3) := by decide +kernel
theorem dL_law_1649 : decode cL_law 1649 = .ok (.aload_n 1, 1) := by decide +kernel
theorem dL_law_1650 : decode cL_law 1650 = .ok (.aload_n 0, 1) := by decide +kernel
theorem dL_law_1651 : decode cL_law 1651 = .ok (.iload 4, 2) := by decide +kernel
theorem dL_law_1653 : decode cL_law 1653 = .ok (.iconst 1, 1) := by decide +kernel
theorem dL_law_1654 : decode cL_law 1654 = .ok (.iadd, 1) := by decide +kernel
theorem dL_law_1655 : decode cL_law 1655 = .ok (.iaload, 1) := by decide +kernel
theorem dL_law_1656 : decode cL_law 1656 = .ok (.ifCond .eq 7, 3) := by decide +kernel
theorem dL_law_1659 : decode cL_law 1659 = .ok (.iconst 1, 1) := by decide +kernel
theorem dL_law_1660 : decode cL_law 1660 = .ok (.goto 4, 3) := by decide +kernel
theorem dL_law_1663 : decode cL_law 1663 = .ok (.iconst 0, 1) := by decide +kernel
theorem dL_law_1664 : decode cL_law 1664 = .ok (.invokevirtual 178, 3) := by decide +kernel
theorem dL_law_1667 : decode cL_law 1667 = .ok (.aload_n 2, 1) := by decide +kernel
theorem dL_law_1668 : decode cL_law 1668 = .ok (.aload_n 0, 1) := by decide +kernel
theorem dL_law_1669 : decode cL_law 1669 = .ok (.iload 4, 2) := by decide +kernel
theorem dL_law_1671 : decode cL_law 1671 = .ok (.iconst 1, 1) := by decide +kernel
theorem dL_law_1672 : decode cL_law 1672 = .ok (.iadd, 1) := by decide +kernel
theorem dL_law_1673 : decode cL_law 1673 = .ok (.iaload, 1) := by decide +kernel
theorem dL_law_1674 : decode cL_law 1674 = .ok (.ifCond .eq 7, 3) := by decide +kernel
theorem dL_law_1677 : decode cL_law 1677 = .ok (.iconst 1, 1) := by decide +kernel
theorem dL_law_1678 : decode cL_law 1678 = .ok (.goto 4, 3) := by decide +kernel
theorem dL_law_1681 : decode cL_law 1681 = .ok (.iconst 0, 1) := by decide +kernel
theorem dL_law_1682 : decode cL_law 1682 = .ok (.invokevirtual 182, 3) := by decide +kernel
theorem dL_law_1685 : decode cL_law 1685 = .ok (.if_icmp .eq 172, 3) := by decide +kernel
theorem dL_law_1688 : decode cL_law 1688 = .ok (.iconst 0, 1) := by decide +kernel
theorem dL_law_1689 : decode cL_law 1689 = .ok (.ireturn, 1) := by decide +kernel
theorem dL_law_1690 : decode cL_law 1690 = .ok (.aload_n 1, 1) := by decide +kernel
theorem dL_law_1691 : decode cL_law 1691 = .ok (.aload_n 0, 1) := by decide +kernel
theorem dL_law_1692 : decode cL_law 1692 = .ok (.iload 4, 2) := by decide +kernel
theorem dL_law_1694 : decode cL_law 1694 = .ok (.iconst 1, 1) := by decide +kernel
theorem dL_law_1695 : decode cL_law 1695 = .ok (.iadd, 1) := by decide +kernel
theorem dL_law_1696 : decode cL_law 1696 = .ok (.iaload, 1) := by decide +kernel
theorem dL_law_1697 : decode cL_law 1697 = .ok (.aload_n 3, 1) := by decide +kernel
theorem dL_law_1698 : decode cL_law 1698 = .ok (.invokestatic 183, 3) := by decide +kernel
theorem dL_law_1701 : decode cL_law 1701 = .ok (.istore 5, 2) := by decide +kernel
theorem dL_law_1703 : decode cL_law 1703 = .ok (.aload_n 2, 1) := by decide +kernel
theorem dL_law_1704 : decode cL_law 1704 = .ok (.aload_n 0, 1) := by decide +kernel
theorem dL_law_1705 : decode cL_law 1705 = .ok (.iload 4, 2) := by decide +kernel
theorem dL_law_1707 : decode cL_law 1707 = .ok (.iconst 1, 1) := by decide +kernel
theorem dL_law_1708 : decode cL_law 1708 = .ok (.iadd, 1) := by decide +kernel
theorem dL_law_1709 : decode cL_law 1709 = .ok (.iaload, 1) := by decide +kernel
theorem dL_law_1710 : decode cL_law 1710 = .ok (.invokevirtual 185, 3) := by decide +kernel
theorem dL_law_1713 : decode cL_law 1713 = .ok (.istore 6, 2) := by decide +kernel
theorem dL_law_1715 : decode cL_law 1715 = .ok (.aload_n 2, 1) := by decide +kernel
theorem dL_law_1716 : decode cL_law 1716 = .ok (.invokevirtual 109, 3) := by decide +kernel
theorem dL_law_1719 : decode cL_law 1719 = .ok (.iload 5, 2) := by decide +kernel
theorem dL_law_1721 : decode cL_law 1721 = .ok (.if_icmp .eq 5, 3) := by decide +kernel
theorem dL_law_1724 : decode cL_law 1724 = .ok (.iconst 0, 1) := by decide +kernel
theorem dL_law_1725 : decode cL_law 1725 = .ok (.ireturn, 1) := by decide +kernel
theorem dL_law_1726 : decode cL_law 1726 = .ok (.iload 5, 2) := by decide +kernel
theorem dL_law_1728 : decode cL_law 1728 = .ok (.ifCond .ne 15, 3) := by decide +kernel
theorem dL_law_1731 : decode cL_law 1731 = .ok (.aload_n 3, 1) := by decide +kernel
theorem dL_law_1732 : decode cL_law 1732 = .ok (.iconst 0, 1) := by decide +kernel
theorem dL_law_1733 : decode cL_law 1733 = .ok (.laload, 1) := by decide +kernel
theorem dL_law_1734 : decode cL_law 1734 = .ok (.iload 6, 2) := by decide +kernel
theorem dL_law_1736 : decode cL_law 1736 = .ok (.i2l, 1) := by decide +kernel
theorem dL_law_1737 : decode cL_law 1737 = .ok (.lcmp, 1) := by decide +kernel
theorem dL_law_1738 : decode cL_law 1738 = .ok (.ifCond .eq 5, 3) := by decide +kernel
theorem dL_law_1741 : decode cL_law 1741 = .ok (.iconst 0, 1) := by decide +kernel
theorem dL_law_1742 : decode cL_law 1742 = .ok (.ireturn, 1) := by decide +kernel
theorem dL_law_1743 : decode cL_law 1743 = .ok (.goto 114, 3) := by decide +kernel
theorem dL_law_1746 : decode cL_law 1746 = .ok (.aload_n 1, 1) := by decide +kernel
theorem dL_law_1747 : decode cL_law 1747 = .ok (.aload_n 0, 1) := by decide +kernel
theorem dL_law_1748 : decode cL_law 1748 = .ok (.iload 4, 2) := by decide +kernel
theorem dL_law_1750 : decode cL_law 1750 = .ok (.iconst 1, 1) := by decide +kernel
theorem dL_law_1751 : decode cL_law 1751 = .ok (.iadd, 1) := by decide +kernel
theorem dL_law_1752 : decode cL_law 1752 = .ok (.iaload, 1) := by decide +kernel
theorem dL_law_1753 : decode cL_law 1753 = .ok (.aload_n 3, 1) := by decide +kernel
theorem dL_law_1754 : decode cL_law 1754 = .ok (.invokestatic 186, 3) := by decide +kernel
theorem dL_law_1757 : decode cL_law 1757 = .ok (.istore 5, 2) := by decide +kernel
theorem dL_law_1759 : decode cL_law 1759 = .ok (.aload_n 2, 1) := by decide +kernel
theorem dL_law_1760 : decode cL_law 1760 = .ok (.aload_n 0, 1) := by decide +kernel
theorem dL_law_1761 : decode cL_law 1761 = .ok (.iload 4, 2) := by decide +kernel
theorem dL_law_1763 : decode cL_law 1763 = .ok (.iconst 1, 1) := by decide +kernel
theorem dL_law_1764 : decode cL_law 1764 = .ok (.iadd, 1) := by decide +kernel
theorem dL_law_1765 : decode cL_law 1765 = .ok (.iaload, 1) := by decide +kernel
theorem dL_law_1766 : decode cL_law 1766 = .ok (.invokevirtual 188, 3) := by decide +kernel
theorem dL_law_1769 : decode cL_law 1769 = .ok (.istore 6, 2) := by decide +kernel
theorem dL_law_1771 : decode cL_law 1771 = .ok (.aload_n 2, 1) := by decide +kernel
theorem dL_law_1772 : decode cL_law 1772 = .ok (.invokevirtual 109, 3) := by decide +kernel
theorem dL_law_1775 : decode cL_law 1775 = .ok (.iload 5, 2) := by decide +kernel
theorem dL_law_1777 : decode cL_law 1777 = .ok (.if_icmp .eq 5, 3) := by decide +kernel
theorem dL_law_1780 : decode cL_law 1780 = .ok (.iconst 0, 1) := by decide +kernel
theorem dL_law_1781 : decode cL_law 1781 = .ok (.ireturn, 1) := by decide +kernel
theorem dL_law_1782 : decode cL_law 1782 = .ok (.iload 5, 2) := by decide +kernel
theorem dL_law_1784 : decode cL_law 1784 = .ok (.ifCond .ne 15, 3) := by decide +kernel
theorem dL_law_1787 : decode cL_law 1787 = .ok (.aload_n 3, 1) := by decide +kernel
theorem dL_law_1788 : decode cL_law 1788 = .ok (.iconst 0, 1) := by decide +kernel
theorem dL_law_1789 : decode cL_law 1789 = .ok (.laload, 1) := by decide +kernel
theorem dL_law_1790 : decode cL_law 1790 = .ok (.iload 6, 2) := by decide +kernel
theorem dL_law_1792 : decode cL_law 1792 = .ok (.i2l, 1) := by decide +kernel
theorem dL_law_1793 : decode cL_law 1793 = .ok (.lcmp, 1) := by decide +kernel
theorem dL_law_1794 : decode cL_law 1794 = .ok (.ifCond .eq 5, 3) := by decide +kernel
theorem dL_law_1797 : decode cL_law 1797 = .ok (.iconst 0, 1) := by decide +kernel
theorem dL_law_1798 : decode cL_law 1798 = .ok (.ireturn, 1) := by decide +kernel
theorem dL_law_1799 : decode cL_law 1799 = .ok (.goto 58, 3) := by decide +kernel
theorem dL_law_1802 : decode cL_law 1802 = .ok (.aload_n 1, 1) := by decide +kernel
theorem dL_law_1803 : decode cL_law 1803 = .ok (.aload_n 0, 1) := by decide +kernel
theorem dL_law_1804 : decode cL_law 1804 = .ok (.iload 4, 2) := by decide +kernel
theorem dL_law_1806 : decode cL_law 1806 = .ok (.iconst 1, 1) := by decide +kernel
theorem dL_law_1807 : decode cL_law 1807 = .ok (.iadd, 1) := by decide +kernel
theorem dL_law_1808 : decode cL_law 1808 = .ok (.iaload, 1) := by decide +kernel
theorem dL_law_1809 : decode cL_law 1809 = .ok (.aload_n 3, 1) := by decide +kernel
theorem dL_law_1810 : decode cL_law 1810 = .ok (.invokestatic 189, 3) := by decide +kernel
theorem dL_law_1813 : decode cL_law 1813 = .ok (.istore 5, 2) := by decide +kernel
theorem dL_law_1815 : decode cL_law 1815 = .ok (.aload_n 2, 1) := by decide +kernel
theorem dL_law_1816 : decode cL_law 1816 = .ok (.aload_n 0, 1) := by decide +kernel
theorem dL_law_1817 : decode cL_law 1817 = .ok (.iload 4, 2) := by decide +kernel
theorem dL_law_1819 : decode cL_law 1819 = .ok (.iconst 1, 1) := by decide +kernel
theorem dL_law_1820 : decode cL_law 1820 = .ok (.iadd, 1) := by decide +kernel
theorem dL_law_1821 : decode cL_law 1821 = .ok (.iaload, 1) := by decide +kernel
theorem dL_law_1822 : decode cL_law 1822 = .ok (.invokevirtual 191, 3) := by decide +kernel
theorem dL_law_1825 : decode cL_law 1825 = .ok (.lstore 6, 2) := by decide +kernel
theorem dL_law_1827 : decode cL_law 1827 = .ok (.aload_n 2, 1) := by decide +kernel
theorem dL_law_1828 : decode cL_law 1828 = .ok (.invokevirtual 109, 3) := by decide +kernel
theorem dL_law_1831 : decode cL_law 1831 = .ok (.iload 5, 2) := by decide +kernel
theorem dL_law_1833 : decode cL_law 1833 = .ok (.if_icmp .eq 5, 3) := by decide +kernel
theorem dL_law_1836 : decode cL_law 1836 = .ok (.iconst 0, 1) := by decide +kernel
theorem dL_law_1837 : decode cL_law 1837 = .ok (.ireturn, 1) := by decide +kernel
theorem dL_law_1838 : decode cL_law 1838 = .ok (.iload 5, 2) := by decide +kernel
theorem dL_law_1840 : decode cL_law 1840 = .ok (.ifCond .ne 14, 3) := by decide +kernel
theorem dL_law_1843 : decode cL_law 1843 = .ok (.aload_n 3, 1) := by decide +kernel
theorem dL_law_1844 : decode cL_law 1844 = .ok (.iconst 0, 1) := by decide +kernel
theorem dL_law_1845 : decode cL_law 1845 = .ok (.laload, 1) := by decide +kernel
theorem dL_law_1846 : decode cL_law 1846 = .ok (.lload 6, 2) := by decide +kernel
theorem dL_law_1848 : decode cL_law 1848 = .ok (.lcmp, 1) := by decide +kernel
theorem dL_law_1849 : decode cL_law 1849 = .ok (.ifCond .eq 5, 3) := by decide +kernel
theorem dL_law_1852 : decode cL_law 1852 = .ok (.iconst 0, 1) := by decide +kernel
theorem dL_law_1853 : decode cL_law 1853 = .ok (.ireturn, 1) := by decide +kernel
theorem dL_law_1854 : decode cL_law 1854 = .ok (.goto 3, 3) := by decide +kernel
theorem dL_law_1857 : decode cL_law 1857 = .ok (.iinc 4 5, 3) := by decide +kernel
theorem dL_law_1860 : decode cL_law 1860 = .ok (.goto (-1817), 3) := by decide +kernel
theorem dL_law_1863 : decode cL_law 1863 = .ok (.iconst 1, 1) := by decide +kernel
theorem dL_law_1864 : decode cL_law 1864 = .ok (.ireturn, 1) := by decide +kernel
end
section
/-! THE HEAP BY FIELDS, THE JUDGEMENT J, CONTRACTS.
A value of the machine as this text sees it: an int, a reference or null, a long. -/
abbrev AV : Type := Int32 ⊕ Option Nat ⊕ Int64
abbrev vi (x : Int32) : AV := .inl x
abbrev vr (o : Option Nat) : AV := .inr (.inl o)
abbrev vl (x : Int64) : AV := .inr (.inr x)
def tv : AV → Value
  | .inl x => .int x
  | .inr (.inl o) => va_rf o
  | .inr (.inr x) => .long x
def isL : AV → Bool
  | .inr (.inr _) => true
  | _ => false
theorem tv_c1 {v : AV} (h : isL v = false) : (tv v).category = 1 := by
  rcases v with x | o | x
  · rfl
  · cases o <;> rfl
  · cases h
theorem tv_c2 {v : AV} : ((tv v).category == 2) = isL v := by
  rcases v with x | o | x
  · rfl
  · cases o <;> rfl
  · rfl
/-- the local variables, by their places -/
def asg : Nat → List (Option AV) → List (Nat × Value)
  | _, [] => []
  | i, none :: r => asg (i + 1) r
  | i, some v :: r => (i, tv v) :: asg (i + 1) r
theorem asg_mem {q : Nat × Value} : ∀ (lo : List (Option AV)) (i : Nat), q ∈ asg i lo ↔ ∃ (d : Nat) (v : AV), lo[d]? = some (some v) ∧ q = (i + d, tv v) := by
  intro lo
  induction lo with
  | nil => intro i; simp [asg]
  | cons x r ih =>
    intro i
    have hr : q ∈ asg (i + 1) r ↔ ∃ (d : Nat) (v : AV), (x :: r)[d + 1]? = some (some v) ∧ q = (i + (d + 1), tv v) := by
      rw [ih (i + 1)]
      constructor
      · rintro ⟨d, v, h1, h2⟩; exact ⟨d, v, by simpa using h1, by rw [h2]; congr 1; omega⟩
      · rintro ⟨d, v, h1, h2⟩; exact ⟨d, v, by simpa using h1, by rw [h2]; congr 1; omega⟩
    cases x with
    | none =>
      show q ∈ asg (i + 1) r ↔ _
      rw [hr]
      constructor
      · rintro ⟨d, v, h1, h2⟩; exact ⟨d + 1, v, h1, h2⟩
      · rintro ⟨d, v, h1, h2⟩
        cases d with
        | zero => simp at h1
        | succ d => exact ⟨d, v, h1, h2⟩
    | some w =>
      show q ∈ (i, tv w) :: asg (i + 1) r ↔ _
      rw [List.mem_cons, hr]
      constructor
      · rintro (h | ⟨d, v, h1, h2⟩)
        · exact ⟨0, w, by simp, by rw [h]; rfl⟩
        · exact ⟨d + 1, v, h1, h2⟩
      · rintro ⟨d, v, h1, h2⟩
        cases d with
        | zero => left; simp at h1; rw [h2, h1]; rfl
        | succ d => right; exact ⟨d, v, h1, h2⟩
def LR (ls : Array Slot) (lo : List (Option AV)) : Prop := ls.size = lo.length ∧ lv_wf ls ∧ ∀ (i : Nat) (v : AV), lo[i]? = some (some v) → ls[i]? = some (.val (tv v))
theorem LR.has {ls : Array Slot} {lo : List (Option AV)} (h : LR ls lo) : lv_has ls lo.length (asg 0 lo) := by
  refine ⟨h.1, h.2.1, fun q hq => ?_⟩
  obtain ⟨d, v, h1, h2⟩ := (asg_mem lo 0).mp hq
  rw [h2]
  simpa using h.2.2 d v h1
theorem LR.find {lo : List (Option AV)} {z : Nat} {v : AV} (h : lo[z]? = some (some v)) : ∃ j : Nat, (asg 0 lo)[j]? = some (z, tv v) :=
  List.getElem?_of_mem ((asg_mem lo 0).mpr ⟨z, v, h, by rw [Nat.zero_add]⟩)
def kz : Option AV → Option AV
  | some (.inr (.inr _)) => none
  | x => x
theorem kz_some {x : Option AV} {w : AV} (h : kz x = some w) : x = some w ∧ isL w = false := by
  rcases x with _ | x
  · cases h
  · rcases x with x | o | x
    · cases h; exact ⟨rfl, rfl⟩
    · cases h; exact ⟨rfl, rfl⟩
    · cases h
def s1 : List (Option AV) → Nat → AV → List (Option AV)
  | [], _, _ => []
  | _ :: r, 0, v => some v :: r
  | x :: r, 1, v => kz x :: s1 r 0 v
  | x :: r, i + 2, v => x :: s1 r (i + 1) v
theorem s1_len : ∀ (lo : List (Option AV)) (i : Nat) (v : AV), (s1 lo i v).length = lo.length := by
  intro lo
  induction lo with
  | nil => intro i v; simp [s1]
  | cons x r ih =>
    intro i v
    match i with
    | 0 => simp [s1]
    | 1 => simp [s1, ih]
    | i + 2 => simp [s1, ih]
theorem s1_at : ∀ (lo : List (Option AV)) (i : Nat) (v : AV) (j : Nat) (w : AV), (s1 lo i v)[j]? = some (some w) → (j = i ∧ w = v) ∨ (j ≠ i ∧ lo[j]? = some (some w) ∧ (j + 1 = i → isL w = false)) := by
  intro lo
  induction lo with
  | nil => intro i v j w h; simp [s1] at h
  | cons x r ih =>
    intro i v j w h
    match i, j with
    | 0, 0 => left; simp [s1] at h; exact ⟨rfl, h.symm⟩
    | 0, j + 1 => right; simp [s1] at h; exact ⟨by omega, by simpa using h, fun e => by omega⟩
    | 1, 0 => right; simp [s1] at h; have := kz_some h; exact ⟨by omega, by simp [this.1], fun _ => this.2⟩
    | 1, j + 1 =>
      simp only [s1, List.getElem?_cons_succ] at h
      rcases ih 0 v j w h with ⟨h1, h2⟩ | ⟨h1, h2, h3⟩
      · left; exact ⟨by omega, h2⟩
      · right; exact ⟨by omega, by simpa using h2, fun e => by omega⟩
    | i + 2, 0 => right; simp [s1] at h; exact ⟨by omega, by simp [h], fun e => by omega⟩
    | i + 2, j + 1 =>
      simp only [s1, List.getElem?_cons_succ] at h
      rcases ih (i + 1) v j w h with ⟨h1, h2⟩ | ⟨h1, h2, h3⟩
      · left; exact ⟨by omega, h2⟩
      · right; exact ⟨by omega, by simpa using h2, fun e => h3 (by omega)⟩
def s2 : List (Option AV) → Nat → AV → List (Option AV)
  | [], _, _ => []
  | [_], 0, v => [some v]
  | _ :: _ :: r, 0, v => some v :: none :: r
  | x :: r, 1, v => kz x :: s2 r 0 v
  | x :: r, i + 2, v => x :: s2 r (i + 1) v
theorem s2_len : ∀ (lo : List (Option AV)) (i : Nat) (v : AV), (s2 lo i v).length = lo.length := by
  intro lo
  induction lo with
  | nil => intro i v; simp [s2]
  | cons x r ih =>
    intro i v
    match i with
    | 0 => cases r <;> simp [s2]
    | 1 => cases r <;> simp [s2, ih]
    | i + 2 => cases r <;> simp [s2, ih]
theorem s2_at : ∀ (lo : List (Option AV)) (i : Nat) (v : AV) (j : Nat) (w : AV), (s2 lo i v)[j]? = some (some w) → (j = i ∧ w = v) ∨ (j ≠ i ∧ j ≠ i + 1 ∧ lo[j]? = some (some w) ∧ (j + 1 = i → isL w = false)) := by
  intro lo
  induction lo with
  | nil => intro i v j w h; simp [s2] at h
  | cons x r ih =>
    intro i v j w h
    match i, j with
    | 0, 0 => left; cases r <;> simp [s2] at h <;> exact ⟨rfl, h.symm⟩
    | 0, 1 => cases r <;> simp [s2] at h
    | 0, j + 2 =>
      right
      cases r with
      | nil => simp [s2] at h
      | cons y r => simp [s2] at h; exact ⟨by omega, by omega, by simpa using h, fun e => by omega⟩
    | 1, 0 => right; cases r <;> simp [s2] at h <;> (have := kz_some h; exact ⟨by omega, by omega, by simp [this.1], fun _ => this.2⟩)
    | 1, j + 1 =>
      have h' : (s2 r 0 v)[j]? = some (some w) := by cases r <;> simpa [s2] using h
      rcases ih 0 v j w h' with ⟨h1, h2⟩ | ⟨h1, h2, h3, h4⟩
      · left; exact ⟨by omega, h2⟩
      · right; exact ⟨by omega, by omega, by simpa using h3, fun e => by omega⟩
    | i + 2, 0 => right; cases r <;> simp [s2] at h <;> exact ⟨by omega, by omega, by simp [h], fun e => by omega⟩
    | i + 2, j + 1 =>
      have h' : (s2 r (i + 1) v)[j]? = some (some w) := by cases r <;> simpa [s2] using h
      rcases ih (i + 1) v j w h' with ⟨h1, h2⟩ | ⟨h1, h2, h3, h4⟩
      · left; exact ⟨by omega, h2⟩
      · right; exact ⟨by omega, by omega, by simpa using h3, fun e => h4 (by omega)⟩
theorem LR.s1 {ls ls' : Array Slot} {lo lo' : List (Option AV)} {i : Nat} {v : AV} {w : Value} (hL : LR ls lo) (hn : i < lo.length) (h : lv_has ls' lo.length ((i, w) :: (asg 0 lo).filter (fun q => !(q.1 == i) && !(q.1 + 1 == i && q.2.category == 2)))) (hl : s1 lo i v = lo') (hw : tv v = w := by rfl) : LR ls' lo' := by
  subst hl; subst hw
  refine ⟨by rw [s1_len]; exact h.1, h.2.1, fun j u hj => ?_⟩
  rcases s1_at lo i v j u hj with ⟨rfl, rfl⟩ | ⟨h1, h2, h3⟩
  · exact h.2.2 _ List.mem_cons_self
  · refine h.2.2 (j, tv u) (List.mem_cons_of_mem _ (List.mem_filter.mpr ⟨(asg_mem lo 0).mpr ⟨j, u, h2, by rw [Nat.zero_add]⟩, ?_⟩))
    simp only [tv_c2]
    by_cases e : j + 1 = i
    · simp [h1, h3 e]
    · simp [h1, e]
theorem LR.s2 {ls ls' : Array Slot} {lo lo' : List (Option AV)} {i : Nat} {v : AV} {w : Value} (hL : LR ls lo) (hn : i + 1 < lo.length) (h : lv_has ls' lo.length ((i, w) :: (asg 0 lo).filter (fun q => !(q.1 == i) && (!(q.1 == i + 1) && !(q.1 + 1 == i && q.2.category == 2))))) (hl : s2 lo i v = lo') (hw : tv v = w := by rfl) : LR ls' lo' := by
  subst hl; subst hw
  refine ⟨by rw [s2_len]; exact h.1, h.2.1, fun j u hj => ?_⟩
  rcases s2_at lo i v j u hj with ⟨rfl, rfl⟩ | ⟨h1, h1', h2, h3⟩
  · exact h.2.2 _ List.mem_cons_self
  · refine h.2.2 (j, tv u) (List.mem_cons_of_mem _ (List.mem_filter.mpr ⟨(asg_mem lo 0).mpr ⟨j, u, h2, by rw [Nat.zero_add]⟩, ?_⟩))
    simp only [tv_c2]
    by_cases e : j + 1 = i
    · simp [h1, h1', h3 e]
    · simp [h1, h1', e]
/-- THE HEAP: what kind of cell stands at an address (0: none that is told of; 1 Chain, 2 Holder, 3 Line, 4 Loose, 5 Tour, 6 RefHeap, 7 RefHeapModel, 8 int[], 9 long[], 10 boolean[], 11 Thing[]); the int fields and the reference fields, by their number and the address; lengths; ints, longs and references in arrays. -/
abbrev Hp : Type := (Nat → Nat) × (Nat → Nat → Int32) × (Nat → Nat → Option Nat) × (Nat → Nat) × (Nat → Nat → Int32) × (Nat → Nat → Int64) × (Nat → Nat → Option Nat)
def tg (h : Hp) : Nat → Nat := h.1
def fI (h : Hp) : Nat → Nat → Int32 := h.2.1
def fR (h : Hp) : Nat → Nat → Option Nat := h.2.2.1
def ln (h : Hp) : Nat → Nat := h.2.2.2.1
def aI (h : Hp) : Nat → Nat → Int32 := h.2.2.2.2.1
def aL (h : Hp) : Nat → Nat → Int64 := h.2.2.2.2.2.1
def aR (h : Hp) : Nat → Nat → Option Nat := h.2.2.2.2.2.2
def up2 {α : Type} (f : Nat → Nat → α) (k a : Nat) (x : α) : Nat → Nat → α := fun k' a' => if k' = k then (if a' = a then x else f k' a') else f k' a'
def up1 {α : Type} (f : Nat → α) (a : Nat) (x : α) : Nat → α := fun a' => if a' = a then x else f a'
def upc {α : Type} (f : Nat → Nat → α) (a : Nat) (x : α) : Nat → Nat → α := fun k' a' => if a' = a then x else f k' a'
def pI (h : Hp) (k a : Nat) (x : Int32) : Hp := (h.1, up2 (fI h) k a x, h.2.2)
def pR (h : Hp) (k a : Nat) (x : Option Nat) : Hp := (h.1, h.2.1, up2 (fR h) k a x, h.2.2.2)
def qI (h : Hp) (a i : Nat) (x : Int32) : Hp := (h.1, h.2.1, h.2.2.1, h.2.2.2.1, up2 (aI h) a i x, h.2.2.2.2.2)
def qL (h : Hp) (a i : Nat) (x : Int64) : Hp := (h.1, h.2.1, h.2.2.1, h.2.2.2.1, h.2.2.2.2.1, up2 (aL h) a i x, h.2.2.2.2.2.2)
def qR (h : Hp) (a i : Nat) (x : Option Nat) : Hp := (h.1, h.2.1, h.2.2.1, h.2.2.2.1, h.2.2.2.2.1, h.2.2.2.2.2.1, up2 (aR h) a i x)
/-- a new object: all its fields 0 or null -/
def nO (h : Hp) (a t : Nat) : Hp := (up1 (tg h) a t, upc (fI h) a 0, upc (fR h) a none, h.2.2.2)
/-- a new array -/
def nA (h : Hp) (a t n : Nat) : Hp := (up1 (tg h) a t, h.2.1, h.2.2.1, up1 (ln h) a n, up1 (aI h) a (fun _ => 0), up1 (aL h) a (fun _ => 0), up1 (aR h) a (fun _ => none))
/-- the fields of the classes of vwCl by their slots: an int field's number or a reference field's -/
def fl : Nat → List (Nat ⊕ Nat)
  | 0 => [.inr 19, .inr 20, .inl 21, .inl 22]
  | 1 => [.inl 0, .inl 1, .inl 2, .inr 3, .inl 4, .inl 5, .inr 6, .inr 7, .inr 8, .inr 9]
  | 2 => [.inl 0, .inl 1, .inl 2, .inr 3, .inl 4, .inl 5, .inr 6, .inr 7, .inr 10, .inr 11, .inl 12]
  | 3 => [.inl 0, .inl 1, .inl 2, .inr 3, .inl 4, .inl 5, .inr 6, .inr 7, .inr 13, .inr 14, .inr 15, .inl 16, .inr 17, .inr 18]
  | 4 => [.inr 23, .inr 24, .inl 25, .inl 26]
  | 5 => [.inl 27, .inl 28, .inr 29, .inr 30, .inr 31, .inr 32, .inr 33, .inr 34, .inl 35, .inl 36, .inl 37]
  | 6 => [.inl 40, .inl 41, .inr 42, .inr 43, .inr 44, .inr 45, .inr 46, .inr 47, .inr 48, .inr 49, .inr 50, .inr 51, .inr 52, .inr 53, .inr 54, .inr 55, .inr 56, .inl 57, .inl 58, .inl 59, .inl 60, .inr 61, .inr 62, .inl 63, .inl 64, .inl 65, .inl 66, .inl 67, .inl 68, .inl 69, .inl 70, .inl 71, .inl 72, .inl 73, .inl 74]
  | _ => []
def fv (h : Hp) (a : Nat) : Nat ⊕ Nat → Value
  | .inl g => .int (fI h g a)
  | .inr g => va_rf (fR h g a)
def ce (dA : Nat → ClassId) (h : Hp) (a : Nat) : Option va_E :=
  match tg h a with
  | 0 => none
  | 8 => some (.inl (dA 0, ln h a, .inl (aI h a)))
  | 9 => some (.inl (dA 1, ln h a, .inr (.inl (aL h a))))
  | 10 => some (.inl (dA 2, ln h a, .inl (aI h a)))
  | 11 => some (.inl (dA 3, ln h a, .inr (.inr (.inr (.inr (aR h a))))))
  | t + 1 => some (.inr (t, (fl t).map (fv h a)))
def HR (D : va_G) (dA : Nat → ClassId) (sz : Nat) (h : Hp) (H : Heap) : Prop := ∀ (a : Nat) (e : va_E), ce dA h a = some e → sz ≤ a ∧ va_at D vwCl (a, e) H
def tys (dA : Nat → ClassId) : List (ClassId × FieldType) := [(dA 0, .int), (dA 1, .long), (dA 2, .boolean), (dA 3, .object "RefHeap$Thing")]
/-- words that hold along the whole run though they aren't among the good ones -/
def nwk : Cond → Bool
  | .castable .. => true
  | .declares _ => true
  | .methodLinkNest .. => true
  | _ => false
theorem nwk_warm {w : Cond} {s U : State} (hW : s.WarmedH U.vm) (h : nwk w = true) (hZ : va_Nw w s) : va_Nw w U := by
  cases w <;> first | (exact va_Nw.warmC hW hZ) | (exact va_Nw.warmD hW hZ) | (exact va_Nw.warmM hW hZ) | (exact absurd h (by simp [nwk]))
def ncs : List (String × String) := [("RefHeap$Holder", "RefHeap$Line"), ("RefHeap$Holder", "RefHeap$Loose"), ("RefHeap$Line", "RefHeap$Holder"), ("RefHeap$Line", "RefHeap$Loose"), ("RefHeap$Loose", "RefHeap$Holder"), ("RefHeap$Loose", "RefHeap$Line"), ("java/lang/IllegalStateException", "java/lang/IllegalArgumentException")]
def strs : List (Nat × String) := [(165, "too many scopes are open"), (170, "no scope is open"), (209, "a number is out of its range"), (215, "the root is null"), (217, "the root is no queue"), (219, "the root is no loose object"), (221, "the root is no pair"), (223, "the root is neither plain nor a row"), (229, "there is no such ref"), (231, "there is no such number")]
/-- what holds of the tables and of the cells that were there before the law began, at every state of the run -/
def WD (D : va_G) (dA : Nat → ClassId) (sz : Nat) (U : State) : Prop :=
  va_K D vwCl (tys dA) U ∧ va_AO "RefHeap$Thing" U ∧ (∀ w ∈ lw_tbl, nwk w = true → va_Nw w U) ∧ (∀ q ∈ ncs, va_Nc q.1 q.2 U) ∧ (∀ q ∈ strs, ∃ sa : Nat, vk_R RX6 q.1 q.2 sa U) ∧
  vx_Zq Bundle.tN "UNASSIGNED_STACK" Bundle.steD (fun q => sz ≤ q) U U.heap ∧ vx_Zq Bundle.tN "SUPPRESSED_SENTINEL" Bundle.listD (fun q => sz ≤ q) U U.heap
theorem WD.go {D : va_G} {dA : Nat → ClassId} {sz : Nat} {s U : State} (h : WD D dA sz s) (hW : s.WarmedH U.vm) (hq : ∀ a : Nat, a < s.heap.size → ¬ sz ≤ a → U.heap[a]? = s.heap[a]?) : WD D dA sz U := by
  obtain ⟨h1, h2, h3, h4, h5, h6, h7⟩ := h
  refine ⟨va_K.moved hW.alike h1, va_AO.moved hW.alike h2, fun w hw hn => nwk_warm hW hn (h3 w hw hn), fun q hq => va_Nc.moved hW.alike (h4 q hq), fun q hq => ?_, vx_Zq.moved hW.alike (h6.kept hq), vx_Zq.moved hW.alike (h7.kept hq)⟩
  obtain ⟨sa, hsa⟩ := h5 q hq
  exact ⟨sa, hsa.warm hW⟩
theorem WD.same {D : va_G} {dA : Nat → ClassId} {sz : Nat} {s U : State} (h : WD D dA sz s) (hv : U.vm = s.vm) (hh : U.heap = s.heap) : WD D dA sz U :=
  h.go (by rw [hv]; exact State.WarmedH.refl s) (fun a _ _ => by rw [hh])
/-- the good words -/
def BG : List Cond := lw_tbl.filter goodWord
theorem BG_good {hd : Cond} (hm : hd ∈ lw_tbl) (hg : goodWord hd = true) {big : List Cond} (hb : ∀ w ∈ BG, w ∈ big) : GoodIn big (hd :: BG) := by
  have hB : hd ∈ BG := List.mem_filter.mpr ⟨hm, hg⟩
  intro w hw
  rcases List.mem_cons.mp hw with rfl | h
  · exact ⟨hb _ hB, good_of_word hg⟩
  · exact ⟨hb w h, good_of_word (List.mem_filter.mp h).2⟩
def rmo (lv mc ms : Nat) : Room := { frames := 12 - lv, cells := mc, slots := ms, locals := 450 - 30 * lv }
def cQ (D : va_G) (dA : Nat → ClassId) (sz : Nat) (Q : Option AV ⊕ String → Hp → Prop) : Array Value → State → Outcome → State → Prop := fun _ st o t =>
  ∃ (v : Option AV) (h : Hp), o = .returned (v.map tv) ∧ Q (.inl v) h ∧ HR D dA sz h t.heap ∧ va_F (fun q => sz ≤ q) st t
def cX (D : va_G) (dA : Nat → ClassId) (sz : Nat) (Q : Option AV ⊕ String → Hp → Prop) : String → State → State → Prop := fun E st t =>
  ∃ h : Hp, Q (.inr E) h ∧ HR D dA sz h t.heap ∧ va_F (fun q => sz ≤ q) st t
def cP (D : va_G) (dA : Nat → ClassId) (sz : Nat) (av : List AV) (h : Hp) : Array Value → State → Prop := va_Pc (av.map tv) (fun U => WD D dA sz U ∧ HR D dA sz h U.heap ∧ sz ≤ U.heap.size)
/-- A CONTRACT: called at level lv with av in the heap h, the method ends with an outcome and a heap that Q allows (a value or none; or a thrown object of the class so named); at most mc cells of ms slots are new. -/
def Ctr (l : Launch) (D : va_G) (dA : Nat → ClassId) (sz : Nat) (hd : Cond) (y : MethodName) (lv : Nat) (av : List AV) (h : Hp) (mc ms : Nat) (Q : Option AV ⊕ String → Hp → Prop) : Prop :=
  vx_Met l y (hd :: BG) (rmo lv mc ms) (cP D dA sz av h) (cQ D dA sz Q) (cX D dA sz Q) mc ms (fun q => sz ≤ q)
/-- where a walk is: program, launch, environment, the state at the method's start, the method, its arguments, the frames below, its data and code; the tables' numbers; the first new address; level, cells and slots of the contract -/
abbrev Cx : Type := Program × Launch × Env × State × MethodId × Array Value × List Frame × Method × Code × va_G × (Nat → ClassId) × Nat × Nat × Nat × Nat
def OK (G : Cx) (cc : ByteArray) (nL : Nat) (own : String) (rt : Option FieldType) (tb : List ExceptionTableEntry) (nm : String) : Prop :=
  match G with
  | (p, l, _, s, m, args, _, meth, c, D, dA, sz, _, _, _) => p.tables.exec = Jvm.exec ∧ c.code = cc ∧ c.maxLocals = nL ∧ s.vm.findClass own = some m.cls ∧ (∀ w ∈ BG, w.before args s = true) ∧ meth.locks = false ∧ meth.sig.returnType = rt ∧ WD D dA sz s ∧ sz ≤ s.heap.size ∧ l.stackTraces = false ∧ c.exceptionTable.toList = tb ∧ meth.name = nm
/-- THE JUDGEMENT: from pc, with these local variables, this stack, the heap h, k cells of n slots made so far, the method comes to an end that Q allows -/
def J (G : Cx) (Q : Option AV ⊕ String → Hp → Prop) (pc : Nat) (lo : List (Option AV)) (st : List AV) (h : Hp) (k n : Nat) : Prop :=
  match G with
  | (p, l, e, s, m, args, below, meth, c, D, dA, sz, lv, mc, ms) => ∀ (H : Heap) (locs : List Loc) (ls : Array Slot), HR D dA sz h H → va_S (fun q => sz ≤ q) s.heap H locs → LR ls lo → W p l e (rmo lv mc ms) s m args below meth c H locs k n (vx_MQ below (cQ D dA sz Q) (cX D dA sz Q) args s mc ms (fun q => sz ≤ q)) (F0 m pc ls (st.map tv))
theorem bg {args : Array Value} {s : State} (h : ∀ w ∈ BG, w.before args s = true) {w : Cond} (hm : w ∈ lw_tbl) (hg : goodWord w = true) : w.before args s = true := h w (List.mem_filter.mpr ⟨hm, hg⟩)
end
section
section RW1
variable {G : Cx} {cc : ByteArray} {nL : Nat} {own nm : String} {rt : Option FieldType} {tb : List ExceptionTableEntry} {Q : Option AV ⊕ String → Hp → Prop} {pc : Nat} {lo : List (Option AV)} {st : List AV} {h : Hp} {k n : Nat}
theorem j_iconst (C : OK G cc nL own rt tb nm) {z : Int} {v : Int32} (hd : decode cc pc = .ok (.iconst z, 1)) (hv : Int32.ofInt z = v) (K : J G Q (pc + 1) lo (vi v :: st) h k n) : J G Q pc lo (st) h k n := by
  obtain ⟨p, l, e, s, m, args, below, meth, c, D, dA, sz, lv, mc, ms⟩ := G
  obtain ⟨hx, hb, -⟩ := C
  intro H locs ls hH hS hL
  exact lv_iconst hx hb hd hv (K H locs ls hH hS hL)
theorem j_bipush (C : OK G cc nL own rt tb nm) {z : Int} {v : Int32} (hd : decode cc pc = .ok (.bipush z, 2)) (hv : (Int8.ofInt z).toInt32 = v) (K : J G Q (pc + 2) lo (vi v :: st) h k n) : J G Q pc lo (st) h k n := by
  obtain ⟨p, l, e, s, m, args, below, meth, c, D, dA, sz, lv, mc, ms⟩ := G
  obtain ⟨hx, hb, -⟩ := C
  intro H locs ls hH hS hL
  exact lv_bipush hx hb hd hv (K H locs ls hH hS hL)
theorem j_sipush (C : OK G cc nL own rt tb nm) {z : Int} {v : Int32} (hd : decode cc pc = .ok (.sipush z, 3)) (hv : (Int16.ofInt z).toInt32 = v) (K : J G Q (pc + 3) lo (vi v :: st) h k n) : J G Q pc lo (st) h k n := by
  obtain ⟨p, l, e, s, m, args, below, meth, c, D, dA, sz, lv, mc, ms⟩ := G
  obtain ⟨hx, hb, -⟩ := C
  intro H locs ls hH hS hL
  exact lv_sipush hx hb hd hv (K H locs ls hH hS hL)
theorem j_lconst (C : OK G cc nL own rt tb nm) {z : Fin 2} {v : Int64} (hd : decode cc pc = .ok (.lconst z, 1)) (hv : Int64.ofNat (z : Nat) = v) (K : J G Q (pc + 1) lo (vl v :: st) h k n) : J G Q pc lo (st) h k n := by
  obtain ⟨p, l, e, s, m, args, below, meth, c, D, dA, sz, lv, mc, ms⟩ := G
  obtain ⟨hx, hb, -⟩ := C
  intro H locs ls hH hS hL
  exact lv_lconst hx hb hd hv (K H locs ls hH hS hL)
theorem j_null (C : OK G cc nL own rt tb nm) (hd : decode cc pc = .ok (.aconst_null, 1)) (K : J G Q (pc + 1) lo (vr none :: st) h k n) : J G Q pc lo (st) h k n := by
  obtain ⟨p, l, e, s, m, args, below, meth, c, D, dA, sz, lv, mc, ms⟩ := G
  obtain ⟨hx, hb, -⟩ := C
  intro H locs ls hH hS hL
  exact lv_null hx hb hd (K H locs ls hH hS hL)
theorem j_iload_n (C : OK G cc nL own rt tb nm) {z : Fin 4} {x : Int32} (hd : decode cc pc = .ok (.iload_n z, 1)) (hl : lo[(z : Nat)]? = some (some (vi x))) (K : J G Q (pc + 1) lo (vi x :: st) h k n) : J G Q pc lo (st) h k n := by
  obtain ⟨p, l, e, s, m, args, below, meth, c, D, dA, sz, lv, mc, ms⟩ := G
  obtain ⟨hx, hb, -⟩ := C
  intro H locs ls hH hS hL
  exact lv_iload_n hx hb hd rfl (hL.2.2 _ _ hl) (K H locs ls hH hS hL)
theorem j_iload (C : OK G cc nL own rt tb nm) {z : Nat} {x : Int32} (hd : decode cc pc = .ok (.iload z, 2)) (hl : lo[z]? = some (some (vi x))) (K : J G Q (pc + 2) lo (vi x :: st) h k n) : J G Q pc lo (st) h k n := by
  obtain ⟨p, l, e, s, m, args, below, meth, c, D, dA, sz, lv, mc, ms⟩ := G
  obtain ⟨hx, hb, -⟩ := C
  intro H locs ls hH hS hL
  exact lv_iload hx hb hd (hL.2.2 _ _ hl) (K H locs ls hH hS hL)
theorem j_lload_n (C : OK G cc nL own rt tb nm) {z : Fin 4} {x : Int64} (hd : decode cc pc = .ok (.lload_n z, 1)) (hl : lo[(z : Nat)]? = some (some (vl x))) (K : J G Q (pc + 1) lo (vl x :: st) h k n) : J G Q pc lo (st) h k n := by
  obtain ⟨p, l, e, s, m, args, below, meth, c, D, dA, sz, lv, mc, ms⟩ := G
  obtain ⟨hx, hb, -⟩ := C
  intro H locs ls hH hS hL
  exact lv_lload_n hx hb hd rfl (hL.2.2 _ _ hl) (K H locs ls hH hS hL)
theorem j_lload (C : OK G cc nL own rt tb nm) {z : Nat} {x : Int64} (hd : decode cc pc = .ok (.lload z, 2)) (hl : lo[z]? = some (some (vl x))) (K : J G Q (pc + 2) lo (vl x :: st) h k n) : J G Q pc lo (st) h k n := by
  obtain ⟨p, l, e, s, m, args, below, meth, c, D, dA, sz, lv, mc, ms⟩ := G
  obtain ⟨hx, hb, -⟩ := C
  intro H locs ls hH hS hL
  exact lv_lload hx hb hd (hL.2.2 _ _ hl) (K H locs ls hH hS hL)
theorem j_aload_n (C : OK G cc nL own rt tb nm) {z : Fin 4} {x : Option Nat} (hd : decode cc pc = .ok (.aload_n z, 1)) (hl : lo[(z : Nat)]? = some (some (vr x))) (K : J G Q (pc + 1) lo (vr x :: st) h k n) : J G Q pc lo (st) h k n := by
  obtain ⟨p, l, e, s, m, args, below, meth, c, D, dA, sz, lv, mc, ms⟩ := G
  obtain ⟨hx, hb, -⟩ := C
  intro H locs ls hH hS hL
  cases x with
  | none => exact lv_aload_nN hx hb hd rfl (hL.2.2 _ _ hl) (K H locs ls hH hS hL)
  | some a => exact lv_aload_n hx hb hd rfl (hL.2.2 _ _ hl) (K H locs ls hH hS hL)
theorem j_aload (C : OK G cc nL own rt tb nm) {z : Nat} {x : Option Nat} (hd : decode cc pc = .ok (.aload z, 2)) (hl : lo[(z : Nat)]? = some (some (vr x))) (K : J G Q (pc + 2) lo (vr x :: st) h k n) : J G Q pc lo (st) h k n := by
  obtain ⟨p, l, e, s, m, args, below, meth, c, D, dA, sz, lv, mc, ms⟩ := G
  obtain ⟨hx, hb, -⟩ := C
  intro H locs ls hH hS hL
  cases x with
  | none => exact lv_aloadN hx hb hd (hL.2.2 _ _ hl) (K H locs ls hH hS hL)
  | some a => exact lv_aload hx hb hd (hL.2.2 _ _ hl) (K H locs ls hH hS hL)
theorem j_iadd (C : OK G cc nL own rt tb nm) {x y : Int32} (hd : decode cc pc = .ok (.iadd, 1)) (K : J G Q (pc + 1) lo (vi (x + y) :: st) h k n) : J G Q pc lo (vi y :: vi x :: st) h k n := by
  obtain ⟨p, l, e, s, m, args, below, meth, c, D, dA, sz, lv, mc, ms⟩ := G
  obtain ⟨hx, hb, -⟩ := C
  intro H locs ls hH hS hL
  exact lv_iadd hx hb hd (K H locs ls hH hS hL)
theorem j_isub (C : OK G cc nL own rt tb nm) {x y : Int32} (hd : decode cc pc = .ok (.isub, 1)) (K : J G Q (pc + 1) lo (vi (x - y) :: st) h k n) : J G Q pc lo (vi y :: vi x :: st) h k n := by
  obtain ⟨p, l, e, s, m, args, below, meth, c, D, dA, sz, lv, mc, ms⟩ := G
  obtain ⟨hx, hb, -⟩ := C
  intro H locs ls hH hS hL
  exact lv_isub hx hb hd (K H locs ls hH hS hL)
theorem j_iand (C : OK G cc nL own rt tb nm) {x y : Int32} (hd : decode cc pc = .ok (.iand, 1)) (K : J G Q (pc + 1) lo (vi (x &&& y) :: st) h k n) : J G Q pc lo (vi y :: vi x :: st) h k n := by
  obtain ⟨p, l, e, s, m, args, below, meth, c, D, dA, sz, lv, mc, ms⟩ := G
  obtain ⟨hx, hb, -⟩ := C
  intro H locs ls hH hS hL
  exact lv_iand hx hb hd (K H locs ls hH hS hL)
theorem j_idiv (C : OK G cc nL own rt tb nm) {x y : Int32} (hd : decode cc pc = .ok (.idiv, 1)) (hne : ¬ y = 0) (K : J G Q (pc + 1) lo (vi (x / y) :: st) h k n) : J G Q pc lo (vi y :: vi x :: st) h k n := by
  obtain ⟨p, l, e, s, m, args, below, meth, c, D, dA, sz, lv, mc, ms⟩ := G
  obtain ⟨hx, hb, -⟩ := C
  intro H locs ls hH hS hL
  exact lv_idiv hx hb hd hne (K H locs ls hH hS hL)
theorem j_ladd (C : OK G cc nL own rt tb nm) {x y : Int64} (hd : decode cc pc = .ok (.ladd, 1)) (K : J G Q (pc + 1) lo (vl (x + y) :: st) h k n) : J G Q pc lo (vl y :: vl x :: st) h k n := by
  obtain ⟨p, l, e, s, m, args, below, meth, c, D, dA, sz, lv, mc, ms⟩ := G
  obtain ⟨hx, hb, -⟩ := C
  intro H locs ls hH hS hL
  exact lv_ladd hx hb hd (K H locs ls hH hS hL)
theorem j_lmul (C : OK G cc nL own rt tb nm) {x y : Int64} (hd : decode cc pc = .ok (.lmul, 1)) (K : J G Q (pc + 1) lo (vl (x * y) :: st) h k n) : J G Q pc lo (vl y :: vl x :: st) h k n := by
  obtain ⟨p, l, e, s, m, args, below, meth, c, D, dA, sz, lv, mc, ms⟩ := G
  obtain ⟨hx, hb, -⟩ := C
  intro H locs ls hH hS hL
  exact lv_lmul hx hb hd (K H locs ls hH hS hL)
theorem j_land (C : OK G cc nL own rt tb nm) {x y : Int64} (hd : decode cc pc = .ok (.land, 1)) (K : J G Q (pc + 1) lo (vl (x &&& y) :: st) h k n) : J G Q pc lo (vl y :: vl x :: st) h k n := by
  obtain ⟨p, l, e, s, m, args, below, meth, c, D, dA, sz, lv, mc, ms⟩ := G
  obtain ⟨hx, hb, -⟩ := C
  intro H locs ls hH hS hL
  exact lv_land hx hb hd (K H locs ls hH hS hL)
theorem j_lor (C : OK G cc nL own rt tb nm) {x y : Int64} (hd : decode cc pc = .ok (.lor, 1)) (K : J G Q (pc + 1) lo (vl (x ||| y) :: st) h k n) : J G Q pc lo (vl y :: vl x :: st) h k n := by
  obtain ⟨p, l, e, s, m, args, below, meth, c, D, dA, sz, lv, mc, ms⟩ := G
  obtain ⟨hx, hb, -⟩ := C
  intro H locs ls hH hS hL
  exact lv_lor hx hb hd (K H locs ls hH hS hL)
theorem j_lshl (C : OK G cc nL own rt tb nm) {x : Int64} {y : Int32} (hd : decode cc pc = .ok (.lshl, 1)) (K : J G Q (pc + 1) lo (vl (x <<< (y.toInt64 &&& 63)) :: st) h k n) : J G Q pc lo (vi y :: vl x :: st) h k n := by
  obtain ⟨p, l, e, s, m, args, below, meth, c, D, dA, sz, lv, mc, ms⟩ := G
  obtain ⟨hx, hb, -⟩ := C
  intro H locs ls hH hS hL
  exact lv_lshl hx hb hd rfl (K H locs ls hH hS hL)
theorem j_i2l (C : OK G cc nL own rt tb nm) {x : Int32} (hd : decode cc pc = .ok (.i2l, 1)) (K : J G Q (pc + 1) lo (vl x.toInt64 :: st) h k n) : J G Q pc lo (vi x :: st) h k n := by
  obtain ⟨p, l, e, s, m, args, below, meth, c, D, dA, sz, lv, mc, ms⟩ := G
  obtain ⟨hx, hb, -⟩ := C
  intro H locs ls hH hS hL
  exact lv_i2l hx hb hd rfl (K H locs ls hH hS hL)
theorem j_l2i (C : OK G cc nL own rt tb nm) {x : Int64} (hd : decode cc pc = .ok (.l2i, 1)) (K : J G Q (pc + 1) lo (vi x.toInt32 :: st) h k n) : J G Q pc lo (vl x :: st) h k n := by
  obtain ⟨p, l, e, s, m, args, below, meth, c, D, dA, sz, lv, mc, ms⟩ := G
  obtain ⟨hx, hb, -⟩ := C
  intro H locs ls hH hS hL
  exact lv_l2i hx hb hd rfl (K H locs ls hH hS hL)
theorem j_lcmp (C : OK G cc nL own rt tb nm) {x y : Int64} (hd : decode cc pc = .ok (.lcmp, 1)) (K : J G Q (pc + 1) lo (vi (lg_cmp x y) :: st) h k n) : J G Q pc lo (vl y :: vl x :: st) h k n := by
  obtain ⟨p, l, e, s, m, args, below, meth, c, D, dA, sz, lv, mc, ms⟩ := G
  obtain ⟨hx, hb, -⟩ := C
  intro H locs ls hH hS hL
  exact W.lcmp hx hb hd (K H locs ls hH hS hL)
theorem j_dup (C : OK G cc nL own rt tb nm) {v : AV} (hd : decode cc pc = .ok (.dup, 1)) (hc : isL v = false) (K : J G Q (pc + 1) lo (v :: v :: st) h k n) : J G Q pc lo (v :: st) h k n := by
  obtain ⟨p, l, e, s, m, args, below, meth, c, D, dA, sz, lv, mc, ms⟩ := G
  obtain ⟨hx, hb, -⟩ := C
  intro H locs ls hH hS hL
  exact lv_dup hx hb hd (tv_c1 hc) (K H locs ls hH hS hL)
theorem j_pop (C : OK G cc nL own rt tb nm) {v : AV} (hd : decode cc pc = .ok (.pop, 1)) (hc : isL v = false) (K : J G Q (pc + 1) lo (st) h k n) : J G Q pc lo (v :: st) h k n := by
  obtain ⟨p, l, e, s, m, args, below, meth, c, D, dA, sz, lv, mc, ms⟩ := G
  obtain ⟨hx, hb, -⟩ := C
  intro H locs ls hH hS hL
  exact lv_pop hx hb hd (tv_c1 hc) (K H locs ls hH hS hL)
theorem j_dup_x1 (C : OK G cc nL own rt tb nm) {v w : AV} (hd : decode cc pc = .ok (.dup_x1, 1)) (hc : isL v = false) (hw : isL w = false) (K : J G Q (pc + 1) lo (v :: w :: v :: st) h k n) : J G Q pc lo (v :: w :: st) h k n := by
  obtain ⟨p, l, e, s, m, args, below, meth, c, D, dA, sz, lv, mc, ms⟩ := G
  obtain ⟨hx, hb, -⟩ := C
  intro H locs ls hH hS hL
  exact lv_dup_x1 hx hb hd (tv_c1 hc) (tv_c1 hw) (K H locs ls hH hS hL)
theorem j_dup2 (C : OK G cc nL own rt tb nm) {v w : AV} (hd : decode cc pc = .ok (.dup2, 1)) (hc : isL v = false) (hw : isL w = false) (K : J G Q (pc + 1) lo (v :: w :: v :: w :: st) h k n) : J G Q pc lo (v :: w :: st) h k n := by
  obtain ⟨p, l, e, s, m, args, below, meth, c, D, dA, sz, lv, mc, ms⟩ := G
  obtain ⟨hx, hb, -⟩ := C
  intro H locs ls hH hS hL
  exact lv_dup2_11 hx hb hd (tv_c1 hc) (tv_c1 hw) (K H locs ls hH hS hL)
theorem j_if_eq (C : OK G cc nL own rt tb nm) {x : Int32} {off : Int} {tgt : Nat} (hd : decode cc pc = .ok (.ifCond .eq off, 3)) (ht : (pc : Int) + off = (tgt : Int)) (K : (x = 0 → J G Q tgt lo st h k n) ∧ (¬ x = 0 → J G Q (pc + 3) lo st h k n)) : J G Q pc lo (vi x :: st) h k n := by
  obtain ⟨p, l, e, s, m, args, below, meth, c, D, dA, sz, lv, mc, ms⟩ := G
  obtain ⟨hx, hb, -⟩ := C
  intro H locs ls hH hS hL
  exact lv_if_eq hx hb hd ht (fun q => K.1 q H locs ls hH hS hL) (fun q => K.2 q H locs ls hH hS hL)
theorem j_icmp_eq (C : OK G cc nL own rt tb nm) {x y : Int32} {off : Int} {tgt : Nat} (hd : decode cc pc = .ok (.if_icmp .eq off, 3)) (ht : (pc : Int) + off = (tgt : Int)) (K : (x = y → J G Q tgt lo st h k n) ∧ (¬ x = y → J G Q (pc + 3) lo st h k n)) : J G Q pc lo (vi y :: vi x :: st) h k n := by
  obtain ⟨p, l, e, s, m, args, below, meth, c, D, dA, sz, lv, mc, ms⟩ := G
  obtain ⟨hx, hb, -⟩ := C
  intro H locs ls hH hS hL
  exact lv_icmp_eq hx hb hd ht (fun q => K.1 q H locs ls hH hS hL) (fun q => K.2 q H locs ls hH hS hL)
theorem j_if_ne (C : OK G cc nL own rt tb nm) {x : Int32} {off : Int} {tgt : Nat} (hd : decode cc pc = .ok (.ifCond .ne off, 3)) (ht : (pc : Int) + off = (tgt : Int)) (K : (¬ x = 0 → J G Q tgt lo st h k n) ∧ (x = 0 → J G Q (pc + 3) lo st h k n)) : J G Q pc lo (vi x :: st) h k n := by
  obtain ⟨p, l, e, s, m, args, below, meth, c, D, dA, sz, lv, mc, ms⟩ := G
  obtain ⟨hx, hb, -⟩ := C
  intro H locs ls hH hS hL
  exact lv_if_ne hx hb hd ht (fun q => K.1 q H locs ls hH hS hL) (fun q => K.2 q H locs ls hH hS hL)
theorem j_icmp_ne (C : OK G cc nL own rt tb nm) {x y : Int32} {off : Int} {tgt : Nat} (hd : decode cc pc = .ok (.if_icmp .ne off, 3)) (ht : (pc : Int) + off = (tgt : Int)) (K : (¬ x = y → J G Q tgt lo st h k n) ∧ (x = y → J G Q (pc + 3) lo st h k n)) : J G Q pc lo (vi y :: vi x :: st) h k n := by
  obtain ⟨p, l, e, s, m, args, below, meth, c, D, dA, sz, lv, mc, ms⟩ := G
  obtain ⟨hx, hb, -⟩ := C
  intro H locs ls hH hS hL
  exact lv_icmp_ne hx hb hd ht (fun q => K.1 q H locs ls hH hS hL) (fun q => K.2 q H locs ls hH hS hL)
theorem j_if_lt (C : OK G cc nL own rt tb nm) {x : Int32} {off : Int} {tgt : Nat} (hd : decode cc pc = .ok (.ifCond .lt off, 3)) (ht : (pc : Int) + off = (tgt : Int)) (K : (x < 0 → J G Q tgt lo st h k n) ∧ (¬ x < 0 → J G Q (pc + 3) lo st h k n)) : J G Q pc lo (vi x :: st) h k n := by
  obtain ⟨p, l, e, s, m, args, below, meth, c, D, dA, sz, lv, mc, ms⟩ := G
  obtain ⟨hx, hb, -⟩ := C
  intro H locs ls hH hS hL
  exact lv_if_lt hx hb hd ht (fun q => K.1 q H locs ls hH hS hL) (fun q => K.2 q H locs ls hH hS hL)
theorem j_icmp_lt (C : OK G cc nL own rt tb nm) {x y : Int32} {off : Int} {tgt : Nat} (hd : decode cc pc = .ok (.if_icmp .lt off, 3)) (ht : (pc : Int) + off = (tgt : Int)) (K : (x < y → J G Q tgt lo st h k n) ∧ (¬ x < y → J G Q (pc + 3) lo st h k n)) : J G Q pc lo (vi y :: vi x :: st) h k n := by
  obtain ⟨p, l, e, s, m, args, below, meth, c, D, dA, sz, lv, mc, ms⟩ := G
  obtain ⟨hx, hb, -⟩ := C
  intro H locs ls hH hS hL
  exact lv_icmp_lt hx hb hd ht (fun q => K.1 q H locs ls hH hS hL) (fun q => K.2 q H locs ls hH hS hL)
theorem j_if_ge (C : OK G cc nL own rt tb nm) {x : Int32} {off : Int} {tgt : Nat} (hd : decode cc pc = .ok (.ifCond .ge off, 3)) (ht : (pc : Int) + off = (tgt : Int)) (K : (0 ≤ x → J G Q tgt lo st h k n) ∧ (¬ 0 ≤ x → J G Q (pc + 3) lo st h k n)) : J G Q pc lo (vi x :: st) h k n := by
  obtain ⟨p, l, e, s, m, args, below, meth, c, D, dA, sz, lv, mc, ms⟩ := G
  obtain ⟨hx, hb, -⟩ := C
  intro H locs ls hH hS hL
  exact lv_if_ge hx hb hd ht (fun q => K.1 q H locs ls hH hS hL) (fun q => K.2 q H locs ls hH hS hL)
theorem j_icmp_ge (C : OK G cc nL own rt tb nm) {x y : Int32} {off : Int} {tgt : Nat} (hd : decode cc pc = .ok (.if_icmp .ge off, 3)) (ht : (pc : Int) + off = (tgt : Int)) (K : (y ≤ x → J G Q tgt lo st h k n) ∧ (¬ y ≤ x → J G Q (pc + 3) lo st h k n)) : J G Q pc lo (vi y :: vi x :: st) h k n := by
  obtain ⟨p, l, e, s, m, args, below, meth, c, D, dA, sz, lv, mc, ms⟩ := G
  obtain ⟨hx, hb, -⟩ := C
  intro H locs ls hH hS hL
  exact lv_icmp_ge hx hb hd ht (fun q => K.1 q H locs ls hH hS hL) (fun q => K.2 q H locs ls hH hS hL)
theorem j_if_gt (C : OK G cc nL own rt tb nm) {x : Int32} {off : Int} {tgt : Nat} (hd : decode cc pc = .ok (.ifCond .gt off, 3)) (ht : (pc : Int) + off = (tgt : Int)) (K : (0 < x → J G Q tgt lo st h k n) ∧ (¬ 0 < x → J G Q (pc + 3) lo st h k n)) : J G Q pc lo (vi x :: st) h k n := by
  obtain ⟨p, l, e, s, m, args, below, meth, c, D, dA, sz, lv, mc, ms⟩ := G
  obtain ⟨hx, hb, -⟩ := C
  intro H locs ls hH hS hL
  exact lv_if_gt hx hb hd ht (fun q => K.1 q H locs ls hH hS hL) (fun q => K.2 q H locs ls hH hS hL)
theorem j_icmp_gt (C : OK G cc nL own rt tb nm) {x y : Int32} {off : Int} {tgt : Nat} (hd : decode cc pc = .ok (.if_icmp .gt off, 3)) (ht : (pc : Int) + off = (tgt : Int)) (K : (y < x → J G Q tgt lo st h k n) ∧ (¬ y < x → J G Q (pc + 3) lo st h k n)) : J G Q pc lo (vi y :: vi x :: st) h k n := by
  obtain ⟨p, l, e, s, m, args, below, meth, c, D, dA, sz, lv, mc, ms⟩ := G
  obtain ⟨hx, hb, -⟩ := C
  intro H locs ls hH hS hL
  exact lv_icmp_gt hx hb hd ht (fun q => K.1 q H locs ls hH hS hL) (fun q => K.2 q H locs ls hH hS hL)
theorem j_if_le (C : OK G cc nL own rt tb nm) {x : Int32} {off : Int} {tgt : Nat} (hd : decode cc pc = .ok (.ifCond .le off, 3)) (ht : (pc : Int) + off = (tgt : Int)) (K : (x ≤ 0 → J G Q tgt lo st h k n) ∧ (¬ x ≤ 0 → J G Q (pc + 3) lo st h k n)) : J G Q pc lo (vi x :: st) h k n := by
  obtain ⟨p, l, e, s, m, args, below, meth, c, D, dA, sz, lv, mc, ms⟩ := G
  obtain ⟨hx, hb, -⟩ := C
  intro H locs ls hH hS hL
  exact lv_if_le hx hb hd ht (fun q => K.1 q H locs ls hH hS hL) (fun q => K.2 q H locs ls hH hS hL)
theorem j_icmp_le (C : OK G cc nL own rt tb nm) {x y : Int32} {off : Int} {tgt : Nat} (hd : decode cc pc = .ok (.if_icmp .le off, 3)) (ht : (pc : Int) + off = (tgt : Int)) (K : (x ≤ y → J G Q tgt lo st h k n) ∧ (¬ x ≤ y → J G Q (pc + 3) lo st h k n)) : J G Q pc lo (vi y :: vi x :: st) h k n := by
  obtain ⟨p, l, e, s, m, args, below, meth, c, D, dA, sz, lv, mc, ms⟩ := G
  obtain ⟨hx, hb, -⟩ := C
  intro H locs ls hH hS hL
  exact lv_icmp_le hx hb hd ht (fun q => K.1 q H locs ls hH hS hL) (fun q => K.2 q H locs ls hH hS hL)
theorem j_goto (C : OK G cc nL own rt tb nm) {off : Int} {tgt : Nat} (hd : decode cc pc = .ok (.goto off, 3)) (ht : (pc : Int) + off = (tgt : Int)) (K : J G Q tgt lo st h k n) : J G Q pc lo st h k n := by
  obtain ⟨p, l, e, s, m, args, below, meth, c, D, dA, sz, lv, mc, ms⟩ := G
  obtain ⟨hx, hb, -⟩ := C
  intro H locs ls hH hS hL
  exact lv_goto hx hb hd ht (K H locs ls hH hS hL)
theorem j_ifnull (C : OK G cc nL own rt tb nm) {x : Option Nat} {off : Int} {tgt : Nat} (hd : decode cc pc = .ok (.ifnull off, 3)) (ht : (pc : Int) + off = (tgt : Int)) (K : (x = none → J G Q tgt lo st h k n) ∧ (∀ a : Nat, x = some a → J G Q (pc + 3) lo st h k n)) : J G Q pc lo (vr x :: st) h k n := by
  obtain ⟨p, l, e, s, m, args, below, meth, c, D, dA, sz, lv, mc, ms⟩ := G
  obtain ⟨hx, hb, -⟩ := C
  intro H locs ls hH hS hL
  cases x with
  | none => exact lv_ifnullN hx hb hd ht (K.1 rfl H locs ls hH hS hL)
  | some a => exact lv_ifnull hx hb hd (K.2 a rfl H locs ls hH hS hL)
theorem j_ifnonnull (C : OK G cc nL own rt tb nm) {x : Option Nat} {off : Int} {tgt : Nat} (hd : decode cc pc = .ok (.ifnonnull off, 3)) (ht : (pc : Int) + off = (tgt : Int)) (K : (∀ a : Nat, x = some a → J G Q tgt lo st h k n) ∧ (x = none → J G Q (pc + 3) lo st h k n)) : J G Q pc lo (vr x :: st) h k n := by
  obtain ⟨p, l, e, s, m, args, below, meth, c, D, dA, sz, lv, mc, ms⟩ := G
  obtain ⟨hx, hb, -⟩ := C
  intro H locs ls hH hS hL
  cases x with
  | none => exact lv_ifnonnullN hx hb hd (K.2 rfl H locs ls hH hS hL)
  | some a => exact lv_ifnonnull hx hb hd ht (K.1 a rfl H locs ls hH hS hL)
theorem j_acmp_ne (C : OK G cc nL own rt tb nm) {x y : Option Nat} {off : Int} {tgt : Nat} (hd : decode cc pc = .ok (.if_acmp .ne off, 3)) (ht : (pc : Int) + off = (tgt : Int)) (K : (¬ x = y → J G Q tgt lo st h k n) ∧ (x = y → J G Q (pc + 3) lo st h k n)) : J G Q pc lo (vr y :: vr x :: st) h k n := by
  obtain ⟨p, l, e, s, m, args, below, meth, c, D, dA, sz, lv, mc, ms⟩ := G
  obtain ⟨hx, hb, -⟩ := C
  intro H locs ls hH hS hL
  exact lv_acmp_ne hx hb hd ht (fun q => K.1 q H locs ls hH hS hL) (fun q => K.2 q H locs ls hH hS hL)
theorem j_tableIn (C : OK G cc nL own rt tb nm) {dflt l0 hi : Int} {offs : Array Int} {len : Nat} {x : Int32} {off : Int} {tgt : Nat} (hd : decode cc pc = .ok (.tableswitch dflt l0 hi offs, len)) (h1 : ¬ x.toInt < l0) (h2 : ¬ hi < x.toInt) (ho : offs[(x.toInt - l0).toNat]? = some off) (ht : (pc : Int) + off = (tgt : Int)) (K : J G Q tgt lo st h k n) : J G Q pc lo (vi x :: st) h k n := by
  obtain ⟨p, l, e, s, m, args, below, meth, c, D, dA, sz, lv, mc, ms⟩ := G
  obtain ⟨hx, hb, -⟩ := C
  intro H locs ls hH hS hL
  exact lv_tableIn hx hb hd h1 h2 ho ht (K H locs ls hH hS hL)
theorem j_tableOut (C : OK G cc nL own rt tb nm) {dflt l0 hi : Int} {offs : Array Int} {len : Nat} {x : Int32} {tgt : Nat} (hd : decode cc pc = .ok (.tableswitch dflt l0 hi offs, len)) (h1 : x.toInt < l0 ∨ hi < x.toInt) (ht : (pc : Int) + dflt = (tgt : Int)) (K : J G Q tgt lo st h k n) : J G Q pc lo (vi x :: st) h k n := by
  obtain ⟨p, l, e, s, m, args, below, meth, c, D, dA, sz, lv, mc, ms⟩ := G
  obtain ⟨hx, hb, -⟩ := C
  intro H locs ls hH hS hL
  exact lv_tableOut hx hb hd h1 ht (K H locs ls hH hS hL)
theorem j_istore_n (C : OK G cc nL own rt tb nm) {z : Fin 4} {x : Int32} {lo' : List (Option AV)} (hd : decode cc pc = .ok (.istore_n z, 1)) (hn : (z : Nat) < lo.length) (hl : s1 lo (z : Nat) (vi x) = lo') (K : J G Q (pc + 1) lo' st h k n) : J G Q pc lo (vi x :: st) h k n := by
  obtain ⟨p, l, e, s, m, args, below, meth, c, D, dA, sz, lv, mc, ms⟩ := G
  obtain ⟨hx, hb, -⟩ := C
  intro H locs ls hH hS hL
  exact lv_istore_n hx hb hd rfl (LR.has hL) hn rfl (fun ls' h' => K H locs ls' hH hS (LR.s1 hL hn h' hl))
theorem j_istore (C : OK G cc nL own rt tb nm) {z : Nat} {x : Int32} {lo' : List (Option AV)} (hd : decode cc pc = .ok (.istore z, 2)) (hn : (z : Nat) < lo.length) (hl : s1 lo (z : Nat) (vi x) = lo') (K : J G Q (pc + 2) lo' st h k n) : J G Q pc lo (vi x :: st) h k n := by
  obtain ⟨p, l, e, s, m, args, below, meth, c, D, dA, sz, lv, mc, ms⟩ := G
  obtain ⟨hx, hb, -⟩ := C
  intro H locs ls hH hS hL
  exact lv_istore hx hb hd (LR.has hL) hn rfl (fun ls' h' => K H locs ls' hH hS (LR.s1 hL hn h' hl))
theorem j_lstore_n (C : OK G cc nL own rt tb nm) {z : Fin 4} {x : Int64} {lo' : List (Option AV)} (hd : decode cc pc = .ok (.lstore_n z, 1)) (hn : (z : Nat) + 1 < lo.length) (hl : s2 lo (z : Nat) (vl x) = lo') (K : J G Q (pc + 1) lo' st h k n) : J G Q pc lo (vl x :: st) h k n := by
  obtain ⟨p, l, e, s, m, args, below, meth, c, D, dA, sz, lv, mc, ms⟩ := G
  obtain ⟨hx, hb, -⟩ := C
  intro H locs ls hH hS hL
  exact lv_lstore_n hx hb hd rfl (LR.has hL) hn rfl (fun ls' h' => K H locs ls' hH hS (LR.s2 hL hn h' hl))
theorem j_lstore (C : OK G cc nL own rt tb nm) {z : Nat} {x : Int64} {lo' : List (Option AV)} (hd : decode cc pc = .ok (.lstore z, 2)) (hn : (z : Nat) + 1 < lo.length) (hl : s2 lo (z : Nat) (vl x) = lo') (K : J G Q (pc + 2) lo' st h k n) : J G Q pc lo (vl x :: st) h k n := by
  obtain ⟨p, l, e, s, m, args, below, meth, c, D, dA, sz, lv, mc, ms⟩ := G
  obtain ⟨hx, hb, -⟩ := C
  intro H locs ls hH hS hL
  exact lv_lstore hx hb hd (LR.has hL) hn rfl (fun ls' h' => K H locs ls' hH hS (LR.s2 hL hn h' hl))
theorem j_astore_n (C : OK G cc nL own rt tb nm) {z : Fin 4} {x : Option Nat} {lo' : List (Option AV)} (hd : decode cc pc = .ok (.astore_n z, 1)) (hn : (z : Nat) < lo.length) (hl : s1 lo (z : Nat) (vr x) = lo') (K : J G Q (pc + 1) lo' st h k n) : J G Q pc lo (vr x :: st) h k n := by
  obtain ⟨p, l, e, s, m, args, below, meth, c, D, dA, sz, lv, mc, ms⟩ := G
  obtain ⟨hx, hb, -⟩ := C
  intro H locs ls hH hS hL
  cases x with
  | none => exact lv_astore_nN hx hb hd rfl (LR.has hL) hn rfl (fun ls' h' => K H locs ls' hH hS (LR.s1 (v := vr none) hL hn h' hl))
  | some a => exact lv_astore_n hx hb hd rfl (LR.has hL) hn rfl (fun ls' h' => K H locs ls' hH hS (LR.s1 (v := vr (some a)) hL hn h' hl))
theorem j_astore (C : OK G cc nL own rt tb nm) {z : Nat} {x : Option Nat} {lo' : List (Option AV)} (hd : decode cc pc = .ok (.astore z, 2)) (hn : (z : Nat) < lo.length) (hl : s1 lo (z : Nat) (vr x) = lo') (K : J G Q (pc + 2) lo' st h k n) : J G Q pc lo (vr x :: st) h k n := by
  obtain ⟨p, l, e, s, m, args, below, meth, c, D, dA, sz, lv, mc, ms⟩ := G
  obtain ⟨hx, hb, -⟩ := C
  intro H locs ls hH hS hL
  cases x with
  | none => exact lv_astoreN hx hb hd (LR.has hL) hn rfl (fun ls' h' => K H locs ls' hH hS (LR.s1 (v := vr none) hL hn h' hl))
  | some a => exact lv_astore hx hb hd (LR.has hL) hn rfl (fun ls' h' => K H locs ls' hH hS (LR.s1 (v := vr (some a)) hL hn h' hl))
theorem j_iinc (C : OK G cc nL own rt tb nm) {z : Nat} {d : Int} {x v : Int32} {lo' : List (Option AV)} (hd : decode cc pc = .ok (.iinc z d, 3)) (hx0 : lo[z]? = some (some (vi x))) (hv : x + Int32.ofInt d = v) (hl : s1 lo z (vi v) = lo') (K : J G Q (pc + 3) lo' st h k n) : J G Q pc lo st h k n := by
  obtain ⟨p, l, e, s, m, args, below, meth, c, D, dA, sz, lv, mc, ms⟩ := G
  obtain ⟨hx, hb, -⟩ := C
  intro H locs ls hH hS hL
  have hn : z < lo.length := (List.getElem?_eq_some_iff.mp hx0).1
  obtain ⟨j, hj⟩ := LR.find hx0
  exact lv_iinc hx hb hd (LR.has hL) hj hv hn rfl (fun ls' h' => K H locs ls' hH hS (LR.s1 (v := vi v) hL hn h' hl))
theorem j_widen {k' n' : Nat} (hk : k ≤ k') (hn : n ≤ n') (K : J G Q pc lo st h k' n') : J G Q pc lo st h k n := by
  obtain ⟨p, l, e, s, m, args, below, meth, c, D, dA, sz, lv, mc, ms⟩ := G
  intro H locs ls hH hS hL
  exact W.widen hk hn (K H locs ls hH hS hL)
end RW1
end
section
/-! FIELDS, ARRAYS, NEW CELLS, ENDS over the judgement J. -/
def lim (G : Cx) (k n : Nat) : Prop :=
  match G with
  | (_, _, _, _, _, _, _, _, _, _, _, _, _, mc, ms) => k ≤ mc ∧ n ≤ ms
def fav (h : Hp) (a : Nat) : Nat ⊕ Nat → AV
  | .inl g => vi (fI h g a)
  | .inr g => vr (fR h g a)
theorem tv_fav (h : Hp) (a : Nat) (f : Nat ⊕ Nat) : tv (fav h a f) = fv h a f := by cases f <;> rfl
theorem ce_obj {dA : Nat → ClassId} {h : Hp} {a ci : Nat} (ht : tg h a = ci + 1) (hc : ci < 7) : ce dA h a = some (.inr (ci, (fl ci).map (fv h a))) := by
  unfold ce
  rw [ht]
  match ci, hc with
  | 0, _ => rfl
  | 1, _ => rfl
  | 2, _ => rfl
  | 3, _ => rfl
  | 4, _ => rfl
  | 5, _ => rfl
  | 6, _ => rfl
theorem HR.obj {D : va_G} {dA : Nat → ClassId} {sz : Nat} {h : Hp} {H : Heap} {a ci : Nat} (hH : HR D dA sz h H) (ht : tg h a = ci + 1) (hc : ci < 7) : sz ≤ a ∧ va_at D vwCl (a, .inr (ci, (fl ci).map (fv h a))) H := hH a _ (ce_obj ht hc)
theorem ce_i {dA : Nat → ClassId} {h : Hp} {a : Nat} (ht : tg h a = 8) : ce dA h a = some (.inl (dA 0, ln h a, .inl (aI h a))) := by unfold ce; rw [ht] <;> rfl
theorem ce_l {dA : Nat → ClassId} {h : Hp} {a : Nat} (ht : tg h a = 9) : ce dA h a = some (.inl (dA 1, ln h a, .inr (.inl (aL h a)))) := by unfold ce; rw [ht] <;> rfl
theorem ce_z {dA : Nat → ClassId} {h : Hp} {a : Nat} (ht : tg h a = 10) : ce dA h a = some (.inl (dA 2, ln h a, .inl (aI h a))) := by unfold ce; rw [ht] <;> rfl
theorem ce_q {dA : Nat → ClassId} {h : Hp} {a : Nat} (ht : tg h a = 11) : ce dA h a = some (.inl (dA 3, ln h a, .inr (.inr (.inr (.inr (aR h a)))))) := by unfold ce; rw [ht] <;> rfl
theorem ce_none {dA : Nat → ClassId} {h : Hp} {a : Nat} (hn : ce dA h a = none) : tg h a = 0 := by
  unfold ce at hn
  split at hn <;> first | assumption | cases hn
theorem ce_same {dA : Nat → ClassId} {h h' : Hp} {b : Nat} (h1 : tg h' b = tg h b) (h2 : ∀ g, fI h' g b = fI h g b) (h3 : ∀ g, fR h' g b = fR h g b) (h4 : ln h' b = ln h b) (h5 : aI h' b = aI h b) (h6 : aL h' b = aL h b) (h7 : aR h' b = aR h b) : ce dA h' b = ce dA h b := by
  have hf : fv h' b = fv h b := by
    funext f
    cases f with
    | inl g => simp only [fv, h2]
    | inr g => simp only [fv, h3]
  unfold ce
  rw [h1, hf, h4, h5, h6, h7]
theorem one_P {D : va_G} {q : Nat × va_E} {H : Heap} (h : va_at D vwCl q H) : va_P D vwCl [q] H := by
  intro k q' hk
  match k, hk with
  | 0, hk => cases hk; exact h
  | k + 1, hk => simp at hk
theorem HR.set {D : va_G} {dA : Nat → ClassId} {sz : Nat} {h h' : Hp} {H H1 : Heap} {a : Nat} (hH : HR D dA sz h H) (ho : ∀ q : Nat, q ≠ a → H1[q]? = H[q]?) (hs : sz ≤ a) (hc : ∀ b, b ≠ a → ce dA h' b = ce dA h b) (ha : ∀ e, ce dA h' a = some e → va_at D vwCl (a, e) H1) : HR D dA sz h' H1 := by
  intro b e he
  by_cases hb : b = a
  · subst hb; exact ⟨hs, ha e he⟩
  · rw [hc b hb] at he
    obtain ⟨h1, h2⟩ := hH b e he
    exact ⟨h1, h2.kept (ho b hb)⟩
theorem HR.lt {D : va_G} {dA : Nat → ClassId} {sz : Nat} {h : Hp} {H : Heap} (hH : HR D dA sz h H) {a : Nat} (ha : H.size ≤ a) : tg h a = 0 := by
  apply ce_none (dA := dA)
  cases he : ce dA h a with
  | none => rfl
  | some e => exact absurd (hH a e he).2.lt (Nat.not_lt.mpr ha)
theorem HR.new {D : va_G} {dA : Nat → ClassId} {sz : Nat} {h h' : Hp} {H H1 : Heap} (hH : HR D dA sz h H) (ho : ∀ q : Nat, q < H.size → H1[q]? = H[q]?) (hs : sz ≤ H.size) (hc : ∀ b, b ≠ H.size → ce dA h' b = ce dA h b) (ha : ∀ e, ce dA h' H.size = some e → va_at D vwCl (H.size, e) H1) : HR D dA sz h' H1 := by
  intro b e he
  by_cases hb : b = H.size
  · subst hb; exact ⟨hs, ha e he⟩
  · rw [hc b hb] at he
    obtain ⟨h1, h2⟩ := hH b e he
    exact ⟨h1, h2.kept (ho b h2.lt)⟩
def okv : Nat ⊕ Nat → AV → Bool
  | .inl _, .inl _ => true
  | .inr _, .inr (.inl _) => true
  | _, _ => false
def wr (h : Hp) (f : Nat ⊕ Nat) (a : Nat) (v : AV) : Hp :=
  match f, v with
  | .inl g, .inl x => pI h g a x
  | .inr g, .inr (.inl o) => pR h g a o
  | _, _ => h
theorem fv_wr {h : Hp} {f : Nat ⊕ Nat} {a : Nat} {v : AV} (hv : okv f v = true) (b : Nat) (f' : Nat ⊕ Nat) : fv (wr h f a v) b f' = if b = a ∧ f' = f then tv v else fv h b f' := by
  rcases f with g | g <;> rcases v with x | o | x <;> first | (cases hv; done) | skip
  · rcases f' with g' | g'
    · show Value.int (up2 (fI h) g a x g' b) = _
      unfold up2
      by_cases h1 : g' = g
      · subst h1
        by_cases h2 : b = a
        · subst h2; simp [tv]
        · simp [h2, fv]
      · simp [h1, fv]
    · show va_rf (fR h g' b) = _
      simp [fv]
  · rcases f' with g' | g'
    · show Value.int (fI h g' b) = _
      simp [fv]
    · show va_rf (up2 (fR h) g a o g' b) = _
      unfold up2
      by_cases h1 : g' = g
      · subst h1
        by_cases h2 : b = a
        · subst h2; simp [tv]
        · simp [h2, fv]
      · simp [h1, fv]
theorem tg_wr (h : Hp) (f : Nat ⊕ Nat) (a : Nat) (v : AV) : tg (wr h f a v) = tg h := by
  rcases f with g | g <;> rcases v with x | o | x <;> rfl
theorem ce_wr {dA : Nat → ClassId} {h : Hp} {f : Nat ⊕ Nat} {a : Nat} {v : AV} (hv : okv f v = true) {b : Nat} (hb : b ≠ a) : ce dA (wr h f a v) b = ce dA h b := by
  have hf : fv (wr h f a v) b = fv h b := by
    funext f'
    rw [fv_wr hv, if_neg (fun q => hb q.1)]
  have hr : (wr h f a v).2.2.2 = h.2.2.2 := by rcases f with g | g <;> rcases v with x | o | x <;> rfl
  unfold ce ln aI aL aR
  rw [tg_wr, hf, hr]
def flb : Bool := (List.range 7).all fun ci => (List.range 35).all fun i => (List.range 35).all fun j => decide (i = j) || (!(decide ((fl ci)[i]? = (fl ci)[j]?)) || decide ((fl ci)[i]? = none))
theorem flb_ok : flb = true := by decide +kernel
theorem fl_inj (ci : Nat) (h7 : ci < 7) (i : Nat) (hi : i < 35) (j : Nat) (hj : j < 35) (he : (fl ci)[i]? = (fl ci)[j]?) (hn : (fl ci)[i]? ≠ none) : i = j := by
  have h := List.all_eq_true.mp (List.all_eq_true.mp (List.all_eq_true.mp flb_ok ci (List.mem_range.mpr h7)) i (List.mem_range.mpr hi)) j (List.mem_range.mpr hj)
  simp only [Bool.or_eq_true, decide_eq_true_eq, Bool.not_eq_true', decide_eq_false_iff_not] at h
  rcases h with h | h | h
  · exact h
  · exact absurd he h
  · exact absurd h hn
theorem fl_len : ∀ ci, ci < 7 → (fl ci).length ≤ 35 := by decide +kernel
theorem fl_set {h : Hp} {f : Nat ⊕ Nat} {a : Nat} {v : AV} (hv : okv f v = true) {ci kk : Nat} (h7 : ci < 7) (hf : (fl ci)[kk]? = some f) : (fl ci).map (fv (wr h f a v) a) = ((fl ci).map (fv h a)).set kk (tv v) := by
  have hlen := fl_len ci h7
  have hkl : kk < (fl ci).length := (List.getElem?_eq_some_iff.mp hf).1
  apply List.ext_getElem?
  intro j
  rw [List.getElem?_map, List.getElem?_set]
  by_cases hj : kk = j
  · subst hj
    rw [if_pos rfl, hf]
    simp only [Option.map_some, List.length_map, hkl, if_true]
    rw [fv_wr hv, if_pos ⟨rfl, rfl⟩]
  · rw [if_neg hj, List.getElem?_map]
    cases hx : (fl ci)[j]? with
    | none => rfl
    | some f' =>
      have hjl : j < (fl ci).length := (List.getElem?_eq_some_iff.mp hx).1
      have hne : f' ≠ f := fun e => hj (fl_inj ci h7 kk (by omega) j (by omega) (by rw [hf, hx, e]) (by rw [hf]; simp))
      simp only [Option.map_some]
      rw [fv_wr hv, if_neg (fun q => hne q.2)]
section RW2
variable {G : Cx} {cc : ByteArray} {nL : Nat} {own nm : String} {rt : Option FieldType} {tb : List ExceptionTableEntry} {Q : Option AV ⊕ String → Hp → Prop} {pc : Nat} {lo : List (Option AV)} {st : List AV} {h : Hp} {k n : Nat}
theorem j_get (C : OK G cc nL own rt tb nm) {ci kk idx a : Nat} {Cn ref : String} {T : u_T} {N : Nat} {f : Nat ⊕ Nat} (hc : vwCl[ci]? = some (Cn, T, N)) (hin : ∀ w ∈ u_ws Cn T N, w ∈ BG) (hk : kk < N) (hlink : Cond.fieldLink own idx ref (T kk).2.1 (T kk).2.2.1 ∈ BG) (hsame : ref = (T kk).1 ∨ Cond.sameField ref (T kk).1 (T kk).2.1 (T kk).2.2.1 ∈ BG)
    (hf : (fl ci)[kk]? = some f) (h7 : ci < 7) (ht : tg h a = ci + 1) (hd : decode cc pc = .ok (.getfield idx, 3)) (K : J G Q (pc + 3) lo (fav h a f :: st) h k n) : J G Q pc lo (vr (some a) :: st) h k n := by
  obtain ⟨p, l, e, s, m, args, below, meth, c, D, dA, sz, lv, mc, ms⟩ := G
  obtain ⟨hx, hb, -, hown, hts, -, -, hWD, -⟩ := C
  intro H locs ls hH hS hL
  refine va_get hx hb hts hin hown hWD.1 (one_P (hH.obj ht h7).2) 0 rfl hc kk hk (hts _ hlink) ?_ (v := tv (fav h a f)) ?_ hd (K H locs ls hH hS hL)
  · intro x hx'
    rcases hsame with rfl | hs
    · exact hx'
    · exact u_same (hts _ hs) x hx'
  · rw [List.getElem?_map, hf, tv_fav]; rfl
theorem j_put (C : OK G cc nL own rt tb nm) {ci kk idx a : Nat} {Cn ref : String} {T : u_T} {N : Nat} {f : Nat ⊕ Nat} (hc : vwCl[ci]? = some (Cn, T, N)) (hin : ∀ w ∈ u_ws Cn T N, w ∈ BG) (hk : kk < N) (hlink : Cond.fieldLink own idx ref (T kk).2.1 (T kk).2.2.1 ∈ BG) (hsame : ref = (T kk).1 ∨ Cond.sameField ref (T kk).1 (T kk).2.1 (T kk).2.2.1 ∈ BG)
    {ty0 : Nat → FieldType} (hty : ∀ k, k < N → parseFieldDescriptor (T k).2.2.1 = some (ty0 k)) (hnm : ∀ a, a < N → ∀ b, b < N → a ≠ b → (T a).2.1 ≠ (T b).2.1) (hfin : (T kk).2.2.2 = false ∨ ((T kk).2.2.2 = true ∧ nm = "<init>" ∧ (T kk).1 = own)) {v : AV} (hn : narrow (ty0 kk) (tv v) = tv v) (hfit : fits (ty0 kk) (tv v) = true)
    (hf : (fl ci)[kk]? = some f) (hv : okv f v = true) (h7 : ci < 7) (ht : tg h a = ci + 1) (hd : decode cc pc = .ok (.putfield idx, 3)) (K : J G Q (pc + 3) lo st (wr h f a v) k n) : J G Q pc lo (v :: vr (some a) :: st) h k n := by
  obtain ⟨p, l, e, s, m, args, below, meth, c, D, dA, sz, lv, mc, ms⟩ := G
  obtain ⟨hx, hb, -, hown, hts, -, -, hWD, -, -, -, hnmm⟩ := C
  intro H locs ls hH hS hL
  have hap := va_apart (own := own) hts hin ty0 hty hnm hWD.1 hc
  obtain ⟨hsza, r, h1, cell, q1, q2, q3, q4⟩ := hH.obj ht h7
  have hr : r = (Cn, T, N) := Option.some.inj (h1.symm.trans hc)
  subst hr
  obtain ⟨hSl, hfc, kC, hkC, hkind⟩ := hWD.1.1 ci _ hc
  obtain ⟨cf, kf, fi, fd, hi, hsl⟩ := hSl kk hk
  have hi' : s.fieldFound? ref (T kk).2.1 (T kk).2.2.1 = some (cf, kf, fi, fd) := by
    rcases hsame with rfl | hs
    · exact hi
    · exact u_same (hts _ hs) _ hi
  have hst := (u_facts hfc hkC (u_lays hts hin hk) hi).1
  have hlen : kk < ((fl ci).map (fv h a)).length := by rw [List.length_map]; exact (List.getElem?_eq_some_iff.mp hf).1
  have fin : ∀ H' : Heap, H'[a]? = some (cell.setSlot (D.2 ci kk) (tv v)) → H'.size = H.size → (∀ q, q ≠ a → H'[q]? = H[q]?) → W p l e (rmo lv mc ms) s m args below meth c H' (locs ++ [⟨a, D.2 ci kk⟩]) k n (vx_MQ below (cQ D dA sz Q) (cX D dA sz Q) args s mc ms (fun q => sz ≤ q)) (F0 m (pc + 3) ls (st.map tv)) := by
    intro H' e1 e2 e3
    refine K H' _ ls (hH.set e3 hsza (fun b hb => ce_wr hv hb) (fun e' he' => ?_)) (hS.put e2 e3 hsza) hL
    rw [ce_obj (by rw [tg_wr]; exact ht) h7] at he'
    cases he'
    rw [fl_set hv h7 hf]
    exact ⟨_, hc, t_OB.to (V := updV (vp_V ((fl ci).map (fv h a))) kk (tv v)) ⟨_, e1, q2, q3, t_set q4 hap hk (tv v)⟩ (fun j _ => vp_updV_set hlen (tv v) j)⟩
  have hlay := hts _ (hin _ (u_in_lay hk))
  unfold u_lay at hlay
  rcases hfin with hfin | ⟨hfin, hini, hdecl⟩
  · rw [if_neg (by rw [hfin]; decide)] at hlay
    have h6 := u_store hfc hkC hkind hlay hi (hty kk hk) hn hfit
    refine W.putK hx hb (f := fd) ⟨hown, hts _ hlink, ⟨_, _, _, hi'⟩, hst⟩ (by rw [q2]; exact h6) q1 q3 (by rw [hsl]; exact k2_hasslot (q4 kk hk)) rfl rfl hd fun H' e1 e2 e3 => ?_
    rw [hsl] at e1 ⊢
    exact fin H' e1 e2 e3
  · rw [if_pos hfin] at hlay
    have hcf : m.cls = cf := by
      obtain ⟨_, _, c', _, _, _, -, -, hf', -, -, -, hown2, -⟩ := Cond.laysFinal_spec hlay
      have e1 : c' = cf := by have := hi.symm.trans hf'; simp at this; exact this.1.symm
      rw [hdecl] at hown2
      rw [← e1]; exact Option.some.inj (hown.symm.trans hown2)
    have h6 := u_fits hfc hkC hkind (Or.inr hlay) hi (hty kk hk) hn hfit
    refine W.putFinK hx hb hown (hts _ hlink) hi' hst hcf (by rw [hnmm]; exact hini) (by rw [q2]; exact h6) q1 q3 (by rw [hsl]; exact k2_hasslot (q4 kk hk)) rfl rfl hd fun H' e1 e2 e3 => ?_
    rw [hsl] at e1 ⊢
    exact fin H' e1 e2 e3
theorem j_iald (C : OK G cc nL own rt tb nm) {a : Nat} {i : Int32} (ht : tg h a = 8) (hi : vp_in i (ln h a)) (hd : decode cc pc = .ok (.iaload, 1)) (K : J G Q (pc + 1) lo (vi (aI h a i.toNatClampNeg) :: st) h k n) : J G Q pc lo (vi i :: vr (some a) :: st) h k n := by
  obtain ⟨p, l, e, s, m, args, below, meth, c, D, dA, sz, lv, mc, ms⟩ := G
  obtain ⟨hx, hb, -, hown, hts, -, -, hWD, -⟩ := C
  intro H locs ls hH hS hL
  exact va_iald hx hb hWD.1 (one_P (hH a _ (ce_i ht)).2) 0 0 rfl rfl hi hd (K H locs ls hH hS hL)
theorem j_lald (C : OK G cc nL own rt tb nm) {a : Nat} {i : Int32} (ht : tg h a = 9) (hi : vp_in i (ln h a)) (hd : decode cc pc = .ok (.laload, 1)) (K : J G Q (pc + 1) lo (vl (aL h a i.toNatClampNeg) :: st) h k n) : J G Q pc lo (vi i :: vr (some a) :: st) h k n := by
  obtain ⟨p, l, e, s, m, args, below, meth, c, D, dA, sz, lv, mc, ms⟩ := G
  obtain ⟨hx, hb, -, hown, hts, -, -, hWD, -⟩ := C
  intro H locs ls hH hS hL
  exact va_lald hx hb hWD.1 (one_P (hH a _ (ce_l ht)).2) 0 1 rfl rfl hi hd (K H locs ls hH hS hL)
theorem j_zald (C : OK G cc nL own rt tb nm) {a : Nat} {i : Int32} (ht : tg h a = 10) (hi : vp_in i (ln h a)) (hd : decode cc pc = .ok (.baload, 1)) (K : J G Q (pc + 1) lo (vi (aI h a i.toNatClampNeg) :: st) h k n) : J G Q pc lo (vi i :: vr (some a) :: st) h k n := by
  obtain ⟨p, l, e, s, m, args, below, meth, c, D, dA, sz, lv, mc, ms⟩ := G
  obtain ⟨hx, hb, -, hown, hts, -, -, hWD, -⟩ := C
  intro H locs ls hH hS hL
  exact va_zald hx hb hWD.1 (one_P (hH a _ (ce_z ht)).2) 0 2 rfl rfl hi hd (K H locs ls hH hS hL)
theorem j_aald (C : OK G cc nL own rt tb nm) {a : Nat} {i : Int32} (ht : tg h a = 11) (hi : vp_in i (ln h a)) (hd : decode cc pc = .ok (.aaload, 1)) (K : J G Q (pc + 1) lo (vr (aR h a i.toNatClampNeg) :: st) h k n) : J G Q pc lo (vi i :: vr (some a) :: st) h k n := by
  obtain ⟨p, l, e, s, m, args, below, meth, c, D, dA, sz, lv, mc, ms⟩ := G
  obtain ⟨hx, hb, -, hown, hts, -, -, hWD, -⟩ := C
  intro H locs ls hH hS hL
  exact va_aldq hx hb hWD.1 (one_P (hH a _ (ce_q ht)).2) 0 3 rfl rfl hi hd (K H locs ls hH hS hL)
theorem j_alen (C : OK G cc nL own rt tb nm) {a : Nat} (ht : tg h a = 8 ∨ tg h a = 9 ∨ tg h a = 11) (hd : decode cc pc = .ok (.arraylength, 1)) (K : J G Q (pc + 1) lo (vi (nI (ln h a)) :: st) h k n) : J G Q pc lo (vr (some a) :: st) h k n := by
  obtain ⟨p, l, e, s, m, args, below, meth, c, D, dA, sz, lv, mc, ms⟩ := G
  obtain ⟨hx, hb, -, hown, hts, -, -, hWD, -⟩ := C
  intro H locs ls hH hS hL
  rcases ht with ht | ht | ht
  · exact W.alen (n := nI (ln h a)) hx hb ((hH a _ (ce_i ht)).2) ((hWD.1.2 0 _ rfl).1 (ln h a) (fun j => .int (aI h a j))) (by rw [vp_cell_i, arrV_size] <;> rfl) rfl rfl hd (K H locs ls hH hS hL)
  · exact W.alen (n := nI (ln h a)) hx hb ((hH a _ (ce_l ht)).2) ((hWD.1.2 1 _ rfl).1 (ln h a) (fun j => .long (aL h a j))) (by rw [vp_cell_l, arrV_size] <;> rfl) rfl rfl hd (K H locs ls hH hS hL)
  · exact W.alen (n := nI (ln h a)) hx hb ((hH a _ (ce_q ht)).2) ((hWD.1.2 3 _ rfl).1 (ln h a) (fun j => va_rf (aR h a j))) (by rw [vp_cell_q, arrV_size] <;> rfl) rfl rfl hd (K H locs ls hH hS hL)
theorem up2_row {α : Type} (f : Nat → Nat → α) (a i : Nat) (x : α) : up2 f a i x a = fun j => if j = i then x else f a j := by
  funext j; simp [up2]
theorem up2_off {α : Type} (f : Nat → Nat → α) {a b : Nat} (i : Nat) (x : α) (hb : b ≠ a) : up2 f a i x b = f b := by
  funext j; simp [up2, hb]
theorem j_iast (C : OK G cc nL own rt tb nm) {a : Nat} {i x : Int32} (ht : tg h a = 8) (hi : vp_in i (ln h a)) (hd : decode cc pc = .ok (.iastore, 1)) (K : J G Q (pc + 1) lo st (qI h a i.toNatClampNeg x) k n) : J G Q pc lo (vi x :: vi i :: vr (some a) :: st) h k n := by
  obtain ⟨p, l, e, s, m, args, below, meth, c, D, dA, sz, lv, mc, ms⟩ := G
  obtain ⟨hx, hb, -, hown, hts, -, -, hWD, -⟩ := C
  intro H locs ls hH hS hL
  obtain ⟨hsz, hat⟩ := hH a _ (ce_i ht)
  refine W.iast hx hb hat ((hWD.1.2 0 _ rfl).1 (ln h a) (fun j => .int (aI h a j))) (fun q => by cases q) (by show ¬ (i < 0 ∨ (arrV _ _ _).slots.size ≤ _); rw [arrV_size]; exact hi) rfl rfl hd fun H1 e1 z oq => ?_
  refine K H1 _ ls (hH.set oq hsz (fun b hb => ce_same rfl (fun _ => rfl) (fun _ => rfl) rfl (up2_off _ _ _ hb) rfl rfl) (fun e' he' => ?_)) (hS.put z oq hsz) hL
  rw [ce_i (h := qI h a i.toNatClampNeg x) ht] at he'
  cases he'
  show H1[a]? = some (vp_cell _ _)
  rw [e1, vp_cell_i, vp_cell_i, arrV_store]
  congr 2
  funext q
  show _ = Value.int (up2 (aI h) a i.toNatClampNeg x a q)
  by_cases hq : q = i.toNatClampNeg
  · subst hq; simp [updV, up2]
  · simp [updV, up2, hq]
theorem j_last (C : OK G cc nL own rt tb nm) {a : Nat} {i : Int32} {x : Int64} (ht : tg h a = 9) (hi : vp_in i (ln h a)) (hd : decode cc pc = .ok (.lastore, 1)) (K : J G Q (pc + 1) lo st (qL h a i.toNatClampNeg x) k n) : J G Q pc lo (vl x :: vi i :: vr (some a) :: st) h k n := by
  obtain ⟨p, l, e, s, m, args, below, meth, c, D, dA, sz, lv, mc, ms⟩ := G
  obtain ⟨hx, hb, -, hown, hts, -, -, hWD, -⟩ := C
  intro H locs ls hH hS hL
  obtain ⟨hsz, hat⟩ := hH a _ (ce_l ht)
  refine W.last hx hb hat ((hWD.1.2 1 _ rfl).1 (ln h a) (fun j => .long (aL h a j))) (fun q => by cases q) (by show ¬ (i < 0 ∨ (arrV _ _ _).slots.size ≤ _); rw [arrV_size]; exact hi) rfl rfl hd fun H1 e1 z oq => ?_
  refine K H1 _ ls (hH.set oq hsz (fun b hb => ce_same rfl (fun _ => rfl) (fun _ => rfl) rfl rfl (up2_off _ _ _ hb) rfl) (fun e' he' => ?_)) (hS.put z oq hsz) hL
  rw [ce_l (h := qL h a i.toNatClampNeg x) ht] at he'
  cases he'
  show H1[a]? = some (vp_cell _ _)
  rw [e1, vp_cell_l, vp_cell_l, arrV_store]
  congr 2
  funext q
  show _ = Value.long (up2 (aL h) a i.toNatClampNeg x a q)
  by_cases hq : q = i.toNatClampNeg
  · subst hq; simp [updV, up2]
  · simp [updV, up2, hq]
theorem j_zast (C : OK G cc nL own rt tb nm) {a : Nat} {i x : Int32} (ht : tg h a = 10) (hi : vp_in i (ln h a)) (h01 : x = 0 ∨ x = 1) (hd : decode cc pc = .ok (.bastore, 1)) (K : J G Q (pc + 1) lo st (qI h a i.toNatClampNeg x) k n) : J G Q pc lo (vi x :: vi i :: vr (some a) :: st) h k n := by
  obtain ⟨p, l, e, s, m, args, below, meth, c, D, dA, sz, lv, mc, ms⟩ := G
  obtain ⟨hx, hb, -, hown, hts, -, -, hWD, -⟩ := C
  intro H locs ls hH hS hL
  have hnar : narrow .boolean (.int x) = .int x := by rcases h01 with rfl | rfl <;> rfl
  obtain ⟨hsz, hat⟩ := hH a _ (ce_z ht)
  refine W.zast hx hb hat ((hWD.1.2 2 _ rfl).1 (ln h a) (fun j => .int (aI h a j))) (fun q => by cases q) (by show ¬ (i < 0 ∨ (arrV _ _ _).slots.size ≤ _); rw [arrV_size]; exact hi) rfl rfl hd fun H1 e1 z oq => ?_
  refine K H1 _ ls (hH.set oq hsz (fun b hb => ce_same rfl (fun _ => rfl) (fun _ => rfl) rfl (up2_off _ _ _ hb) rfl rfl) (fun e' he' => ?_)) (hS.put z oq hsz) hL
  rw [ce_z (h := qI h a i.toNatClampNeg x) ht] at he'
  cases he'
  show H1[a]? = some (vp_cell _ _)
  rw [e1, hnar, vp_cell_i, vp_cell_i, arrV_store]
  congr 2
  funext q
  show _ = Value.int (up2 (aI h) a i.toNatClampNeg x a q)
  by_cases hq : q = i.toNatClampNeg
  · subst hq; simp [updV, up2]
  · simp [updV, up2, hq]
/-- returns -/
theorem j_iret (C : OK G cc nL own (some .int) tb nm) {x : Int32} (hd : decode cc pc = .ok (.ireturn, 1)) (hl : lim G k n) (K : Q (.inl (some (vi x))) h) : J G Q pc lo [vi x] h k n := by
  obtain ⟨p, l, e, s, m, args, below, meth, c, D, dA, sz, lv, mc, ms⟩ := G
  obtain ⟨hx, hb, -, hown, hts, hlocks, hr, hWD, -⟩ := C
  intro H locs ls hH hS hL
  exact W.widen hl.1 hl.2 (vx_ret (W.iret (v := x) hx hb hr (fun t ht hW => ⟨some (vi x), h, rfl, K, by rw [ht]; exact hH, hS.F ht⟩) hS.2.2 hd))
theorem j_zret (C : OK G cc nL own (some .boolean) tb nm) {x : Int32} (h01 : x = 0 ∨ x = 1) (hd : decode cc pc = .ok (.ireturn, 1)) (hl : lim G k n) (K : Q (.inl (some (vi x))) h) : J G Q pc lo [vi x] h k n := by
  obtain ⟨p, l, e, s, m, args, below, meth, c, D, dA, sz, lv, mc, ms⟩ := G
  obtain ⟨hx, hb, -, hown, hts, hlocks, hr, hWD, -⟩ := C
  intro H locs ls hH hS hL
  have hnar : narrow .boolean (.int x) = .int x := by rcases h01 with rfl | rfl <;> rfl
  exact W.widen hl.1 hl.2 (vx_ret (W.zret (v := x) hx hb hr hnar (fun t ht hW => ⟨some (vi x), h, rfl, K, by rw [ht]; exact hH, hS.F ht⟩) hS.2.2 hd))
theorem j_lret (C : OK G cc nL own (some .long) tb nm) {x : Int64} (hd : decode cc pc = .ok (.lreturn, 1)) (hl : lim G k n) (K : Q (.inl (some (vl x))) h) : J G Q pc lo [vl x] h k n := by
  obtain ⟨p, l, e, s, m, args, below, meth, c, D, dA, sz, lv, mc, ms⟩ := G
  obtain ⟨hx, hb, -, hown, hts, hlocks, hr, hWD, -⟩ := C
  intro H locs ls hH hS hL
  exact W.widen hl.1 hl.2 (vx_ret (W.lret (v := x) hx hb hr (fun t ht hW => ⟨some (vl x), h, rfl, K, by rw [ht]; exact hH, hS.F ht⟩) hS.2.2 hd))
theorem j_vret (C : OK G cc nL own none tb nm) (hd : decode cc pc = .ok (.return_, 1)) (hl : lim G k n) (K : Q (.inl none) h) : J G Q pc lo [] h k n := by
  obtain ⟨p, l, e, s, m, args, below, meth, c, D, dA, sz, lv, mc, ms⟩ := G
  obtain ⟨hx, hb, -, hown, hts, hlocks, hr, hWD, -⟩ := C
  intro H locs ls hH hS hL
  exact W.widen hl.1 hl.2 (vx_ret (W.vret hx hb hr (fun t ht hW => ⟨none, h, rfl, K, by rw [ht]; exact hH, hS.F ht⟩) hS.2.2 hd))
theorem j_aret {cl : String} (C : OK G cc nL own (some (.object cl)) tb nm) {x : Option Nat} (hd : decode cc pc = .ok (.areturn, 1)) (hl : lim G k n) (K : Q (.inl (some (vr x))) h) : J G Q pc lo [vr x] h k n := by
  obtain ⟨p, l, e, s, m, args, below, meth, c, D, dA, sz, lv, mc, ms⟩ := G
  obtain ⟨hx, hb, -, hown, hts, hlocks, hr, hWD, -⟩ := C
  intro H locs ls hH hS hL
  exact W.widen hl.1 hl.2 (vx_ret (W.aret (v := va_rf x) hx hb hr (Or.inl ⟨cl, rfl⟩) (va_rf_or x) (fun t ht hW => ⟨some (vr x), h, rfl, K, by rw [ht]; exact hH, hS.F ht⟩) hS.2.2 hd))
end RW2
end
section
/-! NEW CELLS, CASTS, CONTRACTS, CALLS over the judgement J. -/
def glv (G : Cx) : Nat :=
  match G with
  | (_, _, _, _, _, _, _, _, _, _, _, _, lv, _, _) => lv
def dfv : Nat ⊕ Nat → Value
  | .inl _ => .int 0
  | .inr _ => .null
def wt : AV → Nat
  | .inr (.inr _) => 2
  | _ => 1
theorem wt_sum : ∀ st : List AV, ((st.map tv).map fun v => v.category).sum = (st.map wt).sum := by
  intro st
  induction st with
  | nil => rfl
  | cons v r ih =>
    have hv : (tv v).category = wt v := by
      rcases v with x | o | x
      · rfl
      · cases o <;> rfl
      · rfl
    simp only [List.map_cons, List.sum_cons, hv]
    rw [← ih]
theorem tg_nO (h : Hp) (a t b : Nat) : tg (nO h a t) b = if b = a then t else tg h b := rfl
theorem ce_nO {dA : Nat → ClassId} {h : Hp} {a t b : Nat} (hb : b ≠ a) : ce dA (nO h a t) b = ce dA h b :=
  ce_same (by rw [tg_nO, if_neg hb]) (fun g => by show (if b = a then (0 : Int32) else fI h g b) = _; rw [if_neg hb]) (fun g => by show (if b = a then none else fR h g b) = _; rw [if_neg hb]) rfl rfl rfl rfl
theorem ce_nA {dA : Nat → ClassId} {h : Hp} {a t z b : Nat} (hb : b ≠ a) : ce dA (nA h a t z) b = ce dA h b :=
  ce_same (by show (if b = a then t else tg h b) = _; rw [if_neg hb]) (fun _ => rfl) (fun _ => rfl) (by show (if b = a then z else ln h b) = _; rw [if_neg hb]) (by show (if b = a then (fun _ => 0) else aI h b) = _; rw [if_neg hb]) (by show (if b = a then (fun _ => 0) else aL h b) = _; rw [if_neg hb]) (by show (if b = a then (fun _ => none) else aR h b) = _; rw [if_neg hb])
theorem fv_nO (h : Hp) (a t : Nat) : fv (nO h a t) a = dfv := by
  funext f
  cases f with
  | inl g => show Value.int (if a = a then 0 else _) = _; rw [if_pos rfl]; rfl
  | inr g => show va_rf (if a = a then none else _) = _; rw [if_pos rfl]; rfl
theorem tg_nA (h : Hp) (a t z : Nat) : tg (nA h a t z) a = t := if_pos rfl
theorem ln_nA (h : Hp) (a t z : Nat) : ln (nA h a t z) a = z := if_pos rfl
theorem aI_nA (h : Hp) (a t z : Nat) : aI (nA h a t z) a = fun _ => 0 := if_pos rfl
theorem aL_nA (h : Hp) (a t z : Nat) : aL (nA h a t z) a = fun _ => 0 := if_pos rfl
theorem aR_nA (h : Hp) (a t z : Nat) : aR (nA h a t z) a = fun _ => none := if_pos rfl
theorem va_S.grow {A : Nat → Prop} {H0 H H1 : Heap} {locs : List Loc} (hS : va_S A H0 H locs) (hz : H.size ≤ H1.size) (o1 : ∀ q : Nat, q < H.size → H1[q]? = H[q]?) : va_S A H0 H1 locs :=
  ⟨Nat.le_trans hS.1 hz, fun x h1 h2 => (o1 x (Nat.lt_of_lt_of_le h1 hS.1)).trans (hS.2.1 x h1 h2), hS.2.2⟩
section RW3
variable {G : Cx} {cc : ByteArray} {nL : Nat} {own nm : String} {rt : Option FieldType} {tb : List ExceptionTableEntry} {Q : Option AV ⊕ String → Hp → Prop} {pc : Nat} {lo : List (Option AV)} {st : List AV} {h : Hp} {k n : Nat}
theorem j_new (C : OK G cc nL own rt tb nm) {ci idx N : Nat} {Cn : String} {T : u_T} {ty0 : Nat → FieldType} (hc : vwCl[ci]? = some (Cn, T, N)) (hin : ∀ w ∈ u_ws Cn T N, w ∈ BG) (hty : ∀ k, k < N → parseFieldDescriptor (T k).2.2.1 = some (ty0 k)) (hdf : ∀ j, j < N → defaultValue (ty0 j) = vp_V ((fl ci).map dfv) j)
    (hcl : Cond.classLink own idx Cn ∈ BG) (hinst : Cond.instantiable Cn N ∈ BG) (hini : Cond.initialized Cn ∈ BG) (h7 : ci < 7) (hl : lim G (k + 1) (n + N)) (hd : decode cc pc = .ok (.new idx, 3)) (K : ∀ a : Nat, tg h a = 0 → J G Q (pc + 3) lo (vr (some a) :: st) (nO h a (ci + 1)) (k + 1) (n + N)) : J G Q pc lo st h k n := by
  obtain ⟨p, l, e, s, m, args, below, meth, c, D, dA, sz, lv, mc, ms⟩ := G
  obtain ⟨hx, hb, -, hown, hts, -, -, hWD, hsz, -⟩ := C
  intro H locs ls hH hS hL
  have hKn := hWD.1.1 ci _ hc
  refine W.newcK hx hb hown (hts _ hcl) (hts _ hinst) (hts _ hini) rfl hd hl.1 hl.2 hKn.2.1 rfl fun H1 kC hkC e1 z1 o1 => ?_
  refine K H.size (hH.lt (Nat.le_refl _)) H1 locs ls (hH.new o1 (Nat.le_trans hsz hS.1) (fun b hb => ce_nO hb) (fun e' he' => ?_)) (hS.grow (by omega) o1) hL
  rw [ce_obj (ci := ci) (by rw [tg_nO, if_pos rfl]) h7, fv_nO] at he'
  cases he'
  exact ⟨_, hc, (u_born ty0 hts hin hKn hkC e1 hty).to hdf⟩
theorem j_newa (C : OK G cc nL own rt tb nm) {x : Int32} {ty : ArrayType} {ti t : Nat} (hti : (ty = .int ∧ ti = 0 ∧ t = 8) ∨ (ty = .long ∧ ti = 1 ∧ t = 9) ∨ (ty = .boolean ∧ ti = 2 ∧ t = 10)) (hA : Cond.arrayClass (newarray.typeOf ty) ∈ BG) (h0 : ¬ x < 0) (hby : x.toNatClampNeg ≤ 1000000) (hl : lim G (k + 1) (n + x.toNatClampNeg)) (hd : decode cc pc = .ok (.newarray ty, 2))
    (K : ∀ a : Nat, tg h a = 0 → J G Q (pc + 2) lo (vr (some a) :: st) (nA h a t x.toNatClampNeg) (k + 1) (n + x.toNatClampNeg)) : J G Q pc lo (vi x :: st) h k n := by
  obtain ⟨p, l, e, s, m, args, below, meth, c, D, dA, sz, lv, mc, ms⟩ := G
  obtain ⟨hx, hb, -, hown, hts, -, -, hWD, hsz, -⟩ := C
  intro H locs ls hH hS hL
  refine va_newaK hx hb (hts _ hA) (g := F0 m pc ls (.int x :: st.map tv)) rfl hd rfl h0 rfl ?_ hl.1 hl.2 rfl fun H1 cA e1 z1 o1 hAr hNm => ?_
  · rcases hti with ⟨rfl, -⟩ | ⟨rfl, -⟩ | ⟨rfl, -⟩
    · show _ * 4 ≤ _; omega
    · show _ * 8 ≤ _; omega
    · show _ * 1 ≤ _; omega
  refine K H.size (hH.lt (Nat.le_refl _)) H1 locs ls (hH.new o1 (Nat.le_trans hsz hS.1) (fun b hb => ce_nA hb) (fun e' he' => ?_)) (hS.grow (by omega) o1) hL
  rcases hti with ⟨rfl, rfl, rfl⟩ | ⟨rfl, rfl, rfl⟩ | ⟨rfl, rfl, rfl⟩
  · rw [ce_i (tg_nA _ _ _ _), ln_nA, aI_nA] at he'
    cases he'
    have hc : cA = dA 0 := Option.some.inj (hNm.symm.trans (hWD.1.2 0 _ rfl).2)
    subst hc
    exact e1
  · rw [ce_l (tg_nA _ _ _ _), ln_nA, aL_nA] at he'
    cases he'
    have hc : cA = dA 1 := Option.some.inj (hNm.symm.trans (hWD.1.2 1 _ rfl).2)
    subst hc
    exact e1
  · rw [ce_z (tg_nA _ _ _ _), ln_nA, aI_nA] at he'
    cases he'
    have hc : cA = dA 2 := Option.some.inj (hNm.symm.trans (hWD.1.2 2 _ rfl).2)
    subst hc
    exact e1
theorem j_newq (C : OK G cc nL own rt tb nm) {x : Int32} {idx : Nat} (hcl : Cond.classLink own idx "RefHeap$Thing" ∈ BG) (h0 : ¬ x < 0) (hby : x.toNatClampNeg ≤ 1000000) (hl : lim G (k + 1) (n + x.toNatClampNeg)) (hd : decode cc pc = .ok (.anewarray idx, 3))
    (K : ∀ a : Nat, tg h a = 0 → J G Q (pc + 3) lo (vr (some a) :: st) (nA h a 11 x.toNatClampNeg) (k + 1) (n + x.toNatClampNeg)) : J G Q pc lo (vi x :: st) h k n := by
  obtain ⟨p, l, e, s, m, args, below, meth, c, D, dA, sz, lv, mc, ms⟩ := G
  obtain ⟨hx, hb, -, hown, hts, -, -, hWD, hsz, -⟩ := C
  intro H locs ls hH hS hL
  refine W.anew hx hb hown (hts _ hcl) (va_AO.use hWD.2.1) (g := F0 m pc ls (.int x :: st.map tv)) rfl hd rfl h0 (by omega) hl.1 hl.2 fun cA kA comp f1 f2 f3 f4 => ?_
  have o1 : ∀ q : Nat, q < H.size → (H.push ({ cls := cA, slots := Array.replicate x.toNatClampNeg .null, vm := .none } : Cell))[q]? = H[q]? := fun q hq => by rw [Array.getElem?_push, if_neg (Nat.ne_of_lt hq)]
  refine K H.size (hH.lt (Nat.le_refl _)) _ locs ls (hH.new o1 (Nat.le_trans hsz hS.1) (fun b hb => ce_nA hb) (fun e' he' => ?_)) (hS.grow (by rw [Array.size_push]; omega) o1) hL
  rw [ce_q (tg_nA _ _ _ _), ln_nA, aR_nA] at he'
  cases he'
  obtain ⟨-, -, -, -, -, f5⟩ := (hWD.1.2 3 _ rfl).2
  have hc : cA = dA 3 := Option.some.inj (f1.symm.trans f5)
  subst hc
  show (H.push _)[H.size]? = some (vp_cell _ _)
  rw [Array.getElem?_push_size, vp_cell_q, ← arrV_new]
  rfl
/-- an object of the heap as a receiver -/
theorem recvOf {D : va_G} {dA : Nat → ClassId} {sz : Nat} {H : Heap} {s : State} {a ci : Nat} {q : vw_C} (hWD : WD D dA sz s) (hH : HR D dA sz h H) (hc : vwCl[ci]? = some q) (h7 : ci < 7) (ht : tg h a = ci + 1) : ∃ cell : Cell, H[a]? = some cell ∧ cell.vm.isStatics = false ∧ s.vm.findClass q.1 = some cell.cls :=
  va_recv hWD.1 (one_P (hH.obj ht h7).2) hc (q0 := 0) rfl
def thg (h : Hp) (a : Nat) : Prop := tg h a = 2 ∨ tg h a = 3 ∨ tg h a = 4
theorem nwk_in {D : va_G} {dA : Nat → ClassId} {sz : Nat} {s : State} (hWD : WD D dA sz s) {w : Cond} (hw : w ∈ lw_tbl) (hn : nwk w = true) : va_Nw w s := hWD.2.2.1 w hw hn
theorem j_aast (C : OK G cc nL own rt tb nm) (wH : Cond.castable "RefHeap$Holder" "RefHeap$Thing" ∈ lw_tbl) (wL : Cond.castable "RefHeap$Line" "RefHeap$Thing" ∈ lw_tbl) (wO : Cond.castable "RefHeap$Loose" "RefHeap$Thing" ∈ lw_tbl) {a : Nat} {i : Int32} {x : Option Nat} (ht : tg h a = 11) (hi : vp_in i (ln h a)) (hv : ∀ b, x = some b → thg h b) (hd : decode cc pc = .ok (.aastore, 1)) (K : J G Q (pc + 1) lo st (qR h a i.toNatClampNeg x) k n) : J G Q pc lo (vr x :: vi i :: vr (some a) :: st) h k n := by
  obtain ⟨p, l, e, s, m, args, below, meth, c, D, dA, sz, lv, mc, ms⟩ := G
  obtain ⟨hx, hb, -, hown, hts, -, -, hWD, -⟩ := C
  intro H locs ls hH hS hL
  obtain ⟨hsz, hat⟩ := hH a _ (ce_q ht)
  have fin : ∀ H1 : Heap, H1[a]? = some ((vp_cell (dA 3) (ln h a, .inr (.inr (.inr (.inr (aR h a)))))).setSlot i.toNatClampNeg (va_rf x)) → H1.size = H.size → (∀ q, q ≠ a → H1[q]? = H[q]?) → W p l e (rmo lv mc ms) s m args below meth c H1 (locs ++ [⟨a, i.toNatClampNeg⟩]) k n (vx_MQ below (cQ D dA sz Q) (cX D dA sz Q) args s mc ms (fun q => sz ≤ q)) (F0 m (pc + 1) ls (st.map tv)) := by
    intro H1 e1 z oq
    refine K H1 _ ls (hH.set oq hsz (fun b hb => ce_same rfl (fun _ => rfl) (fun _ => rfl) rfl rfl rfl (up2_off _ _ _ hb)) (fun e' he' => ?_)) (hS.put z oq hsz) hL
    rw [ce_q (h := qR h a i.toNatClampNeg x) ht] at he'
    cases he'
    show H1[a]? = some (vp_cell _ _)
    rw [e1, vp_cell_q, vp_cell_q, arrV_store]
    congr 2
    funext q
    show _ = va_rf (up2 (aR h) a i.toNatClampNeg x a q)
    by_cases hq : q = i.toNatClampNeg
    · subst hq; simp [updV, up2]
    · simp [updV, up2, hq]
  cases x with
  | none => exact va_WaastN (C := "RefHeap$Thing") hx hb hat ((hWD.1.2 3 _ rfl).1 (ln h a) (fun j => va_rf (aR h a j))) (fun q => by cases q) (by show ¬ (i < 0 ∨ (arrV _ _ _).slots.size ≤ _); rw [arrV_size]; exact hi) rfl rfl hd fin
  | some b =>
    have hlt : i.toNatClampNeg < ln h a := Nat.not_le.mp fun q => hi (Or.inr q)
    have h0 : ¬ i < 0 := fun q => hi (Or.inl q)
    obtain ⟨kA, comp, k1, k2, k3, -⟩ := (hWD.1.2 3 _ rfl).2
    obtain ⟨cellV, g1, g2, t0, f2, f3⟩ : ∃ cellV : Cell, H[b]? = some cellV ∧ cellV.vm.isStatics = false ∧ ∃ t0, s.vm.findClass "RefHeap$Thing" = some t0 ∧ s.vm.assignable cellV.cls t0 = true := by
      rcases hv b rfl with hb | hb | hb
      · obtain ⟨cell, h1, h2, h3⟩ := recvOf hWD hH (ci := 1) rfl (by decide) hb
        obtain ⟨c0, t0, f1, f2, f3⟩ := Cond.castable_spec (va_Nw.use (A := args) rfl (nwk_in hWD wH rfl))
        cases h3.symm.trans f1
        exact ⟨cell, h1, h2, t0, f2, f3⟩
      · obtain ⟨cell, h1, h2, h3⟩ := recvOf hWD hH (ci := 2) rfl (by decide) hb
        obtain ⟨c0, t0, f1, f2, f3⟩ := Cond.castable_spec (va_Nw.use (A := args) rfl (nwk_in hWD wL rfl))
        cases h3.symm.trans f1
        exact ⟨cell, h1, h2, t0, f2, f3⟩
      · obtain ⟨cell, h1, h2, h3⟩ := recvOf hWD hH (ci := 3) rfl (by decide) hb
        obtain ⟨c0, t0, f1, f2, f3⟩ := Cond.castable_spec (va_Nw.use (A := args) rfl (nwk_in hWD wO rfl))
        cases h3.symm.trans f1
        exact ⟨cell, h1, h2, t0, f2, f3⟩
    cases k3.symm.trans f2
    obtain ⟨kcomp, hkcomp, -⟩ := Vm.findClass_spec k3
    obtain ⟨kv, hkv⟩ := Vm.classAt_of_assignable f3 ⟨kcomp, hkcomp⟩
    exact W.aast hx hb hat (fun q hq => by cases hq) (fun q => by cases q) k1 k2 rfl hkcomp ⟨h0, by show _ < (arrV _ _ _).slots.size; rw [arrV_size]; exact hlt⟩ g1 (fun q hq => by rw [hq] at g2; cases g2) hkv f3 rfl rfl hd fin
theorem j_ldc2 (C : OK G cc nL own rt tb nm) {idx : Nat} {v : Int64} (hw : Cond.constantLong own idx v ∈ BG) (hd : decode cc pc = .ok (.ldc2_w idx, 3)) (K : J G Q (pc + 3) lo (vl v :: st) h k n) : J G Q pc lo st h k n := by
  obtain ⟨p, l, e, s, m, args, below, meth, c, D, dA, sz, lv, mc, ms⟩ := G
  obtain ⟨hx, hb, -, hown, hts, -⟩ := C
  intro H locs ls hH hS hL
  exact lv_ldc2 hx hb hown (hts _ hw) hd (K H locs ls hH hS hL)
theorem j_ldc (C : OK G cc nL own rt tb nm) {idx : Nat} {v : Int32} (hw : Cond.constant own idx v ∈ BG) (hd : decode cc pc = .ok (.ldc idx, 2)) (K : J G Q (pc + 2) lo (vi v :: st) h k n) : J G Q pc lo st h k n := by
  obtain ⟨p, l, e, s, m, args, below, meth, c, D, dA, sz, lv, mc, ms⟩ := G
  obtain ⟨hx, hb, -, hown, hts, -⟩ := C
  intro H locs ls hH hS hL
  exact lv_ldc hx hb hown (hts _ hw) hd (K H locs ls hH hS hL)
theorem j_objInit (C : OK G cc nL own rt tb nm) {idx a : Nat} (w1 : Cond.methodLink own idx objectInit ∈ BG) (w2 : Cond.instanceMethod objectInit ∈ BG) (w3 : Cond.code objectInit ⟨#[0xb1]⟩ 1 none ∈ BG) (hn : lo.length = nL) (hlv : glv G ≤ 11) (hw : (st.map wt).sum ≤ 8) (hd : decode cc pc = .ok (.invokespecial idx, 3)) (K : J G Q (pc + 3) lo st h k n) : J G Q pc lo (vr (some a) :: st) h k n := by
  obtain ⟨p, l, e, s, m, args, below, meth, c, D, dA, sz, lv, mc, ms⟩ := G
  obtain ⟨hx, hb, hml, hown, hts, -⟩ := C
  intro H locs ls hH hS hL
  have hlv' : lv ≤ 11 := hlv
  refine W.objInit hx hb hown (hts _ w1) (hts _ w2) (hts _ w3) (g := F0 m pc ls (.ref a :: st.map tv)) rfl (by rw [hml, ← hn]; exact hL.1) rfl hd (show 1 ≤ 12 - lv by omega) ?_ (K H locs ls hH hS hL)
  show 2 * 0 + _ + 12 ≤ 450 - 30 * lv
  rw [wt_sum]
  omega
/-- casts and tests of the class of a Thing -/
theorem j_inst (C : OK G cc nL own rt tb nm) {ci idx : Nat} {Cn : String} (hci : (ci = 1 ∧ Cn = "RefHeap$Holder") ∨ (ci = 2 ∧ Cn = "RefHeap$Line") ∨ (ci = 3 ∧ Cn = "RefHeap$Loose")) {x : Option Nat} (wc : Cond.castable Cn Cn ∈ lw_tbl) (hw : Cond.classLink own idx Cn ∈ BG) (hv : ∀ b, x = some b → thg h b) (hd : decode cc pc = .ok (.instanceof idx, 3))
    (K : ((∃ b, x = some b ∧ tg h b = ci + 1) → J G Q (pc + 3) lo (vi 1 :: st) h k n) ∧ ((∀ b, x = some b → tg h b ≠ ci + 1) → J G Q (pc + 3) lo (vi 0 :: st) h k n)) : J G Q pc lo (vr x :: st) h k n := by
  obtain ⟨p, l, e, s, m, args, below, meth, c, D, dA, sz, lv, mc, ms⟩ := G
  obtain ⟨hx, hb, -, hown, hts, -, -, hWD, -⟩ := C
  intro H locs ls hH hS hL
  cases x with
  | none => exact lv_instN hx hb hd (K.2 (fun b hb => by cases hb) H locs ls hH hS hL)
  | some b =>
    by_cases he : tg h b = ci + 1
    · have hr : ∃ cell : Cell, H[b]? = some cell ∧ cell.vm.isStatics = false ∧ s.vm.findClass Cn = some cell.cls := by
        rcases hci with ⟨rfl, rfl⟩ | ⟨rfl, rfl⟩ | ⟨rfl, rfl⟩
        · exact recvOf hWD hH (ci := 1) rfl (by decide) he
        · exact recvOf hWD hH (ci := 2) rfl (by decide) he
        · exact recvOf hWD hH (ci := 3) rfl (by decide) he
      exact va_instY hx hb hown (hts _ hw) (nwk_in hWD wc rfl) hr hd (K.1 ⟨b, rfl, he⟩ H locs ls hH hS hL)
    · have hk := K.2 (fun b' hb' => by cases hb'; exact he) H locs ls hH hS hL
      have no : ∀ (cj : Nat) (q : vw_C), vwCl[cj]? = some q → cj < 7 → tg h b = cj + 1 → (q.1, Cn) ∈ ncs → W p l e (rmo lv mc ms) s m args below meth c H locs k n (vx_MQ below (cQ D dA sz Q) (cX D dA sz Q) args s mc ms (fun q => sz ≤ q)) (F0 m pc ls (.ref b :: st.map tv)) := fun cj q hq h7 ht hm => va_instNo hx hb hown (hts _ hw) (hWD.2.2.2.1 _ hm) (recvOf hWD hH hq h7 ht) hd hk
      rcases hv b rfl with ht | ht | ht
      · rcases hci with ⟨rfl, rfl⟩ | ⟨rfl, rfl⟩ | ⟨rfl, rfl⟩
        · exact absurd ht he
        · exact no 1 _ rfl (by decide) ht (by decide +kernel)
        · exact no 1 _ rfl (by decide) ht (by decide +kernel)
      · rcases hci with ⟨rfl, rfl⟩ | ⟨rfl, rfl⟩ | ⟨rfl, rfl⟩
        · exact no 2 _ rfl (by decide) ht (by decide +kernel)
        · exact absurd ht he
        · exact no 2 _ rfl (by decide) ht (by decide +kernel)
      · rcases hci with ⟨rfl, rfl⟩ | ⟨rfl, rfl⟩ | ⟨rfl, rfl⟩
        · exact no 3 _ rfl (by decide) ht (by decide +kernel)
        · exact no 3 _ rfl (by decide) ht (by decide +kernel)
        · exact absurd ht he
theorem j_cast (C : OK G cc nL own rt tb nm) {ci idx a : Nat} {Cn : String} (hci : (ci = 1 ∧ Cn = "RefHeap$Holder") ∨ (ci = 2 ∧ Cn = "RefHeap$Line") ∨ (ci = 3 ∧ Cn = "RefHeap$Loose")) (wc : Cond.castable Cn Cn ∈ lw_tbl) (hw : Cond.classLink own idx Cn ∈ BG) (ht : tg h a = ci + 1) (hd : decode cc pc = .ok (.checkcast idx, 3)) (K : J G Q (pc + 3) lo (vr (some a) :: st) h k n) : J G Q pc lo (vr (some a) :: st) h k n := by
  obtain ⟨p, l, e, s, m, args, below, meth, c, D, dA, sz, lv, mc, ms⟩ := G
  obtain ⟨hx, hb, -, hown, hts, -, -, hWD, -⟩ := C
  intro H locs ls hH hS hL
  have hr : ∃ cell : Cell, H[a]? = some cell ∧ cell.vm.isStatics = false ∧ s.vm.findClass Cn = some cell.cls := by
    rcases hci with ⟨rfl, rfl⟩ | ⟨rfl, rfl⟩ | ⟨rfl, rfl⟩
    · exact recvOf hWD hH (ci := 1) rfl (by decide) ht
    · exact recvOf hWD hH (ci := 2) rfl (by decide) ht
    · exact recvOf hWD hH (ci := 3) rfl (by decide) ht
  exact va_castY hx hb hown (hts _ hw) (nwk_in hWD wc rfl) hr hd (K H locs ls hH hS hL)
/-- thrown objects: the judgement with one thrown over the frame -/
def JX (G : Cx) (Q : Option AV ⊕ String → Hp → Prop) (pc : Nat) (E : String) (lo : List (Option AV)) (st : List AV) (h : Hp) (k n : Nat) : Prop :=
  match G with
  | (p, l, e, s, m, args, below, meth, c, D, dA, sz, lv, mc, ms) => ∀ (H : Heap) (locs : List Loc) (ls : Array Slot) (q : Addr) (ce : Cell), HR D dA sz h H → va_S (fun q => sz ≤ q) s.heap H locs → LR ls lo → H[q]? = some ce → ce.vm = .none → s.vm.findClass E = some ce.cls → vx_W p l e (rmo lv mc ms) s m args below meth c H locs k n (vx_MQ below (cQ D dA sz Q) (cX D dA sz Q) args s mc ms (fun q => sz ≤ q)) (F0 m pc ls (st.map tv)) q
theorem jx_out {E : String} (C : OK G cc nL own rt [] nm) (hl : lim G k n) (K : Q (.inr E) h) : JX G Q pc E lo st h k n := by
  obtain ⟨p, l, e, s, m, args, below, meth, c, D, dA, sz, lv, mc, ms⟩ := G
  obtain ⟨hx, hb, -, hown, hts, hlocks, -, hWD, -, -, htb, -⟩ := C
  intro H locs ls q ce hH hS hL h1 h2 h3
  exact vx_out (fun x hx => by rw [htb] at hx; cases hx) hlocks h1 h2 h3 (fun t ht _ => ⟨h, K, by rw [ht]; exact hH, hS.F ht⟩) hS.2.2 hl.1 hl.2
/-- a contract for a method without a table, from a walk of its body -/
def ena : List AV → List (Option AV)
  | [] => []
  | v :: r => if isL v then some v :: none :: ena r else some v :: ena r
def ent (av : List AV) (nL : Nat) : List (Option AV) := ena av ++ List.replicate (nL - (ena av).length) none
theorem ena_len : ∀ av : List AV, (ena av).length = (lg_sl (av.map tv)).length := by
  intro av
  induction av with
  | nil => rfl
  | cons v r ih =>
    rcases v with x | o | x
    · show (ena r).length + 1 = (Slot.val (.int x) :: lg_sl (r.map tv)).length
      simp [ih]
    · have : lg_sl ((vr o :: r).map tv) = .val (va_rf o) :: lg_sl (r.map tv) := by cases o <;> rfl
      rw [this]
      show (ena r).length + 1 = _
      simp [ih]
    · show (ena r).length + 1 + 1 = (Slot.val (.long x) :: .second :: lg_sl (r.map tv)).length
      simp [ih]
theorem ena_mem : ∀ (av : List AV) (d i : Nat) (v : AV), (ena av)[i]? = some (some v) → (d + i, tv v) ∈ lv_args d (av.map tv) := by
  intro av
  induction av with
  | nil => intro d i v h; simp [ena] at h
  | cons w r ih =>
    intro d i v h
    have key : ∀ (e : Nat) (hw : isL w = false), (some w :: ena r)[i]? = some (some v) → lv_args d ((w :: r).map tv) = (d, tv w) :: lv_args (d + 1) (r.map tv) → (d + i, tv v) ∈ lv_args d ((w :: r).map tv) := by
      intro _ _ h1 h2
      rw [h2]
      cases i with
      | zero => simp at h1; rw [h1]; exact List.mem_cons_self
      | succ i =>
        have := ih (d + 1) i v (by simpa using h1)
        exact List.mem_cons_of_mem _ (by rw [show d + (i + 1) = d + 1 + i by omega]; exact this)
    rcases w with x | o | x
    · exact key 0 rfl h rfl
    · exact key 0 rfl h (by cases o <;> rfl)
    · have h2 : lv_args d ((vl x :: r).map tv) = (d, .long x) :: lv_args (d + 2) (r.map tv) := rfl
      have h1 : (some (vl x) :: none :: ena r)[i]? = some (some v) := h
      rw [h2]
      match i, h1 with
      | 0, h1 => simp at h1; rw [← h1]; exact List.mem_cons_self
      | 1, h1 => simp at h1
      | i + 2, h1 =>
        have := ih (d + 2) i v (by simpa using h1)
        exact List.mem_cons_of_mem _ (by rw [show d + (i + 2) = d + 2 + i by omega]; exact this)
theorem LR.entry {av : List AV} {nL : Nat} (hn : (ena av).length ≤ nL) : LR (lg_sl (av.map tv) ++ List.replicate (nL - (lg_sl (av.map tv)).length) Slot.unset).toArray (ent av nL) := by
  have h := lv_entry (av.map tv) (n := nL) (by rw [← ena_len]; exact hn)
  refine ⟨by rw [h.1]; unfold ent; rw [List.length_append, List.length_replicate]; omega, h.2.1, fun i v hi => ?_⟩
  unfold ent at hi
  rw [List.getElem?_append] at hi
  split at hi
  · have := h.2.2 _ (ena_mem av 0 i v hi)
    simpa using this
  · rw [List.getElem?_replicate] at hi
    split at hi
    · cases hi
    · cases hi
end RW3
theorem Ctr.of {l : Launch} {D : va_G} {dA : Nat → ClassId} {sz : Nat} {y : MethodName} {cc : ByteArray} {nL : Nat} {rt : Option FieldType} {lv : Nat} {av : List AV} {h : Hp} {mc ms : Nat} {Q : Option AV ⊕ String → Hp → Prop} {lo : List (Option AV)}
    (hst : l.stackTraces = false) (hy : plainName y.cls = true) (hn : (ena av).length ≤ nL) (hlo : ent av nL = lo)
    (body : ∀ G : Cx, glv G = lv → (∀ k n, k ≤ mc → n ≤ ms → lim G k n) → OK G cc nL y.cls rt [] y.name → J G Q 0 lo [] h 0 0) : Ctr l D dA sz (Cond.code y cc nL rt) y lv av h mc ms Q := by
  subst hlo
  refine vx_ofW (cc := cc) (maxL := nL) (ret := rt) hy rfl ?_
  intro p e s m args below meth c s₁ B hml ht hv
  obtain ⟨rfl, hWD, hH, hsz⟩ := hv
  have hts := atoms_spec (ws := Cond.code y cc nL rt :: BG) B.pre
  have htb : c.exceptionTable.toList = [] := by
    cases he : c.exceptionTable.toList with
    | nil => rfl
    | cons x r => exact (ht x (by rw [he]; exact List.mem_cons_self)).elim
  have hJ := body (p, l, e, s, m, (av.map tv).toArray, below, meth, c, D, dA, sz, lv, mc, ms) rfl (fun k n h1 h2 => ⟨h1, h2⟩)
    ⟨B.exec, B.bytes, hml, findClass_of_methodNamed B.named, fun w hw => hts w (List.mem_cons_of_mem _ hw), B.notSynchronized, B.returns, hWD, hsz, hst, htb, (name_of_methodNamed B.named B.method).1⟩
  rw [lg_entry_eq]
  exact hJ s.heap [] _ hH va_S.rf (LR.entry hn)
theorem Ctr.ofH {l : Launch} {D : va_G} {dA : Nat → ClassId} {sz : Nat} {y : MethodName} {cc : ByteArray} {nL : Nat} {rt : Option FieldType} {hh : List (Nat × Nat × Nat × Nat)} {lv : Nat} {av : List AV} {h : Hp} {mc ms : Nat} {Q : Option AV ⊕ String → Hp → Prop} {lo : List (Option AV)}
    (hst : l.stackTraces = false) (hy : plainName y.cls = true) (hn : (ena av).length ≤ nL) (hlo : ent av nL = lo)
    (body : ∀ G : Cx, glv G = lv → (∀ k n, k ≤ mc → n ≤ ms → lim G k n) → OK G cc nL y.cls rt (tableOf hh) y.name → J G Q 0 lo [] h 0 0) : Ctr l D dA sz (Cond.codeWith y cc nL rt hh) y lv av h mc ms Q := by
  subst hlo
  refine vx_ofWH (cc := cc) (maxL := nL) (ret := rt) (hh := hh) hy rfl ?_
  intro p e s m args below meth c s₁ B hml hv
  obtain ⟨rfl, hWD, hH, hsz⟩ := hv
  have hts := atoms_spec (ws := Cond.codeWith y cc nL rt hh :: BG) B.pre
  have hJ := body (p, l, e, s, m, (av.map tv).toArray, below, meth, c, D, dA, sz, lv, mc, ms) rfl (fun k n h1 h2 => ⟨h1, h2⟩)
    ⟨B.exec, B.bytes, hml, findClass_of_methodNamed B.named, fun w hw => hts w (List.mem_cons_of_mem _ hw), B.notSynchronized, B.returns, hWD, hsz, hst, vx_table (x := y) B (hts _ List.mem_cons_self), (name_of_methodNamed B.named B.method).1⟩
  rw [lg_entry_eq]
  exact hJ s.heap [] _ hH va_S.rf (LR.entry hn)
end
section
/-! CALLS: by the callee's contract; what it answers or throws goes on. -/
theorem cP_blind {D : va_G} {dA : Nat → ClassId} {sz : Nat} {av : List AV} {h : Hp} : FrameBlind (cP D dA sz av h) := by
  intro a U g mk hq
  obtain ⟨h1, h2, h3, h4⟩ := hq
  exact ⟨h1, WD.same h2 rfl rfl, h3, h4⟩
theorem cP_at {D : va_G} {dA : Nat → ClassId} {sz : Nat} {av : List AV} {h : Hp} {s : State} {H : Heap} {locs : List Loc} (hWD : WD D dA sz s) (hsz : sz ≤ s.heap.size) (hH : HR D dA sz h H) (hS : va_S (fun q => sz ≤ q) s.heap H locs) (U : State) (hU : U.heap = H) (hW : s.WarmedH U.vm) : cP D dA sz av h (av.map tv).toArray U :=
  ⟨rfl, hWD.go hW (fun a h1 h2 => by rw [hU]; exact hS.2.1 a h1 h2), by rw [hU]; exact hH, by rw [hU]; exact Nat.le_trans hsz hS.1⟩
/-- a contract of a method that throws nothing -/
theorem Ctr.met {l : Launch} {D : va_G} {dA : Nat → ClassId} {sz : Nat} {hd : Cond} {y : MethodName} {lv : Nat} {av : List AV} {h : Hp} {mc ms : Nat} {Q : Option AV ⊕ String → Hp → Prop} (hc : Ctr l D dA sz hd y lv av h mc ms Q) (hn : ∀ E h', ¬ Q (.inr E) h') : Met l y (hd :: BG) (rmo lv mc ms) (cP D dA sz av h) (cQ D dA sz Q) mc ms (fun q => sz ≤ q) := by
  intro p e h1 h2 h3 s m args below h4 h5 h6 h7
  obtain ⟨n, o, a1, a2, a3, a4⟩ := hc p e h1 h2 h3 s m args below h4 h5 h6 h7
  refine ⟨n, o, a1, a2, a3, ?_⟩
  rcases a4 with a4 | ⟨q, -, E, ce, L, ⟨h', hq, -⟩, -⟩
  · exact a4
  · exact absurd hq (hn E h')
/-- weaker ends -/
theorem Ctr.mono {l : Launch} {D : va_G} {dA : Nat → ClassId} {sz : Nat} {hd : Cond} {y : MethodName} {lv : Nat} {av : List AV} {h : Hp} {mc ms : Nat} {Q Q' : Option AV ⊕ String → Hp → Prop} (hc : Ctr l D dA sz hd y lv av h mc ms Q) (hq : ∀ o h', Q o h' → Q' o h') : Ctr l D dA sz hd y lv av h mc ms Q' := by
  intro p e h1 h2 h3 s m args below h4 h5 h6 h7
  obtain ⟨n, o, a1, a2, a3, a4⟩ := hc p e h1 h2 h3 s m args below h4 h5 h6 h7
  refine ⟨n, o, a1, a2, a3, ?_⟩
  rcases a4 with ⟨⟨v, h', b1, b2, b3⟩, b4⟩ | ⟨q, b0, E, ce, L, ⟨h', b1, b2⟩, b3⟩
  · exact Or.inl ⟨⟨v, h', b1, hq _ _ b2, b3⟩, b4⟩
  · exact Or.inr ⟨q, b0, E, ce, L, ⟨h', hq _ _ b1, b2⟩, b3⟩
theorem toList_map (v : Option AV) (st : List AV) : (v.map tv).toList ++ st.map tv = (v.toList ++ st).map tv := by cases v <;> rfl
/-- what a call by a name needs of the words: virtual (of the receiver's own class), static, of an overridden or abstract name, of a constructor; the last two also of a nest mate -/
def MV (own : String) (idx : Nat) (y : MethodName) (cc : ByteArray) (nL : Nat) (rt : Option FieldType) (n : Nat) : Prop :=
  Cond.methodLink own idx y ∈ BG ∧ Cond.instanceMethod y ∈ BG ∧ Cond.selects y.cls y y ∈ BG ∧ Cond.initialized y.cls ∈ BG ∧ Cond.code y cc nL rt ∈ BG ∧ (y.cls ≠ "java/lang/invoke/MethodHandle" ∧ y.cls ≠ "java/lang/invoke/VarHandle") ∧ (parseMethodDescriptor y.desc).map (fun d => d.parameters.length) = some n ∧ nL ≤ 11
def MS (own : String) (idx : Nat) (y : MethodName) (cc : ByteArray) (nL : Nat) (rt : Option FieldType) (n : Nat) : Prop :=
  Cond.methodLink own idx y ∈ BG ∧ Cond.static y ∈ BG ∧ Cond.initialized y.cls ∈ BG ∧ Cond.code y cc nL rt ∈ BG ∧ (y.cls ≠ "java/lang/invoke/MethodHandle" ∧ y.cls ≠ "java/lang/invoke/VarHandle") ∧ (parseMethodDescriptor y.desc).map (fun d => d.parameters.length) = some n ∧ nL ≤ 11
def MSH (own : String) (idx : Nat) (y : MethodName) (cc : ByteArray) (nL : Nat) (rt : Option FieldType) (hh : List (Nat × Nat × Nat × Nat)) (n : Nat) : Prop :=
  Cond.methodLink own idx y ∈ BG ∧ Cond.static y ∈ BG ∧ Cond.initialized y.cls ∈ BG ∧ Cond.codeWith y cc nL rt hh ∈ BG ∧ (y.cls ≠ "java/lang/invoke/MethodHandle" ∧ y.cls ≠ "java/lang/invoke/VarHandle") ∧ (parseMethodDescriptor y.desc).map (fun d => d.parameters.length) = some n ∧ nL ≤ 11
def MSN (own host : String) (idx : Nat) (y : MethodName) (cc : ByteArray) (nL : Nat) (rt : Option FieldType) (n : Nat) : Prop :=
  Cond.methodLinkNest own idx y host ∈ lw_tbl ∧ Cond.static y ∈ BG ∧ Cond.initialized y.cls ∈ BG ∧ Cond.code y cc nL rt ∈ BG ∧ (y.cls ≠ "java/lang/invoke/MethodHandle" ∧ y.cls ≠ "java/lang/invoke/VarHandle") ∧ (parseMethodDescriptor y.desc).map (fun d => d.parameters.length) = some n ∧ nL ≤ 11
def MI (own : String) (idx : Nat) (y : MethodName) (cc : ByteArray) (nL : Nat) (n : Nat) : Prop :=
  Cond.methodLink own idx y ∈ BG ∧ Cond.instanceMethod y ∈ BG ∧ Cond.initialized y.cls ∈ BG ∧ Cond.code y cc nL none ∈ BG ∧ (y.cls ≠ "java/lang/invoke/MethodHandle" ∧ y.cls ≠ "java/lang/invoke/VarHandle") ∧ (parseMethodDescriptor y.desc).map (fun d => d.parameters.length) = some n ∧ nL ≤ 11 ∧ y.name = "<init>"
def MIN (own host : String) (idx : Nat) (y : MethodName) (cc : ByteArray) (nL : Nat) (n : Nat) : Prop :=
  Cond.methodLinkNest own idx y host ∈ lw_tbl ∧ Cond.instanceMethod y ∈ BG ∧ Cond.initialized y.cls ∈ BG ∧ Cond.code y cc nL none ∈ BG ∧ (y.cls ≠ "java/lang/invoke/MethodHandle" ∧ y.cls ≠ "java/lang/invoke/VarHandle") ∧ (parseMethodDescriptor y.desc).map (fun d => d.parameters.length) = some n ∧ nL ≤ 11 ∧ y.name = "<init>"
def MU (own : String) (idx : Nat) (Cn owner : String) (x y : MethodName) (cc : ByteArray) (nL : Nat) (rt : Option FieldType) (n : Nat) : Prop :=
  Cond.methodLink own idx x ∈ BG ∧ Cond.sameMethod x.cls owner x.name x.desc ∈ BG ∧ Cond.selects Cn x y ∈ BG ∧ Cond.instanceMethod y ∈ BG ∧ Cond.initialized y.cls ∈ BG ∧ Cond.code y cc nL rt ∈ BG ∧ (owner ≠ "java/lang/invoke/MethodHandle" ∧ owner ≠ "java/lang/invoke/VarHandle") ∧ (parseMethodDescriptor x.desc).map (fun d => d.parameters.length) = some n ∧ nL ≤ 11 ∧
  (Cond.declares ⟨owner, x.name, x.desc⟩ ∈ lw_tbl ∨ (Cond.instanceMethod ⟨owner, x.name, x.desc⟩ ∈ BG ∧ ∃ b m r, Cond.code ⟨owner, x.name, x.desc⟩ b m r ∈ BG))
theorem len_of {y : MethodName} {n : Nat} (h : (parseMethodDescriptor y.desc).map (fun d => d.parameters.length) = some n) (sig : MethodDescriptor) (hs : parseMethodDescriptor y.desc = some sig) : n = sig.parameters.length := by
  rw [hs] at h
  exact (Option.some.inj h).symm
theorem BG_pay {args : Array Value} {s : State} (hts : ∀ w ∈ BG, w.before args s = true) {hd : Cond} (hm : hd ∈ BG) : ∀ w ∈ hd :: BG, ∀ (a' : Array Value) (U : State), s.WarmedH U.vm → w.before a' U = true :=
  pay_in hts (BG_good (List.mem_filter.mp hm).1 (List.mem_filter.mp hm).2 (fun _ h => h))
section RW4
variable {G : Cx} {cc : ByteArray} {nL : Nat} {own nm : String} {rt : Option FieldType} {tb : List ExceptionTableEntry} {Q : Option AV ⊕ String → Hp → Prop} {pc : Nat} {lo : List (Option AV)} {st : List AV} {h : Hp} {k n : Nat}
/-- behind a call that returns or throws -/
theorem j_aft {p : Program} {l : Launch} {e : Env} {s : State} {m : MethodId} {args : Array Value} {below : List Frame} {meth : Method} {c : Code} {D : va_G} {dA : Nat → ClassId} {sz lv mc ms : Nat} {H : Heap} {locs : List Loc} {ls : Array Slot} {mc' ms' : Nat} {Q' : Option AV ⊕ String → Hp → Prop} {a' : Array Value} {st0 : List Value}
    (hsz : sz ≤ s.heap.size) (hS : va_S (fun q => sz ≤ q) s.heap H locs) (hL : LR ls lo) (hr : vx_Run p l e (rmo lv mc ms) s m args below meth c H locs k n mc' ms' (F0 m pc ls st0) (st.map tv) (cQ D dA sz Q' a') (cX D dA sz Q') (fun q => sz ≤ q))
    (KR : ∀ v h', Q' (.inl v) h' → J (p, l, e, s, m, args, below, meth, c, D, dA, sz, lv, mc, ms) Q (pc + 3) lo (v.toList ++ st) h' (k + mc') (n + ms'))
    (KX : ∀ E h', Q' (.inr E) h' → JX (p, l, e, s, m, args, below, meth, c, D, dA, sz, lv, mc, ms) Q pc E lo st h' (k + mc') (n + ms')) :
    W p l e (rmo lv mc ms) s m args below meth c H locs k n (vx_MQ below (cQ D dA sz Q) (cX D dA sz Q) args s mc ms (fun q => sz ≤ q)) (F0 m pc ls st0) := by
  have hsub : ∀ q : Nat, q < H.size → sz ≤ q → sz ≤ q := fun _ _ h => h
  intro T hT X
  rcases hr T hT X with ⟨v, st₀, t, T', L, h0, X', hLo, e1, e2, ⟨w, h', hv, hq, hH', hF⟩, stp⟩ | ⟨q, st₀, t, T', L, E, ce, h0, X', hLo, e1, e2, ⟨h', hq, hH', hF⟩, hce, hcv, hcl, stp⟩
  · cases hv
    obtain ⟨k1, k2, k3⟩ := vx_keep h0 e1 hS hsub (fun _ h => h) hLo hF
    rw [← e1] at hH'
    obtain ⟨t2, a1, b1⟩ := KR w h' hq T'.heap _ ls hH' k3 hL T' rfl X'
    rw [← toList_map] at a1
    exact ⟨t2, stp t2 a1, b1⟩
  · obtain ⟨k1, k2, k3⟩ := vx_keep h0 e1 hS hsub (fun _ h => h) hLo hF
    rw [← e1] at hH'
    obtain ⟨t2, a1, b1⟩ := KX E h' hq T'.heap _ ls q ce hH' k3 hL (by rw [e1]; exact hce) hcv hcl T' rfl X'
    exact ⟨t2, stp.trans a1, b1⟩
/-- a run that only returns, as one that may throw -/
theorem run_of {p : Program} {l : Launch} {e : Env} {R : Room} {s : State} {m : MethodId} {args : Array Value} {below : List Frame} {meth : Method} {c : Code} {H : Heap} {locs : List Loc} {mc' ms' : Nat} {g : JFrame} {rest : List Value} {Qa : State → Outcome → State → Prop} {XC : String → State → State → Prop} {free : Addr → Prop}
    (h : va_Run p l e R s m args below meth c H locs k n mc' ms' g rest Qa free) : vx_Run p l e R s m args below meth c H locs k n mc' ms' g rest Qa XC free := fun T hT X => Or.inl (h T hT X)
theorem rm_le {lv nL' mc ms mc' ms' : Nat} (hlv : lv + 1 ≤ 12) (hn : nL' ≤ 11) : (rmo (lv + 1) mc' ms').frames + 1 ≤ (rmo lv mc ms).frames ∧ 8 + (nL' + 11) + (rmo (lv + 1) mc' ms').locals ≤ (rmo lv mc ms).locals := by
  refine ⟨?_, ?_⟩
  · show 12 - (lv + 1) + 1 ≤ 12 - lv; omega
  · show 8 + (nL' + 11) + (450 - 30 * (lv + 1)) ≤ 450 - 30 * lv; omega
theorem st_le {m : MethodId} {ls : Array Slot} {s0 : List Value} (hw : (st.map wt).sum ≤ 8) : 2 * (F0 m pc ls s0).monitorRoom + ((st.map tv).map fun v => v.category).sum ≤ 8 := by
  show 2 * 0 + _ ≤ 8
  rw [wt_sum]; omega
theorem rev_map (As : List AV) (x : List AV) : (As.reverse ++ x).map tv = (As.map tv).reverse ++ x.map tv := by rw [List.map_append, List.map_reverse]
theorem j_callV (C : OK G cc nL own rt tb nm) {idx a ci : Nat} {y : MethodName} {cy : ByteArray} {ny : Nat} {ry : Option FieldType} {As : List AV} {mc' ms' : Nat} {Q' : Option AV ⊕ String → Hp → Prop} {q : vw_C} (w : MV own idx y cy ny ry As.length)
    (hM : ∀ (l : Launch) (D : va_G) (dA : Nat → ClassId) (sz : Nat), l.stackTraces = false → Ctr l D dA sz (Cond.code y cy ny ry) y (glv G + 1) (vr (some a) :: As) h mc' ms' Q')
    (hq : vwCl[ci]? = some q) (hqy : q.1 = y.cls) (h7 : ci < 7) (ht : tg h a = ci + 1) (hn : lo.length = nL) (hlv : glv G + 1 ≤ 12) (hw : (st.map wt).sum ≤ 8) (hl : lim G (k + mc') (n + ms')) (hd : decode cc pc = .ok (.invokevirtual idx, 3))
    (KR : ∀ v h', Q' (.inl v) h' → J G Q (pc + 3) lo (v.toList ++ st) h' (k + mc') (n + ms')) (KX : ∀ E h', Q' (.inr E) h' → JX G Q pc E lo st h' (k + mc') (n + ms')) : J G Q pc lo (As.reverse ++ vr (some a) :: st) h k n := by
  obtain ⟨p, l, e, s, m, args, below, meth, c, D, dA, sz, lv, mc, ms⟩ := G
  obtain ⟨hx, hb, hml, hown, hts, -, -, hWD, hsz, hst, -⟩ := C
  obtain ⟨w1, w2, w3, w4, w5, w6, w7, w8⟩ := w
  intro H locs ls hH hS hL
  have hr := recvOf hWD hH hq h7 ht
  rw [hqy] at hr
  have hR := rm_le (mc := mc) (ms := ms) (mc' := mc') (ms' := ms') (show lv + 1 ≤ 12 from hlv) w8
  refine j_aft (a' := (Value.ref a :: As.map tv).toArray) hsz hS hL (vx_runV (g := F0 m pc ls ((As.reverse ++ vr (some a) :: st).map tv)) (nL := nL) ⟨hx, hb, hml, hown, hts⟩ (hM l D dA sz hst)
    ⟨⟨rfl, rfl, hR.1, hR.2, BG_pay hts w5, List.mem_cons_self, hts _ w5, hts _ w4, w6, len_of w7, hts _ w1⟩, hts _ w2, hts _ w3⟩
    ⟨cP_blind, hr, fun U hU hW => cP_at hWD hsz hH hS U hU hW⟩ rfl (by rw [List.length_map]) (by rw [← hn]; exact hL.1) (rev_map As (vr (some a) :: st)) (st_le hw) hd hl) KR KX
theorem j_callS (C : OK G cc nL own rt tb nm) {idx : Nat} {y : MethodName} {cy : ByteArray} {ny : Nat} {ry : Option FieldType} {As : List AV} {mc' ms' : Nat} {Q' : Option AV ⊕ String → Hp → Prop} (w : MS own idx y cy ny ry As.length)
    (hM : ∀ (l : Launch) (D : va_G) (dA : Nat → ClassId) (sz : Nat), l.stackTraces = false → Ctr l D dA sz (Cond.code y cy ny ry) y (glv G + 1) As h mc' ms' Q')
    (hn : lo.length = nL) (hlv : glv G + 1 ≤ 12) (hw : (st.map wt).sum ≤ 8) (hl : lim G (k + mc') (n + ms')) (hd : decode cc pc = .ok (.invokestatic idx, 3))
    (KR : ∀ v h', Q' (.inl v) h' → J G Q (pc + 3) lo (v.toList ++ st) h' (k + mc') (n + ms')) (KX : ∀ E h', Q' (.inr E) h' → JX G Q pc E lo st h' (k + mc') (n + ms')) : J G Q pc lo (As.reverse ++ st) h k n := by
  obtain ⟨p, l, e, s, m, args, below, meth, c, D, dA, sz, lv, mc, ms⟩ := G
  obtain ⟨hx, hb, hml, hown, hts, -, -, hWD, hsz, hst, -⟩ := C
  obtain ⟨w1, w2, w4, w5, w6, w7, w8⟩ := w
  intro H locs ls hH hS hL
  have hR := rm_le (mc := mc) (ms := ms) (mc' := mc') (ms' := ms') (show lv + 1 ≤ 12 from hlv) w8
  refine j_aft (a' := (As.map tv).toArray) hsz hS hL (vx_runS (g := F0 m pc ls ((As.reverse ++ st).map tv)) (nL := nL) ⟨hx, hb, hml, hown, hts⟩ (hM l D dA sz hst)
    ⟨⟨rfl, rfl, hR.1, hR.2, BG_pay hts w5, List.mem_cons_self, hts _ w5, hts _ w4, w6, len_of w7, hts _ w1⟩, hts _ w2⟩
    ⟨cP_blind, fun U hU hW => cP_at hWD hsz hH hS U hU hW⟩ rfl (by rw [List.length_map]) (by rw [← hn]; exact hL.1) (rev_map As st) (st_le hw) hd hl) KR KX
theorem j_callSH (C : OK G cc nL own rt tb nm) {idx : Nat} {y : MethodName} {cy : ByteArray} {ny : Nat} {ry : Option FieldType} {hh : List (Nat × Nat × Nat × Nat)} {As : List AV} {mc' ms' : Nat} {Q' : Option AV ⊕ String → Hp → Prop} (w : MSH own idx y cy ny ry hh As.length)
    (hM : ∀ (l : Launch) (D : va_G) (dA : Nat → ClassId) (sz : Nat), l.stackTraces = false → Ctr l D dA sz (Cond.codeWith y cy ny ry hh) y (glv G + 1) As h mc' ms' Q') (hno : ∀ E h', ¬ Q' (.inr E) h')
    (hn : lo.length = nL) (hlv : glv G + 1 ≤ 12) (hw : (st.map wt).sum ≤ 8) (hl : lim G (k + mc') (n + ms')) (hd : decode cc pc = .ok (.invokestatic idx, 3))
    (KR : ∀ v h', Q' (.inl v) h' → J G Q (pc + 3) lo (v.toList ++ st) h' (k + mc') (n + ms')) : J G Q pc lo (As.reverse ++ st) h k n := by
  obtain ⟨p, l, e, s, m, args, below, meth, c, D, dA, sz, lv, mc, ms⟩ := G
  obtain ⟨hx, hb, hml, hown, hts, -, -, hWD, hsz, hst, -⟩ := C
  obtain ⟨w1, w2, w4, w5, w6, w7, w8⟩ := w
  intro H locs ls hH hS hL
  have hR := rm_le (mc := mc) (ms := ms) (mc' := mc') (ms' := ms') (show lv + 1 ≤ 12 from hlv) w8
  refine j_aft (a' := (As.map tv).toArray) hsz hS hL (run_of (vx_runSW (g := F0 m pc ls ((As.reverse ++ st).map tv)) (nL := nL) ⟨hx, hb, hml, hown, hts⟩ ((hM l D dA sz hst).met hno)
    ⟨⟨rfl, rfl, hR.1, hR.2, BG_pay hts w5, List.mem_cons_self⟩, hts _ w5, hts _ w4, w6, len_of w7, hts _ w1, hts _ w2⟩
    ⟨cP_blind, fun U hU hW => cP_at hWD hsz hH hS U hU hW⟩ rfl (by rw [List.length_map]) (by rw [← hn]; exact hL.1) (rev_map As st) (st_le hw) hd hl)) KR (fun E h' hq => absurd hq (hno E h'))
theorem j_callSN (C : OK G cc nL own rt tb nm) {idx : Nat} {host : String} {y : MethodName} {cy : ByteArray} {ny : Nat} {ry : Option FieldType} {As : List AV} {mc' ms' : Nat} {Q' : Option AV ⊕ String → Hp → Prop} (w : MSN own host idx y cy ny ry As.length)
    (hM : ∀ (l : Launch) (D : va_G) (dA : Nat → ClassId) (sz : Nat), l.stackTraces = false → Ctr l D dA sz (Cond.code y cy ny ry) y (glv G + 1) As h mc' ms' Q') (hno : ∀ E h', ¬ Q' (.inr E) h')
    (hn : lo.length = nL) (hlv : glv G + 1 ≤ 12) (hw : (st.map wt).sum ≤ 8) (hl : lim G (k + mc') (n + ms')) (hd : decode cc pc = .ok (.invokestatic idx, 3))
    (KR : ∀ v h', Q' (.inl v) h' → J G Q (pc + 3) lo (v.toList ++ st) h' (k + mc') (n + ms')) : J G Q pc lo (As.reverse ++ st) h k n := by
  obtain ⟨p, l, e, s, m, args, below, meth, c, D, dA, sz, lv, mc, ms⟩ := G
  obtain ⟨hx, hb, hml, hown, hts, -, -, hWD, hsz, hst, -⟩ := C
  obtain ⟨w1, w2, w4, w5, w6, w7, w8⟩ := w
  intro H locs ls hH hS hL
  have hR := rm_le (mc := mc) (ms := ms) (mc' := mc') (ms' := ms') (show lv + 1 ≤ 12 from hlv) w8
  refine j_aft (a' := (As.map tv).toArray) hsz hS hL (run_of (va_runSN (g := F0 m pc ls ((As.reverse ++ st).map tv)) (nL := nL) ⟨hx, hb, hml, hown, hts⟩ ((hM l D dA sz hst).met hno)
    ⟨⟨⟨rfl, rfl, hR.1, hR.2, BG_pay hts w5, List.mem_cons_self⟩, hts _ w5, hts _ w4, w6, len_of w7, va_Nw.use rfl (nwk_in hWD w1 rfl)⟩, hts _ w2, trivial⟩
    ⟨cP_blind, fun U hU hW => cP_at hWD hsz hH hS U hU hW⟩ rfl (by rw [List.length_map]) (by rw [← hn]; exact hL.1) (rev_map As st) (st_le hw) hd hl)) KR (fun E h' hq => absurd hq (hno E h'))
theorem j_callI (C : OK G cc nL own rt tb nm) {idx a : Nat} {y : MethodName} {cy : ByteArray} {ny : Nat} {As : List AV} {mc' ms' : Nat} {Q' : Option AV ⊕ String → Hp → Prop} (w : MI own idx y cy ny As.length)
    (hM : ∀ (l : Launch) (D : va_G) (dA : Nat → ClassId) (sz : Nat), l.stackTraces = false → Ctr l D dA sz (Cond.code y cy ny none) y (glv G + 1) (vr (some a) :: As) h mc' ms' Q') (hno : ∀ E h', ¬ Q' (.inr E) h')
    (hn : lo.length = nL) (hlv : glv G + 1 ≤ 12) (hw : (st.map wt).sum ≤ 8) (hl : lim G (k + mc') (n + ms')) (hd : decode cc pc = .ok (.invokespecial idx, 3))
    (KR : ∀ v h', Q' (.inl v) h' → J G Q (pc + 3) lo (v.toList ++ st) h' (k + mc') (n + ms')) : J G Q pc lo (As.reverse ++ vr (some a) :: st) h k n := by
  obtain ⟨p, l, e, s, m, args, below, meth, c, D, dA, sz, lv, mc, ms⟩ := G
  obtain ⟨hx, hb, hml, hown, hts, -, -, hWD, hsz, hst, -⟩ := C
  obtain ⟨w1, w2, w4, w5, w6, w7, w8, w9⟩ := w
  intro H locs ls hH hS hL
  have hR := rm_le (mc := mc) (ms := ms) (mc' := mc') (ms' := ms') (show lv + 1 ≤ 12 from hlv) w8
  refine j_aft (a' := (Value.ref a :: As.map tv).toArray) hsz hS hL (run_of (va_runI (g := F0 m pc ls ((As.reverse ++ vr (some a) :: st).map tv)) (nL := nL) ⟨hx, hb, hml, hown, hts⟩ ((hM l D dA sz hst).met hno)
    ⟨⟨rfl, rfl, hR.1, hR.2, BG_pay hts w5, List.mem_cons_self, hts _ w5, hts _ w4, w6, len_of w7, hts _ w1⟩, w9, hts _ w2⟩
    ⟨cP_blind, fun U hU hW => cP_at (av := vr (some a) :: As) hWD hsz hH hS U hU hW⟩ rfl (by rw [List.length_map]) (by rw [← hn]; exact hL.1) (rev_map As (vr (some a) :: st)) (st_le hw) hd hl)) KR (fun E h' hq => absurd hq (hno E h'))
theorem j_callIN (C : OK G cc nL own rt tb nm) {idx a : Nat} {host : String} {y : MethodName} {cy : ByteArray} {ny : Nat} {As : List AV} {mc' ms' : Nat} {Q' : Option AV ⊕ String → Hp → Prop} (w : MIN own host idx y cy ny As.length)
    (hM : ∀ (l : Launch) (D : va_G) (dA : Nat → ClassId) (sz : Nat), l.stackTraces = false → Ctr l D dA sz (Cond.code y cy ny none) y (glv G + 1) (vr (some a) :: As) h mc' ms' Q') (hno : ∀ E h', ¬ Q' (.inr E) h')
    (hn : lo.length = nL) (hlv : glv G + 1 ≤ 12) (hw : (st.map wt).sum ≤ 8) (hl : lim G (k + mc') (n + ms')) (hd : decode cc pc = .ok (.invokespecial idx, 3))
    (KR : ∀ v h', Q' (.inl v) h' → J G Q (pc + 3) lo (v.toList ++ st) h' (k + mc') (n + ms')) : J G Q pc lo (As.reverse ++ vr (some a) :: st) h k n := by
  obtain ⟨p, l, e, s, m, args, below, meth, c, D, dA, sz, lv, mc, ms⟩ := G
  obtain ⟨hx, hb, hml, hown, hts, -, -, hWD, hsz, hst, -⟩ := C
  obtain ⟨w1, w2, w4, w5, w6, w7, w8, w9⟩ := w
  intro H locs ls hH hS hL
  have hR := rm_le (mc := mc) (ms := ms) (mc' := mc') (ms' := ms') (show lv + 1 ≤ 12 from hlv) w8
  refine j_aft (a' := (Value.ref a :: As.map tv).toArray) hsz hS hL (run_of (va_runIN (g := F0 m pc ls ((As.reverse ++ vr (some a) :: st).map tv)) (nL := nL) ⟨hx, hb, hml, hown, hts⟩ ((hM l D dA sz hst).met hno)
    ⟨⟨⟨rfl, rfl, hR.1, hR.2, BG_pay hts w5, List.mem_cons_self⟩, hts _ w5, hts _ w4, w6, len_of w7, va_Nw.use rfl (nwk_in hWD w1 rfl)⟩, w9, hts _ w2⟩
    ⟨cP_blind, fun U hU hW => cP_at (av := vr (some a) :: As) hWD hsz hH hS U hU hW⟩ rfl (by rw [List.length_map]) (by rw [← hn]; exact hL.1) (rev_map As (vr (some a) :: st)) (st_le hw) hd hl)) KR (fun E h' hq => absurd hq (hno E h'))
theorem j_callU (C : OK G cc nL own rt tb nm) {idx a ci : Nat} {owner : String} {x y : MethodName} {cy : ByteArray} {ny : Nat} {ry : Option FieldType} {As : List AV} {mc' ms' : Nat} {Q' : Option AV ⊕ String → Hp → Prop} {q : vw_C} (w : MU own idx q.1 owner x y cy ny ry As.length)
    (hM : ∀ (l : Launch) (D : va_G) (dA : Nat → ClassId) (sz : Nat), l.stackTraces = false → Ctr l D dA sz (Cond.code y cy ny ry) y (glv G + 1) (vr (some a) :: As) h mc' ms' Q') (hno : ∀ E h', ¬ Q' (.inr E) h')
    (hq : vwCl[ci]? = some q) (h7 : ci < 7) (ht : tg h a = ci + 1) (hn : lo.length = nL) (hlv : glv G + 1 ≤ 12) (hw : (st.map wt).sum ≤ 8) (hl : lim G (k + mc') (n + ms')) (hd : decode cc pc = .ok (.invokevirtual idx, 3))
    (KR : ∀ v h', Q' (.inl v) h' → J G Q (pc + 3) lo (v.toList ++ st) h' (k + mc') (n + ms')) : J G Q pc lo (As.reverse ++ vr (some a) :: st) h k n := by
  obtain ⟨p, l, e, s, m, args, below, meth, c, D, dA, sz, lv, mc, ms⟩ := G
  obtain ⟨hx, hb, hml, hown, hts, -, -, hWD, hsz, hst, -⟩ := C
  obtain ⟨w1, w2, w3, w4, w5, w6, w7, w8, w9, w10⟩ := w
  intro H locs ls hH hS hL
  have hr := recvOf hWD hH hq h7 ht
  have hR := rm_le (mc := mc) (ms := ms) (mc' := mc') (ms' := ms') (show lv + 1 ≤ 12 from hlv) w9
  have hdc : va_Decl s ⟨owner, x.name, x.desc⟩ := by
    rcases w10 with h1 | ⟨h1, b, m9, r, h2⟩
    · exact va_Decl.abs (nwk_in hWD h1 rfl)
    · exact va_Decl.of (hts _ h1) (hts _ h2)
  refine j_aft (a' := (Value.ref a :: As.map tv).toArray) hsz hS hL (run_of (va_runU (owner := owner) (x := x) (g := F0 m pc ls ((As.reverse ++ vr (some a) :: st).map tv)) (nL := nL) ⟨hx, hb, hml, hown, hts⟩ ((hM l D dA sz hst).met hno)
    ⟨⟨rfl, rfl, hR.1, hR.2, BG_pay hts w6, List.mem_cons_self⟩, hts _ w6, hts _ w5, w7, len_of w8, hts _ w1, hts _ w2, hdc, hts _ w3, hts _ w4⟩
    ⟨cP_blind, hr, fun U hU hW => cP_at (av := vr (some a) :: As) hWD hsz hH hS U hU hW⟩ rfl (by rw [List.length_map]) (by rw [← hn]; exact hL.1) (rev_map As (vr (some a) :: st)) (st_le hw) hd hl)) KR (fun E h' hq => absurd hq (hno E h'))
end RW4
end
