section
-- ===== PART A: goes FIRST, ahead of the names: the tables' words, and 'selects' of the private methods out of them =====
/-- a private method of a class that the tables say can be made, by its rows of tables_1 -/
def lw_okq (q : MethodName × Nat) : Prop := (q.1.cls ≠ "java/lang/invoke/MethodHandle" ∧ q.1.cls ≠ "java/lang/invoke/VarHandle") ∧ Cond.instantiable q.1.cls q.2 ∈ tables_1 ∧ Cond.privateMethod q.1 ∈ tables_1 ∧ Cond.instanceMethod q.1 ∈ tables_1
theorem lw_p0 : lw_okq (⟨"LooseHeap$Heap", "isSooner", "(II)Z"⟩, 15) := ⟨⟨by decide +kernel, by decide +kernel⟩, List.mem_of_getElem? (i := 21) (by decide +kernel), List.mem_of_getElem? (i := 212) (by decide +kernel), List.mem_of_getElem? (i := 213) (by decide +kernel)⟩
theorem lw_p1 : lw_okq (⟨"LooseHeap$Heap", "settleAll", "()V"⟩, 15) := ⟨⟨by decide +kernel, by decide +kernel⟩, List.mem_of_getElem? (i := 21) (by decide +kernel), List.mem_of_getElem? (i := 216) (by decide +kernel), List.mem_of_getElem? (i := 217) (by decide +kernel)⟩
theorem lw_p2 : lw_okq (⟨"LooseHeap$Heap", "findPair", "(Z)Z"⟩, 15) := ⟨⟨by decide +kernel, by decide +kernel⟩, List.mem_of_getElem? (i := 21) (by decide +kernel), List.mem_of_getElem? (i := 220) (by decide +kernel), List.mem_of_getElem? (i := 221) (by decide +kernel)⟩
theorem lw_p3 : lw_okq (⟨"LooseHeap$Heap", "isRoot", "(I)Z"⟩, 15) := ⟨⟨by decide +kernel, by decide +kernel⟩, List.mem_of_getElem? (i := 21) (by decide +kernel), List.mem_of_getElem? (i := 225) (by decide +kernel), List.mem_of_getElem? (i := 226) (by decide +kernel)⟩
theorem lw_p4 : lw_okq (⟨"LooseHeap$Heap", "cutOff", "(I)V"⟩, 15) := ⟨⟨by decide +kernel, by decide +kernel⟩, List.mem_of_getElem? (i := 21) (by decide +kernel), List.mem_of_getElem? (i := 229) (by decide +kernel), List.mem_of_getElem? (i := 230) (by decide +kernel)⟩
theorem lw_p5 : lw_okq (⟨"LooseHeap$Heap", "besideBefore", "(II)I"⟩, 15) := ⟨⟨by decide +kernel, by decide +kernel⟩, List.mem_of_getElem? (i := 21) (by decide +kernel), List.mem_of_getElem? (i := 233) (by decide +kernel), List.mem_of_getElem? (i := 234) (by decide +kernel)⟩
theorem lw_p6 : lw_okq (⟨"LooseHeap$Heap", "makeRoot", "(I)V"⟩, 15) := ⟨⟨by decide +kernel, by decide +kernel⟩, List.mem_of_getElem? (i := 21) (by decide +kernel), List.mem_of_getElem? (i := 237) (by decide +kernel), List.mem_of_getElem? (i := 238) (by decide +kernel)⟩
theorem lw_p7 : lw_okq (⟨"LooseHeap$Heap", "linkTwo", "(II)V"⟩, 15) := ⟨⟨by decide +kernel, by decide +kernel⟩, List.mem_of_getElem? (i := 21) (by decide +kernel), List.mem_of_getElem? (i := 241) (by decide +kernel), List.mem_of_getElem? (i := 242) (by decide +kernel)⟩
theorem lw_p8 : lw_okq (⟨"LooseHeap$Heap", "freeChildren", "(I)V"⟩, 15) := ⟨⟨by decide +kernel, by decide +kernel⟩, List.mem_of_getElem? (i := 21) (by decide +kernel), List.mem_of_getElem? (i := 264) (by decide +kernel), List.mem_of_getElem? (i := 265) (by decide +kernel)⟩
theorem lw_p9 : lw_okq (⟨"LooseHeap", "driftOnce", "()V"⟩, 5) := ⟨⟨by decide +kernel, by decide +kernel⟩, List.mem_of_getElem? (i := 13) (by decide +kernel), List.mem_of_getElem? (i := 310) (by decide +kernel), List.mem_of_getElem? (i := 311) (by decide +kernel)⟩
theorem lw_p10 : lw_okq (⟨"LooseHeap", "putByLots", "()V"⟩, 5) := ⟨⟨by decide +kernel, by decide +kernel⟩, List.mem_of_getElem? (i := 13) (by decide +kernel), List.mem_of_getElem? (i := 320) (by decide +kernel), List.mem_of_getElem? (i := 321) (by decide +kernel)⟩
theorem lw_p11 : lw_okq (⟨"LooseHeap", "lowerByLots", "()V"⟩, 5) := ⟨⟨by decide +kernel, by decide +kernel⟩, List.mem_of_getElem? (i := 13) (by decide +kernel), List.mem_of_getElem? (i := 324) (by decide +kernel), List.mem_of_getElem? (i := 325) (by decide +kernel)⟩
theorem lw_p12 : lw_okq (⟨"LooseHeap", "takeByLots", "()V"⟩, 5) := ⟨⟨by decide +kernel, by decide +kernel⟩, List.mem_of_getElem? (i := 13) (by decide +kernel), List.mem_of_getElem? (i := 332) (by decide +kernel), List.mem_of_getElem? (i := 333) (by decide +kernel)⟩
theorem lw_p13 : lw_okq (⟨"LooseHeap$Heap", "isWithin", "(II)Z"⟩, 15) := ⟨⟨by decide +kernel, by decide +kernel⟩, List.mem_of_getElem? (i := 21) (by decide +kernel), List.mem_of_getElem? (i := 400) (by decide +kernel), List.mem_of_getElem? (i := 401) (by decide +kernel)⟩
theorem lw_p14 : lw_okq (⟨"LooseHeap$Roads", "begin", "(I)V"⟩, 8) := ⟨⟨by decide +kernel, by decide +kernel⟩, List.mem_of_getElem? (i := 88) (by decide +kernel), List.mem_of_getElem? (i := 487) (by decide +kernel), List.mem_of_getElem? (i := 488) (by decide +kernel)⟩
theorem lw_p15 : lw_okq (⟨"LooseHeap$Roads", "isReached", "(I)Z"⟩, 8) := ⟨⟨by decide +kernel, by decide +kernel⟩, List.mem_of_getElem? (i := 88) (by decide +kernel), List.mem_of_getElem? (i := 496) (by decide +kernel), List.mem_of_getElem? (i := 497) (by decide +kernel)⟩
def lw_privs_1 : List (MethodName × Nat) := [(⟨"LooseHeap$Heap", "isSooner", "(II)Z"⟩, 15), (⟨"LooseHeap$Heap", "settleAll", "()V"⟩, 15), (⟨"LooseHeap$Heap", "findPair", "(Z)Z"⟩, 15), (⟨"LooseHeap$Heap", "isRoot", "(I)Z"⟩, 15), (⟨"LooseHeap$Heap", "cutOff", "(I)V"⟩, 15), (⟨"LooseHeap$Heap", "besideBefore", "(II)I"⟩, 15), (⟨"LooseHeap$Heap", "makeRoot", "(I)V"⟩, 15), (⟨"LooseHeap$Heap", "linkTwo", "(II)V"⟩, 15), (⟨"LooseHeap$Heap", "freeChildren", "(I)V"⟩, 15), (⟨"LooseHeap", "driftOnce", "()V"⟩, 5), (⟨"LooseHeap", "putByLots", "()V"⟩, 5), (⟨"LooseHeap", "lowerByLots", "()V"⟩, 5), (⟨"LooseHeap", "takeByLots", "()V"⟩, 5), (⟨"LooseHeap$Heap", "isWithin", "(II)Z"⟩, 15), (⟨"LooseHeap$Roads", "begin", "(I)V"⟩, 8), (⟨"LooseHeap$Roads", "isReached", "(I)Z"⟩, 8)]
theorem lw_r1 : ∀ q ∈ lw_privs_1, lw_okq q := List.forall_mem_cons.mpr ⟨lw_p0, List.forall_mem_cons.mpr ⟨lw_p1, List.forall_mem_cons.mpr ⟨lw_p2, List.forall_mem_cons.mpr ⟨lw_p3, List.forall_mem_cons.mpr ⟨lw_p4, List.forall_mem_cons.mpr ⟨lw_p5, List.forall_mem_cons.mpr ⟨lw_p6, List.forall_mem_cons.mpr ⟨lw_p7, List.forall_mem_cons.mpr ⟨lw_p8, List.forall_mem_cons.mpr ⟨lw_p9, List.forall_mem_cons.mpr ⟨lw_p10, List.forall_mem_cons.mpr ⟨lw_p11, List.forall_mem_cons.mpr ⟨lw_p12, List.forall_mem_cons.mpr ⟨lw_p13, List.forall_mem_cons.mpr ⟨lw_p14, List.forall_mem_cons.mpr ⟨lw_p15, fun _ h => absurd h List.not_mem_nil⟩⟩⟩⟩⟩⟩⟩⟩⟩⟩⟩⟩⟩⟩⟩⟩
theorem lw_p16 : lw_okq (⟨"LooseHeap$Roads", "spread", "(II)V"⟩, 8) := ⟨⟨by decide +kernel, by decide +kernel⟩, List.mem_of_getElem? (i := 88) (by decide +kernel), List.mem_of_getElem? (i := 501) (by decide +kernel), List.mem_of_getElem? (i := 502) (by decide +kernel)⟩
theorem lw_p17 : lw_okq (⟨"LooseHeap$Roads", "acrossFrom", "(II)I"⟩, 8) := ⟨⟨by decide +kernel, by decide +kernel⟩, List.mem_of_getElem? (i := 88) (by decide +kernel), List.mem_of_getElem? (i := 505) (by decide +kernel), List.mem_of_getElem? (i := 506) (by decide +kernel)⟩
theorem lw_p18 : lw_okq (⟨"LooseHeapModel", "own", "()V"⟩, 25) := ⟨⟨by decide +kernel, by decide +kernel⟩, List.mem_of_getElem? (i := 583) (by decide +kernel), List.mem_of_getElem? (i := 669) (by decide +kernel), List.mem_of_getElem? (i := 670) (by decide +kernel)⟩
theorem lw_p19 : lw_okq (⟨"LooseHeapModel", "add", "(III)V"⟩, 25) := ⟨⟨by decide +kernel, by decide +kernel⟩, List.mem_of_getElem? (i := 583) (by decide +kernel), List.mem_of_getElem? (i := 678) (by decide +kernel), List.mem_of_getElem? (i := 679) (by decide +kernel)⟩
theorem lw_p20 : lw_okq (⟨"LooseHeapModel", "isJob", "(I)Z"⟩, 25) := ⟨⟨by decide +kernel, by decide +kernel⟩, List.mem_of_getElem? (i := 583) (by decide +kernel), List.mem_of_getElem? (i := 686) (by decide +kernel), List.mem_of_getElem? (i := 687) (by decide +kernel)⟩
theorem lw_p21 : lw_okq (⟨"LooseHeapModel", "lowerTo", "(II)V"⟩, 25) := ⟨⟨by decide +kernel, by decide +kernel⟩, List.mem_of_getElem? (i := 583) (by decide +kernel), List.mem_of_getElem? (i := 692) (by decide +kernel), List.mem_of_getElem? (i := 693) (by decide +kernel)⟩
theorem lw_p22 : lw_okq (⟨"LooseHeapModel", "isSooner", "(II)Z"⟩, 25) := ⟨⟨by decide +kernel, by decide +kernel⟩, List.mem_of_getElem? (i := 583) (by decide +kernel), List.mem_of_getElem? (i := 696) (by decide +kernel), List.mem_of_getElem? (i := 697) (by decide +kernel)⟩
theorem lw_p23 : lw_okq (⟨"LooseHeapModel", "settle", "()V"⟩, 25) := ⟨⟨by decide +kernel, by decide +kernel⟩, List.mem_of_getElem? (i := 583) (by decide +kernel), List.mem_of_getElem? (i := 700) (by decide +kernel), List.mem_of_getElem? (i := 701) (by decide +kernel)⟩
theorem lw_p24 : lw_okq (⟨"LooseHeapModel", "twice", "(Z)I"⟩, 25) := ⟨⟨by decide +kernel, by decide +kernel⟩, List.mem_of_getElem? (i := 583) (by decide +kernel), List.mem_of_getElem? (i := 704) (by decide +kernel), List.mem_of_getElem? (i := 705) (by decide +kernel)⟩
theorem lw_p25 : lw_okq (⟨"LooseHeapModel", "ofRank", "(IIZ)I"⟩, 25) := ⟨⟨by decide +kernel, by decide +kernel⟩, List.mem_of_getElem? (i := 583) (by decide +kernel), List.mem_of_getElem? (i := 708) (by decide +kernel), List.mem_of_getElem? (i := 709) (by decide +kernel)⟩
theorem lw_p26 : lw_okq (⟨"LooseHeapModel", "isOf", "(IZ)Z"⟩, 25) := ⟨⟨by decide +kernel, by decide +kernel⟩, List.mem_of_getElem? (i := 583) (by decide +kernel), List.mem_of_getElem? (i := 712) (by decide +kernel), List.mem_of_getElem? (i := 713) (by decide +kernel)⟩
theorem lw_p27 : lw_okq (⟨"LooseHeapModel", "rank", "(I)I"⟩, 25) := ⟨⟨by decide +kernel, by decide +kernel⟩, List.mem_of_getElem? (i := 583) (by decide +kernel), List.mem_of_getElem? (i := 716) (by decide +kernel), List.mem_of_getElem? (i := 717) (by decide +kernel)⟩
theorem lw_p28 : lw_okq (⟨"LooseHeapModel", "cut", "(I)V"⟩, 25) := ⟨⟨by decide +kernel, by decide +kernel⟩, List.mem_of_getElem? (i := 583) (by decide +kernel), List.mem_of_getElem? (i := 720) (by decide +kernel), List.mem_of_getElem? (i := 721) (by decide +kernel)⟩
theorem lw_p29 : lw_okq (⟨"LooseHeapModel", "link", "(II)V"⟩, 25) := ⟨⟨by decide +kernel, by decide +kernel⟩, List.mem_of_getElem? (i := 583) (by decide +kernel), List.mem_of_getElem? (i := 724) (by decide +kernel), List.mem_of_getElem? (i := 725) (by decide +kernel)⟩
theorem lw_p30 : lw_okq (⟨"LooseHeapModel", "soonest", "()I"⟩, 25) := ⟨⟨by decide +kernel, by decide +kernel⟩, List.mem_of_getElem? (i := 583) (by decide +kernel), List.mem_of_getElem? (i := 732) (by decide +kernel), List.mem_of_getElem? (i := 733) (by decide +kernel)⟩
theorem lw_p31 : lw_okq (⟨"LooseHeapModel", "remove", "(I)V"⟩, 25) := ⟨⟨by decide +kernel, by decide +kernel⟩, List.mem_of_getElem? (i := 583) (by decide +kernel), List.mem_of_getElem? (i := 736) (by decide +kernel), List.mem_of_getElem? (i := 737) (by decide +kernel)⟩
def lw_privs_2 : List (MethodName × Nat) := [(⟨"LooseHeap$Roads", "spread", "(II)V"⟩, 8), (⟨"LooseHeap$Roads", "acrossFrom", "(II)I"⟩, 8), (⟨"LooseHeapModel", "own", "()V"⟩, 25), (⟨"LooseHeapModel", "add", "(III)V"⟩, 25), (⟨"LooseHeapModel", "isJob", "(I)Z"⟩, 25), (⟨"LooseHeapModel", "lowerTo", "(II)V"⟩, 25), (⟨"LooseHeapModel", "isSooner", "(II)Z"⟩, 25), (⟨"LooseHeapModel", "settle", "()V"⟩, 25), (⟨"LooseHeapModel", "twice", "(Z)I"⟩, 25), (⟨"LooseHeapModel", "ofRank", "(IIZ)I"⟩, 25), (⟨"LooseHeapModel", "isOf", "(IZ)Z"⟩, 25), (⟨"LooseHeapModel", "rank", "(I)I"⟩, 25), (⟨"LooseHeapModel", "cut", "(I)V"⟩, 25), (⟨"LooseHeapModel", "link", "(II)V"⟩, 25), (⟨"LooseHeapModel", "soonest", "()I"⟩, 25), (⟨"LooseHeapModel", "remove", "(I)V"⟩, 25)]
theorem lw_r2 : ∀ q ∈ lw_privs_2, lw_okq q := List.forall_mem_cons.mpr ⟨lw_p16, List.forall_mem_cons.mpr ⟨lw_p17, List.forall_mem_cons.mpr ⟨lw_p18, List.forall_mem_cons.mpr ⟨lw_p19, List.forall_mem_cons.mpr ⟨lw_p20, List.forall_mem_cons.mpr ⟨lw_p21, List.forall_mem_cons.mpr ⟨lw_p22, List.forall_mem_cons.mpr ⟨lw_p23, List.forall_mem_cons.mpr ⟨lw_p24, List.forall_mem_cons.mpr ⟨lw_p25, List.forall_mem_cons.mpr ⟨lw_p26, List.forall_mem_cons.mpr ⟨lw_p27, List.forall_mem_cons.mpr ⟨lw_p28, List.forall_mem_cons.mpr ⟨lw_p29, List.forall_mem_cons.mpr ⟨lw_p30, List.forall_mem_cons.mpr ⟨lw_p31, fun _ h => absurd h List.not_mem_nil⟩⟩⟩⟩⟩⟩⟩⟩⟩⟩⟩⟩⟩⟩⟩⟩
theorem lw_p32 : lw_okq (⟨"LooseHeapModel", "joinAll", "()V"⟩, 25) := ⟨⟨by decide +kernel, by decide +kernel⟩, List.mem_of_getElem? (i := 583) (by decide +kernel), List.mem_of_getElem? (i := 740) (by decide +kernel), List.mem_of_getElem? (i := 741) (by decide +kernel)⟩
theorem lw_p33 : lw_okq (⟨"LooseHeapModel", "standing", "()I"⟩, 25) := ⟨⟨by decide +kernel, by decide +kernel⟩, List.mem_of_getElem? (i := 583) (by decide +kernel), List.mem_of_getElem? (i := 748) (by decide +kernel), List.mem_of_getElem? (i := 749) (by decide +kernel)⟩
theorem lw_p34 : lw_okq (⟨"LooseHeapModel", "lot", "()V"⟩, 25) := ⟨⟨by decide +kernel, by decide +kernel⟩, List.mem_of_getElem? (i := 583) (by decide +kernel), List.mem_of_getElem? (i := 765) (by decide +kernel), List.mem_of_getElem? (i := 766) (by decide +kernel)⟩
theorem lw_p35 : lw_okq (⟨"LooseHeapModel", "drawn", "(I)I"⟩, 25) := ⟨⟨by decide +kernel, by decide +kernel⟩, List.mem_of_getElem? (i := 583) (by decide +kernel), List.mem_of_getElem? (i := 769) (by decide +kernel), List.mem_of_getElem? (i := 770) (by decide +kernel)⟩
theorem lw_p36 : lw_okq (⟨"LooseHeapModel", "standingAt", "(I)I"⟩, 25) := ⟨⟨by decide +kernel, by decide +kernel⟩, List.mem_of_getElem? (i := 583) (by decide +kernel), List.mem_of_getElem? (i := 775) (by decide +kernel), List.mem_of_getElem? (i := 776) (by decide +kernel)⟩
theorem lw_p37 : lw_okq (⟨"LooseHeapModel", "many", "(I)I"⟩, 25) := ⟨⟨by decide +kernel, by decide +kernel⟩, List.mem_of_getElem? (i := 583) (by decide +kernel), List.mem_of_getElem? (i := 783) (by decide +kernel), List.mem_of_getElem? (i := 784) (by decide +kernel)⟩
theorem lw_p38 : lw_okq (⟨"LooseHeapModel", "depth", "(I)I"⟩, 25) := ⟨⟨by decide +kernel, by decide +kernel⟩, List.mem_of_getElem? (i := 583) (by decide +kernel), List.mem_of_getElem? (i := 787) (by decide +kernel), List.mem_of_getElem? (i := 788) (by decide +kernel)⟩
theorem lw_p39 : lw_okq (⟨"LooseHeapModel", "under", "(I)I"⟩, 25) := ⟨⟨by decide +kernel, by decide +kernel⟩, List.mem_of_getElem? (i := 583) (by decide +kernel), List.mem_of_getElem? (i := 795) (by decide +kernel), List.mem_of_getElem? (i := 796) (by decide +kernel)⟩
theorem lw_p40 : lw_okq (⟨"LooseHeapModel", "isUnder", "(II)Z"⟩, 25) := ⟨⟨by decide +kernel, by decide +kernel⟩, List.mem_of_getElem? (i := 583) (by decide +kernel), List.mem_of_getElem? (i := 799) (by decide +kernel), List.mem_of_getElem? (i := 800) (by decide +kernel)⟩
theorem lw_p41 : lw_okq (⟨"LooseHeapModel", "isPlace", "(I)Z"⟩, 25) := ⟨⟨by decide +kernel, by decide +kernel⟩, List.mem_of_getElem? (i := 583) (by decide +kernel), List.mem_of_getElem? (i := 841) (by decide +kernel), List.mem_of_getElem? (i := 842) (by decide +kernel)⟩
theorem lw_p42 : lw_okq (⟨"LooseHeapModel", "lay", "(IZ)V"⟩, 25) := ⟨⟨by decide +kernel, by decide +kernel⟩, List.mem_of_getElem? (i := 583) (by decide +kernel), List.mem_of_getElem? (i := 849) (by decide +kernel), List.mem_of_getElem? (i := 850) (by decide +kernel)⟩
theorem lw_p43 : lw_okq (⟨"LooseHeapModel", "goFrom", "(IZ)V"⟩, 25) := ⟨⟨by decide +kernel, by decide +kernel⟩, List.mem_of_getElem? (i := 583) (by decide +kernel), List.mem_of_getElem? (i := 853) (by decide +kernel), List.mem_of_getElem? (i := 854) (by decide +kernel)⟩
theorem lw_p44 : lw_okq (⟨"LooseHeapModel", "hanging", "(Z)I"⟩, 25) := ⟨⟨by decide +kernel, by decide +kernel⟩, List.mem_of_getElem? (i := 583) (by decide +kernel), List.mem_of_getElem? (i := 857) (by decide +kernel), List.mem_of_getElem? (i := 858) (by decide +kernel)⟩
def lw_privs_3 : List (MethodName × Nat) := [(⟨"LooseHeapModel", "joinAll", "()V"⟩, 25), (⟨"LooseHeapModel", "standing", "()I"⟩, 25), (⟨"LooseHeapModel", "lot", "()V"⟩, 25), (⟨"LooseHeapModel", "drawn", "(I)I"⟩, 25), (⟨"LooseHeapModel", "standingAt", "(I)I"⟩, 25), (⟨"LooseHeapModel", "many", "(I)I"⟩, 25), (⟨"LooseHeapModel", "depth", "(I)I"⟩, 25), (⟨"LooseHeapModel", "under", "(I)I"⟩, 25), (⟨"LooseHeapModel", "isUnder", "(II)Z"⟩, 25), (⟨"LooseHeapModel", "isPlace", "(I)Z"⟩, 25), (⟨"LooseHeapModel", "lay", "(IZ)V"⟩, 25), (⟨"LooseHeapModel", "goFrom", "(IZ)V"⟩, 25), (⟨"LooseHeapModel", "hanging", "(Z)I"⟩, 25)]
theorem lw_r3 : ∀ q ∈ lw_privs_3, lw_okq q := List.forall_mem_cons.mpr ⟨lw_p32, List.forall_mem_cons.mpr ⟨lw_p33, List.forall_mem_cons.mpr ⟨lw_p34, List.forall_mem_cons.mpr ⟨lw_p35, List.forall_mem_cons.mpr ⟨lw_p36, List.forall_mem_cons.mpr ⟨lw_p37, List.forall_mem_cons.mpr ⟨lw_p38, List.forall_mem_cons.mpr ⟨lw_p39, List.forall_mem_cons.mpr ⟨lw_p40, List.forall_mem_cons.mpr ⟨lw_p41, List.forall_mem_cons.mpr ⟨lw_p42, List.forall_mem_cons.mpr ⟨lw_p43, List.forall_mem_cons.mpr ⟨lw_p44, fun _ h => absurd h List.not_mem_nil⟩⟩⟩⟩⟩⟩⟩⟩⟩⟩⟩⟩⟩
def lw_privs : List (MethodName × Nat) := lw_privs_1 ++ (lw_privs_2 ++ (lw_privs_3))
def lw_tbl : List Cond := k2_sels lw_privs ++ tables_1
theorem lw_privs_ok : ∀ q ∈ lw_privs, lw_okq q := by
  show ∀ q ∈ lw_privs_1 ++ (lw_privs_2 ++ (lw_privs_3)), lw_okq q
  exact List.forall_mem_append.mpr ⟨lw_r1, List.forall_mem_append.mpr ⟨lw_r2, lw_r3⟩⟩
end
section
/-! THE ABSTRACT MACHINE: a method is a table of instructions over numbered cells. A cell is (kind, instance); what it holds of ints is M.1 kind instance place. -/
abbrev AV : Type := Int32 ⊕ (Int64 ⊕ (Nat × Nat))
abbrev AM : Type := (Nat → Nat → Nat → Int32) × (Nat → Int64)
abbrev RP : Type := Option AV → AM → Prop
abbrev KP : Type := Nat → List (Option AV) → List AV → AM → Prop
abbrev CP : Type := Nat → List AV → AM → RP → Prop
abbrev Ins : Type := CP → List (Option AV) → List AV → AM → RP → KP → Prop
abbrev vi (x : Int32) : AV := .inl x
abbrev vl (x : Int64) : AV := .inr (.inl x)
abbrev vr (a t : Nat) : AV := .inr (.inr (a, t))
def um (M : AM) (a t i : Nat) (v : Int32) : AM := (fun a' t' i' => if a' = a ∧ t' = t ∧ i' = i then v else M.1 a' t' i', M.2)
def ul (M : AM) (k : Nat) (v : Int64) : AM := (M.1, fun k' => if k' = k then v else M.2 k')
/-- places of THE HEAP's rows: 40, of the net's own 8 -/
def rm (t : Nat) : Nat := if t = 3 then 8 else 40
/-- length of a row -/
def aln : Nat → Nat → Nat
  | 2, t | 3, t | 4, t | 5, t | 6, t | 7, t | 8, t | 9, t | 10, t => rm t
  | 12, _ | 28, _ => 16
  | 14, _ | 15, _ | 16, _ | 29, _ | 30, _ | 31, _ => 14
  | 17, _ | 32, _ => 8
  | 22, _ | 23, _ | 24, _ | 25, _ | 26, _ | 27, _ => 48
  | 33, _ => 520
  | 34, _ => 2
  | _, _ => 0
/-- 0: a row of ints, 1: of booleans, 2: neither -/
def aty : Nat → Nat
  | 2 | 3 | 4 | 5 | 6 | 7 | 10 | 12 | 14 | 15 | 16 | 17 | 22 | 23 | 25 | 27 | 28 | 29 | 30 | 31 | 32 | 33 => 0
  | 8 | 9 | 24 | 26 | 34 => 1
  | _ => 2
/-- the class of an object of a kind, by its place in vwCl -/
def acl : Nat → Nat
  | 0 => 5 | 1 => 1 | 11 => 0 | 13 => 4 | 18 => 3 | 20 => 2 | 21 => 6 | _ => 99
def ge : List (Option AV) → Nat → Option AV
  | [], _ => none
  | x :: _, 0 => x
  | _ :: r, i + 1 => ge r i
def isl : Option AV → Bool
  | some (.inr (.inl _)) => true
  | _ => false
def se : List (Option AV) → Nat → Option AV → List (Option AV)
  | [], 0, v => [v]
  | [], i + 1, v => none :: se [] i v
  | _ :: r, 0, v => v :: r
  | x :: r, 1, v => cond (isl x) none x :: se r 0 v
  | x :: r, i + 2, v => x :: se r (i + 1) v
def ag : Nat → List AV → List AV → List AV
  | 0, _, acc => acc
  | _ + 1, [], acc => acc
  | k + 1, v :: S, acc => ag k S (v :: acc)
def dr : Nat → List AV → List AV
  | 0, S => S
  | _ + 1, [] => []
  | k + 1, _ :: S => dr k S
def cat1 : AV → Nat
  | .inr (.inl _) => 2
  | _ => 1
def cats : List AV → Nat
  | [] => 0
  | v :: S => cat1 v + cats S
def al1 : List AV → Bool
  | [] => true
  | v :: S => Nat.beq (cat1 v) 1 && al1 S
def bz (x : Int32) : Int32 := x &&& 1
-- constants, locals, the stack
def i_li (i n : Nat) : Ins := fun _ L S M _ K => match ge L i with
  | some (.inl v) => K n L (.inl v :: S) M
  | _ => False
def i_la (i n : Nat) : Ins := fun _ L S M _ K => match ge L i with
  | some (.inr (.inr v)) => K n L (.inr (.inr v) :: S) M
  | _ => False
def i_ll (i n : Nat) : Ins := fun _ L S M _ K => match ge L i with
  | some (.inr (.inl v)) => K n L (.inr (.inl v) :: S) M
  | _ => False
def i_st (i n : Nat) : Ins := fun _ L S M _ K => match S with
  | .inl x :: S' => K n (se L i (some (.inl x))) S' M
  | _ => False
def i_st2 (i n : Nat) : Ins := fun _ L S M _ K => match S with
  | .inr (.inl x) :: S' => K n (se (se L (i + 1) none) i (some (.inr (.inl x)))) S' M
  | _ => False
def i_inc (i : Nat) (d : Int32) (n : Nat) : Ins := fun _ L S M _ K => match ge L i with
  | some (.inl x) => K n (se L i (some (.inl (x + d)))) S M
  | _ => False
def i_c (v : Int32) (n : Nat) : Ins := fun _ L S M _ K => K n L (.inl v :: S) M
def i_cl (v : Int64) (n : Nat) : Ins := fun _ L S M _ K => K n L (.inr (.inl v) :: S) M
def i_dup (n : Nat) : Ins := fun _ L S M _ K => match S with
  | .inl x :: S' => K n L (.inl x :: .inl x :: S') M
  | .inr (.inr x) :: S' => K n L (.inr (.inr x) :: .inr (.inr x) :: S') M
  | _ => False
def i_dup2 (n : Nat) : Ins := fun _ L S M _ K => match S with
  | .inl x :: .inr (.inr y) :: S' => K n L (.inl x :: .inr (.inr y) :: .inl x :: .inr (.inr y) :: S') M
  | _ => False
def i_pop (n : Nat) : Ins := fun _ L S M _ K => match S with
  | .inl _ :: S' => K n L S' M
  | _ => False
-- numbers
def i_add (n : Nat) : Ins := fun _ L S M _ K => match S with
  | .inl y :: .inl x :: S' => K n L (.inl (x + y) :: S') M
  | _ => False
def i_sub (n : Nat) : Ins := fun _ L S M _ K => match S with
  | .inl y :: .inl x :: S' => K n L (.inl (x - y) :: S') M
  | _ => False
def i_mul (n : Nat) : Ins := fun _ L S M _ K => match S with
  | .inl y :: .inl x :: S' => K n L (.inl (x * y) :: S') M
  | _ => False
def i_or (n : Nat) : Ins := fun _ L S M _ K => match S with
  | .inl y :: .inl x :: S' => K n L (.inl (x ||| y) :: S') M
  | _ => False
def i_and (n : Nat) : Ins := fun _ L S M _ K => match S with
  | .inl y :: .inl x :: S' => K n L (.inl (x &&& y) :: S') M
  | _ => False
def i_shl (n : Nat) : Ins := fun _ L S M _ K => match S with
  | .inl y :: .inl x :: S' => K n L (.inl (x <<< (y &&& 31)) :: S') M
  | _ => False
def i_shr (n : Nat) : Ins := fun _ L S M _ K => match S with
  | .inl y :: .inl x :: S' => K n L (.inl (x >>> (y &&& 31)) :: S') M
  | _ => False
def i_neg (n : Nat) : Ins := fun _ L S M _ K => match S with
  | .inl x :: S' => K n L (.inl (-x) :: S') M
  | _ => False
def i_2l (n : Nat) : Ins := fun _ L S M _ K => match S with
  | .inl x :: S' => K n L (.inr (.inl x.toInt64) :: S') M
  | _ => False
def l_2i (n : Nat) : Ins := fun _ L S M _ K => match S with
  | .inr (.inl x) :: S' => K n L (.inl x.toInt32 :: S') M
  | _ => False
def l_add (n : Nat) : Ins := fun _ L S M _ K => match S with
  | .inr (.inl y) :: .inr (.inl x) :: S' => K n L (.inr (.inl (x + y)) :: S') M
  | _ => False
def l_sub (n : Nat) : Ins := fun _ L S M _ K => match S with
  | .inr (.inl y) :: .inr (.inl x) :: S' => K n L (.inr (.inl (x - y)) :: S') M
  | _ => False
def l_mul (n : Nat) : Ins := fun _ L S M _ K => match S with
  | .inr (.inl y) :: .inr (.inl x) :: S' => K n L (.inr (.inl (x * y)) :: S') M
  | _ => False
def l_or (n : Nat) : Ins := fun _ L S M _ K => match S with
  | .inr (.inl y) :: .inr (.inl x) :: S' => K n L (.inr (.inl (x ||| y)) :: S') M
  | _ => False
def l_rem (n : Nat) : Ins := fun _ L S M _ K => match S with
  | .inr (.inl y) :: .inr (.inl x) :: S' => ¬ y = 0 ∧ K n L (.inr (.inl (x - x / y * y)) :: S') M
  | _ => False
def l_cmp (n : Nat) : Ins := fun _ L S M _ K => match S with
  | .inr (.inl y) :: .inr (.inl x) :: S' => K n L (.inl (lg_cmp x y) :: S') M
  | _ => False
def l_shl (n : Nat) : Ins := fun _ L S M _ K => match S with
  | .inl y :: .inr (.inl x) :: S' => K n L (.inr (.inl (x <<< (y.toInt64 &&& 63))) :: S') M
  | _ => False
def l_shr (n : Nat) : Ins := fun _ L S M _ K => match S with
  | .inl y :: .inr (.inl x) :: S' => K n L (.inr (.inl (x >>> (y.toInt64 &&& 63))) :: S') M
  | _ => False
def i_max (n : Nat) : Ins := fun _ L S M _ K => match S with
  | .inl y :: .inl x :: S' => cond (Nat.ble (cats S') 8) (K n L (.inl (if x < y then y else x) :: S') M) False
  | _ => False
def i_min (n : Nat) : Ins := fun _ L S M _ K => match S with
  | .inl y :: .inl x :: S' => cond (Nat.ble (cats S') 8) (K n L (.inl (if y < x then y else x) :: S') M) False
  | _ => False
def l_abs (n : Nat) : Ins := fun _ L S M _ K => match S with
  | .inr (.inl x) :: S' => cond (Nat.ble (cats S') 8) (K n L (.inr (.inl (if 0 < x then x else -x)) :: S') M) False
  | _ => False
-- fields
def i_gI (c j n : Nat) : Ins := fun _ L S M _ K => match S with
  | .inr (.inr (a, t)) :: S' => cond (Nat.beq (acl a) c) (K n L (.inl (M.1 a t j) :: S') M) False
  | _ => False
def i_gL (c k n : Nat) : Ins := fun _ L S M _ K => match S with
  | .inr (.inr (a, _)) :: S' => cond (Nat.beq (acl a) c) (K n L (.inr (.inl (M.2 k)) :: S') M) False
  | _ => False
def i_gR (c : Nat) (f : Nat → Nat × Nat) (n : Nat) : Ins := fun _ L S M _ K => match S with
  | .inr (.inr (a, t)) :: S' => cond (Nat.beq (acl a) c) (K n L (.inr (.inr (f t)) :: S') M) False
  | _ => False
def i_pI (c j n : Nat) : Ins := fun _ L S M _ K => match S with
  | .inl v :: .inr (.inr (a, t)) :: S' => cond (Nat.beq (acl a) c) (K n L S' (um M a t j v)) False
  | _ => False
def i_pZ (c j n : Nat) : Ins := fun _ L S M _ K => match S with
  | .inl v :: .inr (.inr (a, t)) :: S' => cond (Nat.beq (acl a) c) (bz v = v ∧ K n L S' (um M a t j v)) False
  | _ => False
def i_pL (c k n : Nat) : Ins := fun _ L S M _ K => match S with
  | .inr (.inl v) :: .inr (.inr (a, _)) :: S' => cond (Nat.beq (acl a) c) (K n L S' (ul M k v)) False
  | _ => False
-- rows
def i_ia (n : Nat) : Ins := fun _ L S M _ K => match S with
  | .inl i :: .inr (.inr (a, t)) :: S' => cond (Nat.beq (aty a) 0) (vp_in i (aln a t) ∧ K n L (.inl (M.1 a t i.toNatClampNeg) :: S') M) False
  | _ => False
def i_ba (n : Nat) : Ins := fun _ L S M _ K => match S with
  | .inl i :: .inr (.inr (a, t)) :: S' => cond (Nat.beq (aty a) 1) (vp_in i (aln a t) ∧ K n L (.inl (M.1 a t i.toNatClampNeg) :: S') M) False
  | _ => False
def i_is (n : Nat) : Ins := fun _ L S M _ K => match S with
  | .inl v :: .inl i :: .inr (.inr (a, t)) :: S' => cond (Nat.beq (aty a) 0) (vp_in i (aln a t) ∧ K n L S' (um M a t i.toNatClampNeg v)) False
  | _ => False
def i_bs (n : Nat) : Ins := fun _ L S M _ K => match S with
  | .inl v :: .inl i :: .inr (.inr (a, t)) :: S' => cond (Nat.beq (aty a) 1) (vp_in i (aln a t) ∧ K n L S' (um M a t i.toNatClampNeg (bz v))) False
  | _ => False
def i_al (n : Nat) : Ins := fun _ L S M _ K => match S with
  | .inr (.inr (a, t)) :: S' => cond (Nat.ble (aty a) 1) (K n L (.inl (nI (aln a t)) :: S') M) False
  | _ => False
def i_aa (n : Nat) : Ins := fun _ L S M _ K => match S with
  | .inl i :: .inr (.inr (a, _)) :: S' => cond (Nat.beq a 19) (vp_in i 2 ∧ K n L (.inr (.inr (20, i.toNatClampNeg)) :: S') M) False
  | _ => False
/-- System.arraycopy of the whole of a bench's row -/
def i_acp (n : Nat) : Ins := fun _ L S M _ K => match S with
  | .inl c :: .inl d :: .inr (.inr (a, t)) :: .inl p :: .inr (.inr (a', t')) :: S' => cond (Nat.beq a 12 && Nat.beq a' 12 && Nat.ble (cats S') 8) (c = 16 ∧ d = 0 ∧ p = 0 ∧ K n L S' (fun x y z => if x = 12 ∧ y = t then va_cpy (M.1 12 t') (M.1 12 t) 0 0 16 z else M.1 x y z, M.2)) False
  | _ => False
-- the script
def i_sl (sl : Nat) (xs : Nat → Int32) (n : Nat) : Ins := fun _ L S M _ K => match S with
  | .inl i :: .inr (.inr (a, _)) :: S' => cond (Nat.beq a 35) (vp_in i sl ∧ K n L (.inl (xs i.toNatClampNeg) :: S') M) False
  | _ => False
def i_sn (sl n : Nat) : Ins := fun _ L S M _ K => match S with
  | .inr (.inr (a, _)) :: S' => cond (Nat.beq a 35) (K n L (.inl (nI sl) :: S') M) False
  | _ => False
-- branches
def i_go (g : Nat) : Ins := fun _ L S M _ K => K g L S M
def i_if_eq (g n : Nat) : Ins := fun _ L S M _ K => match S with
  | .inl x :: S' => (x = 0 → K g L S' M) ∧ (¬ x = 0 → K n L S' M)
  | _ => False
def i_if_ne (g n : Nat) : Ins := fun _ L S M _ K => match S with
  | .inl x :: S' => (¬ x = 0 → K g L S' M) ∧ (x = 0 → K n L S' M)
  | _ => False
def i_if_lt (g n : Nat) : Ins := fun _ L S M _ K => match S with
  | .inl x :: S' => (x < 0 → K g L S' M) ∧ (¬ x < 0 → K n L S' M)
  | _ => False
def i_if_ge (g n : Nat) : Ins := fun _ L S M _ K => match S with
  | .inl x :: S' => (0 ≤ x → K g L S' M) ∧ (¬ 0 ≤ x → K n L S' M)
  | _ => False
def i_if_gt (g n : Nat) : Ins := fun _ L S M _ K => match S with
  | .inl x :: S' => (0 < x → K g L S' M) ∧ (¬ 0 < x → K n L S' M)
  | _ => False
def i_if_le (g n : Nat) : Ins := fun _ L S M _ K => match S with
  | .inl x :: S' => (x ≤ 0 → K g L S' M) ∧ (¬ x ≤ 0 → K n L S' M)
  | _ => False
def i_ic_eq (g n : Nat) : Ins := fun _ L S M _ K => match S with
  | .inl y :: .inl x :: S' => (x = y → K g L S' M) ∧ (¬ x = y → K n L S' M)
  | _ => False
def i_ic_ne (g n : Nat) : Ins := fun _ L S M _ K => match S with
  | .inl y :: .inl x :: S' => (¬ x = y → K g L S' M) ∧ (x = y → K n L S' M)
  | _ => False
def i_ic_lt (g n : Nat) : Ins := fun _ L S M _ K => match S with
  | .inl y :: .inl x :: S' => (x < y → K g L S' M) ∧ (¬ x < y → K n L S' M)
  | _ => False
def i_ic_ge (g n : Nat) : Ins := fun _ L S M _ K => match S with
  | .inl y :: .inl x :: S' => (y ≤ x → K g L S' M) ∧ (¬ y ≤ x → K n L S' M)
  | _ => False
def i_ic_gt (g n : Nat) : Ins := fun _ L S M _ K => match S with
  | .inl y :: .inl x :: S' => (y < x → K g L S' M) ∧ (¬ y < x → K n L S' M)
  | _ => False
def i_ic_le (g n : Nat) : Ins := fun _ L S M _ K => match S with
  | .inl y :: .inl x :: S' => (x ≤ y → K g L S' M) ∧ (¬ x ≤ y → K n L S' M)
  | _ => False
def swk (x : Int32) (d : Nat) (K : Nat → Prop) : List (Int32 × Nat) → Prop
  | [] => K d
  | (v, g) :: r => (x = v → K g) ∧ (¬ x = v → swk x d K r)
def i_sw (tb : List (Int32 × Nat)) (d : Nat) : Ins := fun _ L S M _ K => match S with
  | .inl x :: S' => swk x d (fun g => K g L S' M) tb
  | _ => False
-- calls and ends
def i_cs (y k n : Nat) : Ins := fun C L S M _ K => cond (Nat.ble (cats (dr k S)) 8 && Nat.ble k S.length && al1 (ag k S [])) (C y (ag k S []) M (fun r M' => K n L (r.toList ++ dr k S) M')) False
def i_cv (y k c n : Nat) : Ins := fun C L S M _ K => match ag k S [] with
  | .inr (.inr (a, t)) :: r => cond (Nat.ble (cats (dr k S)) 8 && Nat.ble k S.length && al1 r && Nat.beq (acl a) c) (C y (.inr (.inr (a, t)) :: r) M (fun r M' => K n L (r.toList ++ dr k S) M')) False
  | _ => False
def i_ri : Ins := fun _ _ S M Q _ => match S with
  | [.inl v] => Q (some (.inl v)) M
  | _ => False
def i_rz : Ins := fun _ _ S M Q _ => match S with
  | [.inl v] => bz v = v ∧ Q (some (.inl v)) M
  | _ => False
def i_rl : Ins := fun _ _ S M Q _ => match S with
  | [.inr (.inl v)] => Q (some (.inr (.inl v))) M
  | _ => False
def i_rv : Ins := fun _ _ S M Q _ => match S with
  | [] => Q none M
  | _ => False
-- the run
def ft : List (Nat × Ins) → Nat → Ins
  | [], _ => fun _ _ _ _ _ _ => False
  | (q, i) :: r, pc => cond (Nat.beq q pc) i (ft r pc)
def el : Nat → List Nat → Bool
  | _, [] => false
  | p, q :: r => cond (Nat.beq p q) true (el p r)
def run (tb : List (Nat × Ins)) (C : CP) (Q : RP) (P : KP) (st : List Nat) : Nat → KP
  | 0 => P
  | n + 1 => fun pc L S M => cond (el pc st) (P pc L S M) (ft tb pc C L S M Q (run tb C Q P st n))
/-- P is closed under the table's steps, any number of them, to the next stop -/
abbrev Go (tb : List (Nat × Ins)) (C : CP) (Q : RP) (P : KP) : Prop := ∀ (st : List Nat) (n pc : Nat) (L : List (Option AV)) (S : List AV) (M : AM), ft tb pc C L S M Q (run tb C Q P st n) → P pc L S M
/-- C is closed under the methods: what every closed P says at the entry holds of the call -/
abbrev Cl1 (C : Nat → CP) (y : Nat) (tb : List (Nat × Ins)) : Prop := ∀ (d : Nat) (As : List AV) (M : AM) (Q : RP), (∀ P : KP, Go tb (C d) Q P → P 0 (As.map some) [] M) → C (d + 1) y As M Q
end
section
-- written by wip/whole/gen.py: the numbers of the methods, and their tables
abbrev n_X0_empty : Nat := 0
abbrev n_X0_copyFrom : Nat := 1
abbrev n_X0_sitter : Nat := 2
abbrev n_X0_seat : Nat := 3
abbrev n_X1_bitsOf : Nat := 4
abbrev n_X2_empty : Nat := 5
abbrev n_X2_copyFrom : Nat := 6
abbrev n_X2_hasRoom : Nat := 7
abbrev n_X2_has : Nat := 8
abbrev n_X2_add : Nat := 9
abbrev n_X2_lowerTo : Nat := 10
abbrev n_X2_takeOut : Nat := 11
abbrev n_X2_joinAll : Nat := 12
abbrev n_X2_settleAll : Nat := 13
abbrev n_X2_findPair : Nat := 14
abbrev n_X2_linkTwo : Nat := 15
abbrev n_X2_cutOff : Nat := 16
abbrev n_X2_freeChildren : Nat := 17
abbrev n_X2_makeRoot : Nat := 18
abbrev n_X2_besideBefore : Nat := 19
abbrev n_X2_isSooner : Nat := 20
abbrev n_X2_isRoot : Nat := 21
abbrev n_X2_count : Nat := 22
abbrev n_X2_links : Nat := 23
abbrev n_X2_cuts : Nat := 24
abbrev n_X2_kindOf : Nat := 25
abbrev n_X2_keyOf : Nat := 26
abbrev n_X2_aboveOf : Nat := 27
abbrev n_X2_rankOf : Nat := 28
abbrev n_X2_isStanding : Nat := 29
abbrev n_X2_isLoose : Nat := 30
abbrev n_X2_soonest : Nat := 31
abbrev n_X2_standingCount : Nat := 32
abbrev n_X2_standingAt : Nat := 33
abbrev n_X2_rootCount : Nat := 34
abbrev n_X2_looseCount : Nat := 35
abbrev n_X2_looseOfRank : Nat := 36
abbrev n_X2_greatestRank : Nat := 37
abbrev n_X2_longestRow : Nat := 38
abbrev n_X2_depthOf : Nat := 39
abbrev n_X2_sizeOf : Nat := 40
abbrev n_X2_isWithin : Nat := 41
abbrev n_X2_childAt : Nat := 42
abbrev n_X2_sumOfKeys : Nat := 43
abbrev n_X3_isKept : Nat := 44
abbrev n_X3_store : Nat := 45
abbrev n_X3_restore : Nat := 46
abbrev n_X4_begin : Nat := 47
abbrev n_X4_draw : Nat := 48
abbrev n_X5_layOut : Nat := 49
abbrev n_X5_hasRoom : Nat := 50
abbrev n_X5_hasPlace : Nat := 51
abbrev n_X5_add : Nat := 52
abbrev n_X5_places : Nat := 53
abbrev n_X5_count : Nat := 54
abbrev n_X5_grow : Nat := 55
abbrev n_X5_begin : Nat := 56
abbrev n_X5_spread : Nat := 57
abbrev n_X5_acrossFrom : Nat := 58
abbrev n_X5_isReached : Nat := 59
abbrev n_X5_weightOfTree : Nat := 60
abbrev n_X5_roadsOfTree : Nat := 61
abbrev n_X5_links : Nat := 62
abbrev n_X5_cuts : Nat := 63
abbrev n_X5_lowerings : Nat := 64
abbrev n_X5_distanceTo : Nat := 65
abbrev n_X5_reachedCount : Nat := 66
abbrev n_X6_put : Nat := 67
abbrev n_X6_lower : Nat := 68
abbrev n_X6_take : Nat := 69
abbrev n_X6_drop : Nat := 70
abbrev n_X6_join : Nat := 71
abbrev n_X6_clear : Nat := 72
abbrev n_X6_drift : Nat := 73
abbrev n_X6_told : Nat := 74
abbrev n_X6_job : Nat := 75
abbrev n_X6_child : Nat := 76
abbrev n_X6_loose : Nat := 77
abbrev n_X6_bits : Nat := 78
abbrev n_X6_sit : Nat := 79
abbrev n_X6_sits : Nat := 80
abbrev n_X6_net : Nat := 81
abbrev n_X6_road : Nat := 82
abbrev n_X6_tree : Nat := 83
abbrev n_X6_way : Nat := 84
abbrev n_X6_ways : Nat := 85
abbrev n_X6_keep : Nat := 86
abbrev n_X6_goBack : Nat := 87
abbrev n_X6_driftOnce : Nat := 88
abbrev n_X6_putByLots : Nat := 89
abbrev n_X6_lowerByLots : Nat := 90
abbrev n_X6_takeByLots : Nat := 91
abbrev n_X6_between : Nat := 92
abbrev n_X6_isKey : Nat := 93
abbrev n_X6_flag : Nat := 94
abbrev n_X7_in : Nat := 95
abbrev n_X7_own : Nat := 96
abbrev n_X7_isSooner : Nat := 97
abbrev n_X7_rank : Nat := 98
abbrev n_X7_link : Nat := 99
abbrev n_X7_cut : Nat := 100
abbrev n_X7_isOf : Nat := 101
abbrev n_X7_ofRank : Nat := 102
abbrev n_X7_twice : Nat := 103
abbrev n_X7_settle : Nat := 104
abbrev n_X7_joinAll : Nat := 105
abbrev n_X7_add : Nat := 106
abbrev n_X7_lowerTo : Nat := 107
abbrev n_X7_remove : Nat := 108
abbrev n_X7_soonest : Nat := 109
abbrev n_X7_standing : Nat := 110
abbrev n_X7_isJob : Nat := 111
abbrev n_X7_put : Nat := 112
abbrev n_X7_lower : Nat := 113
abbrev n_X7_take : Nat := 114
abbrev n_X7_drop : Nat := 115
abbrev n_X7_join : Nat := 116
abbrev n_X7_clear : Nat := 117
abbrev n_X7_standingAt : Nat := 118
abbrev n_X7_drawn : Nat := 119
abbrev n_X7_lot : Nat := 120
abbrev n_X7_drift : Nat := 121
abbrev n_X7_depth : Nat := 122
abbrev n_X7_isUnder : Nat := 123
abbrev n_X7_many : Nat := 124
abbrev n_X7_told : Nat := 125
abbrev n_X7_under : Nat := 126
abbrev n_X7_power : Nat := 127
abbrev n_X7_bitsOf : Nat := 128
abbrev n_X7_job : Nat := 129
abbrev n_X7_child : Nat := 130
abbrev n_X7_loose : Nat := 131
abbrev n_X7_bits : Nat := 132
abbrev n_X7_sit : Nat := 133
abbrev n_X7_sits : Nat := 134
abbrev n_X7_net : Nat := 135
abbrev n_X7_isPlace : Nat := 136
abbrev n_X7_road : Nat := 137
abbrev n_X7_goFrom : Nat := 138
abbrev n_X7_lay : Nat := 139
abbrev n_X7_hanging : Nat := 140
abbrev n_X7_tree : Nat := 141
abbrev n_X7_way : Nat := 142
abbrev n_X7_ways : Nat := 143
abbrev n_X7_keep : Nat := 144
abbrev n_X7_goBack : Nat := 145
abbrev n_J7_fill_53178 : Nat := 146
def tb_X0_empty : List (Nat × Ins) := [
  (0, i_la 0 1), (1, i_gR 0 (fun t => (12, t)) 4), (4, i_c (-1) 5), (5, i_cs n_J7_fill_53178 2 8),
  (8, i_rv)]
def tb_X0_copyFrom : List (Nat × Ins) := [
  (0, i_la 1 1), (1, i_gR 0 (fun t => (12, t)) 4), (4, i_c 0 5), (5, i_la 0 6),
  (6, i_gR 0 (fun t => (12, t)) 9), (9, i_c 0 10), (10, i_c 16 12), (12, i_acp 15),
  (15, i_rv)]
def tb_X0_sitter : List (Nat × Ins) := [
  (0, i_la 0 1), (1, i_gR 0 (fun t => (12, t)) 4), (4, i_li 1 5), (5, i_c 8 7),
  (7, i_mul 8), (8, i_li 2 9), (9, i_add 10), (10, i_ia 11),
  (11, i_ri)]
def tb_X0_seat : List (Nat × Ins) := [
  (0, i_la 0 1), (1, i_li 1 2), (2, i_li 2 3), (3, i_cv n_X0_sitter 3 0 6),
  (6, i_st 4 8), (8, i_c 0 9), (9, i_st 5 11), (11, i_li 5 13),
  (13, i_c 16 15), (15, i_ic_ge 43 18), (18, i_la 0 19), (19, i_gR 0 (fun t => (12, t)) 22),
  (22, i_li 5 24), (24, i_ia 25), (25, i_li 3 26), (26, i_ic_ne 37 29),
  (29, i_la 0 30), (30, i_gR 0 (fun t => (12, t)) 33), (33, i_li 5 35), (35, i_c (-1) 36),
  (36, i_is 37), (37, i_inc 5 1 40), (40, i_go 11), (43, i_la 0 44),
  (44, i_gR 0 (fun t => (12, t)) 47), (47, i_li 1 48), (48, i_c 8 50), (50, i_mul 51),
  (51, i_li 2 52), (52, i_add 53), (53, i_li 3 54), (54, i_is 55),
  (55, i_li 4 57), (57, i_ri)]
def tb_X1_bitsOf : List (Nat × Ins) := [
  (0, i_li 0 1), (1, i_if_ne 6 4), (4, i_cl 0 5), (5, i_rl),
  (6, i_li 0 7), (7, i_2l 8), (8, l_abs 11), (11, i_st2 3 12),
  (12, i_c 0 13), (13, i_st 5 15), (15, i_c 0 16), (16, i_st 6 18),
  (18, i_li 6 20), (20, i_c 20 22), (22, i_ic_ge 44 25), (25, i_ll 3 26),
  (26, i_li 6 28), (28, l_shr 29), (29, i_cl 0 30), (30, l_cmp 31),
  (31, i_if_eq 38 34), (34, i_li 6 36), (36, i_st 5 38), (38, i_inc 6 1 41),
  (41, i_go 18), (44, i_li 0 45), (45, i_if_ge 52 48), (48, i_cl 1 49),
  (49, i_go 53), (52, i_cl 0 53), (53, i_st2 6 55), (55, i_li 5 57),
  (57, i_c (-4) 59), (59, i_add 60), (60, i_2l 61), (61, i_cl 1 62),
  (62, i_li 1 63), (63, i_c 1 64), (64, i_sub 65), (65, l_shl 66),
  (66, l_add 67), (67, i_cl 1 68), (68, l_sub 69), (69, i_st2 8 71),
  (71, i_ll 3 72), (72, i_cl 1 73), (73, i_li 5 75), (75, l_shl 76),
  (76, l_sub 77), (77, i_li 2 78), (78, i_li 5 80), (80, i_sub 81),
  (81, l_shl 82), (82, i_st2 10 84), (84, i_ll 6 86), (86, i_li 1 87),
  (87, i_li 2 88), (88, i_add 89), (89, l_shl 90), (90, i_ll 8 92),
  (92, i_li 2 93), (93, l_shl 94), (94, l_or 95), (95, i_ll 10 97),
  (97, l_or 98), (98, i_rl)]
def tb_X2_empty : List (Nat × Ins) := [
  (0, i_la 0 1), (1, i_c 0 2), (2, i_pI 1 10 5), (5, i_la 0 6),
  (6, i_c 0 7), (7, i_pI 1 11 10), (10, i_la 0 11), (11, i_c 0 12),
  (12, i_pI 1 12 15), (15, i_rv)]
def tb_X2_copyFrom : List (Nat × Ins) := [
  (0, i_la 1 1), (1, i_gI 1 10 4), (4, i_la 0 5), (5, i_gI 1 0 8),
  (8, i_min 11), (11, i_st 2 12), (12, i_la 0 13), (13, i_li 2 14),
  (14, i_pI 1 10 17), (17, i_la 0 18), (18, i_la 1 19), (19, i_gI 1 11 22),
  (22, i_pI 1 11 25), (25, i_la 0 26), (26, i_la 1 27), (27, i_gI 1 12 30),
  (30, i_pI 1 12 33), (33, i_c 0 34), (34, i_st 3 35), (35, i_li 3 36),
  (36, i_li 2 37), (37, i_ic_ge 142 40), (40, i_la 0 41), (41, i_gR 1 (fun t => (2, t)) 44),
  (44, i_li 3 45), (45, i_la 1 46), (46, i_gR 1 (fun t => (2, t)) 49), (49, i_li 3 50),
  (50, i_ia 51), (51, i_is 52), (52, i_la 0 53), (53, i_gR 1 (fun t => (3, t)) 56),
  (56, i_li 3 57), (57, i_la 1 58), (58, i_gR 1 (fun t => (3, t)) 61), (61, i_li 3 62),
  (62, i_ia 63), (63, i_is 64), (64, i_la 0 65), (65, i_gR 1 (fun t => (4, t)) 68),
  (68, i_li 3 69), (69, i_la 1 70), (70, i_gR 1 (fun t => (4, t)) 73), (73, i_li 3 74),
  (74, i_ia 75), (75, i_is 76), (76, i_la 0 77), (77, i_gR 1 (fun t => (5, t)) 80),
  (80, i_li 3 81), (81, i_la 1 82), (82, i_gR 1 (fun t => (5, t)) 85), (85, i_li 3 86),
  (86, i_ia 87), (87, i_is 88), (88, i_la 0 89), (89, i_gR 1 (fun t => (6, t)) 92),
  (92, i_li 3 93), (93, i_la 1 94), (94, i_gR 1 (fun t => (6, t)) 97), (97, i_li 3 98),
  (98, i_ia 99), (99, i_is 100), (100, i_la 0 101), (101, i_gR 1 (fun t => (7, t)) 104),
  (104, i_li 3 105), (105, i_la 1 106), (106, i_gR 1 (fun t => (7, t)) 109), (109, i_li 3 110),
  (110, i_ia 111), (111, i_is 112), (112, i_la 0 113), (113, i_gR 1 (fun t => (8, t)) 116),
  (116, i_li 3 117), (117, i_la 1 118), (118, i_gR 1 (fun t => (8, t)) 121), (121, i_li 3 122),
  (122, i_ba 123), (123, i_bs 124), (124, i_la 0 125), (125, i_gR 1 (fun t => (9, t)) 128),
  (128, i_li 3 129), (129, i_la 1 130), (130, i_gR 1 (fun t => (9, t)) 133), (133, i_li 3 134),
  (134, i_ba 135), (135, i_bs 136), (136, i_inc 3 1 139), (139, i_go 35),
  (142, i_rv)]
def tb_X2_hasRoom : List (Nat × Ins) := [
  (0, i_la 0 1), (1, i_gI 1 10 4), (4, i_la 0 5), (5, i_gI 1 0 8),
  (8, i_ic_ge 15 11), (11, i_c 1 12), (12, i_go 16), (15, i_c 0 16),
  (16, i_rz)]
def tb_X2_has : List (Nat × Ins) := [
  (0, i_li 1 1), (1, i_if_lt 16 4), (4, i_li 1 5), (5, i_la 0 6),
  (6, i_gI 1 10 9), (9, i_ic_ge 16 12), (12, i_c 1 13), (13, i_go 17),
  (16, i_c 0 17), (17, i_rz)]
def tb_X2_add : List (Nat × Ins) := [
  (0, i_la 0 1), (1, i_cv n_X2_hasRoom 1 1 4), (4, i_if_ne 10 7), (7, i_c (-1000000004) 9),
  (9, i_ri), (10, i_la 0 11), (11, i_gI 1 10 14), (14, i_st 3 15),
  (15, i_la 0 16), (16, i_dup 17), (17, i_gI 1 10 20), (20, i_c 1 21),
  (21, i_add 22), (22, i_pI 1 10 25), (25, i_la 0 26), (26, i_gR 1 (fun t => (2, t)) 29),
  (29, i_li 3 30), (30, i_li 1 31), (31, i_is 32), (32, i_la 0 33),
  (33, i_gR 1 (fun t => (3, t)) 36), (36, i_li 3 37), (37, i_li 2 38), (38, i_is 39),
  (39, i_la 0 40), (40, i_gR 1 (fun t => (4, t)) 43), (43, i_li 3 44), (44, i_c (-1) 45),
  (45, i_is 46), (46, i_la 0 47), (47, i_gR 1 (fun t => (5, t)) 50), (50, i_li 3 51),
  (51, i_c 0 52), (52, i_is 53), (53, i_la 0 54), (54, i_gR 1 (fun t => (6, t)) 57),
  (57, i_li 3 58), (58, i_c (-1) 59), (59, i_is 60), (60, i_la 0 61),
  (61, i_gR 1 (fun t => (8, t)) 64), (64, i_li 3 65), (65, i_c 1 66), (66, i_bs 67),
  (67, i_la 0 68), (68, i_gR 1 (fun t => (9, t)) 71), (71, i_li 3 72), (72, i_c 0 73),
  (73, i_bs 74), (74, i_li 3 75), (75, i_ri)]
def tb_X2_lowerTo : List (Nat × Ins) := [
  (0, i_la 0 1), (1, i_gR 1 (fun t => (3, t)) 4), (4, i_li 1 5), (5, i_li 2 6),
  (6, i_is 7), (7, i_la 0 8), (8, i_gR 1 (fun t => (4, t)) 11), (11, i_li 1 12),
  (12, i_ia 13), (13, i_c (-1) 14), (14, i_ic_eq 42 17), (17, i_la 0 18),
  (18, i_li 1 19), (19, i_la 0 20), (20, i_gR 1 (fun t => (4, t)) 23), (23, i_li 1 24),
  (24, i_ia 25), (25, i_cv n_X2_isSooner 3 1 28), (28, i_if_eq 42 31), (31, i_la 0 32),
  (32, i_gR 1 (fun t => (9, t)) 35), (35, i_li 1 36), (36, i_c 1 37), (37, i_bs 38),
  (38, i_la 0 39), (39, i_cv n_X2_settleAll 1 1 42), (42, i_rv)]
def tb_X2_takeOut : List (Nat × Ins) := [
  (0, i_la 0 1), (1, i_gR 1 (fun t => (4, t)) 4), (4, i_li 1 5), (5, i_ia 6),
  (6, i_c (-1) 7), (7, i_ic_eq 15 10), (10, i_la 0 11), (11, i_li 1 12),
  (12, i_cv n_X2_cutOff 2 1 15), (15, i_la 0 16), (16, i_li 1 17), (17, i_cv n_X2_freeChildren 2 1 20),
  (20, i_la 0 21), (21, i_gR 1 (fun t => (8, t)) 24), (24, i_li 1 25), (25, i_c 0 26),
  (26, i_bs 27), (27, i_la 0 28), (28, i_cv n_X2_settleAll 1 1 31), (31, i_la 0 32),
  (32, i_cv n_X2_joinAll 1 1 35), (35, i_pop 36), (36, i_rv)]
def tb_X2_joinAll : List (Nat × Ins) := [
  (0, i_la 0 1), (1, i_gI 1 11 4), (4, i_st 1 5), (5, i_c 0 6),
  (6, i_st 2 7), (7, i_li 2 8), (8, i_la 0 9), (9, i_gI 1 0 12),
  (12, i_ic_ge 41 15), (15, i_la 0 16), (16, i_c 0 17), (17, i_cv n_X2_findPair 2 1 20),
  (20, i_if_eq 41 23), (23, i_la 0 24), (24, i_la 0 25), (25, i_gI 1 13 28),
  (28, i_la 0 29), (29, i_gI 1 14 32), (32, i_cv n_X2_linkTwo 3 1 35), (35, i_inc 2 1 38),
  (38, i_go 7), (41, i_la 0 42), (42, i_gI 1 11 45), (45, i_li 1 46),
  (46, i_sub 47), (47, i_ri)]
def tb_X2_settleAll : List (Nat × Ins) := [
  (0, i_c 0 1), (1, i_st 1 2), (2, i_li 1 3), (3, i_la 0 4),
  (4, i_gI 1 0 7), (7, i_ic_ge 52 10), (10, i_la 0 11), (11, i_c 1 12),
  (12, i_cv n_X2_findPair 2 1 15), (15, i_if_eq 52 18), (18, i_la 0 19), (19, i_la 0 20),
  (20, i_gI 1 13 23), (23, i_cv n_X2_cutOff 2 1 26), (26, i_la 0 27), (27, i_la 0 28),
  (28, i_gI 1 14 31), (31, i_cv n_X2_cutOff 2 1 34), (34, i_la 0 35), (35, i_la 0 36),
  (36, i_gI 1 13 39), (39, i_la 0 40), (40, i_gI 1 14 43), (43, i_cv n_X2_linkTwo 3 1 46),
  (46, i_inc 1 1 49), (49, i_go 2), (52, i_rv)]
def tb_X2_findPair : List (Nat × Ins) := [
  (0, i_la 0 1), (1, i_gR 1 (fun t => (10, t)) 4), (4, i_c (-1) 5), (5, i_cs n_J7_fill_53178 2 8),
  (8, i_la 0 9), (9, i_gI 1 0 12), (12, i_st 2 13), (13, i_c 0 14),
  (14, i_st 3 15), (15, i_li 3 16), (16, i_la 0 17), (17, i_gI 1 10 20),
  (20, i_ic_ge 108 23), (23, i_li 1 24), (24, i_if_eq 39 27), (27, i_la 0 28),
  (28, i_gR 1 (fun t => (9, t)) 31), (31, i_li 3 32), (32, i_ba 33), (33, i_if_eq 102 36),
  (36, i_go 47), (39, i_la 0 40), (40, i_li 3 41), (41, i_cv n_X2_isRoot 2 1 44),
  (44, i_if_eq 102 47), (47, i_la 0 48), (48, i_gR 1 (fun t => (5, t)) 51), (51, i_li 3 52),
  (52, i_ia 53), (53, i_st 4 55), (55, i_la 0 56), (56, i_gR 1 (fun t => (10, t)) 59),
  (59, i_li 4 61), (61, i_ia 62), (62, i_c (-1) 63), (63, i_ic_ne 77 66),
  (66, i_la 0 67), (67, i_gR 1 (fun t => (10, t)) 70), (70, i_li 4 72), (72, i_li 3 73),
  (73, i_is 74), (74, i_go 102), (77, i_li 4 79), (79, i_li 2 80),
  (80, i_ic_ge 102 83), (83, i_li 4 85), (85, i_st 2 86), (86, i_la 0 87),
  (87, i_la 0 88), (88, i_gR 1 (fun t => (10, t)) 91), (91, i_li 4 93), (93, i_ia 94),
  (94, i_pI 1 13 97), (97, i_la 0 98), (98, i_li 3 99), (99, i_pI 1 14 102),
  (102, i_inc 3 1 105), (105, i_go 15), (108, i_li 2 109), (109, i_la 0 110),
  (110, i_gI 1 0 113), (113, i_ic_ge 120 116), (116, i_c 1 117), (117, i_go 121),
  (120, i_c 0 121), (121, i_rz)]
def tb_X2_linkTwo : List (Nat × Ins) := [
  (0, i_la 0 1), (1, i_li 1 2), (2, i_li 2 3), (3, i_cv n_X2_isSooner 3 1 6),
  (6, i_if_eq 13 9), (9, i_li 1 10), (10, i_go 14), (13, i_li 2 14),
  (14, i_st 3 15), (15, i_li 3 16), (16, i_li 1 17), (17, i_ic_ne 24 20),
  (20, i_li 2 21), (21, i_go 25), (24, i_li 1 25), (25, i_st 4 27),
  (27, i_la 0 28), (28, i_li 3 29), (29, i_c (-1) 30), (30, i_cv n_X2_besideBefore 3 1 33),
  (33, i_st 5 35), (35, i_li 5 37), (37, i_c (-1) 38), (38, i_ic_ne 52 41),
  (41, i_la 0 42), (42, i_gR 1 (fun t => (6, t)) 45), (45, i_li 3 46), (46, i_li 4 48),
  (48, i_is 49), (49, i_go 61), (52, i_la 0 53), (53, i_gR 1 (fun t => (7, t)) 56),
  (56, i_li 5 58), (58, i_li 4 60), (60, i_is 61), (61, i_la 0 62),
  (62, i_gR 1 (fun t => (7, t)) 65), (65, i_li 4 67), (67, i_c (-1) 68), (68, i_is 69),
  (69, i_la 0 70), (70, i_gR 1 (fun t => (4, t)) 73), (73, i_li 4 75), (75, i_li 3 76),
  (76, i_is 77), (77, i_la 0 78), (78, i_gR 1 (fun t => (5, t)) 81), (81, i_li 3 82),
  (82, i_dup2 83), (83, i_ia 84), (84, i_c 1 85), (85, i_add 86),
  (86, i_is 87), (87, i_la 0 88), (88, i_dup 89), (89, i_gI 1 11 92),
  (92, i_c 1 93), (93, i_add 94), (94, i_pI 1 11 97), (97, i_rv)]
def tb_X2_cutOff : List (Nat × Ins) := [
  (0, i_la 0 1), (1, i_gR 1 (fun t => (4, t)) 4), (4, i_li 1 5), (5, i_ia 6),
  (6, i_st 2 7), (7, i_li 2 8), (8, i_c (-1) 9), (9, i_ic_ne 13 12),
  (12, i_rv), (13, i_la 0 14), (14, i_li 2 15), (15, i_li 1 16),
  (16, i_cv n_X2_besideBefore 3 1 19), (19, i_st 3 20), (20, i_li 3 21), (21, i_c (-1) 22),
  (22, i_ic_ne 40 25), (25, i_la 0 26), (26, i_gR 1 (fun t => (6, t)) 29), (29, i_li 2 30),
  (30, i_la 0 31), (31, i_gR 1 (fun t => (7, t)) 34), (34, i_li 1 35), (35, i_ia 36),
  (36, i_is 37), (37, i_go 52), (40, i_la 0 41), (41, i_gR 1 (fun t => (7, t)) 44),
  (44, i_li 3 45), (45, i_la 0 46), (46, i_gR 1 (fun t => (7, t)) 49), (49, i_li 1 50),
  (50, i_ia 51), (51, i_is 52), (52, i_la 0 53), (53, i_gR 1 (fun t => (5, t)) 56),
  (56, i_li 2 57), (57, i_dup2 58), (58, i_ia 59), (59, i_c 1 60),
  (60, i_sub 61), (61, i_is 62), (62, i_la 0 63), (63, i_li 1 64),
  (64, i_cv n_X2_makeRoot 2 1 67), (67, i_la 0 68), (68, i_dup 69), (69, i_gI 1 12 72),
  (72, i_c 1 73), (73, i_add 74), (74, i_pI 1 12 77), (77, i_rv)]
def tb_X2_freeChildren : List (Nat × Ins) := [
  (0, i_la 0 1), (1, i_gR 1 (fun t => (6, t)) 4), (4, i_li 1 5), (5, i_ia 6),
  (6, i_st 2 7), (7, i_c 0 8), (8, i_st 3 9), (9, i_li 3 10),
  (10, i_la 0 11), (11, i_gI 1 0 14), (14, i_ic_ge 44 17), (17, i_li 2 18),
  (18, i_c (-1) 19), (19, i_ic_eq 44 22), (22, i_la 0 23), (23, i_gR 1 (fun t => (7, t)) 26),
  (26, i_li 2 27), (27, i_ia 28), (28, i_st 4 30), (30, i_la 0 31),
  (31, i_li 2 32), (32, i_cv n_X2_makeRoot 2 1 35), (35, i_li 4 37), (37, i_st 2 38),
  (38, i_inc 3 1 41), (41, i_go 9), (44, i_la 0 45), (45, i_gR 1 (fun t => (6, t)) 48),
  (48, i_li 1 49), (49, i_c (-1) 50), (50, i_is 51), (51, i_la 0 52),
  (52, i_gR 1 (fun t => (5, t)) 55), (55, i_li 1 56), (56, i_c 0 57), (57, i_is 58),
  (58, i_rv)]
def tb_X2_makeRoot : List (Nat × Ins) := [
  (0, i_la 0 1), (1, i_gR 1 (fun t => (4, t)) 4), (4, i_li 1 5), (5, i_c (-1) 6),
  (6, i_is 7), (7, i_la 0 8), (8, i_gR 1 (fun t => (9, t)) 11), (11, i_li 1 12),
  (12, i_c 0 13), (13, i_bs 14), (14, i_rv)]
def tb_X2_besideBefore : List (Nat × Ins) := [
  (0, i_c (-1) 1), (1, i_st 3 2), (2, i_la 0 3), (3, i_gR 1 (fun t => (6, t)) 6),
  (6, i_li 1 7), (7, i_ia 8), (8, i_st 4 10), (10, i_c 0 11),
  (11, i_st 5 13), (13, i_li 5 15), (15, i_la 0 16), (16, i_gI 1 0 19),
  (19, i_ic_ge 52 22), (22, i_li 4 24), (24, i_c (-1) 25), (25, i_ic_eq 52 28),
  (28, i_li 4 30), (30, i_li 2 31), (31, i_ic_eq 52 34), (34, i_li 4 36),
  (36, i_st 3 37), (37, i_la 0 38), (38, i_gR 1 (fun t => (7, t)) 41), (41, i_li 4 43),
  (43, i_ia 44), (44, i_st 4 46), (46, i_inc 5 1 49), (49, i_go 13),
  (52, i_li 3 53), (53, i_ri)]
def tb_X2_isSooner : List (Nat × Ins) := [
  (0, i_la 0 1), (1, i_gR 1 (fun t => (3, t)) 4), (4, i_li 1 5), (5, i_ia 6),
  (6, i_la 0 7), (7, i_gR 1 (fun t => (3, t)) 10), (10, i_li 2 11), (11, i_ia 12),
  (12, i_ic_lt 35 15), (15, i_la 0 16), (16, i_gR 1 (fun t => (3, t)) 19), (19, i_li 1 20),
  (20, i_ia 21), (21, i_la 0 22), (22, i_gR 1 (fun t => (3, t)) 25), (25, i_li 2 26),
  (26, i_ia 27), (27, i_ic_ne 39 30), (30, i_li 1 31), (31, i_li 2 32),
  (32, i_ic_ge 39 35), (35, i_c 1 36), (36, i_go 40), (39, i_c 0 40),
  (40, i_rz)]
def tb_X2_isRoot : List (Nat × Ins) := [
  (0, i_la 0 1), (1, i_gR 1 (fun t => (8, t)) 4), (4, i_li 1 5), (5, i_ba 6),
  (6, i_if_eq 23 9), (9, i_la 0 10), (10, i_gR 1 (fun t => (4, t)) 13), (13, i_li 1 14),
  (14, i_ia 15), (15, i_c (-1) 16), (16, i_ic_ne 23 19), (19, i_c 1 20),
  (20, i_go 24), (23, i_c 0 24), (24, i_rz)]
def tb_X2_count : List (Nat × Ins) := [
  (0, i_la 0 1), (1, i_gI 1 10 4), (4, i_ri)]
def tb_X2_links : List (Nat × Ins) := [
  (0, i_la 0 1), (1, i_gI 1 11 4), (4, i_ri)]
def tb_X2_cuts : List (Nat × Ins) := [
  (0, i_la 0 1), (1, i_gI 1 12 4), (4, i_ri)]
def tb_X2_kindOf : List (Nat × Ins) := [
  (0, i_la 0 1), (1, i_gR 1 (fun t => (2, t)) 4), (4, i_li 1 5), (5, i_ia 6),
  (6, i_ri)]
def tb_X2_keyOf : List (Nat × Ins) := [
  (0, i_la 0 1), (1, i_gR 1 (fun t => (3, t)) 4), (4, i_li 1 5), (5, i_ia 6),
  (6, i_ri)]
def tb_X2_aboveOf : List (Nat × Ins) := [
  (0, i_la 0 1), (1, i_gR 1 (fun t => (4, t)) 4), (4, i_li 1 5), (5, i_ia 6),
  (6, i_ri)]
def tb_X2_rankOf : List (Nat × Ins) := [
  (0, i_la 0 1), (1, i_gR 1 (fun t => (5, t)) 4), (4, i_li 1 5), (5, i_ia 6),
  (6, i_ri)]
def tb_X2_isStanding : List (Nat × Ins) := [
  (0, i_la 0 1), (1, i_gR 1 (fun t => (8, t)) 4), (4, i_li 1 5), (5, i_ba 6),
  (6, i_rz)]
def tb_X2_isLoose : List (Nat × Ins) := [
  (0, i_la 0 1), (1, i_gR 1 (fun t => (9, t)) 4), (4, i_li 1 5), (5, i_ba 6),
  (6, i_rz)]
def tb_X2_soonest : List (Nat × Ins) := [
  (0, i_c (-1) 1), (1, i_st 1 2), (2, i_c 0 3), (3, i_st 2 4),
  (4, i_li 2 5), (5, i_la 0 6), (6, i_gI 1 10 9), (9, i_ic_ge 43 12),
  (12, i_la 0 13), (13, i_gR 1 (fun t => (8, t)) 16), (16, i_li 2 17), (17, i_ba 18),
  (18, i_if_eq 37 21), (21, i_li 1 22), (22, i_c (-1) 23), (23, i_ic_eq 35 26),
  (26, i_la 0 27), (27, i_li 2 28), (28, i_li 1 29), (29, i_cv n_X2_isSooner 3 1 32),
  (32, i_if_eq 37 35), (35, i_li 2 36), (36, i_st 1 37), (37, i_inc 2 1 40),
  (40, i_go 4), (43, i_li 1 44), (44, i_ri)]
def tb_X2_standingCount : List (Nat × Ins) := [
  (0, i_c 0 1), (1, i_st 1 2), (2, i_c 0 3), (3, i_st 2 4),
  (4, i_li 2 5), (5, i_la 0 6), (6, i_gI 1 10 9), (9, i_ic_ge 30 12),
  (12, i_la 0 13), (13, i_gR 1 (fun t => (8, t)) 16), (16, i_li 2 17), (17, i_ba 18),
  (18, i_if_eq 24 21), (21, i_inc 1 1 24), (24, i_inc 2 1 27), (27, i_go 4),
  (30, i_li 1 31), (31, i_ri)]
def tb_X2_standingAt : List (Nat × Ins) := [
  (0, i_li 1 1), (1, i_st 2 2), (2, i_c 0 3), (3, i_st 3 4),
  (4, i_li 3 5), (5, i_la 0 6), (6, i_gI 1 10 9), (9, i_ic_ge 36 12),
  (12, i_la 0 13), (13, i_gR 1 (fun t => (8, t)) 16), (16, i_li 3 17), (17, i_ba 18),
  (18, i_if_eq 30 21), (21, i_li 2 22), (22, i_if_ne 27 25), (25, i_li 3 26),
  (26, i_ri), (27, i_inc 2 (-1) 30), (30, i_inc 3 1 33), (33, i_go 4),
  (36, i_c (-1) 37), (37, i_ri)]
def tb_X2_rootCount : List (Nat × Ins) := [
  (0, i_c 0 1), (1, i_st 1 2), (2, i_c 0 3), (3, i_st 2 4),
  (4, i_li 2 5), (5, i_la 0 6), (6, i_gI 1 10 9), (9, i_ic_ge 29 12),
  (12, i_la 0 13), (13, i_li 2 14), (14, i_cv n_X2_isRoot 2 1 17), (17, i_if_eq 23 20),
  (20, i_inc 1 1 23), (23, i_inc 2 1 26), (26, i_go 4), (29, i_li 1 30),
  (30, i_ri)]
def tb_X2_looseCount : List (Nat × Ins) := [
  (0, i_c 0 1), (1, i_st 1 2), (2, i_c 0 3), (3, i_st 2 4),
  (4, i_li 2 5), (5, i_la 0 6), (6, i_gI 1 10 9), (9, i_ic_ge 30 12),
  (12, i_la 0 13), (13, i_gR 1 (fun t => (9, t)) 16), (16, i_li 2 17), (17, i_ba 18),
  (18, i_if_eq 24 21), (21, i_inc 1 1 24), (24, i_inc 2 1 27), (27, i_go 4),
  (30, i_li 1 31), (31, i_ri)]
def tb_X2_looseOfRank : List (Nat × Ins) := [
  (0, i_c 0 1), (1, i_st 2 2), (2, i_li 2 3), (3, i_la 0 4),
  (4, i_gI 1 10 7), (7, i_ic_ge 37 10), (10, i_la 0 11), (11, i_gR 1 (fun t => (9, t)) 14),
  (14, i_li 2 15), (15, i_ba 16), (16, i_if_eq 31 19), (19, i_la 0 20),
  (20, i_gR 1 (fun t => (5, t)) 23), (23, i_li 2 24), (24, i_ia 25), (25, i_li 1 26),
  (26, i_ic_ne 31 29), (29, i_li 2 30), (30, i_ri), (31, i_inc 2 1 34),
  (34, i_go 2), (37, i_c (-1) 38), (38, i_ri)]
def tb_X2_greatestRank : List (Nat × Ins) := [
  (0, i_c (-1) 1), (1, i_st 1 2), (2, i_c 0 3), (3, i_st 2 4),
  (4, i_li 2 5), (5, i_la 0 6), (6, i_gI 1 10 9), (9, i_ic_ge 38 12),
  (12, i_la 0 13), (13, i_gR 1 (fun t => (8, t)) 16), (16, i_li 2 17), (17, i_ba 18),
  (18, i_if_eq 32 21), (21, i_li 1 22), (22, i_la 0 23), (23, i_gR 1 (fun t => (5, t)) 26),
  (26, i_li 2 27), (27, i_ia 28), (28, i_max 31), (31, i_st 1 32),
  (32, i_inc 2 1 35), (35, i_go 4), (38, i_li 1 39), (39, i_ri)]
def tb_X2_longestRow : List (Nat × Ins) := [
  (0, i_c 0 1), (1, i_st 1 2), (2, i_c 0 3), (3, i_st 2 4),
  (4, i_li 2 5), (5, i_la 0 6), (6, i_gI 1 10 9), (9, i_ic_ge 39 12),
  (12, i_la 0 13), (13, i_gR 1 (fun t => (8, t)) 16), (16, i_li 2 17), (17, i_ba 18),
  (18, i_if_eq 33 21), (21, i_li 1 22), (22, i_la 0 23), (23, i_li 2 24),
  (24, i_cv n_X2_depthOf 2 1 27), (27, i_c 1 28), (28, i_add 29), (29, i_max 32),
  (32, i_st 1 33), (33, i_inc 2 1 36), (36, i_go 4), (39, i_li 1 40),
  (40, i_ri)]
def tb_X2_depthOf : List (Nat × Ins) := [
  (0, i_c 0 1), (1, i_st 2 2), (2, i_la 0 3), (3, i_gR 1 (fun t => (4, t)) 6),
  (6, i_li 1 7), (7, i_ia 8), (8, i_st 3 9), (9, i_li 2 10),
  (10, i_la 0 11), (11, i_gI 1 0 14), (14, i_ic_ge 35 17), (17, i_li 3 18),
  (18, i_c (-1) 19), (19, i_ic_eq 35 22), (22, i_inc 2 1 25), (25, i_la 0 26),
  (26, i_gR 1 (fun t => (4, t)) 29), (29, i_li 3 30), (30, i_ia 31), (31, i_st 3 32),
  (32, i_go 9), (35, i_li 2 36), (36, i_ri)]
def tb_X2_sizeOf : List (Nat × Ins) := [
  (0, i_c 0 1), (1, i_st 2 2), (2, i_c 0 3), (3, i_st 3 4),
  (4, i_li 3 5), (5, i_la 0 6), (6, i_gI 1 10 9), (9, i_ic_ge 39 12),
  (12, i_la 0 13), (13, i_gR 1 (fun t => (8, t)) 16), (16, i_li 3 17), (17, i_ba 18),
  (18, i_if_eq 33 21), (21, i_la 0 22), (22, i_li 3 23), (23, i_li 1 24),
  (24, i_cv n_X2_isWithin 3 1 27), (27, i_if_eq 33 30), (30, i_inc 2 1 33), (33, i_inc 3 1 36),
  (36, i_go 4), (39, i_li 2 40), (40, i_ri)]
def tb_X2_isWithin : List (Nat × Ins) := [
  (0, i_li 1 1), (1, i_st 3 2), (2, i_c 0 3), (3, i_st 4 5),
  (5, i_li 4 7), (7, i_la 0 8), (8, i_gI 1 0 11), (11, i_ic_ge 37 14),
  (14, i_li 3 15), (15, i_c (-1) 16), (16, i_ic_eq 37 19), (19, i_li 3 20),
  (20, i_li 2 21), (21, i_ic_eq 37 24), (24, i_la 0 25), (25, i_gR 1 (fun t => (4, t)) 28),
  (28, i_li 3 29), (29, i_ia 30), (30, i_st 3 31), (31, i_inc 4 1 34),
  (34, i_go 5), (37, i_li 3 38), (38, i_li 2 39), (39, i_ic_ne 46 42),
  (42, i_c 1 43), (43, i_go 47), (46, i_c 0 47), (47, i_rz)]
def tb_X2_childAt : List (Nat × Ins) := [
  (0, i_li 2 1), (1, i_la 0 2), (2, i_gR 1 (fun t => (5, t)) 5), (5, i_li 1 6),
  (6, i_ia 7), (7, i_ic_lt 12 10), (10, i_c (-1) 11), (11, i_ri),
  (12, i_la 0 13), (13, i_gR 1 (fun t => (6, t)) 16), (16, i_li 1 17), (17, i_ia 18),
  (18, i_st 3 19), (19, i_c 0 20), (20, i_st 4 22), (22, i_li 4 24),
  (24, i_li 2 25), (25, i_ic_ge 46 28), (28, i_li 3 29), (29, i_c (-1) 30),
  (30, i_ic_eq 46 33), (33, i_la 0 34), (34, i_gR 1 (fun t => (7, t)) 37), (37, i_li 3 38),
  (38, i_ia 39), (39, i_st 3 40), (40, i_inc 4 1 43), (43, i_go 22),
  (46, i_li 3 47), (47, i_ri)]
def tb_X2_sumOfKeys : List (Nat × Ins) := [
  (0, i_c 0 1), (1, i_st 1 2), (2, i_c 0 3), (3, i_st 2 4),
  (4, i_li 2 5), (5, i_la 0 6), (6, i_gI 1 10 9), (9, i_ic_ge 36 12),
  (12, i_la 0 13), (13, i_gR 1 (fun t => (8, t)) 16), (16, i_li 2 17), (17, i_ba 18),
  (18, i_if_eq 30 21), (21, i_li 1 22), (22, i_la 0 23), (23, i_gR 1 (fun t => (3, t)) 26),
  (26, i_li 2 27), (27, i_ia 28), (28, i_add 29), (29, i_st 1 30),
  (30, i_inc 2 1 33), (33, i_go 4), (36, i_li 1 37), (37, i_ri)]
def tb_X3_isKept : List (Nat × Ins) := [
  (0, i_la 0 1), (1, i_gI 2 2 4), (4, i_rz)]
def tb_X3_store : List (Nat × Ins) := [
  (0, i_la 0 1), (1, i_gR 2 (fun t => (1, t + 1)) 4), (4, i_la 1 5), (5, i_cv n_X2_copyFrom 2 1 8),
  (8, i_la 0 9), (9, i_gR 2 (fun t => (11, t + 1)) 12), (12, i_la 2 13), (13, i_cv n_X0_copyFrom 2 0 16),
  (16, i_la 0 17), (17, i_c 1 18), (18, i_pZ 2 2 21), (21, i_rv)]
def tb_X3_restore : List (Nat × Ins) := [
  (0, i_la 1 1), (1, i_la 0 2), (2, i_gR 2 (fun t => (1, t + 1)) 5), (5, i_cv n_X2_copyFrom 2 1 8),
  (8, i_la 2 9), (9, i_la 0 10), (10, i_gR 2 (fun t => (11, t + 1)) 13), (13, i_cv n_X0_copyFrom 2 0 16),
  (16, i_rv)]
def tb_X4_begin : List (Nat × Ins) := [
  (0, i_la 0 1), (1, i_li 1 2), (2, i_2l 3), (3, i_pL 3 0 6),
  (6, i_rv)]
def tb_X4_draw : List (Nat × Ins) := [
  (0, i_la 0 1), (1, i_la 0 2), (2, i_gL 3 0 5), (5, i_cl 16807 8),
  (8, l_mul 9), (9, i_cl 2147483647 12), (12, l_rem 13), (13, i_pL 3 0 16),
  (16, i_li 1 17), (17, i_c 1 18), (18, i_ic_ge 25 21), (21, i_c 0 22),
  (22, i_go 33), (25, i_la 0 26), (26, i_gL 3 0 29), (29, i_li 1 30),
  (30, i_2l 31), (31, l_rem 32), (32, l_2i 33), (33, i_ri)]
def tb_X5_layOut : List (Nat × Ins) := [
  (0, i_la 0 1), (1, i_li 1 2), (2, i_pI 4 5 5), (5, i_la 0 6),
  (6, i_c 0 7), (7, i_pI 4 6 10), (10, i_rv)]
def tb_X5_hasRoom : List (Nat × Ins) := [
  (0, i_la 0 1), (1, i_gI 4 6 4), (4, i_c 14 6), (6, i_ic_ge 13 9),
  (9, i_c 1 10), (10, i_go 14), (13, i_c 0 14), (14, i_rz)]
def tb_X5_hasPlace : List (Nat × Ins) := [
  (0, i_li 1 1), (1, i_if_lt 16 4), (4, i_li 1 5), (5, i_la 0 6),
  (6, i_gI 4 5 9), (9, i_ic_ge 16 12), (12, i_c 1 13), (13, i_go 17),
  (16, i_c 0 17), (17, i_rz)]
def tb_X5_add : List (Nat × Ins) := [
  (0, i_la 0 1), (1, i_cv n_X5_hasRoom 1 4 4), (4, i_if_ne 10 7), (7, i_c (-1000000004) 9),
  (9, i_ri), (10, i_la 0 11), (11, i_gI 4 6 14), (14, i_st 4 16),
  (16, i_la 0 17), (17, i_dup 18), (18, i_gI 4 6 21), (21, i_c 1 22),
  (22, i_add 23), (23, i_pI 4 6 26), (26, i_la 0 27), (27, i_gR 4 (fun _ => (14, 0)) 30),
  (30, i_li 4 32), (32, i_li 1 33), (33, i_is 34), (34, i_la 0 35),
  (35, i_gR 4 (fun _ => (15, 0)) 38), (38, i_li 4 40), (40, i_li 2 41), (41, i_is 42),
  (42, i_la 0 43), (43, i_gR 4 (fun _ => (16, 0)) 46), (46, i_li 4 48), (48, i_li 3 49),
  (49, i_is 50), (50, i_li 4 52), (52, i_ri)]
def tb_X5_places : List (Nat × Ins) := [
  (0, i_la 0 1), (1, i_gI 4 5 4), (4, i_ri)]
def tb_X5_count : List (Nat × Ins) := [
  (0, i_la 0 1), (1, i_gI 4 6 4), (4, i_ri)]
def tb_X5_grow : List (Nat × Ins) := [
  (0, i_la 0 1), (1, i_li 1 2), (2, i_cv n_X5_begin 2 4 5), (5, i_c 0 6),
  (6, i_st 3 7), (7, i_li 3 8), (8, i_la 0 9), (9, i_gI 4 5 12),
  (12, i_ic_ge 78 15), (15, i_la 0 16), (16, i_gR 4 (fun _ => (1, 3)) 19), (19, i_cv n_X2_soonest 1 1 22),
  (22, i_st 4 24), (24, i_li 4 26), (26, i_c (-1) 27), (27, i_ic_ne 31 30),
  (30, i_rv), (31, i_la 0 32), (32, i_gR 4 (fun _ => (1, 3)) 35), (35, i_li 4 37),
  (37, i_cv n_X2_takeOut 2 1 40), (40, i_la 0 41), (41, i_li 4 43), (43, i_cv n_X5_isReached 2 4 46),
  (46, i_if_eq 72 49), (49, i_la 0 50), (50, i_li 4 52), (52, i_li 2 53),
  (53, i_if_eq 68 56), (56, i_la 0 57), (57, i_gR 4 (fun _ => (1, 3)) 60), (60, i_li 4 62),
  (62, i_cv n_X2_keyOf 2 1 65), (65, i_go 69), (68, i_c 0 69), (69, i_cv n_X5_spread 3 4 72),
  (72, i_inc 3 1 75), (75, i_go 7), (78, i_rv)]
def tb_X5_begin : List (Nat × Ins) := [
  (0, i_la 0 1), (1, i_c 0 2), (2, i_pI 4 7 5), (5, i_la 0 6),
  (6, i_gR 4 (fun _ => (1, 3)) 9), (9, i_cv n_X2_empty 1 1 12), (12, i_la 0 13), (13, i_gR 4 (fun _ => (17, 0)) 16),
  (16, i_c (-1) 17), (17, i_cs n_J7_fill_53178 2 20), (20, i_c 0 21), (21, i_st 2 22),
  (22, i_li 2 23), (23, i_la 0 24), (24, i_gI 4 5 27), (27, i_ic_ge 57 30),
  (30, i_la 0 31), (31, i_gR 4 (fun _ => (1, 3)) 34), (34, i_c 0 35), (35, i_li 2 36),
  (36, i_li 1 37), (37, i_ic_ne 44 40), (40, i_c 0 41), (41, i_go 47),
  (44, i_c 9999 47), (47, i_cv n_X2_add 3 1 50), (50, i_pop 51), (51, i_inc 2 1 54),
  (54, i_go 22), (57, i_rv)]
def tb_X5_spread : List (Nat × Ins) := [
  (0, i_c 0 1), (1, i_st 3 2), (2, i_li 3 3), (3, i_la 0 4),
  (4, i_gI 4 6 7), (7, i_ic_ge 95 10), (10, i_la 0 11), (11, i_li 3 12),
  (12, i_li 1 13), (13, i_cv n_X5_acrossFrom 3 4 16), (16, i_st 4 18), (18, i_li 2 19),
  (19, i_la 0 20), (20, i_gR 4 (fun _ => (16, 0)) 23), (23, i_li 3 24), (24, i_ia 25),
  (25, i_add 26), (26, i_st 5 28), (28, i_li 4 30), (30, i_c (-1) 31),
  (31, i_ic_eq 89 34), (34, i_la 0 35), (35, i_gR 4 (fun _ => (1, 3)) 38), (38, i_li 4 40),
  (40, i_cv n_X2_isStanding 2 1 43), (43, i_if_eq 89 46), (46, i_li 5 48), (48, i_la 0 49),
  (49, i_gR 4 (fun _ => (1, 3)) 52), (52, i_li 4 54), (54, i_cv n_X2_keyOf 2 1 57), (57, i_ic_ge 89 60),
  (60, i_la 0 61), (61, i_gR 4 (fun _ => (1, 3)) 64), (64, i_li 4 66), (66, i_li 5 68),
  (68, i_cv n_X2_lowerTo 3 1 71), (71, i_la 0 72), (72, i_gR 4 (fun _ => (17, 0)) 75), (75, i_li 4 77),
  (77, i_li 3 78), (78, i_is 79), (79, i_la 0 80), (80, i_dup 81),
  (81, i_gI 4 7 84), (84, i_c 1 85), (85, i_add 86), (86, i_pI 4 7 89),
  (89, i_inc 3 1 92), (92, i_go 2), (95, i_rv)]
def tb_X5_acrossFrom : List (Nat × Ins) := [
  (0, i_la 0 1), (1, i_gR 4 (fun _ => (14, 0)) 4), (4, i_li 1 5), (5, i_ia 6),
  (6, i_li 2 7), (7, i_ic_ne 17 10), (10, i_la 0 11), (11, i_gR 4 (fun _ => (15, 0)) 14),
  (14, i_li 1 15), (15, i_ia 16), (16, i_ri), (17, i_la 0 18),
  (18, i_gR 4 (fun _ => (15, 0)) 21), (21, i_li 1 22), (22, i_ia 23), (23, i_li 2 24),
  (24, i_ic_ne 36 27), (27, i_la 0 28), (28, i_gR 4 (fun _ => (14, 0)) 31), (31, i_li 1 32),
  (32, i_ia 33), (33, i_go 37), (36, i_c (-1) 37), (37, i_ri)]
def tb_X5_isReached : List (Nat × Ins) := [
  (0, i_la 0 1), (1, i_gR 4 (fun _ => (1, 3)) 4), (4, i_li 1 5), (5, i_cv n_X2_keyOf 2 1 8),
  (8, i_c 9999 11), (11, i_ic_ge 18 14), (14, i_c 1 15), (15, i_go 19),
  (18, i_c 0 19), (19, i_rz)]
def tb_X5_weightOfTree : List (Nat × Ins) := [
  (0, i_c 0 1), (1, i_st 1 2), (2, i_c 0 3), (3, i_st 2 4),
  (4, i_li 2 5), (5, i_la 0 6), (6, i_gI 4 5 9), (9, i_ic_ge 42 12),
  (12, i_la 0 13), (13, i_gR 4 (fun _ => (17, 0)) 16), (16, i_li 2 17), (17, i_ia 18),
  (18, i_c (-1) 19), (19, i_ic_eq 36 22), (22, i_li 1 23), (23, i_la 0 24),
  (24, i_gR 4 (fun _ => (16, 0)) 27), (27, i_la 0 28), (28, i_gR 4 (fun _ => (17, 0)) 31), (31, i_li 2 32),
  (32, i_ia 33), (33, i_ia 34), (34, i_add 35), (35, i_st 1 36),
  (36, i_inc 2 1 39), (39, i_go 4), (42, i_li 1 43), (43, i_ri)]
def tb_X5_roadsOfTree : List (Nat × Ins) := [
  (0, i_c 0 1), (1, i_st 1 2), (2, i_c 0 3), (3, i_st 2 4),
  (4, i_li 2 5), (5, i_la 0 6), (6, i_gI 4 5 9), (9, i_ic_ge 39 12),
  (12, i_la 0 13), (13, i_gR 4 (fun _ => (17, 0)) 16), (16, i_li 2 17), (17, i_ia 18),
  (18, i_c (-1) 19), (19, i_ic_eq 33 22), (22, i_li 1 23), (23, i_c 1 24),
  (24, i_la 0 25), (25, i_gR 4 (fun _ => (17, 0)) 28), (28, i_li 2 29), (29, i_ia 30),
  (30, i_shl 31), (31, i_or 32), (32, i_st 1 33), (33, i_inc 2 1 36),
  (36, i_go 4), (39, i_li 1 40), (40, i_ri)]
def tb_X5_links : List (Nat × Ins) := [
  (0, i_la 0 1), (1, i_gR 4 (fun _ => (1, 3)) 4), (4, i_cv n_X2_links 1 1 7), (7, i_ri)]
def tb_X5_cuts : List (Nat × Ins) := [
  (0, i_la 0 1), (1, i_gR 4 (fun _ => (1, 3)) 4), (4, i_cv n_X2_cuts 1 1 7), (7, i_ri)]
def tb_X5_lowerings : List (Nat × Ins) := [
  (0, i_la 0 1), (1, i_gI 4 7 4), (4, i_ri)]
def tb_X5_distanceTo : List (Nat × Ins) := [
  (0, i_la 0 1), (1, i_li 1 2), (2, i_cv n_X5_isReached 2 4 5), (5, i_if_eq 19 8),
  (8, i_la 0 9), (9, i_gR 4 (fun _ => (1, 3)) 12), (12, i_li 1 13), (13, i_cv n_X2_keyOf 2 1 16),
  (16, i_go 20), (19, i_c (-1) 20), (20, i_ri)]
def tb_X5_reachedCount : List (Nat × Ins) := [
  (0, i_c 0 1), (1, i_st 1 2), (2, i_c 0 3), (3, i_st 2 4),
  (4, i_li 2 5), (5, i_la 0 6), (6, i_gI 4 5 9), (9, i_ic_ge 29 12),
  (12, i_la 0 13), (13, i_li 2 14), (14, i_cv n_X5_isReached 2 4 17), (17, i_if_eq 23 20),
  (20, i_inc 1 1 23), (23, i_inc 2 1 26), (26, i_go 4), (29, i_li 1 30),
  (30, i_ri)]
def tb_X6_put : List (Nat × Ins) := [
  (0, i_li 1 1), (1, i_c 0 2), (2, i_c 1 3), (3, i_cs n_X6_between 3 6),
  (6, i_if_eq 16 9), (9, i_li 2 10), (10, i_cs n_X6_isKey 1 13), (13, i_if_ne 19 16),
  (16, i_c (-1000000002) 18), (18, i_ri), (19, i_la 0 20), (20, i_gR 5 (fun _ => (1, 0)) 23),
  (23, i_cv n_X2_hasRoom 1 1 26), (26, i_if_ne 32 29), (29, i_c (-1000000004) 31), (31, i_ri),
  (32, i_la 0 33), (33, i_gR 5 (fun _ => (1, 0)) 36), (36, i_li 1 37), (37, i_li 2 38),
  (38, i_cv n_X2_add 3 1 41), (41, i_ri)]
def tb_X6_lower : List (Nat × Ins) := [
  (0, i_la 0 1), (1, i_gR 5 (fun _ => (1, 0)) 4), (4, i_li 1 5), (5, i_cv n_X2_has 2 1 8),
  (8, i_if_ne 14 11), (11, i_c (-1000000001) 13), (13, i_ri), (14, i_li 2 15),
  (15, i_cs n_X6_isKey 1 18), (18, i_if_ne 24 21), (21, i_c (-1000000002) 23), (23, i_ri),
  (24, i_la 0 25), (25, i_gR 5 (fun _ => (1, 0)) 28), (28, i_li 1 29), (29, i_cv n_X2_isStanding 2 1 32),
  (32, i_if_eq 47 35), (35, i_li 2 36), (36, i_la 0 37), (37, i_gR 5 (fun _ => (1, 0)) 40),
  (40, i_li 1 41), (41, i_cv n_X2_keyOf 2 1 44), (44, i_ic_lt 50 47), (47, i_c (-1000000003) 49),
  (49, i_ri), (50, i_la 0 51), (51, i_gR 5 (fun _ => (1, 0)) 54), (54, i_li 1 55),
  (55, i_li 2 56), (56, i_cv n_X2_lowerTo 3 1 59), (59, i_la 0 60), (60, i_gR 5 (fun _ => (1, 0)) 63),
  (63, i_li 1 64), (64, i_cv n_X2_isLoose 2 1 67), (67, i_cs n_X6_flag 1 70), (70, i_ri)]
def tb_X6_take : List (Nat × Ins) := [
  (0, i_la 0 1), (1, i_gR 5 (fun _ => (1, 0)) 4), (4, i_cv n_X2_soonest 1 1 7), (7, i_st 1 8),
  (8, i_li 1 9), (9, i_c (-1) 10), (10, i_ic_ne 16 13), (13, i_c (-1000000003) 15),
  (15, i_ri), (16, i_la 0 17), (17, i_gR 5 (fun _ => (1, 0)) 20), (20, i_li 1 21),
  (21, i_cv n_X2_takeOut 2 1 24), (24, i_li 1 25), (25, i_ri)]
def tb_X6_drop : List (Nat × Ins) := [
  (0, i_la 0 1), (1, i_gR 5 (fun _ => (1, 0)) 4), (4, i_li 1 5), (5, i_cv n_X2_has 2 1 8),
  (8, i_if_ne 14 11), (11, i_c (-1000000001) 13), (13, i_ri), (14, i_la 0 15),
  (15, i_gR 5 (fun _ => (1, 0)) 18), (18, i_li 1 19), (19, i_cv n_X2_isStanding 2 1 22), (22, i_if_ne 28 25),
  (25, i_c (-1000000003) 27), (27, i_ri), (28, i_la 0 29), (29, i_gR 5 (fun _ => (1, 0)) 32),
  (32, i_li 1 33), (33, i_cv n_X2_takeOut 2 1 36), (36, i_la 0 37), (37, i_gR 5 (fun _ => (1, 0)) 40),
  (40, i_cv n_X2_standingCount 1 1 43), (43, i_ri)]
def tb_X6_join : List (Nat × Ins) := [
  (0, i_la 0 1), (1, i_gR 5 (fun _ => (1, 0)) 4), (4, i_cv n_X2_joinAll 1 1 7), (7, i_ri)]
def tb_X6_clear : List (Nat × Ins) := [
  (0, i_la 0 1), (1, i_gR 5 (fun _ => (1, 0)) 4), (4, i_cv n_X2_count 1 1 7), (7, i_st 1 8),
  (8, i_la 0 9), (9, i_gR 5 (fun _ => (1, 0)) 12), (12, i_cv n_X2_empty 1 1 15), (15, i_la 0 16),
  (16, i_gR 5 (fun _ => (11, 0)) 19), (19, i_cv n_X0_empty 1 0 22), (22, i_li 1 23), (23, i_ri)]
def tb_X6_drift : List (Nat × Ins) := [
  (0, i_li 1 1), (1, i_c 1 2), (2, i_c 40 4), (4, i_cs n_X6_between 3 7),
  (7, i_if_eq 20 10), (10, i_li 2 11), (11, i_c 1 12), (12, i_c 999999 14),
  (14, i_cs n_X6_between 3 17), (17, i_if_ne 23 20), (20, i_c (-1000000002) 22), (22, i_ri),
  (23, i_la 0 24), (24, i_gR 5 (fun _ => (18, 0)) 27), (27, i_li 2 28), (28, i_cv n_X4_begin 2 3 31),
  (31, i_c 0 32), (32, i_st 3 33), (33, i_li 3 34), (34, i_li 1 35),
  (35, i_ic_ge 48 38), (38, i_la 0 39), (39, i_cv n_X6_driftOnce 1 5 42), (42, i_inc 3 1 45),
  (45, i_go 33), (48, i_la 0 49), (49, i_gR 5 (fun _ => (1, 0)) 52), (52, i_cv n_X2_standingCount 1 1 55),
  (55, i_ri)]
def tb_X6_told : List (Nat × Ins) := [
  (0, i_li 1 1), (1, i_sw [(0, 60), (1, 68), (2, 76), (3, 84), (4, 92), (5, 100), (6, 108), (7, 116), (8, 124), (9, 132), (10, 140)] 148), (60, i_la 0 61), (61, i_gR 5 (fun _ => (1, 0)) 64),
  (64, i_cv n_X2_count 1 1 67), (67, i_ri), (68, i_la 0 69), (69, i_gR 5 (fun _ => (1, 0)) 72),
  (72, i_cv n_X2_standingCount 1 1 75), (75, i_ri), (76, i_la 0 77), (77, i_gR 5 (fun _ => (1, 0)) 80),
  (80, i_cv n_X2_soonest 1 1 83), (83, i_ri), (84, i_la 0 85), (85, i_gR 5 (fun _ => (1, 0)) 88),
  (88, i_cv n_X2_rootCount 1 1 91), (91, i_ri), (92, i_la 0 93), (93, i_gR 5 (fun _ => (1, 0)) 96),
  (96, i_cv n_X2_looseCount 1 1 99), (99, i_ri), (100, i_la 0 101), (101, i_gR 5 (fun _ => (1, 0)) 104),
  (104, i_cv n_X2_greatestRank 1 1 107), (107, i_ri), (108, i_la 0 109), (109, i_gR 5 (fun _ => (1, 0)) 112),
  (112, i_cv n_X2_links 1 1 115), (115, i_ri), (116, i_la 0 117), (117, i_gR 5 (fun _ => (1, 0)) 120),
  (120, i_cv n_X2_cuts 1 1 123), (123, i_ri), (124, i_la 0 125), (125, i_gR 5 (fun _ => (1, 0)) 128),
  (128, i_cv n_X2_longestRow 1 1 131), (131, i_ri), (132, i_la 0 133), (133, i_gR 5 (fun _ => (13, 0)) 136),
  (136, i_cv n_X5_places 1 4 139), (139, i_ri), (140, i_la 0 141), (141, i_gR 5 (fun _ => (13, 0)) 144),
  (144, i_cv n_X5_count 1 4 147), (147, i_ri), (148, i_c (-1000000002) 150), (150, i_ri)]
def tb_X6_job : List (Nat × Ins) := [
  (0, i_la 0 1), (1, i_gR 5 (fun _ => (1, 0)) 4), (4, i_li 1 5), (5, i_cv n_X2_has 2 1 8),
  (8, i_if_ne 14 11), (11, i_c (-1000000001) 13), (13, i_ri), (14, i_li 2 15),
  (15, i_sw [(0, 64), (1, 73), (2, 82), (3, 94), (4, 103), (5, 112), (6, 124), (7, 133), (8, 142)] 159), (64, i_la 0 65), (65, i_gR 5 (fun _ => (1, 0)) 68), (68, i_li 1 69),
  (69, i_cv n_X2_kindOf 2 1 72), (72, i_ri), (73, i_la 0 74), (74, i_gR 5 (fun _ => (1, 0)) 77),
  (77, i_li 1 78), (78, i_cv n_X2_keyOf 2 1 81), (81, i_ri), (82, i_la 0 83),
  (83, i_gR 5 (fun _ => (1, 0)) 86), (86, i_li 1 87), (87, i_cv n_X2_isStanding 2 1 90), (90, i_cs n_X6_flag 1 93),
  (93, i_ri), (94, i_la 0 95), (95, i_gR 5 (fun _ => (1, 0)) 98), (98, i_li 1 99),
  (99, i_cv n_X2_aboveOf 2 1 102), (102, i_ri), (103, i_la 0 104), (104, i_gR 5 (fun _ => (1, 0)) 107),
  (107, i_li 1 108), (108, i_cv n_X2_rankOf 2 1 111), (111, i_ri), (112, i_la 0 113),
  (113, i_gR 5 (fun _ => (1, 0)) 116), (116, i_li 1 117), (117, i_cv n_X2_isLoose 2 1 120), (120, i_cs n_X6_flag 1 123),
  (123, i_ri), (124, i_la 0 125), (125, i_gR 5 (fun _ => (1, 0)) 128), (128, i_li 1 129),
  (129, i_cv n_X2_depthOf 2 1 132), (132, i_ri), (133, i_la 0 134), (134, i_gR 5 (fun _ => (1, 0)) 137),
  (137, i_li 1 138), (138, i_cv n_X2_sizeOf 2 1 141), (141, i_ri), (142, i_la 0 143),
  (143, i_gR 5 (fun _ => (1, 0)) 146), (146, i_li 1 147), (147, i_cv n_X2_keyOf 2 1 150), (150, i_c 8 152),
  (152, i_c 23 154), (154, i_cs n_X1_bitsOf 3 157), (157, l_2i 158), (158, i_ri),
  (159, i_c (-1000000002) 161), (161, i_ri)]
def tb_X6_child : List (Nat × Ins) := [
  (0, i_la 0 1), (1, i_gR 5 (fun _ => (1, 0)) 4), (4, i_li 1 5), (5, i_cv n_X2_has 2 1 8),
  (8, i_if_ne 14 11), (11, i_c (-1000000001) 13), (13, i_ri), (14, i_li 2 15),
  (15, i_if_ge 21 18), (18, i_c (-1000000002) 20), (20, i_ri), (21, i_la 0 22),
  (22, i_gR 5 (fun _ => (1, 0)) 25), (25, i_li 1 26), (26, i_li 2 27), (27, i_cv n_X2_childAt 3 1 30),
  (30, i_ri)]
def tb_X6_loose : List (Nat × Ins) := [
  (0, i_li 1 1), (1, i_if_ge 7 4), (4, i_c (-1000000002) 6), (6, i_ri),
  (7, i_la 0 8), (8, i_gR 5 (fun _ => (1, 0)) 11), (11, i_li 1 12), (12, i_cv n_X2_looseOfRank 2 1 15),
  (15, i_ri)]
def tb_X6_bits : List (Nat × Ins) := [
  (0, i_la 0 1), (1, i_gR 5 (fun _ => (1, 0)) 4), (4, i_cv n_X2_sumOfKeys 1 1 7), (7, i_c 11 9),
  (9, i_c 52 11), (11, i_cs n_X1_bitsOf 3 14), (14, i_rl)]
def tb_X6_sit : List (Nat × Ins) := [
  (0, i_li 1 1), (1, i_c 0 2), (2, i_c 1 3), (3, i_cs n_X6_between 3 6),
  (6, i_if_eq 20 9), (9, i_la 0 10), (10, i_gR 5 (fun _ => (1, 0)) 13), (13, i_li 3 14),
  (14, i_cv n_X2_has 2 1 17), (17, i_if_ne 23 20), (20, i_c (-1000000001) 22), (22, i_ri),
  (23, i_la 0 24), (24, i_gR 5 (fun _ => (1, 0)) 27), (27, i_li 3 28), (28, i_cv n_X2_isStanding 2 1 31),
  (31, i_if_eq 37 34), (34, i_c (-1000000003) 36), (36, i_ri), (37, i_li 2 38),
  (38, i_c 0 39), (39, i_c 7 41), (41, i_cs n_X6_between 3 44), (44, i_if_ne 50 47),
  (47, i_c (-1000000011) 49), (49, i_ri), (50, i_li 1 51), (51, i_c 1 52),
  (52, i_ic_ne 70 55), (55, i_la 0 56), (56, i_gR 5 (fun _ => (1, 0)) 59), (59, i_li 3 60),
  (60, i_cv n_X2_kindOf 2 1 63), (63, i_c 1 64), (64, i_ic_eq 70 67), (67, i_c (-1000000012) 69),
  (69, i_ri), (70, i_la 0 71), (71, i_gR 5 (fun _ => (11, 0)) 74), (74, i_li 1 75),
  (75, i_li 2 76), (76, i_li 3 77), (77, i_cv n_X0_seat 4 0 80), (80, i_ri)]
def tb_X6_sits : List (Nat × Ins) := [
  (0, i_li 1 1), (1, i_c 0 2), (2, i_c 1 3), (3, i_cs n_X6_between 3 6),
  (6, i_if_ne 12 9), (9, i_c (-1000000001) 11), (11, i_ri), (12, i_li 2 13),
  (13, i_c 0 14), (14, i_c 7 16), (16, i_cs n_X6_between 3 19), (19, i_if_ne 25 22),
  (22, i_c (-1000000011) 24), (24, i_ri), (25, i_la 0 26), (26, i_gR 5 (fun _ => (11, 0)) 29),
  (29, i_li 1 30), (30, i_li 2 31), (31, i_cv n_X0_sitter 3 0 34), (34, i_ri)]
def tb_X6_net : List (Nat × Ins) := [
  (0, i_li 1 1), (1, i_c 2 2), (2, i_c 8 4), (4, i_cs n_X6_between 3 7),
  (7, i_if_ne 13 10), (10, i_c (-1000000002) 12), (12, i_ri), (13, i_la 0 14),
  (14, i_gR 5 (fun _ => (13, 0)) 17), (17, i_cv n_X5_count 1 4 20), (20, i_st 2 21), (21, i_la 0 22),
  (22, i_gR 5 (fun _ => (13, 0)) 25), (25, i_li 1 26), (26, i_cv n_X5_layOut 2 4 29), (29, i_li 2 30),
  (30, i_ri)]
def tb_X6_road : List (Nat × Ins) := [
  (0, i_la 0 1), (1, i_gR 5 (fun _ => (13, 0)) 4), (4, i_li 1 5), (5, i_cv n_X5_hasPlace 2 4 8),
  (8, i_if_eq 27 11), (11, i_la 0 12), (12, i_gR 5 (fun _ => (13, 0)) 15), (15, i_li 2 16),
  (16, i_cv n_X5_hasPlace 2 4 19), (19, i_if_eq 27 22), (22, i_li 1 23), (23, i_li 2 24),
  (24, i_ic_ne 30 27), (27, i_c (-1000000001) 29), (29, i_ri), (30, i_li 3 31),
  (31, i_c 0 32), (32, i_c 9999 35), (35, i_cs n_X6_between 3 38), (38, i_if_ne 44 41),
  (41, i_c (-1000000002) 43), (43, i_ri), (44, i_la 0 45), (45, i_gR 5 (fun _ => (13, 0)) 48),
  (48, i_cv n_X5_hasRoom 1 4 51), (51, i_if_ne 57 54), (54, i_c (-1000000004) 56), (56, i_ri),
  (57, i_la 0 58), (58, i_gR 5 (fun _ => (13, 0)) 61), (61, i_li 1 62), (62, i_li 2 63),
  (63, i_li 3 64), (64, i_cv n_X5_add 4 4 67), (67, i_ri)]
def tb_X6_tree : List (Nat × Ins) := [
  (0, i_la 0 1), (1, i_gR 5 (fun _ => (13, 0)) 4), (4, i_li 1 5), (5, i_cv n_X5_hasPlace 2 4 8),
  (8, i_if_ne 14 11), (11, i_c (-1000000001) 13), (13, i_ri), (14, i_li 2 15),
  (15, i_c 0 16), (16, i_c 4 17), (17, i_cs n_X6_between 3 20), (20, i_if_ne 26 23),
  (23, i_c (-1000000002) 25), (25, i_ri), (26, i_la 0 27), (27, i_gR 5 (fun _ => (13, 0)) 30),
  (30, i_li 1 31), (31, i_c 0 32), (32, i_cv n_X5_grow 3 4 35), (35, i_li 2 36),
  (36, i_sw [(0, 68), (1, 76), (2, 84), (3, 92)] 100), (68, i_la 0 69), (69, i_gR 5 (fun _ => (13, 0)) 72), (72, i_cv n_X5_weightOfTree 1 4 75),
  (75, i_ri), (76, i_la 0 77), (77, i_gR 5 (fun _ => (13, 0)) 80), (80, i_cv n_X5_roadsOfTree 1 4 83),
  (83, i_ri), (84, i_la 0 85), (85, i_gR 5 (fun _ => (13, 0)) 88), (88, i_cv n_X5_links 1 4 91),
  (91, i_ri), (92, i_la 0 93), (93, i_gR 5 (fun _ => (13, 0)) 96), (96, i_cv n_X5_cuts 1 4 99),
  (99, i_ri), (100, i_la 0 101), (101, i_gR 5 (fun _ => (13, 0)) 104), (104, i_cv n_X5_lowerings 1 4 107),
  (107, i_ri)]
def tb_X6_way : List (Nat × Ins) := [
  (0, i_la 0 1), (1, i_gR 5 (fun _ => (13, 0)) 4), (4, i_li 1 5), (5, i_cv n_X5_hasPlace 2 4 8),
  (8, i_if_eq 22 11), (11, i_la 0 12), (12, i_gR 5 (fun _ => (13, 0)) 15), (15, i_li 2 16),
  (16, i_cv n_X5_hasPlace 2 4 19), (19, i_if_ne 25 22), (22, i_c (-1000000001) 24), (24, i_ri),
  (25, i_la 0 26), (26, i_gR 5 (fun _ => (13, 0)) 29), (29, i_li 1 30), (30, i_c 1 31),
  (31, i_cv n_X5_grow 3 4 34), (34, i_la 0 35), (35, i_gR 5 (fun _ => (13, 0)) 38), (38, i_li 2 39),
  (39, i_cv n_X5_distanceTo 2 4 42), (42, i_ri)]
def tb_X6_ways : List (Nat × Ins) := [
  (0, i_la 0 1), (1, i_gR 5 (fun _ => (13, 0)) 4), (4, i_li 1 5), (5, i_cv n_X5_hasPlace 2 4 8),
  (8, i_if_ne 14 11), (11, i_c (-1000000001) 13), (13, i_ri), (14, i_li 2 15),
  (15, i_c 0 16), (16, i_c 3 17), (17, i_cs n_X6_between 3 20), (20, i_if_ne 26 23),
  (23, i_c (-1000000002) 25), (25, i_ri), (26, i_la 0 27), (27, i_gR 5 (fun _ => (13, 0)) 30),
  (30, i_li 1 31), (31, i_c 1 32), (32, i_cv n_X5_grow 3 4 35), (35, i_li 2 36),
  (36, i_sw [(0, 64), (1, 72), (2, 80)] 88), (64, i_la 0 65), (65, i_gR 5 (fun _ => (13, 0)) 68), (68, i_cv n_X5_links 1 4 71),
  (71, i_ri), (72, i_la 0 73), (73, i_gR 5 (fun _ => (13, 0)) 76), (76, i_cv n_X5_cuts 1 4 79),
  (79, i_ri), (80, i_la 0 81), (81, i_gR 5 (fun _ => (13, 0)) 84), (84, i_cv n_X5_lowerings 1 4 87),
  (87, i_ri), (88, i_la 0 89), (89, i_gR 5 (fun _ => (13, 0)) 92), (92, i_cv n_X5_reachedCount 1 4 95),
  (95, i_ri)]
def tb_X6_keep : List (Nat × Ins) := [
  (0, i_li 1 1), (1, i_c 0 2), (2, i_c 1 3), (3, i_cs n_X6_between 3 6),
  (6, i_if_ne 12 9), (9, i_c (-1000000001) 11), (11, i_ri), (12, i_la 0 13),
  (13, i_gR 5 (fun _ => (19, 0)) 16), (16, i_li 1 17), (17, i_aa 18), (18, i_la 0 19),
  (19, i_gR 5 (fun _ => (1, 0)) 22), (22, i_la 0 23), (23, i_gR 5 (fun _ => (11, 0)) 26), (26, i_cv n_X3_store 3 2 29),
  (29, i_la 0 30), (30, i_gR 5 (fun _ => (1, 0)) 33), (33, i_cv n_X2_count 1 1 36), (36, i_ri)]
def tb_X6_goBack : List (Nat × Ins) := [
  (0, i_li 1 1), (1, i_c 0 2), (2, i_c 1 3), (3, i_cs n_X6_between 3 6),
  (6, i_if_ne 12 9), (9, i_c (-1000000001) 11), (11, i_ri), (12, i_la 0 13),
  (13, i_gR 5 (fun _ => (19, 0)) 16), (16, i_li 1 17), (17, i_aa 18), (18, i_cv n_X3_isKept 1 2 21),
  (21, i_if_ne 27 24), (24, i_c (-1000000003) 26), (26, i_ri), (27, i_la 0 28),
  (28, i_gR 5 (fun _ => (19, 0)) 31), (31, i_li 1 32), (32, i_aa 33), (33, i_la 0 34),
  (34, i_gR 5 (fun _ => (1, 0)) 37), (37, i_la 0 38), (38, i_gR 5 (fun _ => (11, 0)) 41), (41, i_cv n_X3_restore 3 2 44),
  (44, i_la 0 45), (45, i_gR 5 (fun _ => (1, 0)) 48), (48, i_cv n_X2_count 1 1 51), (51, i_ri)]
def tb_X6_driftOnce : List (Nat × Ins) := [
  (0, i_la 0 1), (1, i_gR 5 (fun _ => (18, 0)) 4), (4, i_c 4 5), (5, i_cv n_X4_draw 2 3 8),
  (8, i_st 1 9), (9, i_li 1 10), (10, i_c 2 11), (11, i_ic_ge 21 14),
  (14, i_la 0 15), (15, i_cv n_X6_putByLots 1 5 18), (18, i_go 37), (21, i_li 1 22),
  (22, i_c 2 23), (23, i_ic_ne 33 26), (26, i_la 0 27), (27, i_cv n_X6_lowerByLots 1 5 30),
  (30, i_go 37), (33, i_la 0 34), (34, i_cv n_X6_takeByLots 1 5 37), (37, i_rv)]
def tb_X6_putByLots : List (Nat × Ins) := [
  (0, i_la 0 1), (1, i_gR 5 (fun _ => (1, 0)) 4), (4, i_cv n_X2_hasRoom 1 1 7), (7, i_if_eq 40 10),
  (10, i_la 0 11), (11, i_gR 5 (fun _ => (18, 0)) 14), (14, i_c 2 15), (15, i_cv n_X4_draw 2 3 18),
  (18, i_st 1 19), (19, i_la 0 20), (20, i_gR 5 (fun _ => (18, 0)) 23), (23, i_c 1000 26),
  (26, i_cv n_X4_draw 2 3 29), (29, i_st 2 30), (30, i_la 0 31), (31, i_gR 5 (fun _ => (1, 0)) 34),
  (34, i_li 1 35), (35, i_li 2 36), (36, i_cv n_X2_add 3 1 39), (39, i_pop 40),
  (40, i_rv)]
def tb_X6_lowerByLots : List (Nat × Ins) := [
  (0, i_la 0 1), (1, i_gR 5 (fun _ => (1, 0)) 4), (4, i_cv n_X2_standingCount 1 1 7), (7, i_st 1 8),
  (8, i_li 1 9), (9, i_if_le 81 12), (12, i_la 0 13), (13, i_gR 5 (fun _ => (1, 0)) 16),
  (16, i_la 0 17), (17, i_gR 5 (fun _ => (18, 0)) 20), (20, i_li 1 21), (21, i_cv n_X4_draw 2 3 24),
  (24, i_cv n_X2_standingAt 2 1 27), (27, i_st 2 28), (28, i_la 0 29), (29, i_gR 5 (fun _ => (18, 0)) 32),
  (32, i_c 100 34), (34, i_cv n_X4_draw 2 3 37), (37, i_st 3 38), (38, i_li 2 39),
  (39, i_c (-1) 40), (40, i_ic_eq 81 43), (43, i_li 3 44), (44, i_if_le 81 47),
  (47, i_la 0 48), (48, i_gR 5 (fun _ => (1, 0)) 51), (51, i_li 2 52), (52, i_cv n_X2_keyOf 2 1 55),
  (55, i_li 3 56), (56, i_sub 57), (57, i_cs n_X6_isKey 1 60), (60, i_if_eq 81 63),
  (63, i_la 0 64), (64, i_gR 5 (fun _ => (1, 0)) 67), (67, i_li 2 68), (68, i_la 0 69),
  (69, i_gR 5 (fun _ => (1, 0)) 72), (72, i_li 2 73), (73, i_cv n_X2_keyOf 2 1 76), (76, i_li 3 77),
  (77, i_sub 78), (78, i_cv n_X2_lowerTo 3 1 81), (81, i_rv)]
def tb_X6_takeByLots : List (Nat × Ins) := [
  (0, i_la 0 1), (1, i_gR 5 (fun _ => (1, 0)) 4), (4, i_cv n_X2_soonest 1 1 7), (7, i_st 1 8),
  (8, i_li 1 9), (9, i_c (-1) 10), (10, i_ic_eq 21 13), (13, i_la 0 14),
  (14, i_gR 5 (fun _ => (1, 0)) 17), (17, i_li 1 18), (18, i_cv n_X2_takeOut 2 1 21), (21, i_rv)]
def tb_X6_between : List (Nat × Ins) := [
  (0, i_li 0 1), (1, i_li 1 2), (2, i_ic_lt 14 5), (5, i_li 0 6),
  (6, i_li 2 7), (7, i_ic_gt 14 10), (10, i_c 1 11), (11, i_go 15),
  (14, i_c 0 15), (15, i_rz)]
def tb_X6_isKey : List (Nat × Ins) := [
  (0, i_li 0 1), (1, i_c (-9999) 4), (4, i_c 9999 7), (7, i_cs n_X6_between 3 10),
  (10, i_rz)]
def tb_X6_flag : List (Nat × Ins) := [
  (0, i_li 0 1), (1, i_if_eq 8 4), (4, i_c 1 5), (5, i_go 9),
  (8, i_c 0 9), (9, i_ri)]
def tb_X7_in : List (Nat × Ins) := [
  (0, i_li 0 1), (1, i_li 1 2), (2, i_ic_lt 14 5), (5, i_li 0 6),
  (6, i_li 2 7), (7, i_ic_gt 14 10), (10, i_c 1 11), (11, i_go 15),
  (14, i_c 0 15), (15, i_rz)]
def tb_X7_own : List (Nat × Ins) := [
  (0, i_la 0 1), (1, i_c 0 2), (2, i_pI 6 10 5), (5, i_la 0 6),
  (6, i_la 0 7), (7, i_gI 6 0 10), (10, i_pI 6 11 13), (13, i_rv)]
def tb_X7_isSooner : List (Nat × Ins) := [
  (0, i_la 0 1), (1, i_gR 6 (fun _ => (23, 0)) 4), (4, i_li 1 5), (5, i_ia 6),
  (6, i_la 0 7), (7, i_gR 6 (fun _ => (23, 0)) 10), (10, i_li 2 11), (11, i_ia 12),
  (12, i_ic_lt 35 15), (15, i_la 0 16), (16, i_gR 6 (fun _ => (23, 0)) 19), (19, i_li 1 20),
  (20, i_ia 21), (21, i_la 0 22), (22, i_gR 6 (fun _ => (23, 0)) 25), (25, i_li 2 26),
  (26, i_ia 27), (27, i_ic_ne 39 30), (30, i_li 1 31), (31, i_li 2 32),
  (32, i_ic_ge 39 35), (35, i_c 1 36), (36, i_go 40), (39, i_c 0 40),
  (40, i_rz)]
def tb_X7_rank : List (Nat × Ins) := [
  (0, i_c 0 1), (1, i_st 2 2), (2, i_la 0 3), (3, i_gI 6 10 6),
  (6, i_st 3 7), (7, i_li 3 8), (8, i_la 0 9), (9, i_gI 6 11 12),
  (12, i_ic_ge 48 15), (15, i_li 2 16), (16, i_la 0 17), (17, i_gR 6 (fun _ => (24, 0)) 20),
  (20, i_li 3 21), (21, i_ba 22), (22, i_if_eq 39 25), (25, i_la 0 26),
  (26, i_gR 6 (fun _ => (25, 0)) 29), (29, i_li 3 30), (30, i_ia 31), (31, i_li 1 32),
  (32, i_ic_ne 39 35), (35, i_c 1 36), (36, i_go 40), (39, i_c 0 40),
  (40, i_add 41), (41, i_st 2 42), (42, i_inc 3 1 45), (45, i_go 7),
  (48, i_li 2 49), (49, i_ri)]
def tb_X7_link : List (Nat × Ins) := [
  (0, i_la 0 1), (1, i_li 1 2), (2, i_li 2 3), (3, i_cv n_X7_isSooner 3 6 6),
  (6, i_if_eq 13 9), (9, i_li 1 10), (10, i_go 14), (13, i_li 2 14),
  (14, i_st 3 15), (15, i_li 1 16), (16, i_li 2 17), (17, i_add 18),
  (18, i_li 3 19), (19, i_sub 20), (20, i_st 4 22), (22, i_la 0 23),
  (23, i_gR 6 (fun _ => (25, 0)) 26), (26, i_li 4 28), (28, i_li 3 29), (29, i_is 30),
  (30, i_la 0 31), (31, i_gR 6 (fun _ => (27, 0)) 34), (34, i_li 4 36), (36, i_la 0 37),
  (37, i_gI 6 7 40), (40, i_is 41), (41, i_la 0 42), (42, i_dup 43),
  (43, i_gI 6 7 46), (46, i_c 1 47), (47, i_add 48), (48, i_pI 6 7 51),
  (51, i_la 0 52), (52, i_dup 53), (53, i_gI 6 8 56), (56, i_c 1 57),
  (57, i_add 58), (58, i_pI 6 8 61), (61, i_rv)]
def tb_X7_cut : List (Nat × Ins) := [
  (0, i_la 0 1), (1, i_gR 6 (fun _ => (25, 0)) 4), (4, i_li 1 5), (5, i_c (-1) 6),
  (6, i_is 7), (7, i_la 0 8), (8, i_gR 6 (fun _ => (26, 0)) 11), (11, i_li 1 12),
  (12, i_c 0 13), (13, i_bs 14), (14, i_la 0 15), (15, i_dup 16),
  (16, i_gI 6 9 19), (19, i_c 1 20), (20, i_add 21), (21, i_pI 6 9 24),
  (24, i_rv)]
def tb_X7_isOf : List (Nat × Ins) := [
  (0, i_la 0 1), (1, i_gR 6 (fun _ => (24, 0)) 4), (4, i_li 1 5), (5, i_ba 6),
  (6, i_if_eq 39 9), (9, i_li 2 10), (10, i_if_eq 25 13), (13, i_la 0 14),
  (14, i_gR 6 (fun _ => (26, 0)) 17), (17, i_li 1 18), (18, i_ba 19), (19, i_if_eq 39 22),
  (22, i_go 35), (25, i_la 0 26), (26, i_gR 6 (fun _ => (25, 0)) 29), (29, i_li 1 30),
  (30, i_ia 31), (31, i_c (-1) 32), (32, i_ic_ne 39 35), (35, i_c 1 36),
  (36, i_go 40), (39, i_c 0 40), (40, i_rz)]
def tb_X7_ofRank : List (Nat × Ins) := [
  (0, i_c (-1) 1), (1, i_st 4 3), (3, i_la 0 4), (4, i_gI 6 11 7),
  (7, i_c 1 8), (8, i_sub 9), (9, i_st 5 11), (11, i_li 5 13),
  (13, i_li 2 14), (14, i_ic_le 52 17), (17, i_la 0 18), (18, i_li 5 20),
  (20, i_li 3 21), (21, i_cv n_X7_isOf 3 6 24), (24, i_if_eq 42 27), (27, i_la 0 28),
  (28, i_li 5 30), (30, i_cv n_X7_rank 2 6 33), (33, i_li 1 34), (34, i_ic_ne 42 37),
  (37, i_li 5 39), (39, i_go 44), (42, i_li 4 44), (44, i_st 4 46),
  (46, i_inc 5 (-1) 49), (49, i_go 11), (52, i_li 4 54), (54, i_ri)]
def tb_X7_twice : List (Nat × Ins) := [
  (0, i_c (-1) 1), (1, i_st 2 2), (2, i_la 0 3), (3, i_gI 6 11 6),
  (6, i_la 0 7), (7, i_gI 6 10 10), (10, i_sub 11), (11, i_st 3 12),
  (12, i_li 3 13), (13, i_if_lt 68 16), (16, i_la 0 17), (17, i_li 3 18),
  (18, i_la 0 19), (19, i_gI 6 10 22), (22, i_c 1 23), (23, i_sub 24),
  (24, i_li 1 25), (25, i_cv n_X7_ofRank 4 6 28), (28, i_st 4 30), (30, i_li 4 32),
  (32, i_c (-1) 33), (33, i_ic_ne 40 36), (36, i_c (-1) 37), (37, i_go 48),
  (40, i_la 0 41), (41, i_li 3 42), (42, i_li 4 44), (44, i_li 1 45),
  (45, i_cv n_X7_ofRank 4 6 48), (48, i_st 5 50), (50, i_li 5 52), (52, i_c (-1) 53),
  (53, i_ic_ne 60 56), (56, i_li 2 57), (57, i_go 61), (60, i_li 3 61),
  (61, i_st 2 62), (62, i_inc 3 (-1) 65), (65, i_go 12), (68, i_li 2 69),
  (69, i_ri)]
def tb_X7_settle : List (Nat × Ins) := [
  (0, i_la 0 1), (1, i_c 1 2), (2, i_cv n_X7_twice 2 6 5), (5, i_st 1 6),
  (6, i_li 1 7), (7, i_c (-1) 8), (8, i_ic_eq 57 11), (11, i_la 0 12),
  (12, i_li 1 13), (13, i_la 0 14), (14, i_gI 6 10 17), (17, i_c 1 18),
  (18, i_sub 19), (19, i_c 1 20), (20, i_cv n_X7_ofRank 4 6 23), (23, i_st 2 24),
  (24, i_la 0 25), (25, i_li 1 26), (26, i_li 2 27), (27, i_c 1 28),
  (28, i_cv n_X7_ofRank 4 6 31), (31, i_st 3 32), (32, i_la 0 33), (33, i_li 2 34),
  (34, i_cv n_X7_cut 2 6 37), (37, i_la 0 38), (38, i_li 3 39), (39, i_cv n_X7_cut 2 6 42),
  (42, i_la 0 43), (43, i_li 2 44), (44, i_li 3 45), (45, i_cv n_X7_link 3 6 48),
  (48, i_la 0 49), (49, i_c 1 50), (50, i_cv n_X7_twice 2 6 53), (53, i_st 1 54),
  (54, i_go 6), (57, i_rv)]
def tb_X7_joinAll : List (Nat × Ins) := [
  (0, i_la 0 1), (1, i_c 0 2), (2, i_cv n_X7_twice 2 6 5), (5, i_st 1 6),
  (6, i_li 1 7), (7, i_c (-1) 8), (8, i_ic_eq 45 11), (11, i_la 0 12),
  (12, i_li 1 13), (13, i_la 0 14), (14, i_gI 6 10 17), (17, i_c 1 18),
  (18, i_sub 19), (19, i_c 0 20), (20, i_cv n_X7_ofRank 4 6 23), (23, i_st 2 24),
  (24, i_la 0 25), (25, i_li 2 26), (26, i_la 0 27), (27, i_li 1 28),
  (28, i_li 2 29), (29, i_c 0 30), (30, i_cv n_X7_ofRank 4 6 33), (33, i_cv n_X7_link 3 6 36),
  (36, i_la 0 37), (37, i_c 0 38), (38, i_cv n_X7_twice 2 6 41), (41, i_st 1 42),
  (42, i_go 6), (45, i_rv)]
def tb_X7_add : List (Nat × Ins) := [
  (0, i_la 0 1), (1, i_gR 6 (fun _ => (22, 0)) 4), (4, i_li 1 5), (5, i_li 2 6),
  (6, i_is 7), (7, i_la 0 8), (8, i_gR 6 (fun _ => (23, 0)) 11), (11, i_li 1 12),
  (12, i_li 3 13), (13, i_is 14), (14, i_la 0 15), (15, i_gR 6 (fun _ => (24, 0)) 18),
  (18, i_li 1 19), (19, i_c 1 20), (20, i_bs 21), (21, i_la 0 22),
  (22, i_gR 6 (fun _ => (25, 0)) 25), (25, i_li 1 26), (26, i_c (-1) 27), (27, i_is 28),
  (28, i_la 0 29), (29, i_gR 6 (fun _ => (26, 0)) 32), (32, i_li 1 33), (33, i_c 0 34),
  (34, i_bs 35), (35, i_la 0 36), (36, i_gR 6 (fun _ => (27, 0)) 39), (39, i_li 1 40),
  (40, i_c 0 41), (41, i_is 42), (42, i_la 0 43), (43, i_li 1 44),
  (44, i_c 1 45), (45, i_add 46), (46, i_pI 6 11 49), (49, i_rv)]
def tb_X7_lowerTo : List (Nat × Ins) := [
  (0, i_la 0 1), (1, i_gR 6 (fun _ => (23, 0)) 4), (4, i_li 1 5), (5, i_li 2 6),
  (6, i_is 7), (7, i_la 0 8), (8, i_gR 6 (fun _ => (25, 0)) 11), (11, i_li 1 12),
  (12, i_ia 13), (13, i_c (-1) 14), (14, i_ic_eq 42 17), (17, i_la 0 18),
  (18, i_li 1 19), (19, i_la 0 20), (20, i_gR 6 (fun _ => (25, 0)) 23), (23, i_li 1 24),
  (24, i_ia 25), (25, i_cv n_X7_isSooner 3 6 28), (28, i_if_eq 42 31), (31, i_la 0 32),
  (32, i_gR 6 (fun _ => (26, 0)) 35), (35, i_li 1 36), (36, i_c 1 37), (37, i_bs 38),
  (38, i_la 0 39), (39, i_cv n_X7_settle 1 6 42), (42, i_rv)]
def tb_X7_remove : List (Nat × Ins) := [
  (0, i_la 0 1), (1, i_gR 6 (fun _ => (25, 0)) 4), (4, i_li 1 5), (5, i_ia 6),
  (6, i_c (-1) 7), (7, i_ic_eq 15 10), (10, i_la 0 11), (11, i_li 1 12),
  (12, i_cv n_X7_cut 2 6 15), (15, i_la 0 16), (16, i_gI 6 10 19), (19, i_st 2 20),
  (20, i_li 2 21), (21, i_la 0 22), (22, i_gI 6 11 25), (25, i_ic_ge 103 28),
  (28, i_la 0 29), (29, i_gR 6 (fun _ => (24, 0)) 32), (32, i_li 2 33), (33, i_ba 34),
  (34, i_if_eq 51 37), (37, i_la 0 38), (38, i_gR 6 (fun _ => (25, 0)) 41), (41, i_li 2 42),
  (42, i_ia 43), (43, i_li 1 44), (44, i_ic_ne 51 47), (47, i_c 1 48),
  (48, i_go 52), (51, i_c 0 52), (52, i_st 3 53), (53, i_la 0 54),
  (54, i_gR 6 (fun _ => (25, 0)) 57), (57, i_li 2 58), (58, i_li 3 59), (59, i_if_eq 66 62),
  (62, i_c (-1) 63), (63, i_go 72), (66, i_la 0 67), (67, i_gR 6 (fun _ => (25, 0)) 70),
  (70, i_li 2 71), (71, i_ia 72), (72, i_is 73), (73, i_la 0 74),
  (74, i_gR 6 (fun _ => (26, 0)) 77), (77, i_li 2 78), (78, i_li 3 79), (79, i_if_ne 95 82),
  (82, i_la 0 83), (83, i_gR 6 (fun _ => (26, 0)) 86), (86, i_li 2 87), (87, i_ba 88),
  (88, i_if_eq 95 91), (91, i_c 1 92), (92, i_go 96), (95, i_c 0 96),
  (96, i_bs 97), (97, i_inc 2 1 100), (100, i_go 20), (103, i_la 0 104),
  (104, i_gR 6 (fun _ => (24, 0)) 107), (107, i_li 1 108), (108, i_c 0 109), (109, i_bs 110),
  (110, i_la 0 111), (111, i_cv n_X7_settle 1 6 114), (114, i_la 0 115), (115, i_cv n_X7_joinAll 1 6 118),
  (118, i_rv)]
def tb_X7_soonest : List (Nat × Ins) := [
  (0, i_c (-1) 1), (1, i_st 1 2), (2, i_la 0 3), (3, i_gI 6 10 6),
  (6, i_st 2 7), (7, i_li 2 8), (8, i_la 0 9), (9, i_gI 6 11 12),
  (12, i_ic_ge 50 15), (15, i_la 0 16), (16, i_gR 6 (fun _ => (24, 0)) 19), (19, i_li 2 20),
  (20, i_ba 21), (21, i_if_eq 42 24), (24, i_li 1 25), (25, i_c (-1) 26),
  (26, i_ic_eq 38 29), (29, i_la 0 30), (30, i_li 2 31), (31, i_li 1 32),
  (32, i_cv n_X7_isSooner 3 6 35), (35, i_if_eq 42 38), (38, i_li 2 39), (39, i_go 43),
  (42, i_li 1 43), (43, i_st 1 44), (44, i_inc 2 1 47), (47, i_go 7),
  (50, i_li 1 51), (51, i_ri)]
def tb_X7_standing : List (Nat × Ins) := [
  (0, i_c 0 1), (1, i_st 1 2), (2, i_la 0 3), (3, i_gI 6 10 6),
  (6, i_st 2 7), (7, i_li 2 8), (8, i_la 0 9), (9, i_gI 6 11 12),
  (12, i_ic_ge 38 15), (15, i_li 1 16), (16, i_la 0 17), (17, i_gR 6 (fun _ => (24, 0)) 20),
  (20, i_li 2 21), (21, i_ba 22), (22, i_if_eq 29 25), (25, i_c 1 26),
  (26, i_go 30), (29, i_c 0 30), (30, i_add 31), (31, i_st 1 32),
  (32, i_inc 2 1 35), (35, i_go 7), (38, i_li 1 39), (39, i_ri)]
def tb_X7_isJob : List (Nat × Ins) := [
  (0, i_la 0 1), (1, i_cv n_X7_own 1 6 4), (4, i_li 1 5), (5, i_c 0 6),
  (6, i_la 0 7), (7, i_gI 6 0 10), (10, i_c 1 11), (11, i_sub 12),
  (12, i_cs n_X7_in 3 15), (15, i_rz)]
def tb_X7_put : List (Nat × Ins) := [
  (0, i_la 0 1), (1, i_cv n_X7_own 1 6 4), (4, i_li 1 5), (5, i_c 0 6),
  (6, i_c 1 7), (7, i_cs n_X7_in 3 10), (10, i_if_eq 26 13), (13, i_li 2 14),
  (14, i_c (-9999) 17), (17, i_c 9999 20), (20, i_cs n_X7_in 3 23), (23, i_if_ne 29 26),
  (26, i_c (-1000000002) 28), (28, i_ri), (29, i_la 0 30), (30, i_gI 6 0 33),
  (33, i_c 40 35), (35, i_ic_ne 41 38), (38, i_c (-1000000004) 40), (40, i_ri),
  (41, i_la 0 42), (42, i_la 0 43), (43, i_gI 6 0 46), (46, i_li 1 47),
  (47, i_li 2 48), (48, i_cv n_X7_add 4 6 51), (51, i_la 0 52), (52, i_dup 53),
  (53, i_gI 6 0 56), (56, i_c 1 57), (57, i_add 58), (58, i_pI 6 0 61),
  (61, i_la 0 62), (62, i_gI 6 0 65), (65, i_c 1 66), (66, i_sub 67),
  (67, i_ri)]
def tb_X7_lower : List (Nat × Ins) := [
  (0, i_la 0 1), (1, i_li 1 2), (2, i_cv n_X7_isJob 2 6 5), (5, i_if_ne 11 8),
  (8, i_c (-1000000001) 10), (10, i_ri), (11, i_li 2 12), (12, i_c (-9999) 15),
  (15, i_c 9999 18), (18, i_cs n_X7_in 3 21), (21, i_if_ne 27 24), (24, i_c (-1000000002) 26),
  (26, i_ri), (27, i_la 0 28), (28, i_gR 6 (fun _ => (24, 0)) 31), (31, i_li 1 32),
  (32, i_ba 33), (33, i_if_eq 46 36), (36, i_li 2 37), (37, i_la 0 38),
  (38, i_gR 6 (fun _ => (23, 0)) 41), (41, i_li 1 42), (42, i_ia 43), (43, i_ic_lt 49 46),
  (46, i_c (-1000000003) 48), (48, i_ri), (49, i_la 0 50), (50, i_li 1 51),
  (51, i_li 2 52), (52, i_cv n_X7_lowerTo 3 6 55), (55, i_la 0 56), (56, i_gR 6 (fun _ => (26, 0)) 59),
  (59, i_li 1 60), (60, i_ba 61), (61, i_if_eq 68 64), (64, i_c 1 65),
  (65, i_go 69), (68, i_c 0 69), (69, i_ri)]
def tb_X7_take : List (Nat × Ins) := [
  (0, i_la 0 1), (1, i_cv n_X7_own 1 6 4), (4, i_la 0 5), (5, i_cv n_X7_soonest 1 6 8),
  (8, i_st 1 9), (9, i_li 1 10), (10, i_c (-1) 11), (11, i_ic_ne 17 14),
  (14, i_c (-1000000003) 16), (16, i_ri), (17, i_la 0 18), (18, i_li 1 19),
  (19, i_cv n_X7_remove 2 6 22), (22, i_li 1 23), (23, i_ri)]
def tb_X7_drop : List (Nat × Ins) := [
  (0, i_la 0 1), (1, i_li 1 2), (2, i_cv n_X7_isJob 2 6 5), (5, i_if_ne 11 8),
  (8, i_c (-1000000001) 10), (10, i_ri), (11, i_la 0 12), (12, i_gR 6 (fun _ => (24, 0)) 15),
  (15, i_li 1 16), (16, i_ba 17), (17, i_if_ne 23 20), (20, i_c (-1000000003) 22),
  (22, i_ri), (23, i_la 0 24), (24, i_li 1 25), (25, i_cv n_X7_remove 2 6 28),
  (28, i_la 0 29), (29, i_cv n_X7_standing 1 6 32), (32, i_ri)]
def tb_X7_join : List (Nat × Ins) := [
  (0, i_la 0 1), (1, i_cv n_X7_own 1 6 4), (4, i_la 0 5), (5, i_gI 6 8 8),
  (8, i_st 1 9), (9, i_la 0 10), (10, i_cv n_X7_joinAll 1 6 13), (13, i_la 0 14),
  (14, i_gI 6 8 17), (17, i_li 1 18), (18, i_sub 19), (19, i_ri)]
def tb_X7_clear : List (Nat × Ins) := [
  (0, i_la 0 1), (1, i_gI 6 0 4), (4, i_st 1 5), (5, i_la 0 6),
  (6, i_c 0 7), (7, i_pI 6 0 10), (10, i_la 0 11), (11, i_c 0 12),
  (12, i_pI 6 7 15), (15, i_la 0 16), (16, i_c 0 17), (17, i_pI 6 8 20),
  (20, i_la 0 21), (21, i_c 0 22), (22, i_pI 6 9 25), (25, i_c 0 26),
  (26, i_st 2 27), (27, i_li 2 28), (28, i_c 16 30), (30, i_ic_ge 46 33),
  (33, i_la 0 34), (34, i_gR 6 (fun _ => (28, 0)) 37), (37, i_li 2 38), (38, i_c (-1) 39),
  (39, i_is 40), (40, i_inc 2 1 43), (43, i_go 27), (46, i_li 1 47),
  (47, i_ri)]
def tb_X7_standingAt : List (Nat × Ins) := [
  (0, i_li 1 1), (1, i_st 2 2), (2, i_la 0 3), (3, i_gI 6 10 6),
  (6, i_st 3 7), (7, i_la 0 8), (8, i_gR 6 (fun _ => (24, 0)) 11), (11, i_li 3 12),
  (12, i_ba 13), (13, i_if_eq 20 16), (16, i_li 2 17), (17, i_if_le 43 20),
  (20, i_li 2 21), (21, i_la 0 22), (22, i_gR 6 (fun _ => (24, 0)) 25), (25, i_li 3 26),
  (26, i_ba 27), (27, i_if_eq 34 30), (30, i_c 1 31), (31, i_go 35),
  (34, i_c 0 35), (35, i_sub 36), (36, i_st 2 37), (37, i_inc 3 1 40),
  (40, i_go 7), (43, i_li 3 44), (44, i_ri)]
def tb_X7_drawn : List (Nat × Ins) := [
  (0, i_la 0 1), (1, i_la 0 2), (2, i_gL 6 1 5), (5, i_cl 16807 8),
  (8, l_mul 9), (9, i_cl 2147483647 12), (12, l_rem 13), (13, i_pL 6 1 16),
  (16, i_la 0 17), (17, i_gL 6 1 20), (20, i_li 1 21), (21, i_2l 22),
  (22, l_rem 23), (23, l_2i 24), (24, i_ri)]
def tb_X7_lot : List (Nat × Ins) := [
  (0, i_la 0 1), (1, i_cv n_X7_own 1 6 4), (4, i_la 0 5), (5, i_c 4 6),
  (6, i_cv n_X7_drawn 2 6 9), (9, i_st 1 10), (10, i_li 1 11), (11, i_c 2 12),
  (12, i_ic_ge 56 15), (15, i_la 0 16), (16, i_gI 6 0 19), (19, i_c 40 21),
  (21, i_ic_ge 56 24), (24, i_la 0 25), (25, i_c 2 26), (26, i_cv n_X7_drawn 2 6 29),
  (29, i_st 2 30), (30, i_la 0 31), (31, i_la 0 32), (32, i_gI 6 0 35),
  (35, i_li 2 36), (36, i_la 0 37), (37, i_c 1000 40), (40, i_cv n_X7_drawn 2 6 43),
  (43, i_cv n_X7_add 4 6 46), (46, i_la 0 47), (47, i_dup 48), (48, i_gI 6 0 51),
  (51, i_c 1 52), (52, i_add 53), (53, i_pI 6 0 56), (56, i_li 1 57),
  (57, i_c 2 58), (58, i_ic_ne 119 61), (61, i_la 0 62), (62, i_cv n_X7_standing 1 6 65),
  (65, i_if_le 119 68), (68, i_la 0 69), (69, i_la 0 70), (70, i_la 0 71),
  (71, i_cv n_X7_standing 1 6 74), (74, i_cv n_X7_drawn 2 6 77), (77, i_cv n_X7_standingAt 2 6 80), (80, i_st 2 81),
  (81, i_la 0 82), (82, i_c 100 84), (84, i_cv n_X7_drawn 2 6 87), (87, i_st 3 88),
  (88, i_li 3 89), (89, i_if_le 119 92), (92, i_la 0 93), (93, i_gR 6 (fun _ => (23, 0)) 96),
  (96, i_li 2 97), (97, i_ia 98), (98, i_li 3 99), (99, i_sub 100),
  (100, i_c (-9999) 103), (103, i_ic_lt 119 106), (106, i_la 0 107), (107, i_li 2 108),
  (108, i_la 0 109), (109, i_gR 6 (fun _ => (23, 0)) 112), (112, i_li 2 113), (113, i_ia 114),
  (114, i_li 3 115), (115, i_sub 116), (116, i_cv n_X7_lowerTo 3 6 119), (119, i_li 1 120),
  (120, i_c 3 121), (121, i_ic_ne 139 124), (124, i_la 0 125), (125, i_cv n_X7_standing 1 6 128),
  (128, i_if_le 139 131), (131, i_la 0 132), (132, i_la 0 133), (133, i_cv n_X7_soonest 1 6 136),
  (136, i_cv n_X7_remove 2 6 139), (139, i_rv)]
def tb_X7_drift : List (Nat × Ins) := [
  (0, i_li 1 1), (1, i_c 1 2), (2, i_c 40 4), (4, i_cs n_X7_in 3 7),
  (7, i_if_eq 20 10), (10, i_li 2 11), (11, i_c 1 12), (12, i_c 999999 14),
  (14, i_cs n_X7_in 3 17), (17, i_if_ne 23 20), (20, i_c (-1000000002) 22), (22, i_ri),
  (23, i_la 0 24), (24, i_li 2 25), (25, i_2l 26), (26, i_pL 6 1 29),
  (29, i_c 0 30), (30, i_st 3 31), (31, i_li 3 32), (32, i_li 1 33),
  (33, i_ic_ge 46 36), (36, i_la 0 37), (37, i_cv n_X7_lot 1 6 40), (40, i_inc 3 1 43),
  (43, i_go 31), (46, i_la 0 47), (47, i_cv n_X7_own 1 6 50), (50, i_la 0 51),
  (51, i_cv n_X7_standing 1 6 54), (54, i_ri)]
def tb_X7_depth : List (Nat × Ins) := [
  (0, i_c 0 1), (1, i_st 2 2), (2, i_la 0 3), (3, i_gR 6 (fun _ => (25, 0)) 6),
  (6, i_li 1 7), (7, i_ia 8), (8, i_st 3 9), (9, i_li 3 10),
  (10, i_c (-1) 11), (11, i_ic_eq 27 14), (14, i_inc 2 1 17), (17, i_la 0 18),
  (18, i_gR 6 (fun _ => (25, 0)) 21), (21, i_li 3 22), (22, i_ia 23), (23, i_st 3 24),
  (24, i_go 9), (27, i_li 2 28), (28, i_ri)]
def tb_X7_isUnder : List (Nat × Ins) := [
  (0, i_li 1 1), (1, i_st 3 2), (2, i_li 3 3), (3, i_c (-1) 4),
  (4, i_ic_eq 22 7), (7, i_li 3 8), (8, i_li 2 9), (9, i_ic_eq 22 12),
  (12, i_la 0 13), (13, i_gR 6 (fun _ => (25, 0)) 16), (16, i_li 3 17), (17, i_ia 18),
  (18, i_st 3 19), (19, i_go 2), (22, i_li 3 23), (23, i_li 2 24),
  (24, i_ic_ne 31 27), (27, i_c 1 28), (28, i_go 32), (31, i_c 0 32),
  (32, i_rz)]
def tb_X7_many : List (Nat × Ins) := [
  (0, i_c 0 1), (1, i_st 2 2), (2, i_li 1 3), (3, i_c 5 4),
  (4, i_ic_ne 11 7), (7, i_c (-1) 8), (8, i_go 12), (11, i_c 0 12),
  (12, i_st 3 13), (13, i_c 0 14), (14, i_st 4 16), (16, i_li 4 18),
  (18, i_la 0 19), (19, i_gI 6 0 22), (22, i_ic_ge 120 25), (25, i_la 0 26),
  (26, i_gR 6 (fun _ => (24, 0)) 29), (29, i_li 4 31), (31, i_ba 32), (32, i_if_eq 114 35),
  (35, i_li 2 36), (36, i_li 1 37), (37, i_c 3 38), (38, i_ic_ne 60 41),
  (41, i_la 0 42), (42, i_gR 6 (fun _ => (25, 0)) 45), (45, i_li 4 47), (47, i_ia 48),
  (48, i_c (-1) 49), (49, i_ic_ne 56 52), (52, i_c 1 53), (53, i_go 75),
  (56, i_c 0 57), (57, i_go 75), (60, i_la 0 61), (61, i_gR 6 (fun _ => (26, 0)) 64),
  (64, i_li 4 66), (66, i_ba 67), (67, i_if_eq 74 70), (70, i_c 1 71),
  (71, i_go 75), (74, i_c 0 75), (75, i_add 76), (76, i_st 2 77),
  (77, i_li 1 78), (78, i_c 5 79), (79, i_ic_ne 91 82), (82, i_la 0 83),
  (83, i_li 4 85), (85, i_cv n_X7_rank 2 6 88), (88, i_go 99), (91, i_la 0 92),
  (92, i_li 4 94), (94, i_cv n_X7_depth 2 6 97), (97, i_c 1 98), (98, i_add 99),
  (99, i_st 5 101), (101, i_li 5 103), (103, i_li 3 104), (104, i_ic_le 112 107),
  (107, i_li 5 109), (109, i_go 113), (112, i_li 3 113), (113, i_st 3 114),
  (114, i_inc 4 1 117), (117, i_go 16), (120, i_li 1 121), (121, i_c 5 122),
  (122, i_ic_ge 129 125), (125, i_li 2 126), (126, i_go 130), (129, i_li 3 130),
  (130, i_ri)]
def tb_X7_told : List (Nat × Ins) := [
  (0, i_la 0 1), (1, i_cv n_X7_own 1 6 4), (4, i_li 1 5), (5, i_sw [(0, 64), (1, 69), (2, 74), (3, 79), (4, 79), (5, 79), (6, 85), (7, 90), (8, 79), (9, 95), (10, 100)] 105),
  (64, i_la 0 65), (65, i_gI 6 0 68), (68, i_ri), (69, i_la 0 70),
  (70, i_cv n_X7_standing 1 6 73), (73, i_ri), (74, i_la 0 75), (75, i_cv n_X7_soonest 1 6 78),
  (78, i_ri), (79, i_la 0 80), (80, i_li 1 81), (81, i_cv n_X7_many 2 6 84),
  (84, i_ri), (85, i_la 0 86), (86, i_gI 6 8 89), (89, i_ri),
  (90, i_la 0 91), (91, i_gI 6 9 94), (94, i_ri), (95, i_la 0 96),
  (96, i_gI 6 13 99), (99, i_ri), (100, i_la 0 101), (101, i_gI 6 14 104),
  (104, i_ri), (105, i_c (-1000000002) 107), (107, i_ri)]
def tb_X7_under : List (Nat × Ins) := [
  (0, i_c 0 1), (1, i_st 2 2), (2, i_c 0 3), (3, i_st 3 4),
  (4, i_li 3 5), (5, i_la 0 6), (6, i_gI 6 0 9), (9, i_ic_ge 44 12),
  (12, i_li 2 13), (13, i_la 0 14), (14, i_gR 6 (fun _ => (24, 0)) 17), (17, i_li 3 18),
  (18, i_ba 19), (19, i_if_eq 35 22), (22, i_la 0 23), (23, i_li 3 24),
  (24, i_li 1 25), (25, i_cv n_X7_isUnder 3 6 28), (28, i_if_eq 35 31), (31, i_c 1 32),
  (32, i_go 36), (35, i_c 0 36), (36, i_add 37), (37, i_st 2 38),
  (38, i_inc 3 1 41), (41, i_go 4), (44, i_li 2 45), (45, i_ri)]
def tb_X7_power : List (Nat × Ins) := [
  (0, i_c 0 1), (1, i_st 1 2), (2, i_li 0 3), (3, i_li 1 4),
  (4, i_c 1 5), (5, i_add 6), (6, i_shr 7), (7, i_if_le 16 10),
  (10, i_inc 1 1 13), (13, i_go 2), (16, i_li 1 17), (17, i_ri)]
def tb_X7_bitsOf : List (Nat × Ins) := [
  (0, i_li 0 1), (1, i_if_ne 6 4), (4, i_c 0 5), (5, i_ri),
  (6, i_li 0 7), (7, i_if_ge 15 10), (10, i_li 0 11), (11, i_neg 12),
  (12, i_go 16), (15, i_li 0 16), (16, i_st 1 17), (17, i_li 1 18),
  (18, i_cs n_X7_power 1 21), (21, i_st 2 22), (22, i_li 1 23), (23, i_c 1 24),
  (24, i_li 2 25), (25, i_shl 26), (26, i_sub 27), (27, i_c 23 29),
  (29, i_li 2 30), (30, i_sub 31), (31, i_shl 32), (32, i_st 3 33),
  (33, i_li 2 34), (34, i_c 123 36), (36, i_add 37), (37, i_c 23 39),
  (39, i_shl 40), (40, i_li 3 41), (41, i_add 42), (42, i_li 0 43),
  (43, i_if_ge 51 46), (46, i_c (-2147483648) 48), (48, i_go 52), (51, i_c 0 52),
  (52, i_add 53), (53, i_ri)]
def tb_X7_job : List (Nat × Ins) := [
  (0, i_la 0 1), (1, i_li 1 2), (2, i_cv n_X7_isJob 2 6 5), (5, i_if_ne 11 8),
  (8, i_c (-1000000001) 10), (10, i_ri), (11, i_li 2 12), (12, i_c 0 13),
  (13, i_c 8 15), (15, i_cs n_X7_in 3 18), (18, i_if_ne 24 21), (21, i_c (-1000000002) 23),
  (23, i_ri), (24, i_la 0 25), (25, i_gR 6 (fun _ => (24, 0)) 28), (28, i_li 1 29),
  (29, i_ba 30), (30, i_st 3 31), (31, i_li 2 32), (32, i_sw [(0, 80), (1, 87), (2, 94), (3, 104), (4, 119), (5, 133), (6, 152), (7, 166)] 180),
  (80, i_la 0 81), (81, i_gR 6 (fun _ => (22, 0)) 84), (84, i_li 1 85), (85, i_ia 86),
  (86, i_ri), (87, i_la 0 88), (88, i_gR 6 (fun _ => (23, 0)) 91), (91, i_li 1 92),
  (92, i_ia 93), (93, i_ri), (94, i_li 3 95), (95, i_if_eq 102 98),
  (98, i_c 1 99), (99, i_go 103), (102, i_c 0 103), (103, i_ri),
  (104, i_li 3 105), (105, i_if_eq 117 108), (108, i_la 0 109), (109, i_gR 6 (fun _ => (25, 0)) 112),
  (112, i_li 1 113), (113, i_ia 114), (114, i_go 118), (117, i_c (-1) 118),
  (118, i_ri), (119, i_li 3 120), (120, i_if_eq 131 123), (123, i_la 0 124),
  (124, i_li 1 125), (125, i_cv n_X7_rank 2 6 128), (128, i_go 132), (131, i_c 0 132),
  (132, i_ri), (133, i_li 3 134), (134, i_if_eq 150 137), (137, i_la 0 138),
  (138, i_gR 6 (fun _ => (26, 0)) 141), (141, i_li 1 142), (142, i_ba 143), (143, i_if_eq 150 146),
  (146, i_c 1 147), (147, i_go 151), (150, i_c 0 151), (151, i_ri),
  (152, i_li 3 153), (153, i_if_eq 164 156), (156, i_la 0 157), (157, i_li 1 158),
  (158, i_cv n_X7_depth 2 6 161), (161, i_go 165), (164, i_c 0 165), (165, i_ri),
  (166, i_li 3 167), (167, i_if_eq 178 170), (170, i_la 0 171), (171, i_li 1 172),
  (172, i_cv n_X7_under 2 6 175), (175, i_go 179), (178, i_c 0 179), (179, i_ri),
  (180, i_la 0 181), (181, i_gR 6 (fun _ => (23, 0)) 184), (184, i_li 1 185), (185, i_ia 186),
  (186, i_cs n_X7_bitsOf 1 189), (189, i_ri)]
def tb_X7_child : List (Nat × Ins) := [
  (0, i_la 0 1), (1, i_li 1 2), (2, i_cv n_X7_isJob 2 6 5), (5, i_if_ne 11 8),
  (8, i_c (-1000000001) 10), (10, i_ri), (11, i_li 2 12), (12, i_if_ge 18 15),
  (15, i_c (-1000000002) 17), (17, i_ri), (18, i_c 0 19), (19, i_st 3 20),
  (20, i_li 3 21), (21, i_la 0 22), (22, i_gI 6 0 25), (25, i_ic_ge 129 28),
  (28, i_la 0 29), (29, i_gR 6 (fun _ => (24, 0)) 32), (32, i_li 3 33), (33, i_ba 34),
  (34, i_if_eq 123 37), (37, i_la 0 38), (38, i_gR 6 (fun _ => (25, 0)) 41), (41, i_li 3 42),
  (42, i_ia 43), (43, i_li 1 44), (44, i_ic_ne 123 47), (47, i_c 0 48),
  (48, i_st 4 50), (50, i_c 0 51), (51, i_st 5 53), (53, i_li 5 55),
  (55, i_la 0 56), (56, i_gI 6 0 59), (59, i_ic_ge 115 62), (62, i_li 4 64),
  (64, i_la 0 65), (65, i_gR 6 (fun _ => (24, 0)) 68), (68, i_li 5 70), (70, i_ba 71),
  (71, i_if_eq 105 74), (74, i_la 0 75), (75, i_gR 6 (fun _ => (25, 0)) 78), (78, i_li 5 80),
  (80, i_ia 81), (81, i_li 1 82), (82, i_ic_ne 105 85), (85, i_la 0 86),
  (86, i_gR 6 (fun _ => (27, 0)) 89), (89, i_li 5 91), (91, i_ia 92), (92, i_la 0 93),
  (93, i_gR 6 (fun _ => (27, 0)) 96), (96, i_li 3 97), (97, i_ia 98), (98, i_ic_ge 105 101),
  (101, i_c 1 102), (102, i_go 106), (105, i_c 0 106), (106, i_add 107),
  (107, i_st 4 109), (109, i_inc 5 1 112), (112, i_go 53), (115, i_li 4 117),
  (117, i_li 2 118), (118, i_ic_ne 123 121), (121, i_li 3 122), (122, i_ri),
  (123, i_inc 3 1 126), (126, i_go 20), (129, i_c (-1) 130), (130, i_ri)]
def tb_X7_loose : List (Nat × Ins) := [
  (0, i_la 0 1), (1, i_cv n_X7_own 1 6 4), (4, i_li 1 5), (5, i_if_ge 13 8),
  (8, i_c (-1000000002) 10), (10, i_go 20), (13, i_la 0 14), (14, i_li 1 15),
  (15, i_c (-1) 16), (16, i_c 1 17), (17, i_cv n_X7_ofRank 4 6 20), (20, i_ri)]
def tb_X7_bits : List (Nat × Ins) := [
  (0, i_c 0 1), (1, i_st 1 2), (2, i_c 0 3), (3, i_st 2 4),
  (4, i_li 2 5), (5, i_la 0 6), (6, i_gI 6 0 9), (9, i_ic_ge 40 12),
  (12, i_li 1 13), (13, i_la 0 14), (14, i_gR 6 (fun _ => (24, 0)) 17), (17, i_li 2 18),
  (18, i_ba 19), (19, i_if_eq 31 22), (22, i_la 0 23), (23, i_gR 6 (fun _ => (23, 0)) 26),
  (26, i_li 2 27), (27, i_ia 28), (28, i_go 32), (31, i_c 0 32),
  (32, i_add 33), (33, i_st 1 34), (34, i_inc 2 1 37), (37, i_go 4),
  (40, i_li 1 41), (41, i_if_ne 46 44), (44, i_cl 0 45), (45, i_rl),
  (46, i_li 1 47), (47, i_if_ge 55 50), (50, i_li 1 51), (51, i_neg 52),
  (52, i_go 56), (55, i_li 1 56), (56, i_st 2 57), (57, i_li 2 58),
  (58, i_cs n_X7_power 1 61), (61, i_st 3 62), (62, i_li 2 63), (63, i_c 1 64),
  (64, i_li 3 65), (65, i_shl 66), (66, i_sub 67), (67, i_2l 68),
  (68, i_c 52 70), (70, i_li 3 71), (71, i_sub 72), (72, l_shl 73),
  (73, i_st2 4 75), (75, i_li 3 76), (76, i_c 1019 79), (79, i_add 80),
  (80, i_2l 81), (81, i_c 52 83), (83, l_shl 84), (84, i_ll 4 86),
  (86, l_add 87), (87, i_li 1 88), (88, i_if_ge 97 91), (91, i_cl (-9223372036854775808) 94),
  (94, i_go 98), (97, i_cl 0 98), (98, l_add 99), (99, i_rl)]
def tb_X7_sit : List (Nat × Ins) := [
  (0, i_li 1 1), (1, i_c 0 2), (2, i_c 1 3), (3, i_cs n_X7_in 3 6),
  (6, i_if_eq 17 9), (9, i_la 0 10), (10, i_li 3 11), (11, i_cv n_X7_isJob 2 6 14),
  (14, i_if_ne 20 17), (17, i_c (-1000000001) 19), (19, i_ri), (20, i_la 0 21),
  (21, i_gR 6 (fun _ => (24, 0)) 24), (24, i_li 3 25), (25, i_ba 26), (26, i_if_eq 32 29),
  (29, i_c (-1000000003) 31), (31, i_ri), (32, i_li 2 33), (33, i_c 0 34),
  (34, i_c 7 36), (36, i_cs n_X7_in 3 39), (39, i_if_ne 45 42), (42, i_c (-1000000011) 44),
  (44, i_ri), (45, i_li 1 46), (46, i_c 1 47), (47, i_ic_ne 62 50),
  (50, i_la 0 51), (51, i_gR 6 (fun _ => (22, 0)) 54), (54, i_li 3 55), (55, i_ia 56),
  (56, i_if_ne 62 59), (59, i_c (-1000000012) 61), (61, i_ri), (62, i_la 0 63),
  (63, i_gR 6 (fun _ => (28, 0)) 66), (66, i_c 8 68), (68, i_li 1 69), (69, i_mul 70),
  (70, i_li 2 71), (71, i_add 72), (72, i_ia 73), (73, i_st 4 75),
  (75, i_c 0 76), (76, i_st 5 78), (78, i_li 5 80), (80, i_c 16 82),
  (82, i_ic_ge 120 85), (85, i_la 0 86), (86, i_gR 6 (fun _ => (28, 0)) 89), (89, i_li 5 91),
  (91, i_la 0 92), (92, i_gR 6 (fun _ => (28, 0)) 95), (95, i_li 5 97), (97, i_ia 98),
  (98, i_li 3 99), (99, i_ic_ne 106 102), (102, i_c (-1) 103), (103, i_go 113),
  (106, i_la 0 107), (107, i_gR 6 (fun _ => (28, 0)) 110), (110, i_li 5 112), (112, i_ia 113),
  (113, i_is 114), (114, i_inc 5 1 117), (117, i_go 78), (120, i_la 0 121),
  (121, i_gR 6 (fun _ => (28, 0)) 124), (124, i_c 8 126), (126, i_li 1 127), (127, i_mul 128),
  (128, i_li 2 129), (129, i_add 130), (130, i_li 3 131), (131, i_is 132),
  (132, i_li 4 134), (134, i_ri)]
def tb_X7_sits : List (Nat × Ins) := [
  (0, i_li 1 1), (1, i_c 0 2), (2, i_c 1 3), (3, i_cs n_X7_in 3 6),
  (6, i_if_ne 12 9), (9, i_c (-1000000001) 11), (11, i_ri), (12, i_li 2 13),
  (13, i_c 0 14), (14, i_c 7 16), (16, i_cs n_X7_in 3 19), (19, i_if_eq 36 22),
  (22, i_la 0 23), (23, i_gR 6 (fun _ => (28, 0)) 26), (26, i_c 8 28), (28, i_li 1 29),
  (29, i_mul 30), (30, i_li 2 31), (31, i_add 32), (32, i_ia 33),
  (33, i_go 38), (36, i_c (-1000000011) 38), (38, i_ri)]
def tb_X7_net : List (Nat × Ins) := [
  (0, i_li 1 1), (1, i_c 2 2), (2, i_c 8 4), (4, i_cs n_X7_in 3 7),
  (7, i_if_ne 13 10), (10, i_c (-1000000002) 12), (12, i_ri), (13, i_la 0 14),
  (14, i_gI 6 14 17), (17, i_st 2 18), (18, i_la 0 19), (19, i_li 1 20),
  (20, i_pI 6 13 23), (23, i_la 0 24), (24, i_c 0 25), (25, i_pI 6 14 28),
  (28, i_li 2 29), (29, i_ri)]
def tb_X7_isPlace : List (Nat × Ins) := [
  (0, i_li 1 1), (1, i_c 0 2), (2, i_la 0 3), (3, i_gI 6 13 6),
  (6, i_c 1 7), (7, i_sub 8), (8, i_cs n_X7_in 3 11), (11, i_rz)]
def tb_X7_road : List (Nat × Ins) := [
  (0, i_la 0 1), (1, i_li 1 2), (2, i_cv n_X7_isPlace 2 6 5), (5, i_if_eq 21 8),
  (8, i_la 0 9), (9, i_li 2 10), (10, i_cv n_X7_isPlace 2 6 13), (13, i_if_eq 21 16),
  (16, i_li 1 17), (17, i_li 2 18), (18, i_ic_ne 24 21), (21, i_c (-1000000001) 23),
  (23, i_ri), (24, i_li 3 25), (25, i_c 0 26), (26, i_c 9999 29),
  (29, i_cs n_X7_in 3 32), (32, i_if_ne 38 35), (35, i_c (-1000000002) 37), (37, i_ri),
  (38, i_la 0 39), (39, i_gI 6 14 42), (42, i_c 14 44), (44, i_ic_ne 50 47),
  (47, i_c (-1000000004) 49), (49, i_ri), (50, i_la 0 51), (51, i_gR 6 (fun _ => (29, 0)) 54),
  (54, i_la 0 55), (55, i_gI 6 14 58), (58, i_li 1 59), (59, i_is 60),
  (60, i_la 0 61), (61, i_gR 6 (fun _ => (30, 0)) 64), (64, i_la 0 65), (65, i_gI 6 14 68),
  (68, i_li 2 69), (69, i_is 70), (70, i_la 0 71), (71, i_gR 6 (fun _ => (31, 0)) 74),
  (74, i_la 0 75), (75, i_gI 6 14 78), (78, i_li 3 79), (79, i_is 80),
  (80, i_la 0 81), (81, i_dup 82), (82, i_gI 6 14 85), (85, i_c 1 86),
  (86, i_add 87), (87, i_pI 6 14 90), (90, i_la 0 91), (91, i_gI 6 14 94),
  (94, i_c 1 95), (95, i_sub 96), (96, i_ri)]
def tb_X7_goFrom : List (Nat × Ins) := [
  (0, i_c 0 1), (1, i_st 3 2), (2, i_li 3 3), (3, i_la 0 4),
  (4, i_gI 6 14 7), (7, i_ic_ge 154 10), (10, i_la 0 11), (11, i_gR 6 (fun _ => (29, 0)) 14),
  (14, i_li 3 15), (15, i_ia 16), (16, i_li 1 17), (17, i_ic_ne 29 20),
  (20, i_la 0 21), (21, i_gR 6 (fun _ => (30, 0)) 24), (24, i_li 3 25), (25, i_ia 26),
  (26, i_go 49), (29, i_la 0 30), (30, i_gR 6 (fun _ => (30, 0)) 33), (33, i_li 3 34),
  (34, i_ia 35), (35, i_li 1 36), (36, i_ic_ne 48 39), (39, i_la 0 40),
  (40, i_gR 6 (fun _ => (29, 0)) 43), (43, i_li 3 44), (44, i_ia 45), (45, i_go 49),
  (48, i_c (-1) 49), (49, i_st 4 51), (51, i_li 4 53), (53, i_c (-1) 54),
  (54, i_ic_eq 148 57), (57, i_la 0 58), (58, i_gR 6 (fun _ => (24, 0)) 61), (61, i_c 40 63),
  (63, i_li 4 65), (65, i_add 66), (66, i_ba 67), (67, i_if_eq 148 70),
  (70, i_la 0 71), (71, i_gR 6 (fun _ => (31, 0)) 74), (74, i_li 3 75), (75, i_ia 76),
  (76, i_li 2 77), (77, i_if_eq 92 80), (80, i_la 0 81), (81, i_gR 6 (fun _ => (23, 0)) 84),
  (84, i_c 40 86), (86, i_li 1 87), (87, i_add 88), (88, i_ia 89),
  (89, i_go 93), (92, i_c 0 93), (93, i_add 94), (94, i_st 5 96),
  (96, i_li 5 98), (98, i_la 0 99), (99, i_gR 6 (fun _ => (23, 0)) 102), (102, i_c 40 104),
  (104, i_li 4 106), (106, i_add 107), (107, i_ia 108), (108, i_ic_ge 148 111),
  (111, i_li 5 113), (113, i_c 9999 116), (116, i_ic_ge 148 119), (119, i_la 0 120),
  (120, i_gR 6 (fun _ => (32, 0)) 123), (123, i_li 4 125), (125, i_li 3 126), (126, i_is 127),
  (127, i_la 0 128), (128, i_dup 129), (129, i_gI 6 19 132), (132, i_c 1 133),
  (133, i_add 134), (134, i_pI 6 19 137), (137, i_la 0 138), (138, i_c 40 140),
  (140, i_li 4 142), (142, i_add 143), (143, i_li 5 145), (145, i_cv n_X7_lowerTo 3 6 148),
  (148, i_inc 3 1 151), (151, i_go 2), (154, i_rv)]
def tb_X7_lay : List (Nat × Ins) := [
  (0, i_la 0 1), (1, i_gI 6 8 4), (4, i_st 3 5), (5, i_la 0 6),
  (6, i_gI 6 9 9), (9, i_st 4 11), (11, i_la 0 12), (12, i_gI 6 7 15),
  (15, i_st 5 17), (17, i_la 0 18), (18, i_c 40 20), (20, i_pI 6 10 23),
  (23, i_la 0 24), (24, i_c 0 25), (25, i_pI 6 19 28), (28, i_c 0 29),
  (29, i_st 6 31), (31, i_li 6 33), (33, i_la 0 34), (34, i_gI 6 13 37),
  (37, i_ic_ge 77 40), (40, i_la 0 41), (41, i_gR 6 (fun _ => (32, 0)) 44), (44, i_li 6 46),
  (46, i_c (-1) 47), (47, i_is 48), (48, i_la 0 49), (49, i_c 40 51),
  (51, i_li 6 53), (53, i_add 54), (54, i_c 0 55), (55, i_li 6 57),
  (57, i_li 1 58), (58, i_ic_ne 65 61), (61, i_c 0 62), (62, i_go 68),
  (65, i_c 9999 68), (68, i_cv n_X7_add 4 6 71), (71, i_inc 6 1 74), (74, i_go 31),
  (77, i_c 0 78), (78, i_st 6 80), (80, i_la 0 81), (81, i_cv n_X7_soonest 1 6 84),
  (84, i_st 7 86), (86, i_li 7 88), (88, i_c (-1) 89), (89, i_ic_eq 138 92),
  (92, i_la 0 93), (93, i_li 7 95), (95, i_cv n_X7_remove 2 6 98), (98, i_li 6 100),
  (100, i_if_eq 116 103), (103, i_la 0 104), (104, i_gR 6 (fun _ => (23, 0)) 107), (107, i_li 7 109),
  (109, i_ia 110), (110, i_c 9999 113), (113, i_ic_ge 126 116), (116, i_la 0 117),
  (117, i_li 7 119), (119, i_c 40 121), (121, i_sub 122), (122, i_li 2 123),
  (123, i_cv n_X7_goFrom 3 6 126), (126, i_inc 6 1 129), (129, i_la 0 130), (130, i_cv n_X7_soonest 1 6 133),
  (133, i_st 7 135), (135, i_go 86), (138, i_la 0 139), (139, i_la 0 140),
  (140, i_gI 6 8 143), (143, i_li 3 144), (144, i_sub 145), (145, i_pI 6 20 148),
  (148, i_la 0 149), (149, i_la 0 150), (150, i_gI 6 9 153), (153, i_li 4 155),
  (155, i_sub 156), (156, i_pI 6 21 159), (159, i_la 0 160), (160, i_li 3 161),
  (161, i_pI 6 8 164), (164, i_la 0 165), (165, i_li 4 167), (167, i_pI 6 9 170),
  (170, i_la 0 171), (171, i_li 5 173), (173, i_pI 6 7 176), (176, i_la 0 177),
  (177, i_cv n_X7_own 1 6 180), (180, i_rv)]
def tb_X7_hanging : List (Nat × Ins) := [
  (0, i_c 0 1), (1, i_st 2 2), (2, i_c 0 3), (3, i_st 3 4),
  (4, i_li 3 5), (5, i_la 0 6), (6, i_gI 6 13 9), (9, i_ic_ge 61 12),
  (12, i_li 2 13), (13, i_la 0 14), (14, i_gR 6 (fun _ => (32, 0)) 17), (17, i_li 3 18),
  (18, i_ia 19), (19, i_c (-1) 20), (20, i_ic_ne 27 23), (23, i_c 0 24),
  (24, i_go 53), (27, i_li 1 28), (28, i_if_eq 42 31), (31, i_c 1 32),
  (32, i_la 0 33), (33, i_gR 6 (fun _ => (32, 0)) 36), (36, i_li 3 37), (37, i_ia 38),
  (38, i_shl 39), (39, i_go 53), (42, i_la 0 43), (43, i_gR 6 (fun _ => (31, 0)) 46),
  (46, i_la 0 47), (47, i_gR 6 (fun _ => (32, 0)) 50), (50, i_li 3 51), (51, i_ia 52),
  (52, i_ia 53), (53, i_add 54), (54, i_st 2 55), (55, i_inc 3 1 58),
  (58, i_go 4), (61, i_li 2 62), (62, i_ri)]
def tb_X7_tree : List (Nat × Ins) := [
  (0, i_la 0 1), (1, i_li 1 2), (2, i_cv n_X7_isPlace 2 6 5), (5, i_if_ne 11 8),
  (8, i_c (-1000000001) 10), (10, i_ri), (11, i_li 2 12), (12, i_c 0 13),
  (13, i_c 4 14), (14, i_cs n_X7_in 3 17), (17, i_if_ne 23 20), (20, i_c (-1000000002) 22),
  (22, i_ri), (23, i_la 0 24), (24, i_li 1 25), (25, i_c 0 26),
  (26, i_cv n_X7_lay 3 6 29), (29, i_li 2 30), (30, i_c 2 31), (31, i_ic_ge 51 34),
  (34, i_la 0 35), (35, i_li 2 36), (36, i_c 1 37), (37, i_ic_ne 44 40),
  (40, i_c 1 41), (41, i_go 45), (44, i_c 0 45), (45, i_cv n_X7_hanging 2 6 48),
  (48, i_go 79), (51, i_li 2 52), (52, i_c 2 53), (53, i_ic_ne 63 56),
  (56, i_la 0 57), (57, i_gI 6 20 60), (60, i_go 79), (63, i_li 2 64),
  (64, i_c 3 65), (65, i_ic_ne 75 68), (68, i_la 0 69), (69, i_gI 6 21 72),
  (72, i_go 79), (75, i_la 0 76), (76, i_gI 6 19 79), (79, i_ri)]
def tb_X7_way : List (Nat × Ins) := [
  (0, i_la 0 1), (1, i_li 1 2), (2, i_cv n_X7_isPlace 2 6 5), (5, i_if_eq 16 8),
  (8, i_la 0 9), (9, i_li 2 10), (10, i_cv n_X7_isPlace 2 6 13), (13, i_if_ne 19 16),
  (16, i_c (-1000000001) 18), (18, i_ri), (19, i_la 0 20), (20, i_li 1 21),
  (21, i_c 1 22), (22, i_cv n_X7_lay 3 6 25), (25, i_la 0 26), (26, i_gR 6 (fun _ => (23, 0)) 29),
  (29, i_c 40 31), (31, i_li 2 32), (32, i_add 33), (33, i_ia 34),
  (34, i_c 9999 37), (37, i_ic_ge 52 40), (40, i_la 0 41), (41, i_gR 6 (fun _ => (23, 0)) 44),
  (44, i_c 40 46), (46, i_li 2 47), (47, i_add 48), (48, i_ia 49),
  (49, i_go 53), (52, i_c (-1) 53), (53, i_ri)]
def tb_X7_ways : List (Nat × Ins) := [
  (0, i_la 0 1), (1, i_li 1 2), (2, i_cv n_X7_isPlace 2 6 5), (5, i_if_ne 11 8),
  (8, i_c (-1000000001) 10), (10, i_ri), (11, i_li 2 12), (12, i_c 0 13),
  (13, i_c 3 14), (14, i_cs n_X7_in 3 17), (17, i_if_ne 23 20), (20, i_c (-1000000002) 22),
  (22, i_ri), (23, i_la 0 24), (24, i_li 1 25), (25, i_c 1 26),
  (26, i_cv n_X7_lay 3 6 29), (29, i_li 2 30), (30, i_c 3 31), (31, i_ic_ge 62 34),
  (34, i_li 2 35), (35, i_if_ne 45 38), (38, i_la 0 39), (39, i_gI 6 20 42),
  (42, i_go 61), (45, i_li 2 46), (46, i_c 1 47), (47, i_ic_ne 57 50),
  (50, i_la 0 51), (51, i_gI 6 21 54), (54, i_go 61), (57, i_la 0 58),
  (58, i_gI 6 19 61), (61, i_ri), (62, i_c 0 63), (63, i_st 3 64),
  (64, i_c 0 65), (65, i_st 4 67), (67, i_li 4 69), (69, i_la 0 70),
  (70, i_gI 6 13 73), (73, i_ic_ge 106 76), (76, i_li 3 77), (77, i_la 0 78),
  (78, i_gR 6 (fun _ => (23, 0)) 81), (81, i_c 40 83), (83, i_li 4 85), (85, i_add 86),
  (86, i_ia 87), (87, i_c 9999 90), (90, i_ic_ge 97 93), (93, i_c 1 94),
  (94, i_go 98), (97, i_c 0 98), (98, i_add 99), (99, i_st 3 100),
  (100, i_inc 4 1 103), (103, i_go 67), (106, i_li 3 107), (107, i_ri)]
def tb_X7_keep : List (Nat × Ins) := [
  (0, i_li 1 1), (1, i_c 0 2), (2, i_c 1 3), (3, i_cs n_X7_in 3 6),
  (6, i_if_ne 12 9), (9, i_c (-1000000001) 11), (11, i_ri), (12, i_c 260 15),
  (15, i_li 1 16), (16, i_mul 17), (17, i_st 2 18), (18, i_la 0 19),
  (19, i_gR 6 (fun _ => (33, 0)) 22), (22, i_li 2 23), (23, i_la 0 24), (24, i_gI 6 0 27),
  (27, i_is 28), (28, i_la 0 29), (29, i_gR 6 (fun _ => (33, 0)) 32), (32, i_li 2 33),
  (33, i_c 1 34), (34, i_add 35), (35, i_la 0 36), (36, i_gI 6 8 39),
  (39, i_is 40), (40, i_la 0 41), (41, i_gR 6 (fun _ => (33, 0)) 44), (44, i_li 2 45),
  (45, i_c 2 46), (46, i_add 47), (47, i_la 0 48), (48, i_gI 6 9 51),
  (51, i_is 52), (52, i_la 0 53), (53, i_gR 6 (fun _ => (33, 0)) 56), (56, i_li 2 57),
  (57, i_c 3 58), (58, i_add 59), (59, i_la 0 60), (60, i_gI 6 7 63),
  (63, i_is 64), (64, i_c 0 65), (65, i_st 3 66), (66, i_li 3 67),
  (67, i_la 0 68), (68, i_gI 6 0 71), (71, i_ic_ge 194 74), (74, i_li 2 75),
  (75, i_c 4 76), (76, i_add 77), (77, i_c 6 79), (79, i_li 3 80),
  (80, i_mul 81), (81, i_add 82), (82, i_st 4 84), (84, i_la 0 85),
  (85, i_gR 6 (fun _ => (33, 0)) 88), (88, i_li 4 90), (90, i_la 0 91), (91, i_gR 6 (fun _ => (22, 0)) 94),
  (94, i_li 3 95), (95, i_ia 96), (96, i_is 97), (97, i_la 0 98),
  (98, i_gR 6 (fun _ => (33, 0)) 101), (101, i_li 4 103), (103, i_c 1 104), (104, i_add 105),
  (105, i_la 0 106), (106, i_gR 6 (fun _ => (23, 0)) 109), (109, i_li 3 110), (110, i_ia 111),
  (111, i_is 112), (112, i_la 0 113), (113, i_gR 6 (fun _ => (33, 0)) 116), (116, i_li 4 118),
  (118, i_c 2 119), (119, i_add 120), (120, i_la 0 121), (121, i_gR 6 (fun _ => (24, 0)) 124),
  (124, i_li 3 125), (125, i_ba 126), (126, i_if_eq 133 129), (129, i_c 1 130),
  (130, i_go 134), (133, i_c 0 134), (134, i_is 135), (135, i_la 0 136),
  (136, i_gR 6 (fun _ => (33, 0)) 139), (139, i_li 4 141), (141, i_c 3 142), (142, i_add 143),
  (143, i_la 0 144), (144, i_gR 6 (fun _ => (25, 0)) 147), (147, i_li 3 148), (148, i_ia 149),
  (149, i_is 150), (150, i_la 0 151), (151, i_gR 6 (fun _ => (33, 0)) 154), (154, i_li 4 156),
  (156, i_c 4 157), (157, i_add 158), (158, i_la 0 159), (159, i_gR 6 (fun _ => (26, 0)) 162),
  (162, i_li 3 163), (163, i_ba 164), (164, i_if_eq 171 167), (167, i_c 1 168),
  (168, i_go 172), (171, i_c 0 172), (172, i_is 173), (173, i_la 0 174),
  (174, i_gR 6 (fun _ => (33, 0)) 177), (177, i_li 4 179), (179, i_c 5 180), (180, i_add 181),
  (181, i_la 0 182), (182, i_gR 6 (fun _ => (27, 0)) 185), (185, i_li 3 186), (186, i_ia 187),
  (187, i_is 188), (188, i_inc 3 1 191), (191, i_go 66), (194, i_c 0 195),
  (195, i_st 3 196), (196, i_li 3 197), (197, i_c 16 199), (199, i_ic_ge 226 202),
  (202, i_la 0 203), (203, i_gR 6 (fun _ => (33, 0)) 206), (206, i_li 2 207), (207, i_c 244 210),
  (210, i_add 211), (211, i_li 3 212), (212, i_add 213), (213, i_la 0 214),
  (214, i_gR 6 (fun _ => (28, 0)) 217), (217, i_li 3 218), (218, i_ia 219), (219, i_is 220),
  (220, i_inc 3 1 223), (223, i_go 196), (226, i_la 0 227), (227, i_gR 6 (fun _ => (34, 0)) 230),
  (230, i_li 1 231), (231, i_c 1 232), (232, i_bs 233), (233, i_la 0 234),
  (234, i_gI 6 0 237), (237, i_ri)]
def tb_X7_goBack : List (Nat × Ins) := [
  (0, i_li 1 1), (1, i_c 0 2), (2, i_c 1 3), (3, i_cs n_X7_in 3 6),
  (6, i_if_ne 12 9), (9, i_c (-1000000001) 11), (11, i_ri), (12, i_la 0 13),
  (13, i_gR 6 (fun _ => (34, 0)) 16), (16, i_li 1 17), (17, i_ba 18), (18, i_if_ne 24 21),
  (21, i_c (-1000000003) 23), (23, i_ri), (24, i_c 260 27), (27, i_li 1 28),
  (28, i_mul 29), (29, i_st 2 30), (30, i_la 0 31), (31, i_la 0 32),
  (32, i_gR 6 (fun _ => (33, 0)) 35), (35, i_li 2 36), (36, i_ia 37), (37, i_pI 6 0 40),
  (40, i_la 0 41), (41, i_la 0 42), (42, i_gR 6 (fun _ => (33, 0)) 45), (45, i_li 2 46),
  (46, i_c 1 47), (47, i_add 48), (48, i_ia 49), (49, i_pI 6 8 52),
  (52, i_la 0 53), (53, i_la 0 54), (54, i_gR 6 (fun _ => (33, 0)) 57), (57, i_li 2 58),
  (58, i_c 2 59), (59, i_add 60), (60, i_ia 61), (61, i_pI 6 9 64),
  (64, i_la 0 65), (65, i_la 0 66), (66, i_gR 6 (fun _ => (33, 0)) 69), (69, i_li 2 70),
  (70, i_c 3 71), (71, i_add 72), (72, i_ia 73), (73, i_pI 6 7 76),
  (76, i_c 0 77), (77, i_st 3 78), (78, i_li 3 79), (79, i_la 0 80),
  (80, i_gI 6 0 83), (83, i_ic_ge 208 86), (86, i_li 2 87), (87, i_c 4 88),
  (88, i_add 89), (89, i_c 6 91), (91, i_li 3 92), (92, i_mul 93),
  (93, i_add 94), (94, i_st 4 96), (96, i_la 0 97), (97, i_gR 6 (fun _ => (22, 0)) 100),
  (100, i_li 3 101), (101, i_la 0 102), (102, i_gR 6 (fun _ => (33, 0)) 105), (105, i_li 4 107),
  (107, i_ia 108), (108, i_is 109), (109, i_la 0 110), (110, i_gR 6 (fun _ => (23, 0)) 113),
  (113, i_li 3 114), (114, i_la 0 115), (115, i_gR 6 (fun _ => (33, 0)) 118), (118, i_li 4 120),
  (120, i_c 1 121), (121, i_add 122), (122, i_ia 123), (123, i_is 124),
  (124, i_la 0 125), (125, i_gR 6 (fun _ => (24, 0)) 128), (128, i_li 3 129), (129, i_la 0 130),
  (130, i_gR 6 (fun _ => (33, 0)) 133), (133, i_li 4 135), (135, i_c 2 136), (136, i_add 137),
  (137, i_ia 138), (138, i_c 1 139), (139, i_ic_ne 146 142), (142, i_c 1 143),
  (143, i_go 147), (146, i_c 0 147), (147, i_bs 148), (148, i_la 0 149),
  (149, i_gR 6 (fun _ => (25, 0)) 152), (152, i_li 3 153), (153, i_la 0 154), (154, i_gR 6 (fun _ => (33, 0)) 157),
  (157, i_li 4 159), (159, i_c 3 160), (160, i_add 161), (161, i_ia 162),
  (162, i_is 163), (163, i_la 0 164), (164, i_gR 6 (fun _ => (26, 0)) 167), (167, i_li 3 168),
  (168, i_la 0 169), (169, i_gR 6 (fun _ => (33, 0)) 172), (172, i_li 4 174), (174, i_c 4 175),
  (175, i_add 176), (176, i_ia 177), (177, i_c 1 178), (178, i_ic_ne 185 181),
  (181, i_c 1 182), (182, i_go 186), (185, i_c 0 186), (186, i_bs 187),
  (187, i_la 0 188), (188, i_gR 6 (fun _ => (27, 0)) 191), (191, i_li 3 192), (192, i_la 0 193),
  (193, i_gR 6 (fun _ => (33, 0)) 196), (196, i_li 4 198), (198, i_c 5 199), (199, i_add 200),
  (200, i_ia 201), (201, i_is 202), (202, i_inc 3 1 205), (205, i_go 78),
  (208, i_c 0 209), (209, i_st 3 210), (210, i_li 3 211), (211, i_c 16 213),
  (213, i_ic_ge 240 216), (216, i_la 0 217), (217, i_gR 6 (fun _ => (28, 0)) 220), (220, i_li 3 221),
  (221, i_la 0 222), (222, i_gR 6 (fun _ => (33, 0)) 225), (225, i_li 2 226), (226, i_c 244 229),
  (229, i_add 230), (230, i_li 3 231), (231, i_add 232), (232, i_ia 233),
  (233, i_is 234), (234, i_inc 3 1 237), (237, i_go 210), (240, i_la 0 241),
  (241, i_gI 6 0 244), (244, i_ri)]
def tb_J7_fill_53178 : List (Nat × Ins) := [
  (0, i_c 0 1), (1, i_st 2 2), (2, i_la 0 3), (3, i_al 4),
  (4, i_st 3 5), (5, i_li 2 6), (6, i_li 3 7), (7, i_ic_ge 20 10),
  (10, i_la 0 11), (11, i_li 2 12), (12, i_li 1 13), (13, i_is 14),
  (14, i_inc 2 1 17), (17, i_go 5), (20, i_rv)]
end
section
/-! ===== BEGIN words of one list among another's, by their places ===== -/
theorem goodIn_r {big : List Cond} (ws : List Cond) (ps : List Nat) (hp : ws = ps.filterMap (fun i => big[i]?)) (h : ws.all goodWord = true) : GoodIn big ws := by
  intro w hw
  have h1 := List.all_eq_true.mp h w hw
  rw [hp] at hw
  obtain ⟨i, -, hi⟩ := List.mem_filterMap.mp hw
  have hm : w ∈ big := by first | exact List.mem_of_getElem? hi | exact List.getElem?_mem hi
  exact ⟨hm, good_of_word h1⟩
theorem goodIn_app {big a b : List Cond} (ha : GoodIn big a) (hb : GoodIn big b) : GoodIn big (a ++ b) := fun w h => (List.mem_append.mp h).elim (ha w) (hb w)
theorem goodIn_ca {big a b : List Cond} {c : Cond} (ha : GoodIn big (c :: a)) (hb : GoodIn big b) : GoodIn big (c :: (a ++ b)) := fun w h => (List.mem_cons.mp h).elim (fun e => ha w (List.mem_cons.mpr (Or.inl e))) (fun h => (List.mem_append.mp h).elim (fun h => ha w (List.mem_cons.mpr (Or.inr h))) (hb w))
theorem goodIn_sub {big ws : List Cond} (hm : ∀ w ∈ ws, w ∈ big) (h : ws.all goodWord = true) : GoodIn big ws := fun w hw => ⟨hm w hw, good_of_word (List.all_eq_true.mp h w hw)⟩
/-! ===== END ===== -/

/-! ===== BEGIN printed: names, fields, word lists, decode rows ===== -/
def RX0 : String := "LooseHeap$Benches"
def TX0 : u_T := fun k => match k with
  | _ => ("LooseHeap$Benches", "sitters", "[I", true)
def tyX0 : Nat → FieldType := fun k => match k with
  | _ => .array .int
abbrev wsX00 : List Cond := u_ws RX0 TX0 1
theorem nmX0 : ∀ a, a < 1 → ∀ b, b < 1 → a ≠ b → (TX0 a).2.1 ≠ (TX0 b).2.1 := by decide +kernel
theorem tyX0_ok : ∀ k, k < 1 → parseFieldDescriptor (TX0 k).2.2.1 = some (tyX0 k) := by decide +kernel
abbrev cX0_init : ByteArray := prog_2_method_1_code
def yX0_init : MethodName := ⟨RX0, "<init>", "()V"⟩
abbrev cX0_empty : ByteArray := prog_2_method_2_code
def yX0_empty : MethodName := ⟨RX0, "empty", "()V"⟩
abbrev cX0_copyFrom : ByteArray := prog_2_method_3_code
def yX0_copyFrom : MethodName := ⟨RX0, "copyFrom", "(LLooseHeap$Benches;)V"⟩
abbrev cX0_sitter : ByteArray := prog_2_method_4_code
def yX0_sitter : MethodName := ⟨RX0, "sitter", "(II)I"⟩
abbrev cX0_seat : ByteArray := prog_2_method_5_code
def yX0_seat : MethodName := ⟨RX0, "seat", "(III)I"⟩
def RX1 : String := "LooseHeap$Floats"
def TX1 : u_T := fun k => match k with
  | _ => ("", "", "", false)
def tyX1 : Nat → FieldType := fun k => match k with
  | _ => .int
abbrev wsX10 : List Cond := u_ws RX1 TX1 0
theorem nmX1 : ∀ a, a < 0 → ∀ b, b < 0 → a ≠ b → (TX1 a).2.1 ≠ (TX1 b).2.1 := by decide +kernel
theorem tyX1_ok : ∀ k, k < 0 → parseFieldDescriptor (TX1 k).2.2.1 = some (tyX1 k) := by decide +kernel
abbrev cX1_bitsOf : ByteArray := prog_3_method_2_code
def yX1_bitsOf : MethodName := ⟨RX1, "bitsOf", "(III)J"⟩
def RX2 : String := "LooseHeap$Heap"
def TX2 : u_T := fun k => match k with
  | 0 => ("LooseHeap$Heap", "room", "I", true)
  | 1 => ("LooseHeap$Heap", "kinds", "[I", true)
  | 2 => ("LooseHeap$Heap", "keys", "[I", true)
  | 3 => ("LooseHeap$Heap", "above", "[I", true)
  | 4 => ("LooseHeap$Heap", "ranks", "[I", true)
  | 5 => ("LooseHeap$Heap", "firstBelow", "[I", true)
  | 6 => ("LooseHeap$Heap", "nextBeside", "[I", true)
  | 7 => ("LooseHeap$Heap", "standing", "[Z", true)
  | 8 => ("LooseHeap$Heap", "loosened", "[Z", true)
  | 9 => ("LooseHeap$Heap", "firstOfRank", "[I", true)
  | 10 => ("LooseHeap$Heap", "count", "I", false)
  | 11 => ("LooseHeap$Heap", "linked", "I", false)
  | 12 => ("LooseHeap$Heap", "cut", "I", false)
  | 13 => ("LooseHeap$Heap", "pairLesser", "I", false)
  | _ => ("LooseHeap$Heap", "pairGreater", "I", false)
def tyX2 : Nat → FieldType := fun k => match k with
  | 0 => .int
  | 1 => .array .int
  | 2 => .array .int
  | 3 => .array .int
  | 4 => .array .int
  | 5 => .array .int
  | 6 => .array .int
  | 7 => .array .boolean
  | 8 => .array .boolean
  | 9 => .array .int
  | 10 => .int
  | 11 => .int
  | 12 => .int
  | 13 => .int
  | _ => .int
abbrev wsX20 : List Cond := u_ws RX2 TX2 15
theorem nmX2 : ∀ a, a < 15 → ∀ b, b < 15 → a ≠ b → (TX2 a).2.1 ≠ (TX2 b).2.1 := by decide +kernel
theorem tyX2_ok : ∀ k, k < 15 → parseFieldDescriptor (TX2 k).2.2.1 = some (tyX2 k) := by decide +kernel
abbrev cX2_init : ByteArray := prog_4_method_1_code
def yX2_init : MethodName := ⟨RX2, "<init>", "(I)V"⟩
abbrev cX2_empty : ByteArray := prog_4_method_2_code
def yX2_empty : MethodName := ⟨RX2, "empty", "()V"⟩
abbrev cX2_copyFrom : ByteArray := prog_4_method_3_code
def yX2_copyFrom : MethodName := ⟨RX2, "copyFrom", "(LLooseHeap$Heap;)V"⟩
abbrev cX2_hasRoom : ByteArray := prog_4_method_4_code
def yX2_hasRoom : MethodName := ⟨RX2, "hasRoom", "()Z"⟩
abbrev cX2_has : ByteArray := prog_4_method_5_code
def yX2_has : MethodName := ⟨RX2, "has", "(I)Z"⟩
abbrev cX2_add : ByteArray := prog_4_method_6_code
def yX2_add : MethodName := ⟨RX2, "add", "(II)I"⟩
abbrev cX2_lowerTo : ByteArray := prog_4_method_7_code
def yX2_lowerTo : MethodName := ⟨RX2, "lowerTo", "(II)V"⟩
abbrev cX2_takeOut : ByteArray := prog_4_method_8_code
def yX2_takeOut : MethodName := ⟨RX2, "takeOut", "(I)V"⟩
abbrev cX2_joinAll : ByteArray := prog_4_method_9_code
def yX2_joinAll : MethodName := ⟨RX2, "joinAll", "()I"⟩
abbrev cX2_settleAll : ByteArray := prog_4_method_10_code
def yX2_settleAll : MethodName := ⟨RX2, "settleAll", "()V"⟩
abbrev cX2_findPair : ByteArray := prog_4_method_11_code
def yX2_findPair : MethodName := ⟨RX2, "findPair", "(Z)Z"⟩
abbrev cX2_linkTwo : ByteArray := prog_4_method_12_code
def yX2_linkTwo : MethodName := ⟨RX2, "linkTwo", "(II)V"⟩
abbrev cX2_cutOff : ByteArray := prog_4_method_13_code
def yX2_cutOff : MethodName := ⟨RX2, "cutOff", "(I)V"⟩
abbrev cX2_freeChildren : ByteArray := prog_4_method_14_code
def yX2_freeChildren : MethodName := ⟨RX2, "freeChildren", "(I)V"⟩
abbrev cX2_makeRoot : ByteArray := prog_4_method_15_code
def yX2_makeRoot : MethodName := ⟨RX2, "makeRoot", "(I)V"⟩
abbrev cX2_besideBefore : ByteArray := prog_4_method_16_code
def yX2_besideBefore : MethodName := ⟨RX2, "besideBefore", "(II)I"⟩
abbrev cX2_isSooner : ByteArray := prog_4_method_17_code
def yX2_isSooner : MethodName := ⟨RX2, "isSooner", "(II)Z"⟩
abbrev cX2_isRoot : ByteArray := prog_4_method_18_code
def yX2_isRoot : MethodName := ⟨RX2, "isRoot", "(I)Z"⟩
abbrev cX2_count : ByteArray := prog_4_method_19_code
def yX2_count : MethodName := ⟨RX2, "count", "()I"⟩
abbrev cX2_links : ByteArray := prog_4_method_20_code
def yX2_links : MethodName := ⟨RX2, "links", "()I"⟩
abbrev cX2_cuts : ByteArray := prog_4_method_21_code
def yX2_cuts : MethodName := ⟨RX2, "cuts", "()I"⟩
abbrev cX2_kindOf : ByteArray := prog_4_method_22_code
def yX2_kindOf : MethodName := ⟨RX2, "kindOf", "(I)I"⟩
abbrev cX2_keyOf : ByteArray := prog_4_method_23_code
def yX2_keyOf : MethodName := ⟨RX2, "keyOf", "(I)I"⟩
abbrev cX2_aboveOf : ByteArray := prog_4_method_24_code
def yX2_aboveOf : MethodName := ⟨RX2, "aboveOf", "(I)I"⟩
abbrev cX2_rankOf : ByteArray := prog_4_method_25_code
def yX2_rankOf : MethodName := ⟨RX2, "rankOf", "(I)I"⟩
abbrev cX2_isStanding : ByteArray := prog_4_method_26_code
def yX2_isStanding : MethodName := ⟨RX2, "isStanding", "(I)Z"⟩
abbrev cX2_isLoose : ByteArray := prog_4_method_27_code
def yX2_isLoose : MethodName := ⟨RX2, "isLoose", "(I)Z"⟩
abbrev cX2_soonest : ByteArray := prog_4_method_28_code
def yX2_soonest : MethodName := ⟨RX2, "soonest", "()I"⟩
abbrev cX2_standingCount : ByteArray := prog_4_method_29_code
def yX2_standingCount : MethodName := ⟨RX2, "standingCount", "()I"⟩
abbrev cX2_standingAt : ByteArray := prog_4_method_30_code
def yX2_standingAt : MethodName := ⟨RX2, "standingAt", "(I)I"⟩
abbrev cX2_rootCount : ByteArray := prog_4_method_31_code
def yX2_rootCount : MethodName := ⟨RX2, "rootCount", "()I"⟩
abbrev cX2_looseCount : ByteArray := prog_4_method_32_code
def yX2_looseCount : MethodName := ⟨RX2, "looseCount", "()I"⟩
abbrev cX2_looseOfRank : ByteArray := prog_4_method_33_code
def yX2_looseOfRank : MethodName := ⟨RX2, "looseOfRank", "(I)I"⟩
abbrev cX2_greatestRank : ByteArray := prog_4_method_34_code
def yX2_greatestRank : MethodName := ⟨RX2, "greatestRank", "()I"⟩
abbrev cX2_longestRow : ByteArray := prog_4_method_35_code
def yX2_longestRow : MethodName := ⟨RX2, "longestRow", "()I"⟩
abbrev cX2_depthOf : ByteArray := prog_4_method_36_code
def yX2_depthOf : MethodName := ⟨RX2, "depthOf", "(I)I"⟩
abbrev cX2_sizeOf : ByteArray := prog_4_method_37_code
def yX2_sizeOf : MethodName := ⟨RX2, "sizeOf", "(I)I"⟩
abbrev cX2_isWithin : ByteArray := prog_4_method_38_code
def yX2_isWithin : MethodName := ⟨RX2, "isWithin", "(II)Z"⟩
abbrev cX2_childAt : ByteArray := prog_4_method_39_code
def yX2_childAt : MethodName := ⟨RX2, "childAt", "(II)I"⟩
abbrev cX2_sumOfKeys : ByteArray := prog_4_method_40_code
def yX2_sumOfKeys : MethodName := ⟨RX2, "sumOfKeys", "()I"⟩
def RX3 : String := "LooseHeap$Image"
def TX3 : u_T := fun k => match k with
  | 0 => ("LooseHeap$Image", "heap", "LLooseHeap$Heap;", true)
  | 1 => ("LooseHeap$Image", "benches", "LLooseHeap$Benches;", true)
  | _ => ("LooseHeap$Image", "kept", "Z", false)
def tyX3 : Nat → FieldType := fun k => match k with
  | 0 => .object "LooseHeap$Heap"
  | 1 => .object "LooseHeap$Benches"
  | _ => .boolean
abbrev wsX30 : List Cond := u_ws RX3 TX3 3
theorem nmX3 : ∀ a, a < 3 → ∀ b, b < 3 → a ≠ b → (TX3 a).2.1 ≠ (TX3 b).2.1 := by decide +kernel
theorem tyX3_ok : ∀ k, k < 3 → parseFieldDescriptor (TX3 k).2.2.1 = some (tyX3 k) := by decide +kernel
abbrev cX3_init : ByteArray := prog_5_method_1_code
def yX3_init : MethodName := ⟨RX3, "<init>", "()V"⟩
abbrev cX3_isKept : ByteArray := prog_5_method_2_code
def yX3_isKept : MethodName := ⟨RX3, "isKept", "()Z"⟩
abbrev cX3_store : ByteArray := prog_5_method_3_code
def yX3_store : MethodName := ⟨RX3, "store", "(LLooseHeap$Heap;LLooseHeap$Benches;)V"⟩
abbrev cX3_restore : ByteArray := prog_5_method_4_code
def yX3_restore : MethodName := ⟨RX3, "restore", "(LLooseHeap$Heap;LLooseHeap$Benches;)V"⟩
def RX4 : String := "LooseHeap$Lots"
def TX4 : u_T := fun k => match k with
  | _ => ("LooseHeap$Lots", "number", "J", false)
def tyX4 : Nat → FieldType := fun k => match k with
  | _ => .long
abbrev wsX40 : List Cond := u_ws RX4 TX4 1
theorem nmX4 : ∀ a, a < 1 → ∀ b, b < 1 → a ≠ b → (TX4 a).2.1 ≠ (TX4 b).2.1 := by decide +kernel
theorem tyX4_ok : ∀ k, k < 1 → parseFieldDescriptor (TX4 k).2.2.1 = some (tyX4 k) := by decide +kernel
abbrev cX4_init : ByteArray := prog_6_method_1_code
def yX4_init : MethodName := ⟨RX4, "<init>", "()V"⟩
abbrev cX4_begin : ByteArray := prog_6_method_2_code
def yX4_begin : MethodName := ⟨RX4, "begin", "(I)V"⟩
abbrev cX4_draw : ByteArray := prog_6_method_3_code
def yX4_draw : MethodName := ⟨RX4, "draw", "(I)I"⟩
def RX5 : String := "LooseHeap$Roads"
def TX5 : u_T := fun k => match k with
  | 0 => ("LooseHeap$Roads", "oneEnd", "[I", true)
  | 1 => ("LooseHeap$Roads", "otherEnd", "[I", true)
  | 2 => ("LooseHeap$Roads", "weights", "[I", true)
  | 3 => ("LooseHeap$Roads", "hangsBy", "[I", true)
  | 4 => ("LooseHeap$Roads", "front", "LLooseHeap$Heap;", true)
  | 5 => ("LooseHeap$Roads", "places", "I", false)
  | 6 => ("LooseHeap$Roads", "count", "I", false)
  | _ => ("LooseHeap$Roads", "lowered", "I", false)
def tyX5 : Nat → FieldType := fun k => match k with
  | 0 => .array .int
  | 1 => .array .int
  | 2 => .array .int
  | 3 => .array .int
  | 4 => .object "LooseHeap$Heap"
  | 5 => .int
  | 6 => .int
  | _ => .int
abbrev wsX50 : List Cond := u_ws RX5 TX5 8
theorem nmX5 : ∀ a, a < 8 → ∀ b, b < 8 → a ≠ b → (TX5 a).2.1 ≠ (TX5 b).2.1 := by decide +kernel
theorem tyX5_ok : ∀ k, k < 8 → parseFieldDescriptor (TX5 k).2.2.1 = some (tyX5 k) := by decide +kernel
abbrev cX5_init : ByteArray := prog_7_method_1_code
def yX5_init : MethodName := ⟨RX5, "<init>", "()V"⟩
abbrev cX5_layOut : ByteArray := prog_7_method_2_code
def yX5_layOut : MethodName := ⟨RX5, "layOut", "(I)V"⟩
abbrev cX5_hasRoom : ByteArray := prog_7_method_3_code
def yX5_hasRoom : MethodName := ⟨RX5, "hasRoom", "()Z"⟩
abbrev cX5_hasPlace : ByteArray := prog_7_method_4_code
def yX5_hasPlace : MethodName := ⟨RX5, "hasPlace", "(I)Z"⟩
abbrev cX5_add : ByteArray := prog_7_method_5_code
def yX5_add : MethodName := ⟨RX5, "add", "(III)I"⟩
abbrev cX5_places : ByteArray := prog_7_method_6_code
def yX5_places : MethodName := ⟨RX5, "places", "()I"⟩
abbrev cX5_count : ByteArray := prog_7_method_7_code
def yX5_count : MethodName := ⟨RX5, "count", "()I"⟩
abbrev cX5_grow : ByteArray := prog_7_method_8_code
def yX5_grow : MethodName := ⟨RX5, "grow", "(IZ)V"⟩
abbrev cX5_begin : ByteArray := prog_7_method_9_code
def yX5_begin : MethodName := ⟨RX5, "begin", "(I)V"⟩
abbrev cX5_spread : ByteArray := prog_7_method_10_code
def yX5_spread : MethodName := ⟨RX5, "spread", "(II)V"⟩
abbrev cX5_acrossFrom : ByteArray := prog_7_method_11_code
def yX5_acrossFrom : MethodName := ⟨RX5, "acrossFrom", "(II)I"⟩
abbrev cX5_isReached : ByteArray := prog_7_method_12_code
def yX5_isReached : MethodName := ⟨RX5, "isReached", "(I)Z"⟩
abbrev cX5_weightOfTree : ByteArray := prog_7_method_13_code
def yX5_weightOfTree : MethodName := ⟨RX5, "weightOfTree", "()I"⟩
abbrev cX5_roadsOfTree : ByteArray := prog_7_method_14_code
def yX5_roadsOfTree : MethodName := ⟨RX5, "roadsOfTree", "()I"⟩
abbrev cX5_links : ByteArray := prog_7_method_15_code
def yX5_links : MethodName := ⟨RX5, "links", "()I"⟩
abbrev cX5_cuts : ByteArray := prog_7_method_16_code
def yX5_cuts : MethodName := ⟨RX5, "cuts", "()I"⟩
abbrev cX5_lowerings : ByteArray := prog_7_method_17_code
def yX5_lowerings : MethodName := ⟨RX5, "lowerings", "()I"⟩
abbrev cX5_distanceTo : ByteArray := prog_7_method_18_code
def yX5_distanceTo : MethodName := ⟨RX5, "distanceTo", "(I)I"⟩
abbrev cX5_reachedCount : ByteArray := prog_7_method_19_code
def yX5_reachedCount : MethodName := ⟨RX5, "reachedCount", "()I"⟩
def RX6 : String := "LooseHeap"
def TX6 : u_T := fun k => match k with
  | 0 => ("LooseHeap", "heap", "LLooseHeap$Heap;", true)
  | 1 => ("LooseHeap", "benches", "LLooseHeap$Benches;", true)
  | 2 => ("LooseHeap", "roads", "LLooseHeap$Roads;", true)
  | 3 => ("LooseHeap", "lots", "LLooseHeap$Lots;", true)
  | _ => ("LooseHeap", "images", "[LLooseHeap$Image;", true)
def tyX6 : Nat → FieldType := fun k => match k with
  | 0 => .object "LooseHeap$Heap"
  | 1 => .object "LooseHeap$Benches"
  | 2 => .object "LooseHeap$Roads"
  | 3 => .object "LooseHeap$Lots"
  | _ => .array (.object "LooseHeap$Image")
abbrev wsX60 : List Cond := u_ws RX6 TX6 5
theorem nmX6 : ∀ a, a < 5 → ∀ b, b < 5 → a ≠ b → (TX6 a).2.1 ≠ (TX6 b).2.1 := by decide +kernel
theorem tyX6_ok : ∀ k, k < 5 → parseFieldDescriptor (TX6 k).2.2.1 = some (tyX6 k) := by decide +kernel
abbrev cX6_init : ByteArray := prog_1_method_1_code
def yX6_init : MethodName := ⟨RX6, "<init>", "()V"⟩
abbrev cX6_put : ByteArray := prog_1_method_2_code
def yX6_put : MethodName := ⟨RX6, "put", "(II)I"⟩
abbrev cX6_lower : ByteArray := prog_1_method_3_code
def yX6_lower : MethodName := ⟨RX6, "lower", "(II)I"⟩
abbrev cX6_take : ByteArray := prog_1_method_4_code
def yX6_take : MethodName := ⟨RX6, "take", "()I"⟩
abbrev cX6_drop : ByteArray := prog_1_method_5_code
def yX6_drop : MethodName := ⟨RX6, "drop", "(I)I"⟩
abbrev cX6_join : ByteArray := prog_1_method_6_code
def yX6_join : MethodName := ⟨RX6, "join", "()I"⟩
abbrev cX6_clear : ByteArray := prog_1_method_7_code
def yX6_clear : MethodName := ⟨RX6, "clear", "()I"⟩
abbrev cX6_drift : ByteArray := prog_1_method_8_code
def yX6_drift : MethodName := ⟨RX6, "drift", "(II)I"⟩
abbrev cX6_told : ByteArray := prog_1_method_9_code
def yX6_told : MethodName := ⟨RX6, "told", "(I)I"⟩
abbrev cX6_job : ByteArray := prog_1_method_10_code
def yX6_job : MethodName := ⟨RX6, "job", "(II)I"⟩
abbrev cX6_child : ByteArray := prog_1_method_11_code
def yX6_child : MethodName := ⟨RX6, "child", "(II)I"⟩
abbrev cX6_loose : ByteArray := prog_1_method_12_code
def yX6_loose : MethodName := ⟨RX6, "loose", "(I)I"⟩
abbrev cX6_bits : ByteArray := prog_1_method_13_code
def yX6_bits : MethodName := ⟨RX6, "bits", "()J"⟩
abbrev cX6_sit : ByteArray := prog_1_method_14_code
def yX6_sit : MethodName := ⟨RX6, "sit", "(III)I"⟩
abbrev cX6_sits : ByteArray := prog_1_method_15_code
def yX6_sits : MethodName := ⟨RX6, "sits", "(II)I"⟩
abbrev cX6_net : ByteArray := prog_1_method_16_code
def yX6_net : MethodName := ⟨RX6, "net", "(I)I"⟩
abbrev cX6_road : ByteArray := prog_1_method_17_code
def yX6_road : MethodName := ⟨RX6, "road", "(III)I"⟩
abbrev cX6_tree : ByteArray := prog_1_method_18_code
def yX6_tree : MethodName := ⟨RX6, "tree", "(II)I"⟩
abbrev cX6_way : ByteArray := prog_1_method_19_code
def yX6_way : MethodName := ⟨RX6, "way", "(II)I"⟩
abbrev cX6_ways : ByteArray := prog_1_method_20_code
def yX6_ways : MethodName := ⟨RX6, "ways", "(II)I"⟩
abbrev cX6_keep : ByteArray := prog_1_method_21_code
def yX6_keep : MethodName := ⟨RX6, "keep", "(I)I"⟩
abbrev cX6_goBack : ByteArray := prog_1_method_22_code
def yX6_goBack : MethodName := ⟨RX6, "goBack", "(I)I"⟩
abbrev cX6_driftOnce : ByteArray := prog_1_method_23_code
def yX6_driftOnce : MethodName := ⟨RX6, "driftOnce", "()V"⟩
abbrev cX6_putByLots : ByteArray := prog_1_method_24_code
def yX6_putByLots : MethodName := ⟨RX6, "putByLots", "()V"⟩
abbrev cX6_lowerByLots : ByteArray := prog_1_method_25_code
def yX6_lowerByLots : MethodName := ⟨RX6, "lowerByLots", "()V"⟩
abbrev cX6_takeByLots : ByteArray := prog_1_method_26_code
def yX6_takeByLots : MethodName := ⟨RX6, "takeByLots", "()V"⟩
abbrev cX6_between : ByteArray := prog_1_method_27_code
def yX6_between : MethodName := ⟨RX6, "between", "(III)Z"⟩
abbrev cX6_isKey : ByteArray := prog_1_method_28_code
def yX6_isKey : MethodName := ⟨RX6, "isKey", "(I)Z"⟩
abbrev cX6_flag : ByteArray := prog_1_method_29_code
def yX6_flag : MethodName := ⟨RX6, "flag", "(Z)I"⟩
def RX7 : String := "LooseHeapModel"
def TX7 : u_T := fun k => match k with
  | 0 => ("LooseHeapModel", "jobs", "I", false)
  | 1 => ("LooseHeapModel", "kind", "[I", true)
  | 2 => ("LooseHeapModel", "key", "[I", true)
  | 3 => ("LooseHeapModel", "stands", "[Z", true)
  | 4 => ("LooseHeapModel", "below", "[I", true)
  | 5 => ("LooseHeapModel", "isLoose", "[Z", true)
  | 6 => ("LooseHeapModel", "came", "[I", true)
  | 7 => ("LooseHeapModel", "counted", "I", false)
  | 8 => ("LooseHeapModel", "links", "I", false)
  | 9 => ("LooseHeapModel", "cuts", "I", false)
  | 10 => ("LooseHeapModel", "base", "I", false)
  | 11 => ("LooseHeapModel", "end", "I", false)
  | 12 => ("LooseHeapModel", "bench", "[I", true)
  | 13 => ("LooseHeapModel", "places", "I", false)
  | 14 => ("LooseHeapModel", "roads", "I", false)
  | 15 => ("LooseHeapModel", "one", "[I", true)
  | 16 => ("LooseHeapModel", "other", "[I", true)
  | 17 => ("LooseHeapModel", "weight", "[I", true)
  | 18 => ("LooseHeapModel", "hangs", "[I", true)
  | 19 => ("LooseHeapModel", "lowered", "I", false)
  | 20 => ("LooseHeapModel", "ownLinks", "I", false)
  | 21 => ("LooseHeapModel", "ownCuts", "I", false)
  | 22 => ("LooseHeapModel", "image", "[I", true)
  | 23 => ("LooseHeapModel", "isKept", "[Z", true)
  | _ => ("LooseHeapModel", "seed", "J", false)
def tyX7 : Nat → FieldType := fun k => match k with
  | 0 => .int
  | 1 => .array .int
  | 2 => .array .int
  | 3 => .array .boolean
  | 4 => .array .int
  | 5 => .array .boolean
  | 6 => .array .int
  | 7 => .int
  | 8 => .int
  | 9 => .int
  | 10 => .int
  | 11 => .int
  | 12 => .array .int
  | 13 => .int
  | 14 => .int
  | 15 => .array .int
  | 16 => .array .int
  | 17 => .array .int
  | 18 => .array .int
  | 19 => .int
  | 20 => .int
  | 21 => .int
  | 22 => .array .int
  | 23 => .array .boolean
  | _ => .long
abbrev wsX70 : List Cond := u_ws RX7 TX7 25
theorem nmX7 : ∀ a, a < 25 → ∀ b, b < 25 → a ≠ b → (TX7 a).2.1 ≠ (TX7 b).2.1 := by decide +kernel
theorem tyX7_ok : ∀ k, k < 25 → parseFieldDescriptor (TX7 k).2.2.1 = some (tyX7 k) := by decide +kernel
abbrev cX7_init : ByteArray := prog_9_method_1_code
def yX7_init : MethodName := ⟨RX7, "<init>", "()V"⟩
abbrev cX7_in : ByteArray := prog_9_method_2_code
def yX7_in : MethodName := ⟨RX7, "in", "(III)Z"⟩
abbrev cX7_own : ByteArray := prog_9_method_3_code
def yX7_own : MethodName := ⟨RX7, "own", "()V"⟩
abbrev cX7_isSooner : ByteArray := prog_9_method_4_code
def yX7_isSooner : MethodName := ⟨RX7, "isSooner", "(II)Z"⟩
abbrev cX7_rank : ByteArray := prog_9_method_5_code
def yX7_rank : MethodName := ⟨RX7, "rank", "(I)I"⟩
abbrev cX7_link : ByteArray := prog_9_method_6_code
def yX7_link : MethodName := ⟨RX7, "link", "(II)V"⟩
abbrev cX7_cut : ByteArray := prog_9_method_7_code
def yX7_cut : MethodName := ⟨RX7, "cut", "(I)V"⟩
abbrev cX7_isOf : ByteArray := prog_9_method_8_code
def yX7_isOf : MethodName := ⟨RX7, "isOf", "(IZ)Z"⟩
abbrev cX7_ofRank : ByteArray := prog_9_method_9_code
def yX7_ofRank : MethodName := ⟨RX7, "ofRank", "(IIZ)I"⟩
abbrev cX7_twice : ByteArray := prog_9_method_10_code
def yX7_twice : MethodName := ⟨RX7, "twice", "(Z)I"⟩
abbrev cX7_settle : ByteArray := prog_9_method_11_code
def yX7_settle : MethodName := ⟨RX7, "settle", "()V"⟩
abbrev cX7_joinAll : ByteArray := prog_9_method_12_code
def yX7_joinAll : MethodName := ⟨RX7, "joinAll", "()V"⟩
abbrev cX7_add : ByteArray := prog_9_method_13_code
def yX7_add : MethodName := ⟨RX7, "add", "(III)V"⟩
abbrev cX7_lowerTo : ByteArray := prog_9_method_14_code
def yX7_lowerTo : MethodName := ⟨RX7, "lowerTo", "(II)V"⟩
abbrev cX7_remove : ByteArray := prog_9_method_15_code
def yX7_remove : MethodName := ⟨RX7, "remove", "(I)V"⟩
abbrev cX7_soonest : ByteArray := prog_9_method_16_code
def yX7_soonest : MethodName := ⟨RX7, "soonest", "()I"⟩
abbrev cX7_standing : ByteArray := prog_9_method_17_code
def yX7_standing : MethodName := ⟨RX7, "standing", "()I"⟩
abbrev cX7_isJob : ByteArray := prog_9_method_18_code
def yX7_isJob : MethodName := ⟨RX7, "isJob", "(I)Z"⟩
abbrev cX7_put : ByteArray := prog_9_method_19_code
def yX7_put : MethodName := ⟨RX7, "put", "(II)I"⟩
abbrev cX7_lower : ByteArray := prog_9_method_20_code
def yX7_lower : MethodName := ⟨RX7, "lower", "(II)I"⟩
abbrev cX7_take : ByteArray := prog_9_method_21_code
def yX7_take : MethodName := ⟨RX7, "take", "()I"⟩
abbrev cX7_drop : ByteArray := prog_9_method_22_code
def yX7_drop : MethodName := ⟨RX7, "drop", "(I)I"⟩
abbrev cX7_join : ByteArray := prog_9_method_23_code
def yX7_join : MethodName := ⟨RX7, "join", "()I"⟩
abbrev cX7_clear : ByteArray := prog_9_method_24_code
def yX7_clear : MethodName := ⟨RX7, "clear", "()I"⟩
abbrev cX7_standingAt : ByteArray := prog_9_method_25_code
def yX7_standingAt : MethodName := ⟨RX7, "standingAt", "(I)I"⟩
abbrev cX7_drawn : ByteArray := prog_9_method_26_code
def yX7_drawn : MethodName := ⟨RX7, "drawn", "(I)I"⟩
abbrev cX7_lot : ByteArray := prog_9_method_27_code
def yX7_lot : MethodName := ⟨RX7, "lot", "()V"⟩
abbrev cX7_drift : ByteArray := prog_9_method_28_code
def yX7_drift : MethodName := ⟨RX7, "drift", "(II)I"⟩
abbrev cX7_depth : ByteArray := prog_9_method_29_code
def yX7_depth : MethodName := ⟨RX7, "depth", "(I)I"⟩
abbrev cX7_isUnder : ByteArray := prog_9_method_30_code
def yX7_isUnder : MethodName := ⟨RX7, "isUnder", "(II)Z"⟩
abbrev cX7_many : ByteArray := prog_9_method_31_code
def yX7_many : MethodName := ⟨RX7, "many", "(I)I"⟩
abbrev cX7_told : ByteArray := prog_9_method_32_code
def yX7_told : MethodName := ⟨RX7, "told", "(I)I"⟩
abbrev cX7_under : ByteArray := prog_9_method_33_code
def yX7_under : MethodName := ⟨RX7, "under", "(I)I"⟩
abbrev cX7_power : ByteArray := prog_9_method_34_code
def yX7_power : MethodName := ⟨RX7, "power", "(I)I"⟩
abbrev cX7_bitsOf : ByteArray := prog_9_method_35_code
def yX7_bitsOf : MethodName := ⟨RX7, "bitsOf", "(I)I"⟩
abbrev cX7_job : ByteArray := prog_9_method_36_code
def yX7_job : MethodName := ⟨RX7, "job", "(II)I"⟩
abbrev cX7_child : ByteArray := prog_9_method_37_code
def yX7_child : MethodName := ⟨RX7, "child", "(II)I"⟩
abbrev cX7_loose : ByteArray := prog_9_method_38_code
def yX7_loose : MethodName := ⟨RX7, "loose", "(I)I"⟩
abbrev cX7_bits : ByteArray := prog_9_method_39_code
def yX7_bits : MethodName := ⟨RX7, "bits", "()J"⟩
abbrev cX7_sit : ByteArray := prog_9_method_40_code
def yX7_sit : MethodName := ⟨RX7, "sit", "(III)I"⟩
abbrev cX7_sits : ByteArray := prog_9_method_41_code
def yX7_sits : MethodName := ⟨RX7, "sits", "(II)I"⟩
abbrev cX7_net : ByteArray := prog_9_method_42_code
def yX7_net : MethodName := ⟨RX7, "net", "(I)I"⟩
abbrev cX7_isPlace : ByteArray := prog_9_method_43_code
def yX7_isPlace : MethodName := ⟨RX7, "isPlace", "(I)Z"⟩
abbrev cX7_road : ByteArray := prog_9_method_44_code
def yX7_road : MethodName := ⟨RX7, "road", "(III)I"⟩
abbrev cX7_goFrom : ByteArray := prog_9_method_45_code
def yX7_goFrom : MethodName := ⟨RX7, "goFrom", "(IZ)V"⟩
abbrev cX7_lay : ByteArray := prog_9_method_46_code
def yX7_lay : MethodName := ⟨RX7, "lay", "(IZ)V"⟩
abbrev cX7_hanging : ByteArray := prog_9_method_47_code
def yX7_hanging : MethodName := ⟨RX7, "hanging", "(Z)I"⟩
abbrev cX7_tree : ByteArray := prog_9_method_48_code
def yX7_tree : MethodName := ⟨RX7, "tree", "(II)I"⟩
abbrev cX7_way : ByteArray := prog_9_method_49_code
def yX7_way : MethodName := ⟨RX7, "way", "(II)I"⟩
abbrev cX7_ways : ByteArray := prog_9_method_50_code
def yX7_ways : MethodName := ⟨RX7, "ways", "(II)I"⟩
abbrev cX7_keep : ByteArray := prog_9_method_51_code
def yX7_keep : MethodName := ⟨RX7, "keep", "(I)I"⟩
abbrev cX7_goBack : ByteArray := prog_9_method_52_code
def yX7_goBack : MethodName := ⟨RX7, "goBack", "(I)I"⟩
def RJ9 : String := "java/lang/Math"
def TJ9 : u_T := fun k => match k with
  | _ => ("", "", "", false)
def tyJ9 : Nat → FieldType := fun k => match k with
  | _ => .int
abbrev wsJ90 : List Cond := u_ws RJ9 TJ9 0
theorem nmJ9 : ∀ a, a < 0 → ∀ b, b < 0 → a ≠ b → (TJ9 a).2.1 ≠ (TJ9 b).2.1 := by decide +kernel
theorem tyJ9_ok : ∀ k, k < 0 → parseFieldDescriptor (TJ9 k).2.2.1 = some (tyJ9 k) := by decide +kernel
abbrev cJ9_abs_067f4 : ByteArray := prog_10_method_61_code
def yJ9_abs_067f4 : MethodName := ⟨RJ9, "abs", "(J)J"⟩
abbrev cJ9_max_7cf53 : ByteArray := prog_10_method_65_code
def yJ9_max_7cf53 : MethodName := ⟨RJ9, "max", "(II)I"⟩
abbrev cJ9_min_7cf53 : ByteArray := prog_10_method_69_code
def yJ9_min_7cf53 : MethodName := ⟨RJ9, "min", "(II)I"⟩
def RJ10 : String := "java/lang/System"
def TJ10 : u_T := fun k => match k with
  | _ => ("", "", "", false)
def tyJ10 : Nat → FieldType := fun k => match k with
  | _ => .int
abbrev wsJ100 : List Cond := u_ws RJ10 TJ10 0
theorem nmJ10 : ∀ a, a < 0 → ∀ b, b < 0 → a ≠ b → (TJ10 a).2.1 ≠ (TJ10 b).2.1 := by decide +kernel
theorem tyJ10_ok : ∀ k, k < 0 → parseFieldDescriptor (TJ10 k).2.2.1 = some (tyJ10 k) := by decide +kernel
def RJ7 : String := "java/util/Arrays"
def TJ7 : u_T := fun k => match k with
  | _ => ("", "", "", false)
def tyJ7 : Nat → FieldType := fun k => match k with
  | _ => .int
abbrev wsJ70 : List Cond := u_ws RJ7 TJ7 0
theorem nmJ7 : ∀ a, a < 0 → ∀ b, b < 0 → a ≠ b → (TJ7 a).2.1 ≠ (TJ7 b).2.1 := by decide +kernel
theorem tyJ7_ok : ∀ k, k < 0 → parseFieldDescriptor (TJ7 k).2.2.1 = some (tyJ7 k) := by decide +kernel
abbrev cJ7_fill_53178 : ByteArray := prog_12_method_103_code
def yJ7_fill_53178 : MethodName := ⟨RJ7, "fill", "([II)V"⟩
def RL : String := "LooseHeapLaw"
abbrev cL_law : ByteArray := code
def yL_law : MethodName := ⟨RL, "law", "([I)Z"⟩
abbrev vwCl : List vw_C := [(RX0, TX0, 1), (RX2, TX2, 15), (RX3, TX3, 3), (RX4, TX4, 1), (RX5, TX5, 8), (RX6, TX6, 5), (RX7, TX7, 25)]
end
section
/-! SOUNDNESS OF THE ABSTRACT MACHINE over the kit's judgement W -/
/-- the tables' words that stay -/
def tW : List Cond := lw_tbl.filter goodWord
theorem tW_in {w : Cond} (h : w ∈ lw_tbl) (hg : goodWord w = true) : w ∈ tW := List.mem_filter.mpr ⟨h, hg⟩
abbrev GX : Type := Launch × va_G × (Nat → Nat → Nat) × (ClassId × ClassId × ClassId)
def cnt : Nat → Nat
  | 0 => 1
  | 1 | 2 | 3 | 4 | 5 | 6 | 7 | 8 | 9 | 10 => 4
  | 11 | 12 => 3
  | 13 | 14 | 15 | 16 | 17 | 18 | 19 => 1
  | 20 => 2
  | 21 | 22 | 23 | 24 | 25 | 26 | 27 | 28 | 29 | 30 | 31 | 32 | 33 | 34 => 1
  | _ => 0
def idx : List (Nat × Nat) := (List.range 35).flatMap fun a => (List.range (cnt a)).map fun t => (a, t)
def rv (G : GX) : AV → Value
  | .inl x => .int x
  | .inr (.inl x) => .long x
  | .inr (.inr (a, t)) => .ref (G.2.2.1 a t)
def cel (G : GX) (M : AM) (a t : Nat) : va_E := match a with
  | 0 => .inr (5, [.ref (G.2.2.1 1 0), .ref (G.2.2.1 11 0), .ref (G.2.2.1 13 0), .ref (G.2.2.1 18 0), .ref (G.2.2.1 19 0)])
  | 1 => .inr (1, [.int (M.1 1 t 0), .ref (G.2.2.1 2 t), .ref (G.2.2.1 3 t), .ref (G.2.2.1 4 t), .ref (G.2.2.1 5 t), .ref (G.2.2.1 6 t), .ref (G.2.2.1 7 t), .ref (G.2.2.1 8 t), .ref (G.2.2.1 9 t), .ref (G.2.2.1 10 t), .int (M.1 1 t 10), .int (M.1 1 t 11), .int (M.1 1 t 12), .int (M.1 1 t 13), .int (M.1 1 t 14)])
  | 11 => .inr (0, [.ref (G.2.2.1 12 t)])
  | 13 => .inr (4, [.ref (G.2.2.1 14 0), .ref (G.2.2.1 15 0), .ref (G.2.2.1 16 0), .ref (G.2.2.1 17 0), .ref (G.2.2.1 1 3), .int (M.1 13 t 5), .int (M.1 13 t 6), .int (M.1 13 t 7)])
  | 18 => .inr (3, [.long (M.2 0)])
  | 19 => .inl (G.2.2.2.2.2, 2, .inr (.inr (.inr (.inr (fun j => some (G.2.2.1 20 j))))))
  | 20 => .inr (2, [.ref (G.2.2.1 1 (t + 1)), .ref (G.2.2.1 11 (t + 1)), .int (M.1 20 t 2)])
  | 21 => .inr (6, [.int (M.1 21 t 0), .ref (G.2.2.1 22 0), .ref (G.2.2.1 23 0), .ref (G.2.2.1 24 0), .ref (G.2.2.1 25 0), .ref (G.2.2.1 26 0), .ref (G.2.2.1 27 0), .int (M.1 21 t 7), .int (M.1 21 t 8), .int (M.1 21 t 9), .int (M.1 21 t 10), .int (M.1 21 t 11), .ref (G.2.2.1 28 0), .int (M.1 21 t 13), .int (M.1 21 t 14), .ref (G.2.2.1 29 0), .ref (G.2.2.1 30 0), .ref (G.2.2.1 31 0), .ref (G.2.2.1 32 0), .int (M.1 21 t 19), .int (M.1 21 t 20), .int (M.1 21 t 21), .ref (G.2.2.1 33 0), .ref (G.2.2.1 34 0), .long (M.2 1)])
  | a => .inl (if aty a = 0 then G.2.2.2.1 else G.2.2.2.2.1, aln a t, .inl (M.1 a t))
def wsl (G : GX) (M : AM) : va_W := idx.map fun q => (G.2.2.1 q.1 q.2, cel G M q.1 q.2)
abbrev HR (G : GX) (M : AM) (H : Heap) : Prop := va_P G.2.1 vwCl (wsl G M) H
def tys3 (G : GX) : List (ClassId × FieldType) := [(G.2.2.2.1, .int), (G.2.2.2.2.1, .boolean), (G.2.2.2.2.2, .object "LooseHeap$Image")]
abbrev KO (G : GX) (U : State) : Prop := va_K G.2.1 vwCl (tys3 G) U
def Aq (G : GX) : Nat → Prop := fun q => ∃ a t : Nat, t < cnt a ∧ q = G.2.2.1 a t
/-- the world's cells are apart -/
def Ap (G : GX) : Prop := ∀ (i j : Nat) (p q : Nat × Nat), idx[i]? = some p → idx[j]? = some q → G.2.2.1 p.1 p.2 = G.2.2.1 q.1 q.2 → i = j
def vv : AV → Prop
  | .inr (.inr (a, t)) => t < cnt a ∨ (a = 35 ∧ t = 0)
  | _ => True
theorem idx_in {a t : Nat} (h : t < cnt a) : ∃ k : Nat, idx[k]? = some (a, t) := by
  have ha : a < 35 := by
    rcases Nat.lt_or_ge a 35 with h1 | h1
    · exact h1
    · obtain ⟨b, rfl⟩ : ∃ b, a = b + 35 := ⟨a - 35, by omega⟩
      have : cnt (b + 35) = 0 := rfl
      omega
  have hm : (a, t) ∈ idx := List.mem_flatMap.mpr ⟨a, List.mem_range.mpr ha, List.mem_map.mpr ⟨t, List.mem_range.mpr h, rfl⟩⟩
  exact List.getElem?_of_mem hm
theorem idx_ok {k : Nat} {q : Nat × Nat} (h : idx[k]? = some q) : q.2 < cnt q.1 := by
  obtain ⟨a, -, h1⟩ := List.mem_flatMap.mp (List.mem_of_getElem? h)
  obtain ⟨t, h2, rfl⟩ := List.mem_map.mp h1
  exact List.mem_range.mp h2
theorem wsl_at {G : GX} {M : AM} {k a t : Nat} (h : idx[k]? = some (a, t)) : (wsl G M)[k]? = some (G.2.2.1 a t, cel G M a t) := by
  simp [wsl, h]
theorem wsl_inv {G : GX} {M : AM} {k : Nat} {q : Nat × va_E} (h : (wsl G M)[k]? = some q) : ∃ p : Nat × Nat, idx[k]? = some p ∧ q = (G.2.2.1 p.1 p.2, cel G M p.1 p.2) := by
  simp only [wsl, List.getElem?_map] at h
  cases hi : idx[k]? with
  | none => rw [hi] at h; cases h
  | some p => rw [hi] at h; exact ⟨p, rfl, (Option.some.inj h).symm⟩
theorem Ap.D {G : GX} (h : Ap G) {A : Nat → Prop} (hA : ∀ q, Aq G q → A q) (M : AM) : va_D A (wsl G M) := by
  refine ⟨fun i j p q hi hj he => ?_, fun k q hk => ?_⟩
  · obtain ⟨p', h1, rfl⟩ := wsl_inv hi
    obtain ⟨q', h2, rfl⟩ := wsl_inv hj
    exact h i j p' q' h1 h2 he
  · obtain ⟨p', h1, rfl⟩ := wsl_inv hk
    exact hA _ ⟨p'.1, p'.2, idx_ok h1, rfl⟩
theorem Ap.inj {G : GX} (h : Ap G) {k k' : Nat} {p q : Nat × Nat} (h1 : idx[k]? = some p) (h2 : idx[k']? = some q) (hpq : k ≠ k') : p ≠ q := fun e => hpq (h k k' p q h1 h2 (by rw [e]))
theorem wsl_set {G : GX} (hAp : Ap G) {M M' : AM} {k a t : Nat} {e : va_E} (h : idx[k]? = some (a, t)) (he : e = cel G M' a t) (ho : ∀ a' t', (a', t') ≠ (a, t) → cel G M' a' t' = cel G M a' t') : (wsl G M).set k (G.2.2.1 a t, e) = wsl G M' := by
  apply List.ext_getElem?
  intro j
  by_cases hj : j = k
  · subst hj
    have hl : j < (wsl G M).length := by
      simp only [wsl, List.length_map]
      exact (List.getElem?_eq_some_iff.mp h).1
    rw [List.getElem?_set_self hl, wsl_at h, he]
  · rw [List.getElem?_set_ne (Ne.symm hj)]
    simp only [wsl, List.getElem?_map]
    cases hi : idx[j]? with
    | none => rfl
    | some p =>
      show some (_, cel G M p.1 p.2) = some (_, cel G M' p.1 p.2)
      rw [ho p.1 p.2 (hAp.inj hi h hj)]
-- locals
def LR (G : GX) (ls : Array Slot) (mL : Nat) (L : List (Option AV)) : Prop := ∃ l, lv_has ls mL l ∧ ∀ i v, ge L i = some v → (i, rv G v) ∈ l
theorem LR.at {G : GX} {ls : Array Slot} {mL : Nat} {L : List (Option AV)} (h : LR G ls mL L) {i : Nat} {v : AV} (hi : ge L i = some v) : ls[i]? = some (.val (rv G v)) := by
  obtain ⟨l, h1, h2⟩ := h
  exact h1.2.2 _ (h2 i v hi)
theorem ge_nil (j : Nat) : ge [] j = none := by cases j <;> rfl
theorem ge_se (i : Nat) : ∀ (L : List (Option AV)) (v : Option AV) (j : Nat) (w : AV), ge (se L i v) j = some w → (j = i ∧ v = some w) ∨ (j ≠ i ∧ ge L j = some w ∧ (j + 1 = i → isl (some w) = false)) := by
  induction i with
  | zero =>
    intro L v j w h
    cases L with
    | nil =>
      cases j with
      | zero => exact Or.inl ⟨rfl, h⟩
      | succ j => simp [se, ge, ge_nil] at h
    | cons x r =>
      cases j with
      | zero => exact Or.inl ⟨rfl, h⟩
      | succ j => exact Or.inr ⟨by omega, h, by omega⟩
  | succ i ih =>
    intro L v j w h
    cases L with
    | nil =>
      cases j with
      | zero => simp [se, ge] at h
      | succ j =>
        rcases ih [] v j w h with ⟨h1, h2⟩ | ⟨h1, h2, h3⟩
        · exact Or.inl ⟨by omega, h2⟩
        · rw [ge_nil] at h2; cases h2
    | cons x r =>
      cases i with
      | zero =>
        cases j with
        | zero =>
          have h' : cond (isl x) none x = some w := h
          cases hx : isl x with
          | true => rw [hx] at h'; cases h'
          | false =>
            rw [hx] at h'
            have h'' : x = some w := h'
            exact Or.inr ⟨by omega, h'', fun _ => by rw [← h'']; exact hx⟩
        | succ j =>
          rcases ih r v j w h with ⟨h1, h2⟩ | ⟨h1, h2, h3⟩
          · exact Or.inl ⟨by omega, h2⟩
          · exact Or.inr ⟨by omega, h2, by omega⟩
      | succ i =>
        cases j with
        | zero => exact Or.inr ⟨by omega, h, by omega⟩
        | succ j =>
          rcases ih r v j w h with ⟨h1, h2⟩ | ⟨h1, h2, h3⟩
          · exact Or.inl ⟨by omega, h2⟩
          · exact Or.inr ⟨by omega, h2, fun e => h3 (by omega)⟩
theorem rv_cat (G : GX) (w : AV) : (rv G w).category = cat1 w := by
  rcases w with x | x | ⟨a, t⟩ <;> rfl
theorem isl_cat (w : AV) : isl (some w) = false → ¬ cat1 w = 2 := by
  rcases w with x | x | ⟨a, t⟩ <;> simp [isl, cat1]
theorem LR.st1 {G : GX} {mL i : Nat} {L : List (Option AV)} {l : List (Nat × Value)} (h2 : ∀ i v, ge L i = some v → (i, rv G v) ∈ l) (x : Int32) : ∀ j w, ge (se L i (some (.inl x))) j = some w → (j, rv G w) ∈ ((i, Value.int x) :: l.filter (fun q => !(q.1 == i) && !(q.1 + 1 == i && q.2.category == 2))) := by
  intro j w h
  rcases ge_se i L _ j w h with ⟨rfl, h4⟩ | ⟨h4, h5, h6⟩
  · cases h4
    exact List.mem_cons_self
  · refine List.mem_cons_of_mem _ (List.mem_filter.mpr ⟨h2 j w h5, ?_⟩)
    have h7 : (j == i) = false := by simpa using h4
    by_cases h8 : j + 1 = i
    · have h9 := isl_cat w (h6 h8)
      rw [← rv_cat G] at h9
      simp [h7, h9]
    · simp [h7, h8]
theorem LR.st2 {G : GX} {mL i : Nat} {L : List (Option AV)} {l : List (Nat × Value)} (h2 : ∀ i v, ge L i = some v → (i, rv G v) ∈ l) (x : Int64) : ∀ j w, ge (se (se L (i + 1) none) i (some (.inr (.inl x)))) j = some w → (j, rv G w) ∈ ((i, Value.long x) :: l.filter (fun q => !(q.1 == i) && (!(q.1 == i + 1) && !(q.1 + 1 == i && q.2.category == 2)))) := by
  intro j w h
  rcases ge_se i _ _ j w h with ⟨rfl, h4⟩ | ⟨h4, h5, h6⟩
  · cases h4
    exact List.mem_cons_self
  · rcases ge_se (i + 1) L _ j w h5 with ⟨-, h7⟩ | ⟨h7, h8, -⟩
    · cases h7
    · refine List.mem_cons_of_mem _ (List.mem_filter.mpr ⟨h2 j w h8, ?_⟩)
      have h9 : (j == i) = false := by simpa using h4
      have h10 : (j == i + 1) = false := by simpa using h7
      by_cases h11 : j + 1 = i
      · have h12 := isl_cat w (h6 h11)
        rw [← rv_cat G] at h12
        simp [h9, h10, h12]
      · simp [h9, h10, h11]
-- the judgement of a method's body
def VL (L : List (Option AV)) : Prop := ∀ i v, ge L i = some v → vv v
def VS (S : List AV) : Prop := ∀ v ∈ S, vv v
theorem VS.tl {v : AV} {S : List AV} (h : VS (v :: S)) : VS S := fun w hw => h w (List.mem_cons_of_mem _ hw)
theorem VS.hd {v : AV} {S : List AV} (h : VS (v :: S)) : vv v := h v List.mem_cons_self
theorem VS.cons {v : AV} {S : List AV} (hv : vv v) (h : VS S) : VS (v :: S) := fun w hw => (List.mem_cons.mp hw).elim (fun e => by rw [e]; exact hv) (h w)
theorem VL.se {L : List (Option AV)} {i : Nat} {v : Option AV} (h : VL L) (hv : ∀ w, v = some w → vv w) : VL (se L i v) := fun j w hj => (ge_se i L v j w hj).elim (fun q => hv w q.2) (fun q => h j w q.2.1)
def rd (cc : ByteArray) (rt : Option FieldType) (pc : Nat) : Option AV → Prop
  | some (.inl v) => decode cc pc = .ok (.ireturn, 1) ∧ (rt = some .int ∨ (rt = some .boolean ∧ bz v = v))
  | some (.inr (.inl _)) => decode cc pc = .ok (.lreturn, 1) ∧ rt = some .long
  | some (.inr (.inr _)) => False
  | none => decode cc pc = .ok (.return_, 1) ∧ rt = none
abbrev SX : Type := Option (Nat × (Nat → Int32))
def Fx (G : GX) (own : String) (cc : ByteArray) (mL : Nat) (rt : Option FieldType) (d : Nat) (sx : SX) (p : Program) (R : Room) (s : State) (m : MethodId) (args : Array Value) (meth : Method) (c : Code) (cells slots : Nat) (A : Nat → Prop) : Prop :=
  p.tables.exec = Jvm.exec ∧ c.code = cc ∧ meth.sig.returnType = rt ∧ c.maxLocals = mL ∧ s.vm.findClass own = some m.cls ∧ (∀ w ∈ tW, w.before args s = true) ∧ KO G s ∧ meth.locks = false ∧ (d + 1 ≤ R.frames ∧ 40 * (d + 1) ≤ R.locals ∧ cells ≤ R.cells ∧ slots ≤ R.slots) ∧ (∀ q, Aq G q → A q) ∧ (∀ q, sx = some q → va_X (G.2.2.1 35 0) q.1 q.2 s s.heap ∧ G.2.2.1 35 0 < s.heap.size ∧ ¬ A (G.2.2.1 35 0))
def Iv (G : GX) (M : AM) (H : Heap) (A : Nat → Prop) (s : State) (locs : List Loc) (ls : Array Slot) (mL : Nat) (L : List (Option AV)) (S : List AV) : Prop :=
  HR G M H ∧ va_S A s.heap H locs ∧ LR G ls mL L ∧ VL L ∧ VS S
def V (G : GX) (own : String) (cc : ByteArray) (mL : Nat) (rt : Option FieldType) (d : Nat) (sx : SX) (Q : RP) : KP := fun pc L S M =>
  ∀ (p : Program) (e : Env) (R : Room) (s : State) (m : MethodId) (args : Array Value) (below : List Frame) (meth : Method) (c : Code) (H : Heap) (locs : List Loc) (cells slots : Nat) (A : Nat → Prop) (Z : State → Prop) (ls : Array Slot),
    Fx G own cc mL rt d sx p R s m args meth c cells slots A → Iv G M H A s locs ls mL L S →
    (∀ (pc' : Nat) (ls' : Array Slot) (H' : Heap) (locs' : List Loc) (r : Option AV) (M' : AM), rd cc rt pc' r → Q r M' → HR G M' H' → va_S A s.heap H' locs' → W p G.1 e R s m args below meth c H' locs' cells slots Z (F0 m pc' ls' (r.toList.map (rv G)))) →
    W p G.1 e R s m args below meth c H locs cells slots Z (F0 m pc ls (S.map (rv G)))
def mQ (G : GX) (Q : RP) : Array Value → State → Outcome → State → Prop := fun _ st oc t => (∃ (r : Option AV) (M' : AM), oc = .returned (r.map (rv G)) ∧ Q r M' ∧ (∀ v, r = some v → vv v) ∧ HR G M' t.heap) ∧ va_F (Aq G) st t
def roomOf (d : Nat) : Room := { frames := d, cells := 0, slots := 0, locals := 40 * d }
abbrev MT : Type := MethodName × ByteArray × Nat × Option FieldType
def Ct (G : GX) (mts : Nat → Option MT) (d : Nat) : CP := fun y As M Q => ∃ r : MT, mts y = some r ∧ ((∀ v ∈ As, vv v ∧ cat1 v = 1) → As.length ≤ r.2.2.1 → Met G.1 r.1 (.code r.1 r.2.1 r.2.2.1 r.2.2.2 :: tW) (roomOf d) (va_Pc (As.map (rv G)) (fun U => HR G M U.heap ∧ KO G U)) (mQ G Q) 0 0 (Aq G))
def Snd (G : GX) (mts : Nat → Option MT) (own : String) (cc : ByteArray) (mL : Nat) (rt : Option FieldType) (d : Nat) (sx : SX) (pc : Nat) (i : Ins) : Prop :=
  ∀ (Q : RP) (K : KP), (∀ pc L S M, K pc L S M → V G own cc mL rt d sx Q pc L S M) → ∀ L S M, i (Ct G mts d) L S M Q K → V G own cc mL rt d sx Q pc L S M
end
section
section RULES
variable {G : GX} {mts : Nat → Option MT} {own : String} {cc : ByteArray} {mL : Nat} {rt : Option FieldType} {d : Nat} {sx : SX} {pc : Nat}
theorem s_i_add (hd : decode cc pc = .ok (.iadd, 1)) : Snd G mts own cc mL rt d sx pc (i_add (pc + 1)) := by
  intro Q K hK L S M h
  unfold i_add at h
  split at h
  · intro p e R s m args below meth c H locs cells slots A Z ls F I hr
    obtain ⟨hH, hS, hL, hl, hv⟩ := I
    refine lv_iadd F.1 F.2.1 hd ?_
    exact hK _ _ _ _ h p e R s m args below meth c H locs cells slots A Z ls F ⟨hH, hS, hL, hl, .cons trivial hv.tl.tl⟩ hr
  · exact h.elim
theorem s_i_sub (hd : decode cc pc = .ok (.isub, 1)) : Snd G mts own cc mL rt d sx pc (i_sub (pc + 1)) := by
  intro Q K hK L S M h
  unfold i_sub at h
  split at h
  · intro p e R s m args below meth c H locs cells slots A Z ls F I hr
    obtain ⟨hH, hS, hL, hl, hv⟩ := I
    refine lv_isub F.1 F.2.1 hd ?_
    exact hK _ _ _ _ h p e R s m args below meth c H locs cells slots A Z ls F ⟨hH, hS, hL, hl, .cons trivial hv.tl.tl⟩ hr
  · exact h.elim
theorem s_i_mul (hd : decode cc pc = .ok (.imul, 1)) : Snd G mts own cc mL rt d sx pc (i_mul (pc + 1)) := by
  intro Q K hK L S M h
  unfold i_mul at h
  split at h
  · intro p e R s m args below meth c H locs cells slots A Z ls F I hr
    obtain ⟨hH, hS, hL, hl, hv⟩ := I
    refine lv_imul F.1 F.2.1 hd ?_
    exact hK _ _ _ _ h p e R s m args below meth c H locs cells slots A Z ls F ⟨hH, hS, hL, hl, .cons trivial hv.tl.tl⟩ hr
  · exact h.elim
theorem s_i_or (hd : decode cc pc = .ok (.ior, 1)) : Snd G mts own cc mL rt d sx pc (i_or (pc + 1)) := by
  intro Q K hK L S M h
  unfold i_or at h
  split at h
  · intro p e R s m args below meth c H locs cells slots A Z ls F I hr
    obtain ⟨hH, hS, hL, hl, hv⟩ := I
    refine lv_ior F.1 F.2.1 hd ?_
    exact hK _ _ _ _ h p e R s m args below meth c H locs cells slots A Z ls F ⟨hH, hS, hL, hl, .cons trivial hv.tl.tl⟩ hr
  · exact h.elim
theorem s_i_and (hd : decode cc pc = .ok (.iand, 1)) : Snd G mts own cc mL rt d sx pc (i_and (pc + 1)) := by
  intro Q K hK L S M h
  unfold i_and at h
  split at h
  · intro p e R s m args below meth c H locs cells slots A Z ls F I hr
    obtain ⟨hH, hS, hL, hl, hv⟩ := I
    refine lv_iand F.1 F.2.1 hd ?_
    exact hK _ _ _ _ h p e R s m args below meth c H locs cells slots A Z ls F ⟨hH, hS, hL, hl, .cons trivial hv.tl.tl⟩ hr
  · exact h.elim
theorem s_i_shl (hd : decode cc pc = .ok (.ishl, 1)) : Snd G mts own cc mL rt d sx pc (i_shl (pc + 1)) := by
  intro Q K hK L S M h
  unfold i_shl at h
  split at h
  · intro p e R s m args below meth c H locs cells slots A Z ls F I hr
    obtain ⟨hH, hS, hL, hl, hv⟩ := I
    refine lv_ishl F.1 F.2.1 hd ?_
    exact hK _ _ _ _ h p e R s m args below meth c H locs cells slots A Z ls F ⟨hH, hS, hL, hl, .cons trivial hv.tl.tl⟩ hr
  · exact h.elim
theorem s_i_shr (hd : decode cc pc = .ok (.ishr, 1)) : Snd G mts own cc mL rt d sx pc (i_shr (pc + 1)) := by
  intro Q K hK L S M h
  unfold i_shr at h
  split at h
  · intro p e R s m args below meth c H locs cells slots A Z ls F I hr
    obtain ⟨hH, hS, hL, hl, hv⟩ := I
    refine lv_ishr F.1 F.2.1 hd ?_
    exact hK _ _ _ _ h p e R s m args below meth c H locs cells slots A Z ls F ⟨hH, hS, hL, hl, .cons trivial hv.tl.tl⟩ hr
  · exact h.elim
theorem s_i_neg (hd : decode cc pc = .ok (.ineg, 1)) : Snd G mts own cc mL rt d sx pc (i_neg (pc + 1)) := by
  intro Q K hK L S M h
  unfold i_neg at h
  split at h
  · intro p e R s m args below meth c H locs cells slots A Z ls F I hr
    obtain ⟨hH, hS, hL, hl, hv⟩ := I
    refine lv_ineg F.1 F.2.1 hd ?_
    exact hK _ _ _ _ h p e R s m args below meth c H locs cells slots A Z ls F ⟨hH, hS, hL, hl, .cons trivial hv.tl⟩ hr
  · exact h.elim
theorem s_i_2l (hd : decode cc pc = .ok (.i2l, 1)) : Snd G mts own cc mL rt d sx pc (i_2l (pc + 1)) := by
  intro Q K hK L S M h
  unfold i_2l at h
  split at h
  · intro p e R s m args below meth c H locs cells slots A Z ls F I hr
    obtain ⟨hH, hS, hL, hl, hv⟩ := I
    refine lv_i2l F.1 F.2.1 hd rfl ?_
    exact hK _ _ _ _ h p e R s m args below meth c H locs cells slots A Z ls F ⟨hH, hS, hL, hl, .cons trivial hv.tl⟩ hr
  · exact h.elim
theorem s_l_2i (hd : decode cc pc = .ok (.l2i, 1)) : Snd G mts own cc mL rt d sx pc (l_2i (pc + 1)) := by
  intro Q K hK L S M h
  unfold l_2i at h
  split at h
  · intro p e R s m args below meth c H locs cells slots A Z ls F I hr
    obtain ⟨hH, hS, hL, hl, hv⟩ := I
    refine lv_l2i F.1 F.2.1 hd rfl ?_
    exact hK _ _ _ _ h p e R s m args below meth c H locs cells slots A Z ls F ⟨hH, hS, hL, hl, .cons trivial hv.tl⟩ hr
  · exact h.elim
theorem s_l_add (hd : decode cc pc = .ok (.ladd, 1)) : Snd G mts own cc mL rt d sx pc (l_add (pc + 1)) := by
  intro Q K hK L S M h
  unfold l_add at h
  split at h
  · intro p e R s m args below meth c H locs cells slots A Z ls F I hr
    obtain ⟨hH, hS, hL, hl, hv⟩ := I
    refine lv_ladd F.1 F.2.1 hd ?_
    exact hK _ _ _ _ h p e R s m args below meth c H locs cells slots A Z ls F ⟨hH, hS, hL, hl, .cons trivial hv.tl.tl⟩ hr
  · exact h.elim
theorem s_l_sub (hd : decode cc pc = .ok (.lsub, 1)) : Snd G mts own cc mL rt d sx pc (l_sub (pc + 1)) := by
  intro Q K hK L S M h
  unfold l_sub at h
  split at h
  · intro p e R s m args below meth c H locs cells slots A Z ls F I hr
    obtain ⟨hH, hS, hL, hl, hv⟩ := I
    refine lv_lsub F.1 F.2.1 hd ?_
    exact hK _ _ _ _ h p e R s m args below meth c H locs cells slots A Z ls F ⟨hH, hS, hL, hl, .cons trivial hv.tl.tl⟩ hr
  · exact h.elim
theorem s_l_mul (hd : decode cc pc = .ok (.lmul, 1)) : Snd G mts own cc mL rt d sx pc (l_mul (pc + 1)) := by
  intro Q K hK L S M h
  unfold l_mul at h
  split at h
  · intro p e R s m args below meth c H locs cells slots A Z ls F I hr
    obtain ⟨hH, hS, hL, hl, hv⟩ := I
    refine lv_lmul F.1 F.2.1 hd ?_
    exact hK _ _ _ _ h p e R s m args below meth c H locs cells slots A Z ls F ⟨hH, hS, hL, hl, .cons trivial hv.tl.tl⟩ hr
  · exact h.elim
theorem s_l_or (hd : decode cc pc = .ok (.lor, 1)) : Snd G mts own cc mL rt d sx pc (l_or (pc + 1)) := by
  intro Q K hK L S M h
  unfold l_or at h
  split at h
  · intro p e R s m args below meth c H locs cells slots A Z ls F I hr
    obtain ⟨hH, hS, hL, hl, hv⟩ := I
    refine lv_lor F.1 F.2.1 hd ?_
    exact hK _ _ _ _ h p e R s m args below meth c H locs cells slots A Z ls F ⟨hH, hS, hL, hl, .cons trivial hv.tl.tl⟩ hr
  · exact h.elim
theorem s_l_rem (hd : decode cc pc = .ok (.lrem, 1)) : Snd G mts own cc mL rt d sx pc (l_rem (pc + 1)) := by
  intro Q K hK L S M h
  unfold l_rem at h
  split at h
  · intro p e R s m args below meth c H locs cells slots A Z ls F I hr
    obtain ⟨hH, hS, hL, hl, hv⟩ := I
    refine lv_lrem F.1 F.2.1 hd h.1 ?_
    exact hK _ _ _ _ h.2 p e R s m args below meth c H locs cells slots A Z ls F ⟨hH, hS, hL, hl, .cons trivial hv.tl.tl⟩ hr
  · exact h.elim
theorem s_l_cmp (hd : decode cc pc = .ok (.lcmp, 1)) : Snd G mts own cc mL rt d sx pc (l_cmp (pc + 1)) := by
  intro Q K hK L S M h
  unfold l_cmp at h
  split at h
  · intro p e R s m args below meth c H locs cells slots A Z ls F I hr
    obtain ⟨hH, hS, hL, hl, hv⟩ := I
    refine W.lcmp F.1 F.2.1 hd ?_
    exact hK _ _ _ _ h p e R s m args below meth c H locs cells slots A Z ls F ⟨hH, hS, hL, hl, .cons trivial hv.tl.tl⟩ hr
  · exact h.elim
theorem s_l_shl (hd : decode cc pc = .ok (.lshl, 1)) : Snd G mts own cc mL rt d sx pc (l_shl (pc + 1)) := by
  intro Q K hK L S M h
  unfold l_shl at h
  split at h
  · intro p e R s m args below meth c H locs cells slots A Z ls F I hr
    obtain ⟨hH, hS, hL, hl, hv⟩ := I
    refine lv_lshl F.1 F.2.1 hd rfl ?_
    exact hK _ _ _ _ h p e R s m args below meth c H locs cells slots A Z ls F ⟨hH, hS, hL, hl, .cons trivial hv.tl.tl⟩ hr
  · exact h.elim
theorem s_l_shr (hd : decode cc pc = .ok (.lshr, 1)) : Snd G mts own cc mL rt d sx pc (l_shr (pc + 1)) := by
  intro Q K hK L S M h
  unfold l_shr at h
  split at h
  · intro p e R s m args below meth c H locs cells slots A Z ls F I hr
    obtain ⟨hH, hS, hL, hl, hv⟩ := I
    refine lv_lshr F.1 F.2.1 hd rfl ?_
    exact hK _ _ _ _ h p e R s m args below meth c H locs cells slots A Z ls F ⟨hH, hS, hL, hl, .cons trivial hv.tl.tl⟩ hr
  · exact h.elim
theorem s_i_pop (hd : decode cc pc = .ok (.pop, 1)) : Snd G mts own cc mL rt d sx pc (i_pop (pc + 1)) := by
  intro Q K hK L S M h
  unfold i_pop at h
  split at h
  · intro p e R s m args below meth c H locs cells slots A Z ls F I hr
    obtain ⟨hH, hS, hL, hl, hv⟩ := I
    refine lv_pop F.1 F.2.1 hd rfl ?_
    exact hK _ _ _ _ h p e R s m args below meth c H locs cells slots A Z ls F ⟨hH, hS, hL, hl, hv.tl⟩ hr
  · exact h.elim
theorem s_i_dup2 (hd : decode cc pc = .ok (.dup2, 1)) : Snd G mts own cc mL rt d sx pc (i_dup2 (pc + 1)) := by
  intro Q K hK L S M h
  unfold i_dup2 at h
  split at h
  · intro p e R s m args below meth c H locs cells slots A Z ls F I hr
    obtain ⟨hH, hS, hL, hl, hv⟩ := I
    refine lv_dup2_11 F.1 F.2.1 hd rfl rfl ?_
    exact hK _ _ _ _ h p e R s m args below meth c H locs cells slots A Z ls F ⟨hH, hS, hL, hl, .cons hv.hd (.cons hv.tl.hd hv)⟩ hr
  · exact h.elim
theorem s_i_dup (hd : decode cc pc = .ok (.dup, 1)) : Snd G mts own cc mL rt d sx pc (i_dup (pc + 1)) := by
  intro Q K hK L S M h
  unfold i_dup at h
  split at h
  · intro p e R s m args below meth c H locs cells slots A Z ls F I hr
    obtain ⟨hH, hS, hL, hl, hv⟩ := I
    refine lv_dup F.1 F.2.1 hd rfl ?_
    exact hK _ _ _ _ h p e R s m args below meth c H locs cells slots A Z ls F ⟨hH, hS, hL, hl, .cons hv.hd hv⟩ hr
  · intro p e R s m args below meth c H locs cells slots A Z ls F I hr
    obtain ⟨hH, hS, hL, hl, hv⟩ := I
    refine lv_dup F.1 F.2.1 hd rfl ?_
    exact hK _ _ _ _ h p e R s m args below meth c H locs cells slots A Z ls F ⟨hH, hS, hL, hl, .cons hv.hd hv⟩ hr
  · exact h.elim
theorem s_iconst {n : Int} {v : Int32} (hd : decode cc pc = .ok (.iconst n, 1)) (hv0 : Int32.ofInt n = v) : Snd G mts own cc mL rt d sx pc (i_c v (pc + 1)) := by
  intro Q K hK L S M h
  intro p e R s m args below meth c H locs cells slots A Z ls F I hr
  obtain ⟨hH, hS, hL, hl, hv⟩ := I
  refine lv_iconst F.1 F.2.1 hd hv0 ?_
  exact hK _ _ _ _ h p e R s m args below meth c H locs cells slots A Z ls F ⟨hH, hS, hL, hl, .cons trivial hv⟩ hr
theorem s_bipush {n : Int} {v : Int32} (hd : decode cc pc = .ok (.bipush n, 2)) (hv0 : (Int8.ofInt n).toInt32 = v) : Snd G mts own cc mL rt d sx pc (i_c v (pc + 2)) := by
  intro Q K hK L S M h
  intro p e R s m args below meth c H locs cells slots A Z ls F I hr
  obtain ⟨hH, hS, hL, hl, hv⟩ := I
  refine lv_bipush F.1 F.2.1 hd hv0 ?_
  exact hK _ _ _ _ h p e R s m args below meth c H locs cells slots A Z ls F ⟨hH, hS, hL, hl, .cons trivial hv⟩ hr
theorem s_sipush {n : Int} {v : Int32} (hd : decode cc pc = .ok (.sipush n, 3)) (hv0 : (Int16.ofInt n).toInt32 = v) : Snd G mts own cc mL rt d sx pc (i_c v (pc + 3)) := by
  intro Q K hK L S M h
  intro p e R s m args below meth c H locs cells slots A Z ls F I hr
  obtain ⟨hH, hS, hL, hl, hv⟩ := I
  refine lv_sipush F.1 F.2.1 hd hv0 ?_
  exact hK _ _ _ _ h p e R s m args below meth c H locs cells slots A Z ls F ⟨hH, hS, hL, hl, .cons trivial hv⟩ hr
theorem s_ldc {k : Nat} {v : Int32} (hd : decode cc pc = .ok (.ldc k, 2)) (hw : Cond.constant own k v ∈ tW) : Snd G mts own cc mL rt d sx pc (i_c v (pc + 2)) := by
  intro Q K hK L S M h
  intro p e R s m args below meth c H locs cells slots A Z ls F I hr
  obtain ⟨hH, hS, hL, hl, hv⟩ := I
  refine lv_ldc F.1 F.2.1 F.2.2.2.2.1 (F.2.2.2.2.2.1 _ hw) hd ?_
  exact hK _ _ _ _ h p e R s m args below meth c H locs cells slots A Z ls F ⟨hH, hS, hL, hl, .cons trivial hv⟩ hr
theorem s_ldc2 {k : Nat} {v : Int64} (hd : decode cc pc = .ok (.ldc2_w k, 3)) (hw : Cond.constantLong own k v ∈ tW) : Snd G mts own cc mL rt d sx pc (i_cl v (pc + 3)) := by
  intro Q K hK L S M h
  intro p e R s m args below meth c H locs cells slots A Z ls F I hr
  obtain ⟨hH, hS, hL, hl, hv⟩ := I
  refine lv_ldc2 F.1 F.2.1 F.2.2.2.2.1 (F.2.2.2.2.2.1 _ hw) hd ?_
  exact hK _ _ _ _ h p e R s m args below meth c H locs cells slots A Z ls F ⟨hH, hS, hL, hl, .cons trivial hv⟩ hr
theorem s_lconst {n : Fin 2} {v : Int64} (hd : decode cc pc = .ok (.lconst n, 1)) (hv0 : Int64.ofNat n = v) : Snd G mts own cc mL rt d sx pc (i_cl v (pc + 1)) := by
  intro Q K hK L S M h
  intro p e R s m args below meth c H locs cells slots A Z ls F I hr
  obtain ⟨hH, hS, hL, hl, hv⟩ := I
  refine lv_lconst F.1 F.2.1 hd hv0 ?_
  exact hK _ _ _ _ h p e R s m args below meth c H locs cells slots A Z ls F ⟨hH, hS, hL, hl, .cons trivial hv⟩ hr
theorem s_li_n {k : Fin 4} {i : Nat} (hd : decode cc pc = .ok (.iload_n k, 1)) (hk : (k : Nat) = i) : Snd G mts own cc mL rt d sx pc (i_li i (pc + 1)) := by
  intro Q K hK L S M h
  unfold i_li at h
  split at h
  · rename_i he
    intro p e R s m args below meth c H locs cells slots A Z ls F I hr
    obtain ⟨hH, hS, hL, hl, hv⟩ := I
    refine lv_iload_n F.1 F.2.1 hd hk (hL.at he) ?_
    exact hK _ _ _ _ h p e R s m args below meth c H locs cells slots A Z ls F ⟨hH, hS, hL, hl, .cons (hl _ _ he) hv⟩ hr
  · exact h.elim
theorem s_li {i : Nat} (hd : decode cc pc = .ok (.iload i, 2))  : Snd G mts own cc mL rt d sx pc (i_li i (pc + 2)) := by
  intro Q K hK L S M h
  unfold i_li at h
  split at h
  · rename_i he
    intro p e R s m args below meth c H locs cells slots A Z ls F I hr
    obtain ⟨hH, hS, hL, hl, hv⟩ := I
    refine lv_iload F.1 F.2.1 hd (hL.at he) ?_
    exact hK _ _ _ _ h p e R s m args below meth c H locs cells slots A Z ls F ⟨hH, hS, hL, hl, .cons (hl _ _ he) hv⟩ hr
  · exact h.elim
theorem s_la_n {k : Fin 4} {i : Nat} (hd : decode cc pc = .ok (.aload_n k, 1)) (hk : (k : Nat) = i) : Snd G mts own cc mL rt d sx pc (i_la i (pc + 1)) := by
  intro Q K hK L S M h
  unfold i_la at h
  split at h
  · rename_i he
    intro p e R s m args below meth c H locs cells slots A Z ls F I hr
    obtain ⟨hH, hS, hL, hl, hv⟩ := I
    refine lv_aload_n F.1 F.2.1 hd hk (hL.at he) ?_
    exact hK _ _ _ _ h p e R s m args below meth c H locs cells slots A Z ls F ⟨hH, hS, hL, hl, .cons (hl _ _ he) hv⟩ hr
  · exact h.elim
theorem s_la {i : Nat} (hd : decode cc pc = .ok (.aload i, 2))  : Snd G mts own cc mL rt d sx pc (i_la i (pc + 2)) := by
  intro Q K hK L S M h
  unfold i_la at h
  split at h
  · rename_i he
    intro p e R s m args below meth c H locs cells slots A Z ls F I hr
    obtain ⟨hH, hS, hL, hl, hv⟩ := I
    refine lv_aload F.1 F.2.1 hd (hL.at he) ?_
    exact hK _ _ _ _ h p e R s m args below meth c H locs cells slots A Z ls F ⟨hH, hS, hL, hl, .cons (hl _ _ he) hv⟩ hr
  · exact h.elim
theorem s_ll_n {k : Fin 4} {i : Nat} (hd : decode cc pc = .ok (.lload_n k, 1)) (hk : (k : Nat) = i) : Snd G mts own cc mL rt d sx pc (i_ll i (pc + 1)) := by
  intro Q K hK L S M h
  unfold i_ll at h
  split at h
  · rename_i he
    intro p e R s m args below meth c H locs cells slots A Z ls F I hr
    obtain ⟨hH, hS, hL, hl, hv⟩ := I
    refine lv_lload_n F.1 F.2.1 hd hk (hL.at he) ?_
    exact hK _ _ _ _ h p e R s m args below meth c H locs cells slots A Z ls F ⟨hH, hS, hL, hl, .cons (hl _ _ he) hv⟩ hr
  · exact h.elim
theorem s_ll {i : Nat} (hd : decode cc pc = .ok (.lload i, 2))  : Snd G mts own cc mL rt d sx pc (i_ll i (pc + 2)) := by
  intro Q K hK L S M h
  unfold i_ll at h
  split at h
  · rename_i he
    intro p e R s m args below meth c H locs cells slots A Z ls F I hr
    obtain ⟨hH, hS, hL, hl, hv⟩ := I
    refine lv_lload F.1 F.2.1 hd (hL.at he) ?_
    exact hK _ _ _ _ h p e R s m args below meth c H locs cells slots A Z ls F ⟨hH, hS, hL, hl, .cons (hl _ _ he) hv⟩ hr
  · exact h.elim
theorem s_st_n {k : Fin 4} {i : Nat} (hd : decode cc pc = .ok (.istore_n k, 1)) (hk : (k : Nat) = i) (hi : i < mL) : Snd G mts own cc mL rt d sx pc (i_st i (pc + 1)) := by
  intro Q K hK L S M h
  unfold i_st at h
  split at h
  · rename_i x S'
    intro p e R s m args below meth c H locs cells slots A Z ls F I hr
    obtain ⟨hH, hS, ⟨l, h1, h2⟩, hl, hv⟩ := I
    refine lv_istore_n F.1 F.2.1 hd hk h1 hi rfl (fun ls' h3 => ?_)
    exact hK _ _ _ _ h p e R s m args below meth c H locs cells slots A Z ls' F ⟨hH, hS, ⟨_, h3, LR.st1 (mL := mL) h2 x⟩, hl.se (fun w e => by cases e; trivial), hv.tl⟩ hr
  · exact h.elim
theorem s_st {i : Nat} (hd : decode cc pc = .ok (.istore i, 2))  (hi : i < mL) : Snd G mts own cc mL rt d sx pc (i_st i (pc + 2)) := by
  intro Q K hK L S M h
  unfold i_st at h
  split at h
  · rename_i x S'
    intro p e R s m args below meth c H locs cells slots A Z ls F I hr
    obtain ⟨hH, hS, ⟨l, h1, h2⟩, hl, hv⟩ := I
    refine lv_istore F.1 F.2.1 hd h1 hi rfl (fun ls' h3 => ?_)
    exact hK _ _ _ _ h p e R s m args below meth c H locs cells slots A Z ls' F ⟨hH, hS, ⟨_, h3, LR.st1 (mL := mL) h2 x⟩, hl.se (fun w e => by cases e; trivial), hv.tl⟩ hr
  · exact h.elim
theorem s_st2_n {k : Fin 4} {i : Nat} (hd : decode cc pc = .ok (.lstore_n k, 1)) (hk : (k : Nat) = i) (hi : i + 1 < mL) : Snd G mts own cc mL rt d sx pc (i_st2 i (pc + 1)) := by
  intro Q K hK L S M h
  unfold i_st2 at h
  split at h
  · rename_i x S'
    intro p e R s m args below meth c H locs cells slots A Z ls F I hr
    obtain ⟨hH, hS, ⟨l, h1, h2⟩, hl, hv⟩ := I
    refine lv_lstore_n F.1 F.2.1 hd hk h1 hi rfl (fun ls' h3 => ?_)
    exact hK _ _ _ _ h p e R s m args below meth c H locs cells slots A Z ls' F ⟨hH, hS, ⟨_, h3, LR.st2 (mL := mL) h2 x⟩, (hl.se (fun w e => by cases e)).se (fun w e => by cases e; trivial), hv.tl⟩ hr
  · exact h.elim
theorem s_st2 {i : Nat} (hd : decode cc pc = .ok (.lstore i, 2))  (hi : i + 1 < mL) : Snd G mts own cc mL rt d sx pc (i_st2 i (pc + 2)) := by
  intro Q K hK L S M h
  unfold i_st2 at h
  split at h
  · rename_i x S'
    intro p e R s m args below meth c H locs cells slots A Z ls F I hr
    obtain ⟨hH, hS, ⟨l, h1, h2⟩, hl, hv⟩ := I
    refine lv_lstore F.1 F.2.1 hd h1 hi rfl (fun ls' h3 => ?_)
    exact hK _ _ _ _ h p e R s m args below meth c H locs cells slots A Z ls' F ⟨hH, hS, ⟨_, h3, LR.st2 (mL := mL) h2 x⟩, (hl.se (fun w e => by cases e)).se (fun w e => by cases e; trivial), hv.tl⟩ hr
  · exact h.elim
theorem s_inc {i : Nat} {n : Int} {v : Int32} (hd : decode cc pc = .ok (.iinc i n, 3)) (hv0 : Int32.ofInt n = v) (hi : i < mL) : Snd G mts own cc mL rt d sx pc (i_inc i v (pc + 3)) := by
  intro Q K hK L S M h
  unfold i_inc at h
  split at h
  · rename_i x he
    intro p e R s m args below meth c H locs cells slots A Z ls F I hr
    obtain ⟨hH, hS, ⟨l, h1, h2⟩, hl, hv⟩ := I
    obtain ⟨k, hk⟩ := List.getElem?_of_mem (h2 _ _ he)
    refine lv_iinc F.1 F.2.1 hd h1 (k := k) hk (by rw [hv0]) hi rfl (fun ls' h3 => ?_)
    exact hK _ _ _ _ h p e R s m args below meth c H locs cells slots A Z ls' F ⟨hH, hS, ⟨_, h3, LR.st1 (mL := mL) h2 _⟩, hl.se (fun w e => by cases e; trivial), hv⟩ hr
  · exact h.elim
theorem s_if_eq {off : Int} {g : Nat} (hd : decode cc pc = .ok (.ifCond .eq off, 3)) (hg : (pc : Int) + off = (g : Int)) : Snd G mts own cc mL rt d sx pc (i_if_eq g (pc + 3)) := by
  intro Q K hK L S M h
  unfold i_if_eq at h
  split at h
  · intro p e R s m args below meth c H locs cells slots A Z ls F I hr
    obtain ⟨hH, hS, hL, hl, hv⟩ := I
    exact lv_if_eq F.1 F.2.1 hd hg (fun q => hK _ _ _ _ (h.1 q) p e R s m args below meth c H locs cells slots A Z ls F ⟨hH, hS, hL, hl, hv.tl⟩ hr) (fun q => hK _ _ _ _ (h.2 q) p e R s m args below meth c H locs cells slots A Z ls F ⟨hH, hS, hL, hl, hv.tl⟩ hr)
  · exact h.elim
theorem s_ic_eq {off : Int} {g : Nat} (hd : decode cc pc = .ok (.if_icmp .eq off, 3)) (hg : (pc : Int) + off = (g : Int)) : Snd G mts own cc mL rt d sx pc (i_ic_eq g (pc + 3)) := by
  intro Q K hK L S M h
  unfold i_ic_eq at h
  split at h
  · intro p e R s m args below meth c H locs cells slots A Z ls F I hr
    obtain ⟨hH, hS, hL, hl, hv⟩ := I
    exact lv_icmp_eq F.1 F.2.1 hd hg (fun q => hK _ _ _ _ (h.1 q) p e R s m args below meth c H locs cells slots A Z ls F ⟨hH, hS, hL, hl, hv.tl.tl⟩ hr) (fun q => hK _ _ _ _ (h.2 q) p e R s m args below meth c H locs cells slots A Z ls F ⟨hH, hS, hL, hl, hv.tl.tl⟩ hr)
  · exact h.elim
theorem s_if_ne {off : Int} {g : Nat} (hd : decode cc pc = .ok (.ifCond .ne off, 3)) (hg : (pc : Int) + off = (g : Int)) : Snd G mts own cc mL rt d sx pc (i_if_ne g (pc + 3)) := by
  intro Q K hK L S M h
  unfold i_if_ne at h
  split at h
  · intro p e R s m args below meth c H locs cells slots A Z ls F I hr
    obtain ⟨hH, hS, hL, hl, hv⟩ := I
    exact lv_if_ne F.1 F.2.1 hd hg (fun q => hK _ _ _ _ (h.1 q) p e R s m args below meth c H locs cells slots A Z ls F ⟨hH, hS, hL, hl, hv.tl⟩ hr) (fun q => hK _ _ _ _ (h.2 q) p e R s m args below meth c H locs cells slots A Z ls F ⟨hH, hS, hL, hl, hv.tl⟩ hr)
  · exact h.elim
theorem s_ic_ne {off : Int} {g : Nat} (hd : decode cc pc = .ok (.if_icmp .ne off, 3)) (hg : (pc : Int) + off = (g : Int)) : Snd G mts own cc mL rt d sx pc (i_ic_ne g (pc + 3)) := by
  intro Q K hK L S M h
  unfold i_ic_ne at h
  split at h
  · intro p e R s m args below meth c H locs cells slots A Z ls F I hr
    obtain ⟨hH, hS, hL, hl, hv⟩ := I
    exact lv_icmp_ne F.1 F.2.1 hd hg (fun q => hK _ _ _ _ (h.1 q) p e R s m args below meth c H locs cells slots A Z ls F ⟨hH, hS, hL, hl, hv.tl.tl⟩ hr) (fun q => hK _ _ _ _ (h.2 q) p e R s m args below meth c H locs cells slots A Z ls F ⟨hH, hS, hL, hl, hv.tl.tl⟩ hr)
  · exact h.elim
theorem s_if_lt {off : Int} {g : Nat} (hd : decode cc pc = .ok (.ifCond .lt off, 3)) (hg : (pc : Int) + off = (g : Int)) : Snd G mts own cc mL rt d sx pc (i_if_lt g (pc + 3)) := by
  intro Q K hK L S M h
  unfold i_if_lt at h
  split at h
  · intro p e R s m args below meth c H locs cells slots A Z ls F I hr
    obtain ⟨hH, hS, hL, hl, hv⟩ := I
    exact lv_if_lt F.1 F.2.1 hd hg (fun q => hK _ _ _ _ (h.1 q) p e R s m args below meth c H locs cells slots A Z ls F ⟨hH, hS, hL, hl, hv.tl⟩ hr) (fun q => hK _ _ _ _ (h.2 q) p e R s m args below meth c H locs cells slots A Z ls F ⟨hH, hS, hL, hl, hv.tl⟩ hr)
  · exact h.elim
theorem s_ic_lt {off : Int} {g : Nat} (hd : decode cc pc = .ok (.if_icmp .lt off, 3)) (hg : (pc : Int) + off = (g : Int)) : Snd G mts own cc mL rt d sx pc (i_ic_lt g (pc + 3)) := by
  intro Q K hK L S M h
  unfold i_ic_lt at h
  split at h
  · intro p e R s m args below meth c H locs cells slots A Z ls F I hr
    obtain ⟨hH, hS, hL, hl, hv⟩ := I
    exact lv_icmp_lt F.1 F.2.1 hd hg (fun q => hK _ _ _ _ (h.1 q) p e R s m args below meth c H locs cells slots A Z ls F ⟨hH, hS, hL, hl, hv.tl.tl⟩ hr) (fun q => hK _ _ _ _ (h.2 q) p e R s m args below meth c H locs cells slots A Z ls F ⟨hH, hS, hL, hl, hv.tl.tl⟩ hr)
  · exact h.elim
theorem s_if_ge {off : Int} {g : Nat} (hd : decode cc pc = .ok (.ifCond .ge off, 3)) (hg : (pc : Int) + off = (g : Int)) : Snd G mts own cc mL rt d sx pc (i_if_ge g (pc + 3)) := by
  intro Q K hK L S M h
  unfold i_if_ge at h
  split at h
  · intro p e R s m args below meth c H locs cells slots A Z ls F I hr
    obtain ⟨hH, hS, hL, hl, hv⟩ := I
    exact lv_if_ge F.1 F.2.1 hd hg (fun q => hK _ _ _ _ (h.1 q) p e R s m args below meth c H locs cells slots A Z ls F ⟨hH, hS, hL, hl, hv.tl⟩ hr) (fun q => hK _ _ _ _ (h.2 q) p e R s m args below meth c H locs cells slots A Z ls F ⟨hH, hS, hL, hl, hv.tl⟩ hr)
  · exact h.elim
theorem s_ic_ge {off : Int} {g : Nat} (hd : decode cc pc = .ok (.if_icmp .ge off, 3)) (hg : (pc : Int) + off = (g : Int)) : Snd G mts own cc mL rt d sx pc (i_ic_ge g (pc + 3)) := by
  intro Q K hK L S M h
  unfold i_ic_ge at h
  split at h
  · intro p e R s m args below meth c H locs cells slots A Z ls F I hr
    obtain ⟨hH, hS, hL, hl, hv⟩ := I
    exact lv_icmp_ge F.1 F.2.1 hd hg (fun q => hK _ _ _ _ (h.1 q) p e R s m args below meth c H locs cells slots A Z ls F ⟨hH, hS, hL, hl, hv.tl.tl⟩ hr) (fun q => hK _ _ _ _ (h.2 q) p e R s m args below meth c H locs cells slots A Z ls F ⟨hH, hS, hL, hl, hv.tl.tl⟩ hr)
  · exact h.elim
theorem s_if_gt {off : Int} {g : Nat} (hd : decode cc pc = .ok (.ifCond .gt off, 3)) (hg : (pc : Int) + off = (g : Int)) : Snd G mts own cc mL rt d sx pc (i_if_gt g (pc + 3)) := by
  intro Q K hK L S M h
  unfold i_if_gt at h
  split at h
  · intro p e R s m args below meth c H locs cells slots A Z ls F I hr
    obtain ⟨hH, hS, hL, hl, hv⟩ := I
    exact lv_if_gt F.1 F.2.1 hd hg (fun q => hK _ _ _ _ (h.1 q) p e R s m args below meth c H locs cells slots A Z ls F ⟨hH, hS, hL, hl, hv.tl⟩ hr) (fun q => hK _ _ _ _ (h.2 q) p e R s m args below meth c H locs cells slots A Z ls F ⟨hH, hS, hL, hl, hv.tl⟩ hr)
  · exact h.elim
theorem s_ic_gt {off : Int} {g : Nat} (hd : decode cc pc = .ok (.if_icmp .gt off, 3)) (hg : (pc : Int) + off = (g : Int)) : Snd G mts own cc mL rt d sx pc (i_ic_gt g (pc + 3)) := by
  intro Q K hK L S M h
  unfold i_ic_gt at h
  split at h
  · intro p e R s m args below meth c H locs cells slots A Z ls F I hr
    obtain ⟨hH, hS, hL, hl, hv⟩ := I
    exact lv_icmp_gt F.1 F.2.1 hd hg (fun q => hK _ _ _ _ (h.1 q) p e R s m args below meth c H locs cells slots A Z ls F ⟨hH, hS, hL, hl, hv.tl.tl⟩ hr) (fun q => hK _ _ _ _ (h.2 q) p e R s m args below meth c H locs cells slots A Z ls F ⟨hH, hS, hL, hl, hv.tl.tl⟩ hr)
  · exact h.elim
theorem s_if_le {off : Int} {g : Nat} (hd : decode cc pc = .ok (.ifCond .le off, 3)) (hg : (pc : Int) + off = (g : Int)) : Snd G mts own cc mL rt d sx pc (i_if_le g (pc + 3)) := by
  intro Q K hK L S M h
  unfold i_if_le at h
  split at h
  · intro p e R s m args below meth c H locs cells slots A Z ls F I hr
    obtain ⟨hH, hS, hL, hl, hv⟩ := I
    exact lv_if_le F.1 F.2.1 hd hg (fun q => hK _ _ _ _ (h.1 q) p e R s m args below meth c H locs cells slots A Z ls F ⟨hH, hS, hL, hl, hv.tl⟩ hr) (fun q => hK _ _ _ _ (h.2 q) p e R s m args below meth c H locs cells slots A Z ls F ⟨hH, hS, hL, hl, hv.tl⟩ hr)
  · exact h.elim
theorem s_ic_le {off : Int} {g : Nat} (hd : decode cc pc = .ok (.if_icmp .le off, 3)) (hg : (pc : Int) + off = (g : Int)) : Snd G mts own cc mL rt d sx pc (i_ic_le g (pc + 3)) := by
  intro Q K hK L S M h
  unfold i_ic_le at h
  split at h
  · intro p e R s m args below meth c H locs cells slots A Z ls F I hr
    obtain ⟨hH, hS, hL, hl, hv⟩ := I
    exact lv_icmp_le F.1 F.2.1 hd hg (fun q => hK _ _ _ _ (h.1 q) p e R s m args below meth c H locs cells slots A Z ls F ⟨hH, hS, hL, hl, hv.tl.tl⟩ hr) (fun q => hK _ _ _ _ (h.2 q) p e R s m args below meth c H locs cells slots A Z ls F ⟨hH, hS, hL, hl, hv.tl.tl⟩ hr)
  · exact h.elim
theorem s_go {off : Int} {g : Nat} (hd : decode cc pc = .ok (.goto off, 3)) (hg : (pc : Int) + off = (g : Int)) : Snd G mts own cc mL rt d sx pc (i_go g) := by
  intro Q K hK L S M h
  intro p e R s m args below meth c H locs cells slots A Z ls F I hr
  exact lv_goto F.1 F.2.1 hd hg (hK _ _ _ _ h p e R s m args below meth c H locs cells slots A Z ls F I hr)
end RULES
end
section
section RULES2
variable {G : GX} {mts : Nat → Option MT} {own : String} {cc : ByteArray} {mL : Nat} {rt : Option FieldType} {d : Nat} {sx : SX} {pc : Nat}
theorem cat_sum (G : GX) (S : List AV) : ((S.map (rv G)).map fun v => v.category).sum = cats S := by
  induction S with
  | nil => rfl
  | cons v S ih =>
    simp only [List.map_cons, List.sum_cons]
    rw [ih, rv_cat]
    rfl
theorem co_t {b : Bool} {X : Prop} (h : cond b X False) : b = true ∧ X := by
  cases b with
  | true => exact ⟨rfl, h⟩
  | false => exact h.elim
theorem bz_01 {v : Int32} (h : bz v = v) : v = 0 ∨ v = 1 := by
  have h1 : v.toBitVec &&& 1#32 = v.toBitVec := by
    have := congrArg Int32.toBitVec h
    simpa [bz] using this
  have h2 : v.toBitVec.toNat &&& 1 = v.toBitVec.toNat := by
    have := congrArg BitVec.toNat h1
    simpa using this
  rw [Nat.and_one_is_mod] at h2
  have h3 : v.toBitVec.toNat = 0 ∨ v.toBitVec.toNat = 1 := by omega
  rcases h3 with h3 | h3
  · left
    apply Int32.toBitVec_inj.mp
    apply BitVec.eq_of_toNat_eq
    rw [h3]; rfl
  · right
    apply Int32.toBitVec_inj.mp
    apply BitVec.eq_of_toNat_eq
    rw [h3]; rfl
/-- a class of the table: its number, the kind of its objects, its name and fields -/
def CO (c ka : Nat) (C : String) (T : u_T) (N : Nat) (ty0 : Nat → FieldType) : Prop :=
  (∀ a, acl a = c → a = ka) ∧ vwCl[c]? = some (C, T, N) ∧ (∀ w ∈ u_ws C T N, w ∈ tW) ∧ (∀ k, k < N → parseFieldDescriptor (T k).2.2.1 = some (ty0 k)) ∧ (∀ a, a < N → ∀ b, b < N → a ≠ b → (T a).2.1 ≠ (T b).2.1)
/-- a field that is read: what stands there by the picture -/
theorem s_get {c ka : Nat} {C : String} {T : u_T} {N : Nat} {ty0 : Nat → FieldType} (co : CO c ka C T N ty0) {j index : Nat} (hj : j < N) (hw : Cond.fieldLink own index (T j).1 (T j).2.1 (T j).2.2.1 ∈ tW) (hd : decode cc pc = .ok (.getfield index, 3))
    {i : Ins} {val : AM → Nat → AV} (hi : ∀ C' L S M Q K, i C' L S M Q K → ∃ a t S', S = .inr (.inr (a, t)) :: S' ∧ acl a = c ∧ K (pc + 3) L (val M t :: S') M)
    (hfs : ∀ M t, ∃ fs, cel G M ka t = .inr (c, fs) ∧ fs[j]? = some (rv G (val M t))) (hka : ka ≠ 35) (hval : ∀ M t, t < cnt ka → vv (val M t)) : Snd G mts own cc mL rt d sx pc i := by
  intro Q K hK L S M h
  obtain ⟨a, t, S', rfl, ha, hk⟩ := hi _ _ _ _ _ _ h
  have ha' := co.1 a ha
  subst ha'
  intro p e R s m args below meth c' H locs cells slots A Z ls F I hr
  obtain ⟨hH, hS, hL, hl, hv⟩ := I
  have ht : t < cnt a := (hv.hd : t < cnt a ∨ (a = 35 ∧ t = 0)).resolve_right (fun h => hka h.1)
  obtain ⟨k, hk0⟩ := idx_in ht
  obtain ⟨fs, h1, h2⟩ := hfs M t
  refine va_get (ws := wsl G M) F.1 F.2.1 F.2.2.2.2.2.1 co.2.2.1 F.2.2.2.2.1 F.2.2.2.2.2.2.1 hH k (a := G.2.2.1 a t) (fs := fs) (ci := c) (by rw [wsl_at hk0, h1]) co.2.1 j hj (F.2.2.2.2.2.1 _ hw) (fun _ h9 => h9) h2 hd ?_
  exact hK _ _ _ _ hk p e R s m args below meth c' H locs cells slots A Z ls F ⟨hH, hS, hL, hl, .cons (hval M t ht) hv.tl⟩ hr
theorem s_gI {c ka : Nat} {C : String} {T : u_T} {N : Nat} {ty0 : Nat → FieldType} (co : CO c ka C T N ty0) {j index : Nat} (hj : j < N) (hw : Cond.fieldLink own index (T j).1 (T j).2.1 (T j).2.2.1 ∈ tW) (hd : decode cc pc = .ok (.getfield index, 3))
    (hfs : ∀ M t, ∃ fs, cel G M ka t = .inr (c, fs) ∧ fs[j]? = some (.int (M.1 ka t j))) (hka : ka ≠ 35) : Snd G mts own cc mL rt d sx pc (i_gI c j (pc + 3)) := by
  refine s_get co hj hw hd (val := fun M t => vi (M.1 ka t j)) (fun C' L S M Q K h => ?_) hfs hka (fun _ _ _ => trivial)
  unfold i_gI at h
  split at h
  · rename_i a t S'
    obtain ⟨h1, h2⟩ := co_t h
    have ha := Nat.eq_of_beq_eq_true h1
    have ha' := co.1 a ha
    subst ha'
    exact ⟨_, t, S', rfl, ha, h2⟩
  · exact h.elim
theorem s_gL {c ka : Nat} {C : String} {T : u_T} {N : Nat} {ty0 : Nat → FieldType} (co : CO c ka C T N ty0) {j q index : Nat} (hj : j < N) (hw : Cond.fieldLink own index (T j).1 (T j).2.1 (T j).2.2.1 ∈ tW) (hd : decode cc pc = .ok (.getfield index, 3))
    (hfs : ∀ M t, ∃ fs, cel G M ka t = .inr (c, fs) ∧ fs[j]? = some (.long (M.2 q))) (hka : ka ≠ 35) : Snd G mts own cc mL rt d sx pc (i_gL c q (pc + 3)) := by
  refine s_get co hj hw hd (val := fun M t => vl (M.2 q)) (fun C' L S M Q K h => ?_) hfs hka (fun _ _ _ => trivial)
  unfold i_gL at h
  split at h
  · rename_i a t S'
    obtain ⟨h1, h2⟩ := co_t h
    exact ⟨a, t, S', rfl, Nat.eq_of_beq_eq_true h1, h2⟩
  · exact h.elim
theorem s_gR {c ka : Nat} {C : String} {T : u_T} {N : Nat} {ty0 : Nat → FieldType} (co : CO c ka C T N ty0) {j index : Nat} {f : Nat → Nat × Nat} (hj : j < N) (hw : Cond.fieldLink own index (T j).1 (T j).2.1 (T j).2.2.1 ∈ tW) (hd : decode cc pc = .ok (.getfield index, 3))
    (hfs : ∀ M t, ∃ fs, cel G M ka t = .inr (c, fs) ∧ fs[j]? = some (.ref (G.2.2.1 (f t).1 (f t).2))) (hka : ka ≠ 35) (hf : ∀ t, t < cnt ka → (f t).2 < cnt (f t).1) : Snd G mts own cc mL rt d sx pc (i_gR c f (pc + 3)) := by
  refine s_get co hj hw hd (val := fun M t => .inr (.inr (f t))) (fun C' L S M Q K h => ?_) hfs hka (fun _ t ht => Or.inl (hf t ht))
  unfold i_gR at h
  split at h
  · rename_i a t S'
    obtain ⟨h1, h2⟩ := co_t h
    exact ⟨a, t, S', rfl, Nat.eq_of_beq_eq_true h1, h2⟩
  · exact h.elim
/-- a field that is written -/
theorem s_put (hAp : Ap G) {c ka : Nat} {C : String} {T : u_T} {N : Nat} {ty0 : Nat → FieldType} (co : CO c ka C T N ty0) {j index : Nat} (hj : j < N) (hw : Cond.fieldLink own index (T j).1 (T j).2.1 (T j).2.2.1 ∈ tW) (hd : decode cc pc = .ok (.putfield index, 3)) (hfin : (T j).2.2.2 = false)
    {i : Ins} {um' : AM → Nat → AV → AM} (hi : ∀ C' L S M Q K, i C' L S M Q K → ∃ v a t S', S = v :: .inr (.inr (a, t)) :: S' ∧ acl a = c ∧ narrow (ty0 j) (rv G v) = rv G v ∧ fits (ty0 j) (rv G v) = true ∧ K (pc + 3) L S' (um' M t v) ∧
      ∃ fs, cel G M ka t = .inr (c, fs) ∧ j < fs.length ∧ cel G (um' M t v) ka t = .inr (c, fs.set j (rv G v)) ∧ ∀ a' t', (a', t') ≠ (ka, t) → cel G (um' M t v) a' t' = cel G M a' t')
    (hka : ka ≠ 35) : Snd G mts own cc mL rt d sx pc i := by
  intro Q K hK L S M h
  obtain ⟨v, a, t, S', rfl, ha, hn, hfit, hk, fs, h1, hlen, h2, h3⟩ := hi _ _ _ _ _ _ h
  have ha' := co.1 a ha
  subst ha'
  intro p e R s m args below meth c' H locs cells slots A Z ls F I hr
  obtain ⟨hH, hS, hL, hl, hv⟩ := I
  have ht : t < cnt a := (hv.tl.hd : t < cnt a ∨ (a = 35 ∧ t = 0)).resolve_right (fun h => hka h.1)
  obtain ⟨k, hk0⟩ := idx_in ht
  refine va_put (ws := wsl G M) F.1 F.2.1 F.2.2.2.2.2.1 co.2.2.1 ty0 co.2.2.2.1 co.2.2.2.2 F.2.2.2.2.1 F.2.2.2.2.2.2.1 hH (hAp.D F.2.2.2.2.2.2.2.2.2.1 M) hS k (a := G.2.2.1 a t) (fs := fs) (ci := c) (by rw [wsl_at hk0, h1]) co.2.1 j hj (F.2.2.2.2.2.1 _ hw) (fun _ h9 => h9) hfin (co.2.2.2.1 j hj) hn hfit hlen hd (fun H1 locs1 hP1 _ hS1 => ?_)
  rw [wsl_set hAp hk0 h2.symm h3] at hP1
  exact hK _ _ _ _ hk p e R s m args below meth c' H1 locs1 cells slots A Z ls F ⟨hP1, hS1, hL, hl, hv.tl.tl⟩ hr
/-- a place that is written changes nothing of another cell -/
theorem cel_um {G : GX} {M : AM} {a t i : Nat} {v : Int32} {a' t' : Nat} (h : (a', t') ≠ (a, t)) : cel G (um M a t i v) a' t' = cel G M a' t' := by
  have key : ∀ q, (um M a t i v).1 a' t' q = M.1 a' t' q := by
    intro q
    show (if a' = a ∧ t' = t ∧ q = i then v else M.1 a' t' q) = _
    rw [if_neg]
    rintro ⟨h1, h2, -⟩
    exact h (by rw [h1, h2])
  have kf : (um M a t i v).1 a' t' = M.1 a' t' := funext key
  unfold cel
  split <;> first | rfl | (simp only [key]; rfl) | (simp only [kf]) | (simp only [kf]; rfl)
theorem s_pI (hAp : Ap G) {c ka : Nat} {C : String} {T : u_T} {N : Nat} {ty0 : Nat → FieldType} (co : CO c ka C T N ty0) {j index : Nat} (hj : j < N) (hw : Cond.fieldLink own index (T j).1 (T j).2.1 (T j).2.2.1 ∈ tW) (hd : decode cc pc = .ok (.putfield index, 3)) (hfin : (T j).2.2.2 = false) (hty : ty0 j = .int)
    (hfs : ∀ M t v, ∃ fs, cel G M ka t = .inr (c, fs) ∧ j < fs.length ∧ cel G (um M ka t j v) ka t = .inr (c, fs.set j (.int v))) (hka : ka ≠ 35) : Snd G mts own cc mL rt d sx pc (i_pI c j (pc + 3)) := by
  refine s_put hAp co hj hw hd hfin (um' := fun M t v => match v with | .inl x => um M ka t j x | _ => M) (fun C' L S M Q K h => ?_) hka
  unfold i_pI at h
  split at h
  · rename_i v a t S'
    obtain ⟨h1, h2⟩ := co_t h
    have ha := Nat.eq_of_beq_eq_true h1
    have ha' := co.1 a ha
    subst ha'
    obtain ⟨fs, e1, e2, e3⟩ := hfs M t v
    exact ⟨.inl v, _, t, S', rfl, ha, by rw [hty]; rfl, by rw [hty]; rfl, h2, fs, e1, e2, e3, fun a' t' hne => cel_um hne⟩
  · exact h.elim
theorem s_pZ (hAp : Ap G) {c ka : Nat} {C : String} {T : u_T} {N : Nat} {ty0 : Nat → FieldType} (co : CO c ka C T N ty0) {j index : Nat} (hj : j < N) (hw : Cond.fieldLink own index (T j).1 (T j).2.1 (T j).2.2.1 ∈ tW) (hd : decode cc pc = .ok (.putfield index, 3)) (hfin : (T j).2.2.2 = false) (hty : ty0 j = .boolean)
    (hfs : ∀ M t v, ∃ fs, cel G M ka t = .inr (c, fs) ∧ j < fs.length ∧ cel G (um M ka t j v) ka t = .inr (c, fs.set j (.int v))) (hka : ka ≠ 35) : Snd G mts own cc mL rt d sx pc (i_pZ c j (pc + 3)) := by
  refine s_put hAp co hj hw hd hfin (um' := fun M t v => match v with | .inl x => um M ka t j x | _ => M) (fun C' L S M Q K h => ?_) hka
  unfold i_pZ at h
  split at h
  · rename_i v a t S'
    obtain ⟨h1, h0, h2⟩ := co_t h
    have ha := Nat.eq_of_beq_eq_true h1
    have ha' := co.1 a ha
    subst ha'
    obtain ⟨fs, e1, e2, e3⟩ := hfs M t v
    refine ⟨.inl v, _, t, S', rfl, ha, by rw [hty]; exact congrArg Value.int h0, by rw [hty]; rcases bz_01 h0 with h | h <;> subst h <;> rfl, h2, fs, e1, e2, e3, fun a' t' hne => cel_um hne⟩
  · exact h.elim
theorem cel_ul {G : GX} {M : AM} {q : Nat} {v : Int64} {a' t' ka : Nat} (hq : (ka = 18 ∧ q = 0) ∨ (ka = 21 ∧ q = 1)) (h : a' ≠ ka) : cel G (ul M q v) a' t' = cel G M a' t' := by
  rcases hq with ⟨rfl, rfl⟩ | ⟨rfl, rfl⟩ <;> (unfold cel; split <;> first | rfl | exact absurd rfl h | (simp [ul]; done))
theorem s_pL (hAp : Ap G) {c ka : Nat} {C : String} {T : u_T} {N : Nat} {ty0 : Nat → FieldType} (co : CO c ka C T N ty0) {j q index : Nat} (hj : j < N) (hw : Cond.fieldLink own index (T j).1 (T j).2.1 (T j).2.2.1 ∈ tW) (hd : decode cc pc = .ok (.putfield index, 3)) (hfin : (T j).2.2.2 = false) (hty : ty0 j = .long)
    (hfs : ∀ M t v, ∃ fs, cel G M ka t = .inr (c, fs) ∧ j < fs.length ∧ cel G (ul M q v) ka t = .inr (c, fs.set j (.long v))) (hq : (ka = 18 ∧ q = 0) ∨ (ka = 21 ∧ q = 1)) : Snd G mts own cc mL rt d sx pc (i_pL c q (pc + 3)) := by
  have hone : cnt ka = 1 := by rcases hq with ⟨rfl, -⟩ | ⟨rfl, -⟩ <;> rfl
  have hka : ka ≠ 35 := by rcases hq with ⟨rfl, -⟩ | ⟨rfl, -⟩ <;> decide
  intro Q K hK L S M h
  unfold i_pL at h
  split at h
  · rename_i v a t S'
    obtain ⟨h1, h2⟩ := co_t h
    have ha := Nat.eq_of_beq_eq_true h1
    have ha' := co.1 a ha
    subst ha'
    intro p e R s m args below meth c' H locs cells slots A Z ls F I hr
    obtain ⟨hH, hS, hL, hl, hv⟩ := I
    have ht : t < cnt a := (hv.tl.hd : t < cnt a ∨ (a = 35 ∧ t = 0)).resolve_right (fun h => hka h.1)
    obtain ⟨k, hk0⟩ := idx_in ht
    obtain ⟨fs, e1, hlen, e3⟩ := hfs M t v
    refine va_put (ws := wsl G M) F.1 F.2.1 F.2.2.2.2.2.1 co.2.2.1 ty0 co.2.2.2.1 co.2.2.2.2 F.2.2.2.2.1 F.2.2.2.2.2.2.1 hH (hAp.D F.2.2.2.2.2.2.2.2.2.1 M) hS k (a := G.2.2.1 a t) (fs := fs) (ci := c) (v := .long v) (by rw [wsl_at hk0, e1]) co.2.1 j hj (F.2.2.2.2.2.1 _ hw) (fun _ h9 => h9) hfin (co.2.2.2.1 j hj) (by rw [hty]; rfl) (by rw [hty]; rfl) hlen hd (fun H1 locs1 hP1 _ hS1 => ?_)
    have key : (wsl G M).set k (G.2.2.1 a t, .inr (c, fs.set j (.long v))) = wsl G (ul M q v) := by
      apply List.ext_getElem?
      intro i
      by_cases hi : i = k
      · subst hi
        have hl : i < (wsl G M).length := by
          simp only [wsl, List.length_map]
          exact (List.getElem?_eq_some_iff.mp hk0).1
        rw [List.getElem?_set_self hl, wsl_at hk0, e3]
      · rw [List.getElem?_set_ne (Ne.symm hi)]
        simp only [wsl, List.getElem?_map]
        cases hx : idx[i]? with
        | none => rfl
        | some p =>
          show some (_, cel G M p.1 p.2) = some (_, cel G (ul M q v) p.1 p.2)
          rw [cel_ul hq]
          intro hp
          have h5 := idx_ok hx
          rw [hp, hone] at h5
          rw [hone] at ht
          exact hAp.inj hx hk0 hi (Prod.ext hp (by simp; omega))
    rw [key] at hP1
    exact hK _ _ _ _ h2 p e R s m args below meth c' H1 locs1 cells slots A Z ls F ⟨hP1, hS1, hL, hl, hv.tl.tl⟩ hr
  · exact h.elim
/-- a row's picture -/
theorem cel_row {G : GX} {M : AM} {a t : Nat} (h : aty a = 0 ∨ aty a = 1) : cel G M a t = .inl (if aty a = 0 then G.2.2.2.1 else G.2.2.2.2.1, aln a t, .inl (M.1 a t)) := by
  unfold cel
  split <;> first | rfl | (exfalso; revert h; decide)
theorem aty_35 {a : Nat} (h : aty a = 0 ∨ aty a = 1) : a ≠ 35 := by
  rintro rfl
  revert h
  decide
theorem um_row {M : AM} {a t i : Nat} {v : Int32} : (um M a t i v).1 a t = upd (M.1 a t) i v := by
  funext q
  show (if a = a ∧ t = t ∧ q = i then v else M.1 a t q) = if q = i then v else M.1 a t q
  simp
theorem s_ia (hd : decode cc pc = .ok (.iaload, 1)) : Snd G mts own cc mL rt d sx pc (i_ia (pc + 1)) := by
  intro Q K hK L S M h
  unfold i_ia at h
  split at h
  · rename_i i a t S'
    obtain ⟨h1, h0, h2⟩ := co_t h
    have ha := Nat.eq_of_beq_eq_true h1
    intro p e R s m args below meth c' H locs cells slots A Z ls F I hr
    obtain ⟨hH, hS, hL, hl, hv⟩ := I
    have ht : t < cnt a := (hv.tl.hd : t < cnt a ∨ (a = 35 ∧ t = 0)).resolve_right (fun h => aty_35 (Or.inl ha) h.1)
    obtain ⟨k, hk0⟩ := idx_in ht
    refine va_iald (ws := wsl G M) F.1 F.2.1 F.2.2.2.2.2.2.1 hH k 0 (cA := G.2.2.2.1) (n := aln a t) (f := M.1 a t) (by rw [wsl_at hk0, cel_row (Or.inl ha), if_pos ha]) rfl h0 hd ?_
    exact hK _ _ _ _ h2 p e R s m args below meth c' H locs cells slots A Z ls F ⟨hH, hS, hL, hl, .cons trivial hv.tl.tl⟩ hr
  · exact h.elim
theorem s_ba (hd : decode cc pc = .ok (.baload, 1)) : Snd G mts own cc mL rt d sx pc (i_ba (pc + 1)) := by
  intro Q K hK L S M h
  unfold i_ba at h
  split at h
  · rename_i i a t S'
    obtain ⟨h1, h0, h2⟩ := co_t h
    have ha := Nat.eq_of_beq_eq_true h1
    intro p e R s m args below meth c' H locs cells slots A Z ls F I hr
    obtain ⟨hH, hS, hL, hl, hv⟩ := I
    have ht : t < cnt a := (hv.tl.hd : t < cnt a ∨ (a = 35 ∧ t = 0)).resolve_right (fun h => aty_35 (Or.inr ha) h.1)
    obtain ⟨k, hk0⟩ := idx_in ht
    refine va_zald (ws := wsl G M) F.1 F.2.1 F.2.2.2.2.2.2.1 hH k 1 (cA := G.2.2.2.2.1) (n := aln a t) (f := M.1 a t) (by rw [wsl_at hk0, cel_row (Or.inr ha), if_neg (by rw [ha]; decide)]) rfl h0 hd ?_
    exact hK _ _ _ _ h2 p e R s m args below meth c' H locs cells slots A Z ls F ⟨hH, hS, hL, hl, .cons trivial hv.tl.tl⟩ hr
  · exact h.elim
theorem s_is (hAp : Ap G) (hd : decode cc pc = .ok (.iastore, 1)) : Snd G mts own cc mL rt d sx pc (i_is (pc + 1)) := by
  intro Q K hK L S M h
  unfold i_is at h
  split at h
  · rename_i v i a t S'
    obtain ⟨h1, h0, h2⟩ := co_t h
    have ha := Nat.eq_of_beq_eq_true h1
    intro p e R s m args below meth c' H locs cells slots A Z ls F I hr
    obtain ⟨hH, hS, hL, hl, hv⟩ := I
    have ht : t < cnt a := (hv.tl.tl.hd : t < cnt a ∨ (a = 35 ∧ t = 0)).resolve_right (fun h => aty_35 (Or.inl ha) h.1)
    obtain ⟨k, hk0⟩ := idx_in ht
    refine va_iast (ws := wsl G M) F.1 F.2.1 F.2.2.2.2.2.2.1 hH (hAp.D F.2.2.2.2.2.2.2.2.2.1 M) hS k 0 (cA := G.2.2.2.1) (n := aln a t) (f := M.1 a t) (by rw [wsl_at hk0, cel_row (Or.inl ha), if_pos ha]) rfl h0 hd (fun H1 locs1 hP1 _ hS1 => ?_)
    rw [wsl_set hAp (M' := um M a t i.toNatClampNeg v) hk0 (by rw [cel_row (Or.inl ha), if_pos ha, um_row]) (fun a' t' hne => cel_um hne)] at hP1
    exact hK _ _ _ _ h2 p e R s m args below meth c' H1 locs1 cells slots A Z ls F ⟨hP1, hS1, hL, hl, hv.tl.tl.tl⟩ hr
  · exact h.elim
theorem s_bs (hAp : Ap G) (hd : decode cc pc = .ok (.bastore, 1)) : Snd G mts own cc mL rt d sx pc (i_bs (pc + 1)) := by
  intro Q K hK L S M h
  unfold i_bs at h
  split at h
  · rename_i v i a t S'
    obtain ⟨h1, h0, h2⟩ := co_t h
    have ha := Nat.eq_of_beq_eq_true h1
    intro p e R s m args below meth c' H locs cells slots A Z ls F I hr
    obtain ⟨hH, hS, hL, hl, hv⟩ := I
    have ht : t < cnt a := (hv.tl.tl.hd : t < cnt a ∨ (a = 35 ∧ t = 0)).resolve_right (fun h => aty_35 (Or.inr ha) h.1)
    obtain ⟨k, hk0⟩ := idx_in ht
    refine va_zast (ws := wsl G M) F.1 F.2.1 F.2.2.2.2.2.2.1 hH (hAp.D F.2.2.2.2.2.2.2.2.2.1 M) hS k 1 (cA := G.2.2.2.2.1) (n := aln a t) (f := M.1 a t) (by rw [wsl_at hk0, cel_row (Or.inr ha), if_neg (by rw [ha]; decide)]) rfl h0 hd (fun H1 locs1 hP1 _ hS1 => ?_)
    rw [wsl_set hAp (M' := um M a t i.toNatClampNeg (bz v)) hk0 (by rw [cel_row (Or.inr ha), if_neg (by rw [ha]; decide), um_row]; rfl) (fun a' t' hne => cel_um hne)] at hP1
    exact hK _ _ _ _ h2 p e R s m args below meth c' H1 locs1 cells slots A Z ls F ⟨hP1, hS1, hL, hl, hv.tl.tl.tl⟩ hr
  · exact h.elim
theorem s_al (hd : decode cc pc = .ok (.arraylength, 1)) : Snd G mts own cc mL rt d sx pc (i_al (pc + 1)) := by
  intro Q K hK L S M h
  unfold i_al at h
  split at h
  · rename_i a t S'
    obtain ⟨h1, h2⟩ := co_t h
    have ha : aty a = 0 ∨ aty a = 1 := by have := Nat.le_of_ble_eq_true h1; omega
    intro p e R s m args below meth c' H locs cells slots A Z ls F I hr
    obtain ⟨hH, hS, hL, hl, hv⟩ := I
    have ht : t < cnt a := (hv.hd : t < cnt a ∨ (a = 35 ∧ t = 0)).resolve_right (fun h => aty_35 ha h.1)
    obtain ⟨k, hk0⟩ := idx_in ht
    rcases ha with ha | ha
    · refine va_alen (ws := wsl G M) F.1 F.2.1 F.2.2.2.2.2.2.1 hH k 0 (cA := G.2.2.2.1) (x := (aln a t, .inl (M.1 a t))) (by rw [wsl_at hk0, cel_row (Or.inl ha), if_pos ha]) (ty := .int) rfl rfl hd ?_
      exact hK _ _ _ _ h2 p e R s m args below meth c' H locs cells slots A Z ls F ⟨hH, hS, hL, hl, .cons trivial hv.tl⟩ hr
    · refine va_alen (ws := wsl G M) F.1 F.2.1 F.2.2.2.2.2.2.1 hH k 1 (cA := G.2.2.2.2.1) (x := (aln a t, .inl (M.1 a t))) (by rw [wsl_at hk0, cel_row (Or.inr ha), if_neg (by rw [ha]; decide)]) (ty := .boolean) rfl rfl hd ?_
      exact hK _ _ _ _ h2 p e R s m args below meth c' H locs cells slots A Z ls F ⟨hH, hS, hL, hl, .cons trivial hv.tl⟩ hr
  · exact h.elim
theorem s_aa (hd : decode cc pc = .ok (.aaload, 1)) : Snd G mts own cc mL rt d sx pc (i_aa (pc + 1)) := by
  intro Q K hK L S M h
  unfold i_aa at h
  split at h
  · rename_i i a t S'
    obtain ⟨h1, h0, h2⟩ := co_t h
    have ha := Nat.eq_of_beq_eq_true h1
    subst ha
    intro p e R s m args below meth c' H locs cells slots A Z ls F I hr
    obtain ⟨hH, hS, hL, hl, hv⟩ := I
    have ht : t < cnt 19 := (hv.tl.hd : t < cnt 19 ∨ (19 = 35 ∧ t = 0)).resolve_right (fun h => absurd h.1 (by decide))
    obtain ⟨k, hk0⟩ := idx_in ht
    refine va_aldq (ws := wsl G M) F.1 F.2.1 F.2.2.2.2.2.2.1 hH k 2 (cA := G.2.2.2.2.2) (C := "LooseHeap$Image") (n := 2) (f := fun j => some (G.2.2.1 20 j)) (by rw [wsl_at hk0]; rfl) rfl h0 hd ?_
    have hlt : i.toNatClampNeg < 2 := Nat.not_le.mp fun q => h0 (Or.inr q)
    exact hK _ _ _ _ h2 p e R s m args below meth c' H locs cells slots A Z ls F ⟨hH, hS, hL, hl, .cons (Or.inl hlt) hv.tl.tl⟩ hr
  · exact h.elim
theorem s_sl {sl : Nat} {xs : Nat → Int32} (hd : decode cc pc = .ok (.iaload, 1)) : Snd G mts own cc mL rt d (some (sl, xs)) pc (i_sl sl xs (pc + 1)) := by
  intro Q K hK L S M h
  unfold i_sl at h
  split at h
  · rename_i i a t S'
    obtain ⟨h1, h0, h2⟩ := co_t h
    have ha := Nat.eq_of_beq_eq_true h1
    subst ha
    intro p e R s m args below meth c' H locs cells slots A Z ls F I hr
    obtain ⟨hH, hS, hL, hl, hv⟩ := I
    have ht : t = 0 := (hv.tl.hd : t < cnt 35 ∨ (35 = 35 ∧ t = 0)).elim (fun h => absurd h (Nat.not_lt_zero t)) (fun h => h.2)
    subst ht
    obtain ⟨x1, x2, x3⟩ := F.2.2.2.2.2.2.2.2.2.2 _ rfl
    refine va_sld F.1 F.2.1 x1 x2 x3 hS h0 hd ?_
    exact hK _ _ _ _ h2 p e R s m args below meth c' H locs cells slots A Z ls F ⟨hH, hS, hL, hl, .cons trivial hv.tl.tl⟩ hr
  · exact h.elim
end RULES2
end
section
section RULES3
variable {G : GX} {mts : Nat → Option MT} {own : String} {cc : ByteArray} {mL : Nat} {rt : Option FieldType} {d : Nat} {sx : SX} {pc : Nat}
theorem s_sn {sl : Nat} {xs : Nat → Int32} (hd : decode cc pc = .ok (.arraylength, 1)) : Snd G mts own cc mL rt d (some (sl, xs)) pc (i_sn sl (pc + 1)) := by
  intro Q K hK L S M h
  unfold i_sn at h
  split at h
  · rename_i a t S'
    obtain ⟨h1, h2⟩ := co_t h
    have ha := Nat.eq_of_beq_eq_true h1
    subst ha
    intro p e R s m args below meth c' H locs cells slots A Z ls F I hr
    obtain ⟨hH, hS, hL, hl, hv⟩ := I
    have ht : t = 0 := (hv.hd : t < cnt 35 ∨ (35 = 35 ∧ t = 0)).elim (fun h => absurd h (Nat.not_lt_zero t)) (fun h => h.2)
    subst ht
    obtain ⟨x1, x2, x3⟩ := F.2.2.2.2.2.2.2.2.2.2 _ rfl
    refine va_slen F.1 F.2.1 x1 x2 x3 hS hd ?_
    exact hK _ _ _ _ h2 p e R s m args below meth c' H locs cells slots A Z ls F ⟨hH, hS, hL, hl, .cons trivial hv.tl⟩ hr
  · exact h.elim
theorem swk_out {x : Int32} {d : Nat} {K : Nat → Prop} : ∀ (tb : List (Int32 × Nat)), swk x d K tb → (∃ v g, (v, g) ∈ tb ∧ x = v ∧ K g) ∨ ((∀ e ∈ tb, x ≠ e.1) ∧ K d)
  | [], h => Or.inr ⟨fun _ h => absurd h List.not_mem_nil, h⟩
  | (v, g) :: r, h => by
    by_cases hx : x = v
    · exact Or.inl ⟨v, g, List.mem_cons_self, hx, h.1 hx⟩
    · rcases swk_out r (h.2 hx) with ⟨v', g', h1, h2, h3⟩ | ⟨h1, h2⟩
      · exact Or.inl ⟨v', g', List.mem_cons_of_mem _ h1, h2, h3⟩
      · exact Or.inr ⟨fun e he => (List.mem_cons.mp he).elim (fun q => by rw [q]; exact hx) (h1 e), h2⟩
theorem s_sw {df lo hi : Int} {offs : Array Int} {len n g : Nat} {tb : List (Int32 × Nat)} (hd : decode cc pc = .ok (.tableswitch df lo hi offs, len)) (hg : (pc : Int) + df = (g : Int)) (hin : tb.all (fun e => decide (¬ e.1.toInt < lo) && decide (¬ hi < e.1.toInt) && decide ((offs[(e.1.toInt - lo).toNat]?).map (fun o => (pc : Int) + o) = some (e.2 : Int))) = true)
    (hn : hi = lo + n - 1) (hall : (List.range n).all (fun k => tb.any fun e => decide (e.1.toInt = lo + k)) = true) : Snd G mts own cc mL rt d sx pc (i_sw tb g) := by
  intro Q K hK L S M h
  unfold i_sw at h
  split at h
  · rename_i x S'
    intro p e R s m args below meth c' H locs cells slots A Z ls F I hr
    obtain ⟨hH, hS, hL, hl, hv⟩ := I
    rcases swk_out tb h with ⟨v, g', h1, rfl, h3⟩ | ⟨h1, h2⟩
    · have h4 := List.all_eq_true.mp hin _ h1
      simp only [Bool.and_eq_true, decide_eq_true_eq] at h4
      obtain ⟨⟨h5, h6⟩, h7⟩ := h4
      cases ho : offs[(x.toInt - lo).toNat]? with
      | none => rw [ho] at h7; cases h7
      | some o =>
        rw [ho] at h7
        refine lv_tableIn F.1 F.2.1 hd h5 h6 ho (Option.some.inj h7) ?_
        exact hK _ _ _ _ h3 p e R s m args below meth c' H locs cells slots A Z ls F ⟨hH, hS, hL, hl, hv.tl⟩ hr
    · refine lv_tableOut F.1 F.2.1 hd ?_ hg ?_
      · by_cases q : x.toInt < lo
        · exact Or.inl q
        · by_cases q2 : hi < x.toInt
          · exact Or.inr q2
          · exfalso
            obtain ⟨k, hk⟩ : ∃ k : Nat, x.toInt = lo + k := ⟨(x.toInt - lo).toNat, by omega⟩
            have hkn : k < n := by omega
            have h5 := List.all_eq_true.mp hall k (List.mem_range.mpr hkn)
            obtain ⟨e', h6, h7⟩ := List.any_eq_true.mp h5
            refine h1 e' h6 (Int32.toInt_inj.mp ?_)
            rw [hk]
            exact (of_decide_eq_true h7).symm
      · exact hK _ _ _ _ h2 p e R s m args below meth c' H locs cells slots A Z ls F ⟨hH, hS, hL, hl, hv.tl⟩ hr
  · exact h.elim
-- ends
theorem s_ri (hd : decode cc pc = .ok (.ireturn, 1)) (hrt : rt = some .int) : Snd G mts own cc mL rt d sx pc i_ri := by
  intro Q K hK L S M h
  unfold i_ri at h
  split at h
  · rename_i v
    intro p e R s m args below meth c' H locs cells slots A Z ls F I hr
    obtain ⟨hH, hS, hL, hl, hv⟩ := I
    exact hr pc ls H locs (some (.inl v)) M ⟨hd, Or.inl hrt⟩ h hH hS
  · exact h.elim
theorem s_rz (hd : decode cc pc = .ok (.ireturn, 1)) (hrt : rt = some .boolean) : Snd G mts own cc mL rt d sx pc i_rz := by
  intro Q K hK L S M h
  unfold i_rz at h
  split at h
  · rename_i v
    intro p e R s m args below meth c' H locs cells slots A Z ls F I hr
    obtain ⟨hH, hS, hL, hl, hv⟩ := I
    exact hr pc ls H locs (some (.inl v)) M ⟨hd, Or.inr ⟨hrt, h.1⟩⟩ h.2 hH hS
  · exact h.elim
theorem s_rl (hd : decode cc pc = .ok (.lreturn, 1)) (hrt : rt = some .long) : Snd G mts own cc mL rt d sx pc i_rl := by
  intro Q K hK L S M h
  unfold i_rl at h
  split at h
  · rename_i v
    intro p e R s m args below meth c' H locs cells slots A Z ls F I hr
    obtain ⟨hH, hS, hL, hl, hv⟩ := I
    exact hr pc ls H locs (some (.inr (.inl v))) M ⟨hd, hrt⟩ h hH hS
  · exact h.elim
theorem s_rv (hd : decode cc pc = .ok (.return_, 1)) (hrt : rt = none) : Snd G mts own cc mL rt d sx pc i_rv := by
  intro Q K hK L S M h
  unfold i_rv at h
  split at h
  · intro p e R s m args below meth c' H locs cells slots A Z ls F I hr
    obtain ⟨hH, hS, hL, hl, hv⟩ := I
    exact hr pc ls H locs none M ⟨hd, hrt⟩ h hH hS
  · exact h.elim
-- Math, System
theorem s_max {index : Nat} (hd : decode cc pc = .ok (.invokestatic index, 3)) (h1 : Cond.methodLink own index Lib.Math.max.name ∈ tW) (h2 : Cond.static Lib.Math.max.name ∈ tW) (h3 : Cond.initialized "java/lang/Math" ∈ tW) (h4 : Cond.code Lib.Math.max.name Lib.Math.max.code 2 (some .int) ∈ tW) : Snd G mts own cc mL rt d sx pc (i_max (pc + 3)) := by
  intro Q K hK L S M h
  unfold i_max at h
  split at h
  · rename_i y x S'
    obtain ⟨q1, q2⟩ := co_t h
    have q3 := Nat.le_of_ble_eq_true q1
    intro p e R s m args below meth c' H locs cells slots A Z ls F I hr
    obtain ⟨hH, hS, hL, hl, hv⟩ := I
    obtain ⟨f1, f2, f3, f4⟩ := F.2.2.2.2.2.2.2.2.1
    refine va_mmax F.1 F.2.1 (by rw [F.2.2.2.1]; exact hL.choose_spec.1.1.symm) F.2.2.2.2.1 (F.2.2.2.2.2.1 _ h1) (F.2.2.2.2.2.1 _ h2) (F.2.2.2.2.2.1 _ h3) (F.2.2.2.2.2.1 _ h4) (by omega) (by rw [cat_sum]; omega) f3 f4 hd ?_
    exact hK _ _ _ _ q2 p e R s m args below meth c' H locs cells slots A Z ls F ⟨hH, hS, hL, hl, .cons trivial hv.tl.tl⟩ hr
  · exact h.elim
theorem s_min {index : Nat} (hd : decode cc pc = .ok (.invokestatic index, 3)) (h1 : Cond.methodLink own index Lib.Math.min.name ∈ tW) (h2 : Cond.static Lib.Math.min.name ∈ tW) (h3 : Cond.initialized "java/lang/Math" ∈ tW) (h4 : Cond.code Lib.Math.min.name Lib.Math.min.code 2 (some .int) ∈ tW) : Snd G mts own cc mL rt d sx pc (i_min (pc + 3)) := by
  intro Q K hK L S M h
  unfold i_min at h
  split at h
  · rename_i y x S'
    obtain ⟨q1, q2⟩ := co_t h
    have q3 := Nat.le_of_ble_eq_true q1
    intro p e R s m args below meth c' H locs cells slots A Z ls F I hr
    obtain ⟨hH, hS, hL, hl, hv⟩ := I
    obtain ⟨f1, f2, f3, f4⟩ := F.2.2.2.2.2.2.2.2.1
    refine va_mmin F.1 F.2.1 (by rw [F.2.2.2.1]; exact hL.choose_spec.1.1.symm) F.2.2.2.2.1 (F.2.2.2.2.2.1 _ h1) (F.2.2.2.2.2.1 _ h2) (F.2.2.2.2.2.1 _ h3) (F.2.2.2.2.2.1 _ h4) (by omega) (by rw [cat_sum]; omega) f3 f4 hd ?_
    exact hK _ _ _ _ q2 p e R s m args below meth c' H locs cells slots A Z ls F ⟨hH, hS, hL, hl, .cons trivial hv.tl.tl⟩ hr
  · exact h.elim
theorem s_abs {index : Nat} (hd : decode cc pc = .ok (.invokestatic index, 3)) (h1 : Cond.methodLink own index Lib.MathLoose.abs_long.x ∈ tW) (h2 : Cond.static Lib.MathLoose.abs_long.x ∈ tW) (h3 : Cond.initialized "java/lang/Math" ∈ tW) (h4 : Cond.code Lib.MathLoose.abs_long.x Lib.MathLoose.abs_long.code 2 (some .long) ∈ tW) : Snd G mts own cc mL rt d sx pc (l_abs (pc + 3)) := by
  intro Q K hK L S M h
  unfold l_abs at h
  split at h
  · rename_i x S'
    obtain ⟨q1, q2⟩ := co_t h
    have q3 := Nat.le_of_ble_eq_true q1
    intro p e R s m args below meth c' H locs cells slots A Z ls F I hr
    obtain ⟨hH, hS, hL, hl, hv⟩ := I
    obtain ⟨f1, f2, f3, f4⟩ := F.2.2.2.2.2.2.2.2.1
    refine va_mabs_long F.1 F.2.1 (by rw [F.2.2.2.1]; exact hL.choose_spec.1.1.symm) F.2.2.2.2.1 (F.2.2.2.2.2.1 _ h1) (F.2.2.2.2.2.1 _ h2) (F.2.2.2.2.2.1 _ h3) (F.2.2.2.2.2.1 _ h4) (by omega) (by rw [cat_sum]; omega) f3 f4 hd ?_
    exact hK _ _ _ _ q2 p e R s m args below meth c' H locs cells slots A Z ls F ⟨hH, hS, hL, hl, .cons trivial hv.tl⟩ hr
  · exact h.elim
theorem cel_cong {G : GX} {M M' : AM} {a t : Nat} (h1 : ∀ z, M'.1 a t z = M.1 a t z) (h2 : M'.2 = M.2) : cel G M' a t = cel G M a t := by
  have kf : M'.1 a t = M.1 a t := funext h1
  unfold cel
  split <;> simp only [h1, h2, kf]
theorem s_acp (hAp : Ap G) {index : Nat} (hd : decode cc pc = .ok (.invokestatic index, 3)) (h1 : Cond.methodLink own index arraycopyName ∈ tW) (h2 : Cond.native arraycopyName ∈ tW) (h3 : Cond.static arraycopyName ∈ tW) (h4 : Cond.initialized "java/lang/System" ∈ tW) (hwords : nativeFrameWords "java/lang/System" "arraycopy" 5 ≤ 20) : Snd G mts own cc mL rt d sx pc (i_acp (pc + 3)) := by
  intro Q K hK L S M h
  unfold i_acp at h
  split at h
  · rename_i n dp a t sp a' t' S'
    obtain ⟨q1, rfl, rfl, rfl, q2⟩ := co_t h
    simp only [Bool.and_eq_true] at q1
    obtain ⟨⟨q3, q4⟩, q5⟩ := q1
    have ha := Nat.eq_of_beq_eq_true q3
    have ha' := Nat.eq_of_beq_eq_true q4
    have q6 := Nat.le_of_ble_eq_true q5
    subst ha
    subst ha'
    intro p e R s m args below meth c' H locs cells slots A Z ls F I hr
    obtain ⟨hH, hS, hL, hl, hv⟩ := I
    obtain ⟨f1, f2, f3, f4⟩ := F.2.2.2.2.2.2.2.2.1
    have ht : t < cnt 12 := (hv.tl.tl.hd : t < cnt 12 ∨ (12 = 35 ∧ t = 0)).resolve_right (fun h => absurd h.1 (by decide))
    have ht' : t' < cnt 12 := (hv.tl.tl.tl.tl.hd : t' < cnt 12 ∨ (12 = 35 ∧ t' = 0)).resolve_right (fun h => absurd h.1 (by decide))
    obtain ⟨k, hk0⟩ := idx_in ht
    obtain ⟨k', hk0'⟩ := idx_in ht'
    refine va_copyi (ws := wsl G M) (n0 := 16) (n1 := 16) (f := M.1 12 t') (g := M.1 12 t) F.1 F.2.1 (by rw [F.2.2.2.1]; exact hL.choose_spec.1.1.symm) F.2.2.2.2.1 (F.2.2.2.2.2.1 _ h1) (F.2.2.2.2.2.1 _ h2) (F.2.2.2.2.2.1 _ h3) (F.2.2.2.2.2.1 _ h4) F.2.2.2.2.2.2.1 hH (hAp.D F.2.2.2.2.2.2.2.2.2.1 M) hS k' k 0 0 (c0 := G.2.2.2.1) (c1 := G.2.2.2.1) (ty := .int) (by rw [wsl_at hk0']; rfl) (by rw [wsl_at hk0]; rfl) rfl rfl rfl (by decide) (by decide) (by decide) (by decide) (by decide) (fun _ _ => rfl) (by omega) (by rw [cat_sum]; omega) hd (fun H1 locs1 hP1 _ hS1 => ?_)
    have e1 : (fun z => if 12 = 12 ∧ t = t then va_cpy (M.1 12 t') (M.1 12 t) 0 0 16 z else M.1 12 t z) = va_cpy (M.1 12 t') (M.1 12 t) 0 0 16 := by
      funext z
      simp
    have e2 : (Sum.inl (G.2.2.2.1, 16, Sum.inl (va_cpy (M.1 12 t') (M.1 12 t) 0 0 16)) : va_E) = cel G (fun x y z => if x = 12 ∧ y = t then va_cpy (M.1 12 t') (M.1 12 t) 0 0 16 z else M.1 x y z, M.2) 12 t := by
      rw [cel_row (Or.inl rfl), if_pos (show aty 12 = 0 from rfl)]
      exact congrArg (fun f => (Sum.inl (G.2.2.2.1, 16, Sum.inl f) : va_E)) e1.symm
    have hP1 : va_P G.2.1 vwCl ((wsl G M).set k (G.2.2.1 12 t, Sum.inl (G.2.2.2.1, 16, Sum.inl (va_cpy (M.1 12 t') (M.1 12 t) 0 0 16)))) H1 := hP1
    rw [wsl_set hAp (M := M) (M' := (fun x y z => if x = 12 ∧ y = t then va_cpy (M.1 12 t') (M.1 12 t) 0 0 16 z else M.1 x y z, M.2)) hk0 e2 (fun b u hne => cel_cong (fun z => by
      show (if b = 12 ∧ u = t then _ else M.1 b u z) = M.1 b u z
      rw [if_neg]
      rintro ⟨g1, g2⟩
      exact hne (by rw [g1, g2])) rfl)] at hP1
    exact hK _ _ _ _ q2 p e R s m args below meth c' H1 locs1 cells slots A Z ls F ⟨hP1, hS1, hL, hl, hv.tl.tl.tl.tl.tl⟩ hr
  · exact h.elim
end RULES3
end
section
section CALLS
variable {G : GX} {mts : Nat → Option MT} {own : String} {cc : ByteArray} {mL : Nat} {rt : Option FieldType} {d : Nat} {sx : SX} {pc : Nat}
theorem good_code {w : Cond} (h : w ∈ tW) : GoodIn tW (w :: tW) := fun x hx => by
  have hm : x ∈ tW := (List.mem_cons.mp hx).elim (fun q => by rw [q]; exact h) id
  exact ⟨hm, good_of_word (List.mem_filter.mp hm).2⟩
theorem ag_rev : ∀ (k : Nat) (S acc : List AV), k ≤ S.length → (ag k S acc).reverse ++ dr k S = acc.reverse ++ S
  | 0, S, acc, _ => rfl
  | k + 1, [], acc, h => absurd h (by simp)
  | k + 1, v :: S, acc, h => by
    show (ag k S (v :: acc)).reverse ++ dr k S = _
    rw [ag_rev k S (v :: acc) (by simp at h; exact h)]
    simp
theorem ag_len : ∀ (k : Nat) (S acc : List AV), k ≤ S.length → (ag k S acc).length = k + acc.length
  | 0, S, acc, _ => by simp [ag]
  | k + 1, [], acc, h => absurd h (by simp)
  | k + 1, v :: S, acc, h => by
    show (ag k S (v :: acc)).length = _
    rw [ag_len k S (v :: acc) (by simp at h; exact h)]
    simp
    omega
theorem ag_split {k : Nat} {S : List AV} (h : k ≤ S.length) : S = (ag k S []).reverse ++ dr k S := (ag_rev k S [] h).symm
theorem al1_ok : ∀ (S : List AV), al1 S = true → ∀ v ∈ S, cat1 v = 1
  | [], _, v, h => absurd h List.not_mem_nil
  | x :: S, h, v, hv => by
    simp only [al1, Bool.and_eq_true] at h
    rcases List.mem_cons.mp hv with e | e
    · rw [e]; exact Nat.eq_of_beq_eq_true h.1
    · exact al1_ok S h.2 v e
/-- behind a call -/
theorem va_callg {p : Program} {e : Env} {R : Room} {s : State} {m : MethodId} {args : Array Value} {below : List Frame} {meth : Method} {c : Code} {H : Heap} {locs : List Loc} {cells slots : Nat} {Z : State → Prop} {ls : Array Slot} {rest st0 : List Value} {a : Array Value} {A : Nat → Prop} {H0 : Heap} {Q : RP}
    (hr : va_Run p G.1 e R s m args below meth c H locs cells slots 0 0 (F0 m pc ls st0) rest (mQ G Q a) (Aq G)) (hS : va_S A H0 H locs) (hA : ∀ q, Aq G q → A q)
    (kk : ∀ (r : Option AV) (M' : AM) (H1 : Heap) (locs1 : List Loc), Q r M' → (∀ v, r = some v → vv v) → HR G M' H1 → va_S A H0 H1 locs1 → W p G.1 e R s m args below meth c H1 locs1 cells slots Z (F0 m (pc + 3) ls ((r.map (rv G)).toList ++ rest))) : W p G.1 e R s m args below meth c H locs cells slots Z (F0 m pc ls st0) := by
  intro T hT X
  obtain ⟨v, st₀, t, T', L, h0, X', hL, e1, e2, ⟨⟨r, M', hv, hq, hr2, hb⟩, hz, hk⟩, st⟩ := hr T hT X
  cases hv
  rw [h0] at hz hk
  obtain ⟨t2, a1, b1⟩ := kk r M' T'.heap (locs ++ L) hq hr2 (by rw [e1]; exact hb)
    ⟨Nat.le_trans hS.1 (by rw [e1]; exact hz), fun q h1 h2 => by rw [e1, hk q (Nat.lt_of_lt_of_le h1 hS.1) (fun z => h2 (hA q z))]; exact hS.2.1 q h1 h2, fun q hq => by
      rcases List.mem_append.mp hq with h | h
      · exact hS.2.2 q h
      · exact hA _ (hL q h)⟩ T' rfl X'
  exact ⟨t2, st t2 a1, b1⟩
/-- a method of the table: its words -/
def MO (mts : Nat → Option MT) (y : Nat) (yn : MethodName) (bytes : ByteArray) (mL' : Nat) (rt' : Option FieldType) (n : Nat) : Prop :=
  mts y = some (yn, bytes, mL', rt') ∧ Cond.code yn bytes mL' rt' ∈ tW ∧ Cond.initialized yn.cls ∈ tW ∧ (yn.cls ≠ "java/lang/invoke/MethodHandle" ∧ yn.cls ≠ "java/lang/invoke/VarHandle" ∧ (parseMethodDescriptor yn.desc).map (fun d => d.parameters.length) = some n) ∧ mL' ≤ 21
theorem rest_map (G : GX) (r : Option AV) (S : List AV) : (r.map (rv G)).toList ++ S.map (rv G) = (r.toList ++ S).map (rv G) := by
  cases r <;> rfl
theorem s_cs {y k index : Nat} {yn : MethodName} {bytes : ByteArray} {mL' : Nat} {rt' : Option FieldType} (mo : MO mts y yn bytes mL' rt' k) (hd : decode cc pc = .ok (.invokestatic index, 3)) (hw : Cond.methodLink own index yn ∈ tW) (hst : Cond.static yn ∈ tW) (hkm : k ≤ mL') : Snd G mts own cc mL rt d sx pc (i_cs y k (pc + 3)) := by
  intro Q K hK L S M h
  unfold i_cs at h
  obtain ⟨q1, ⟨r0, q2, q3⟩⟩ := co_t h
  simp only [Bool.and_eq_true] at q1
  obtain ⟨⟨q4, q5⟩, q6⟩ := q1
  have q4 := Nat.le_of_ble_eq_true q4
  have q5 := Nat.le_of_ble_eq_true q5
  obtain ⟨m1, m2, m3, m4, m5⟩ := mo
  rw [m1] at q2
  cases q2
  intro p e R s m args below meth c' H locs cells slots A Z ls F I hr
  obtain ⟨hH, hS, hL, hl, hv⟩ := I
  obtain ⟨f1, f2, f3, f4⟩ := F.2.2.2.2.2.2.2.2.1
  have hsp := ag_split q5
  have hva : ∀ v ∈ ag k S [], vv v ∧ cat1 v = 1 := fun v hv1 => ⟨hv v (by rw [hsp]; exact List.mem_append_left _ (List.mem_reverse.mpr hv1)), al1_ok _ q6 v hv1⟩
  have hM := q3 hva (by rw [ag_len k S [] q5]; exact hkm)
  refine va_callg (rest := (dr k S).map (rv G)) (va_runS (As := (ag k S []).map (rv G)) (rest := (dr k S).map (rv G)) (nL := mL) ⟨F.1, F.2.1, F.2.2.2.1, F.2.2.2.2.1, F.2.2.2.2.2.1⟩ hM ⟨callB_of k F.2.2.2.2.2.1 (good_code m2) rfl rfl rfl (F.2.2.2.2.2.1 _ m3) (F.2.2.2.2.2.1 _ hw) m4 ⟨by show d + 1 ≤ _; exact f1, by show 8 + (mL' + 11) + 40 * d ≤ _; omega⟩, F.2.2.2.2.2.1 _ hst⟩ ⟨fun a U g mk q => ⟨q.1, q.2.1, va_K.moved (u := U) (U := U.calling g mk a) (Vm.Alike.refl U.vm) q.2.2⟩, fun U hU hW => ⟨rfl, by rw [hU]; exact hH, va_K.moved hW.alike F.2.2.2.2.2.2.1⟩⟩ rfl (by rw [List.length_map, ag_len k S [] q5]; rfl) hL.choose_spec.1.1 ?_ (lv_room (by rw [cat_sum]; exact q4)) hd ⟨f3, f4⟩) hS F.2.2.2.2.2.2.2.2.2.1 (fun r M' H1 locs1 hq hr2 hH1 hS1 => ?_)
  · show S.map (rv G) = _
    rw [← List.map_reverse, ← List.map_append, ← hsp]
  · rw [rest_map]
    exact hK _ _ _ _ hq p e R s m args below meth c' H1 locs1 cells slots A Z ls F ⟨hH1, hS1, hL, hl, fun v hv1 => (List.mem_append.mp hv1).elim (fun h => hr2 v (by cases r with | none => cases h | some w => rw [List.mem_singleton.mp h])) (fun h => hv v (by rw [hsp]; exact List.mem_append_right _ h))⟩ hr
theorem s_cv {y k c ka index : Nat} {yn : MethodName} {bytes : ByteArray} {mL' : Nat} {rt' : Option FieldType} {T : u_T} {N : Nat} {ty0 : Nat → FieldType} (mo : MO mts y yn bytes mL' rt' k) (co : CO c ka yn.cls T N ty0) (hka : ka ≠ 35) (hfs : ∀ M t, ∃ fs, cel G M ka t = .inr (c, fs)) (hd : decode cc pc = .ok (.invokevirtual index, 3)) (hw : Cond.methodLink own index yn ∈ tW) (hin : Cond.instanceMethod yn ∈ tW) (hse : Cond.selects yn.cls yn yn ∈ tW) (hkm : k + 1 ≤ mL') : Snd G mts own cc mL rt d sx pc (i_cv y (k + 1) c (pc + 3)) := by
  intro Q K hK L S M h
  unfold i_cv at h
  split at h
  · rename_i a t r hag
    obtain ⟨q1, ⟨r0, q2, q3⟩⟩ := co_t h
    simp only [Bool.and_eq_true] at q1
    obtain ⟨⟨⟨q4, q5⟩, q6⟩, q7⟩ := q1
    have q4 := Nat.le_of_ble_eq_true q4
    have q5 := Nat.le_of_ble_eq_true q5
    have ha := co.1 a (Nat.eq_of_beq_eq_true q7)
    subst ha
    obtain ⟨m1, m2, m3, m4, m5⟩ := mo
    rw [m1] at q2
    cases q2
    intro p e R s m args below meth c' H locs cells slots A Z ls F I hr
    obtain ⟨hH, hS, hL, hl, hv⟩ := I
    obtain ⟨f1, f2, f3, f4⟩ := F.2.2.2.2.2.2.2.2.1
    have hsp := ag_split q5
    rw [hag] at hsp
    have hva : ∀ v ∈ (.inr (.inr (a, t)) :: r : List AV), vv v ∧ cat1 v = 1 := fun v hv1 => ⟨hv v (by rw [hsp]; exact List.mem_append_left _ (List.mem_reverse.mpr hv1)), (List.mem_cons.mp hv1).elim (fun e => by rw [e]; rfl) (al1_ok _ q6 v)⟩
    have hlen : r.length = k := by
      have := ag_len (k + 1) S [] q5
      rw [hag] at this
      simp at this
      exact this
    have hM := q3 hva (by show r.length + 1 ≤ mL'; rw [hlen]; exact hkm)
    have ht : t < cnt a := ((hva _ List.mem_cons_self).1 : t < cnt a ∨ (a = 35 ∧ t = 0)).resolve_right (fun h => hka h.1)
    obtain ⟨kk0, hk0⟩ := idx_in ht
    obtain ⟨fs, hfs⟩ := hfs M t
    refine va_callg (rest := (dr (k + 1) S).map (rv G)) (va_runV (C := yn.cls) (b := G.2.2.1 a t) (As := r.map (rv G)) (rest := (dr (k + 1) S).map (rv G)) (nL := mL) ⟨F.1, F.2.1, F.2.2.2.1, F.2.2.2.2.1, F.2.2.2.2.2.1⟩ hM ⟨callB_of k F.2.2.2.2.2.1 (good_code m2) rfl rfl rfl (F.2.2.2.2.2.1 _ m3) (F.2.2.2.2.2.1 _ hw) m4 ⟨by show d + 1 ≤ _; exact f1, by show 8 + (mL' + 11) + 40 * d ≤ _; omega⟩, F.2.2.2.2.2.1 _ hin, F.2.2.2.2.2.1 _ hse⟩ ⟨fun a U g mk q => ⟨q.1, q.2.1, va_K.moved (u := U) (U := U.calling g mk a) (Vm.Alike.refl U.vm) q.2.2⟩, va_recv F.2.2.2.2.2.2.1 hH (ci := c) (q := (yn.cls, T, N)) (q0 := kk0) (fs := fs) co.2.1 (by rw [wsl_at hk0, hfs]), fun U hU hW => ⟨rfl, by rw [hU]; exact hH, va_K.moved hW.alike F.2.2.2.2.2.2.1⟩⟩ rfl (by rw [List.length_map, hlen]) hL.choose_spec.1.1 ?_ (lv_room (by rw [cat_sum]; exact q4)) hd ⟨f3, f4⟩) hS F.2.2.2.2.2.2.2.2.2.1 (fun r' M' H1 locs1 hq hr2 hH1 hS1 => ?_)
    · show S.map (rv G) = _
      have h8 : S.map (rv G) = ((.inr (.inr (a, t)) :: r).reverse ++ dr (k + 1) S).map (rv G) := by rw [← hsp]
      rw [h8]
      simp [rv]
    · rw [rest_map]
      exact hK _ _ _ _ hq p e R s m args below meth c' H1 locs1 cells slots A Z ls F ⟨hH1, hS1, hL, hl, fun v hv1 => (List.mem_append.mp hv1).elim (fun h => hr2 v (by cases r' with | none => cases h | some w => rw [List.mem_singleton.mp h])) (fun h => hv v (by rw [hsp]; exact List.mem_append_right _ h))⟩ hr
  · exact h.elim
/-- from the rows' soundness to the table's -/
theorem go_of {tb : List (Nat × Ins)} {Q : RP} (hok : ∀ e ∈ tb, Snd G mts own cc mL rt d sx e.1 e.2) : Go tb (Ct G mts d) Q (V G own cc mL rt d sx Q) := by
  have hft : ∀ (tb' : List (Nat × Ins)), (∀ e ∈ tb', Snd G mts own cc mL rt d sx e.1 e.2) → ∀ pc L S M K, (∀ pc L S M, K pc L S M → V G own cc mL rt d sx Q pc L S M) → ft tb' pc (Ct G mts d) L S M Q K → V G own cc mL rt d sx Q pc L S M := by
    intro tb'
    induction tb' with
    | nil => intro _ pc L S M K _ h; exact h.elim
    | cons e r ih =>
      obtain ⟨q, i⟩ := e
      intro ho pc L S M K hK h
      by_cases hq : Nat.beq q pc = true
      · have hf : ft ((q, i) :: r) pc = i := by show cond (Nat.beq q pc) i (ft r pc) = i; rw [hq]; rfl
        rw [hf] at h
        have hp := Nat.eq_of_beq_eq_true hq
        subst hp
        exact ho (q, i) List.mem_cons_self Q K hK L S M h
      · have hf : ft ((q, i) :: r) pc = ft r pc := by show cond (Nat.beq q pc) i (ft r pc) = _; rw [Bool.eq_false_iff.mpr hq]; rfl
        rw [hf] at h
        exact ih (fun e he => ho e (List.mem_cons_of_mem _ he)) pc L S M K hK h
  have hrun : ∀ st n pc L S M, run tb (Ct G mts d) Q (V G own cc mL rt d sx Q) st n pc L S M → V G own cc mL rt d sx Q pc L S M := by
    intro st n
    induction n with
    | zero => intro pc L S M h; exact h
    | succ n ih =>
      intro pc L S M h
      have h' : cond (el pc st) (V G own cc mL rt d sx Q pc L S M) (ft tb pc (Ct G mts d) L S M Q (run tb (Ct G mts d) Q (V G own cc mL rt d sx Q) st n)) := h
      cases he : el pc st with
      | true => rw [he] at h'; exact h'
      | false => rw [he] at h'; exact hft tb hok pc L S M _ ih h'
  intro st n pc L S M h
  exact hft tb hok pc L S M _ (hrun st n) h
theorem lv_args1 (G : GX) : ∀ (As : List AV) (i : Nat), (∀ v ∈ As, cat1 v = 1) → ∀ j v, ge (As.map some) j = some v → (i + j, rv G v) ∈ lv_args i (As.map (rv G))
  | [], i, _, j, v, h => by rw [show ([] : List AV).map some = [] from rfl, ge_nil] at h; cases h
  | w :: As, i, hc, j, v, h => by
    show _ ∈ (i, rv G w) :: lv_args _ _
    cases j with
    | zero =>
      have h' : some w = some v := h
      cases h'
      exact List.mem_cons_self
    | succ j =>
      have h1 : (rv G w).category ≠ 2 := by rw [rv_cat, hc w List.mem_cons_self]; decide
      rw [if_neg h1]
      have := lv_args1 G As (i + 1) (fun v hv => hc v (List.mem_cons_of_mem _ hv)) j v h
      rw [show i + (j + 1) = i + 1 + j by omega]
      exact List.mem_cons_of_mem _ this
theorem lg_len (G : GX) : ∀ (As : List AV), (∀ v ∈ As, cat1 v = 1) → (lg_sl (As.map (rv G))).length = As.length
  | [], _ => rfl
  | w :: As, hc => by
    have h1 : (rv G w).category ≠ 2 := by rw [rv_cat, hc w List.mem_cons_self]; decide
    have := lg_len G As (fun v hv => hc v (List.mem_cons_of_mem _ hv))
    simp [lg_sl, h1] at this ⊢
    exact this
theorem ge_args : ∀ (As : List AV) (j : Nat) (v : AV), ge (As.map some) j = some v → v ∈ As
  | [], j, v, h => by rw [show ([] : List AV).map some = [] from rfl, ge_nil] at h; cases h
  | w :: As, j, v, h => by
    cases j with
    | zero =>
      have h' : some w = some v := h
      cases h'
      exact List.mem_cons_self
    | succ j => exact List.mem_cons_of_mem _ (ge_args As j v h)
/-- THE TABLE'S METHODS ARE MET -/
theorem ct_cl {y : Nat} {yn : MethodName} {bytes : ByteArray} {mL' : Nat} {rt' : Option FieldType} {tb : List (Nat × Ins)} (hy : mts y = some (yn, bytes, mL', rt')) (hplain : plainName yn.cls = true) (hok : ∀ d, ∀ e ∈ tb, Snd G mts yn.cls bytes mL' rt' d none e.1 e.2) : Cl1 (Ct G mts) y tb := by
  intro d As M Q h
  refine ⟨(yn, bytes, mL', rt'), hy, fun hAs hlen => ?_⟩
  have hc1 : ∀ v ∈ As, cat1 v = 1 := fun v hv => (hAs v hv).2
  refine Met.ofW (cc := bytes) (maxL := mL') (ret := rt') hplain rfl ?_
  intro p e s m args below meth c s₁ B hml hv
  obtain ⟨rfl, hH, hK⟩ := hv
  have hts := atoms_spec (ws := .code yn bytes mL' rt' :: tW) B.pre
  have hown : s.vm.findClass yn.cls = some m.cls := findClass_of_methodNamed B.named
  have hV : V G yn.cls bytes mL' rt' d none Q 0 (As.map some) [] M := h _ (go_of (hok d))
  rw [lg_entry_eq]
  have hl0 := lv_entry (As.map (rv G)) (n := mL') (by rw [lg_len G As hc1]; exact hlen)
  refine hV p e _ s m _ below meth c s.heap [] 0 0 (Aq G) _ _ ⟨B.exec, B.bytes, B.returns, hml, hown, fun w hw => hts w (List.mem_cons_of_mem _ hw), hK, B.notSynchronized, ⟨Nat.le_refl _, Nat.le_refl _, Nat.zero_le _, Nat.zero_le _⟩, fun q hq => hq, fun q hq => by cases hq⟩ ⟨hH, va_S.rf, ⟨_, hl0, fun i v hi => ?_⟩, fun i v hi => (hAs v (ge_args As i v hi)).1, fun v hv => absurd hv List.not_mem_nil⟩ (fun pc' ls' H' locs' r M' hrd hQ hH' hS' => ?_)
  · have := lv_args1 G As 0 hc1 i v hi
    rwa [Nat.zero_add] at this
  · have hlocks := B.notSynchronized
    match r, hrd, hQ with
    | some (.inl v), hrd, hQ =>
      obtain ⟨h1, h2⟩ := hrd
      rcases h2 with h2 | ⟨h2, h3⟩
      · exact W.iret (v := v) B.exec B.bytes (B.returns.trans h2) (fun t ht hW => ⟨⟨some (.inl v), M', rfl, hQ, (fun w hw => by cases hw; trivial), by rw [ht]; exact hH'⟩, hS'.F ht⟩) hS'.2.2 h1
      · exact W.zret (v := v) B.exec B.bytes (B.returns.trans h2) (congrArg Value.int h3) (fun t ht hW => ⟨⟨some (.inl v), M', rfl, hQ, (fun w hw => by cases hw; trivial), by rw [ht]; exact hH'⟩, hS'.F ht⟩) hS'.2.2 h1
    | some (.inr (.inl v)), hrd, hQ =>
      obtain ⟨h1, h2⟩ := hrd
      exact W.lret (v := v) B.exec B.bytes (B.returns.trans h2) (fun t ht hW => ⟨⟨some (.inr (.inl v)), M', rfl, hQ, (fun w hw => by cases hw; trivial), by rw [ht]; exact hH'⟩, hS'.F ht⟩) hS'.2.2 h1
    | none, hrd, hQ =>
      obtain ⟨h1, h2⟩ := hrd
      exact W.vret B.exec B.bytes (B.returns.trans h2) (fun t ht hW => ⟨⟨none, M', rfl, hQ, (fun w hw => by cases hw), by rw [ht]; exact hH'⟩, hS'.F ht⟩) hS'.2.2 h1
end CALLS
end
