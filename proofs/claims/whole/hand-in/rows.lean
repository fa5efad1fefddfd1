section
-- ===== PART A: goes FIRST, ahead of the names: the tables' words, and 'selects' of the private methods out of them =====
/-- a private method of a class that the tables say can be made, by its rows of tables_1 -/
def lw_okq (q : MethodName × Nat) : Prop := (q.1.cls ≠ "java/lang/invoke/MethodHandle" ∧ q.1.cls ≠ "java/lang/invoke/VarHandle") ∧ Cond.instantiable q.1.cls q.2 ∈ tables_1 ∧ Cond.privateMethod q.1 ∈ tables_1 ∧ Cond.instanceMethod q.1 ∈ tables_1
theorem lw_p0 : lw_okq (⟨"ClusterVolume", "checkTree", "()V"⟩, 4) := ⟨⟨by decide +kernel, by decide +kernel⟩, List.mem_of_getElem? (i := 15) (by decide +kernel), List.mem_of_getElem? (i := 81) (by decide +kernel), List.mem_of_getElem? (i := 82) (by decide +kernel)⟩
theorem lw_p1 : lw_okq (⟨"ClusterVolume", "reachChain", "(IZ)V"⟩, 4) := ⟨⟨by decide +kernel, by decide +kernel⟩, List.mem_of_getElem? (i := 15) (by decide +kernel), List.mem_of_getElem? (i := 85) (by decide +kernel), List.mem_of_getElem? (i := 86) (by decide +kernel)⟩
theorem lw_p2 : lw_okq (⟨"ClusterVolume", "isDirectory", "(I)Z"⟩, 4) := ⟨⟨by decide +kernel, by decide +kernel⟩, List.mem_of_getElem? (i := 15) (by decide +kernel), List.mem_of_getElem? (i := 101) (by decide +kernel), List.mem_of_getElem? (i := 102) (by decide +kernel)⟩
theorem lw_p3 : lw_okq (⟨"ClusterVolume", "cutToLength", "(I)V"⟩, 4) := ⟨⟨by decide +kernel, by decide +kernel⟩, List.mem_of_getElem? (i := 15) (by decide +kernel), List.mem_of_getElem? (i := 105) (by decide +kernel), List.mem_of_getElem? (i := 106) (by decide +kernel)⟩
theorem lw_p4 : lw_okq (⟨"ClusterVolume", "lengthOf", "(I)I"⟩, 4) := ⟨⟨by decide +kernel, by decide +kernel⟩, List.mem_of_getElem? (i := 15) (by decide +kernel), List.mem_of_getElem? (i := 109) (by decide +kernel), List.mem_of_getElem? (i := 110) (by decide +kernel)⟩
theorem lw_p5 : lw_okq (⟨"ClusterVolume", "clusterOfPlace", "(II)I"⟩, 4) := ⟨⟨by decide +kernel, by decide +kernel⟩, List.mem_of_getElem? (i := 15) (by decide +kernel), List.mem_of_getElem? (i := 113) (by decide +kernel), List.mem_of_getElem? (i := 114) (by decide +kernel)⟩
theorem lw_p6 : lw_okq (⟨"ClusterVolume", "firstOf", "(I)I"⟩, 4) := ⟨⟨by decide +kernel, by decide +kernel⟩, List.mem_of_getElem? (i := 15) (by decide +kernel), List.mem_of_getElem? (i := 117) (by decide +kernel), List.mem_of_getElem? (i := 118) (by decide +kernel)⟩
theorem lw_p7 : lw_okq (⟨"ClusterVolume$Disk", "spendWrite", "()V"⟩, 4) := ⟨⟨by decide +kernel, by decide +kernel⟩, List.mem_of_getElem? (i := 23) (by decide +kernel), List.mem_of_getElem? (i := 125) (by decide +kernel), List.mem_of_getElem? (i := 126) (by decide +kernel)⟩
theorem lw_p8 : lw_okq (⟨"java/lang/Throwable", "fillInStackTrace", "(I)Ljava/lang/Throwable;"⟩, 6) := ⟨⟨by decide +kernel, by decide +kernel⟩, List.mem_of_getElem? (i := 170) (by decide +kernel), List.mem_of_getElem? (i := 168) (by decide +kernel), List.mem_of_getElem? (i := 169) (by decide +kernel)⟩
theorem lw_p9 : lw_okq (⟨"ClusterVolume", "freeUnreached", "()I"⟩, 4) := ⟨⟨by decide +kernel, by decide +kernel⟩, List.mem_of_getElem? (i := 15) (by decide +kernel), List.mem_of_getElem? (i := 200) (by decide +kernel), List.mem_of_getElem? (i := 201) (by decide +kernel)⟩
theorem lw_p10 : lw_okq (⟨"ClusterVolume", "requireUp", "()V"⟩, 4) := ⟨⟨by decide +kernel, by decide +kernel⟩, List.mem_of_getElem? (i := 15) (by decide +kernel), List.mem_of_getElem? (i := 224) (by decide +kernel), List.mem_of_getElem? (i := 225) (by decide +kernel)⟩
theorem lw_p11 : lw_okq (⟨"ClusterVolume", "entryAt", "(I)I"⟩, 4) := ⟨⟨by decide +kernel, by decide +kernel⟩, List.mem_of_getElem? (i := 15) (by decide +kernel), List.mem_of_getElem? (i := 252) (by decide +kernel), List.mem_of_getElem? (i := 253) (by decide +kernel)⟩
theorem lw_p12 : lw_okq (⟨"ClusterVolume", "entryNamed", "(II)I"⟩, 4) := ⟨⟨by decide +kernel, by decide +kernel⟩, List.mem_of_getElem? (i := 15) (by decide +kernel), List.mem_of_getElem? (i := 256) (by decide +kernel), List.mem_of_getElem? (i := 257) (by decide +kernel)⟩
theorem lw_p13 : lw_okq (⟨"ClusterVolume", "clusterToTake", "()I"⟩, 4) := ⟨⟨by decide +kernel, by decide +kernel⟩, List.mem_of_getElem? (i := 15) (by decide +kernel), List.mem_of_getElem? (i := 297) (by decide +kernel), List.mem_of_getElem? (i := 298) (by decide +kernel)⟩
theorem lw_p14 : lw_okq (⟨"ClusterVolume", "linkToDirectory", "(II)V"⟩, 4) := ⟨⟨by decide +kernel, by decide +kernel⟩, List.mem_of_getElem? (i := 15) (by decide +kernel), List.mem_of_getElem? (i := 317) (by decide +kernel), List.mem_of_getElem? (i := 318) (by decide +kernel)⟩
theorem lw_p15 : lw_okq (⟨"ClusterVolume", "lastOfChain", "(I)I"⟩, 4) := ⟨⟨by decide +kernel, by decide +kernel⟩, List.mem_of_getElem? (i := 15) (by decide +kernel), List.mem_of_getElem? (i := 325) (by decide +kernel), List.mem_of_getElem? (i := 326) (by decide +kernel)⟩
def lw_privs_1 : List (MethodName × Nat) := [(⟨"ClusterVolume", "checkTree", "()V"⟩, 4), (⟨"ClusterVolume", "reachChain", "(IZ)V"⟩, 4), (⟨"ClusterVolume", "isDirectory", "(I)Z"⟩, 4), (⟨"ClusterVolume", "cutToLength", "(I)V"⟩, 4), (⟨"ClusterVolume", "lengthOf", "(I)I"⟩, 4), (⟨"ClusterVolume", "clusterOfPlace", "(II)I"⟩, 4), (⟨"ClusterVolume", "firstOf", "(I)I"⟩, 4), (⟨"ClusterVolume$Disk", "spendWrite", "()V"⟩, 4), (⟨"java/lang/Throwable", "fillInStackTrace", "(I)Ljava/lang/Throwable;"⟩, 6), (⟨"ClusterVolume", "freeUnreached", "()I"⟩, 4), (⟨"ClusterVolume", "requireUp", "()V"⟩, 4), (⟨"ClusterVolume", "entryAt", "(I)I"⟩, 4), (⟨"ClusterVolume", "entryNamed", "(II)I"⟩, 4), (⟨"ClusterVolume", "clusterToTake", "()I"⟩, 4), (⟨"ClusterVolume", "linkToDirectory", "(II)V"⟩, 4), (⟨"ClusterVolume", "lastOfChain", "(I)I"⟩, 4)]
theorem lw_r1 : ∀ q ∈ lw_privs_1, lw_okq q := List.forall_mem_cons.mpr ⟨lw_p0, List.forall_mem_cons.mpr ⟨lw_p1, List.forall_mem_cons.mpr ⟨lw_p2, List.forall_mem_cons.mpr ⟨lw_p3, List.forall_mem_cons.mpr ⟨lw_p4, List.forall_mem_cons.mpr ⟨lw_p5, List.forall_mem_cons.mpr ⟨lw_p6, List.forall_mem_cons.mpr ⟨lw_p7, List.forall_mem_cons.mpr ⟨lw_p8, List.forall_mem_cons.mpr ⟨lw_p9, List.forall_mem_cons.mpr ⟨lw_p10, List.forall_mem_cons.mpr ⟨lw_p11, List.forall_mem_cons.mpr ⟨lw_p12, List.forall_mem_cons.mpr ⟨lw_p13, List.forall_mem_cons.mpr ⟨lw_p14, List.forall_mem_cons.mpr ⟨lw_p15, fun _ h => absurd h List.not_mem_nil⟩⟩⟩⟩⟩⟩⟩⟩⟩⟩⟩⟩⟩⟩⟩⟩
theorem lw_p16 : lw_okq (⟨"ClusterVolume", "namesIn", "(I)I"⟩, 4) := ⟨⟨by decide +kernel, by decide +kernel⟩, List.mem_of_getElem? (i := 15) (by decide +kernel), List.mem_of_getElem? (i := 337) (by decide +kernel), List.mem_of_getElem? (i := 338) (by decide +kernel)⟩
theorem lw_p17 : lw_okq (⟨"ClusterVolume", "freeChain", "(I)I"⟩, 4) := ⟨⟨by decide +kernel, by decide +kernel⟩, List.mem_of_getElem? (i := 15) (by decide +kernel), List.mem_of_getElem? (i := 342) (by decide +kernel), List.mem_of_getElem? (i := 343) (by decide +kernel)⟩
theorem lw_p18 : lw_okq (⟨"ClusterVolume", "fileAt", "(I)I"⟩, 4) := ⟨⟨by decide +kernel, by decide +kernel⟩, List.mem_of_getElem? (i := 15) (by decide +kernel), List.mem_of_getElem? (i := 363) (by decide +kernel), List.mem_of_getElem? (i := 364) (by decide +kernel)⟩
theorem lw_p19 : lw_okq (⟨"ClusterVolume", "appendWithCluster", "(II)V"⟩, 4) := ⟨⟨by decide +kernel, by decide +kernel⟩, List.mem_of_getElem? (i := 15) (by decide +kernel), List.mem_of_getElem? (i := 368) (by decide +kernel), List.mem_of_getElem? (i := 369) (by decide +kernel)⟩
theorem lw_p20 : lw_okq (⟨"ClusterVolume", "writeExtent", "(III)V"⟩, 4) := ⟨⟨by decide +kernel, by decide +kernel⟩, List.mem_of_getElem? (i := 15) (by decide +kernel), List.mem_of_getElem? (i := 372) (by decide +kernel), List.mem_of_getElem? (i := 373) (by decide +kernel)⟩
theorem lw_p21 : lw_okq (⟨"ClusterVolume", "requirePlace", "(II)V"⟩, 4) := ⟨⟨by decide +kernel, by decide +kernel⟩, List.mem_of_getElem? (i := 15) (by decide +kernel), List.mem_of_getElem? (i := 384) (by decide +kernel), List.mem_of_getElem? (i := 385) (by decide +kernel)⟩
theorem lw_p22 : lw_okq (⟨"ClusterVolume", "freeBehind", "(I)I"⟩, 4) := ⟨⟨by decide +kernel, by decide +kernel⟩, List.mem_of_getElem? (i := 15) (by decide +kernel), List.mem_of_getElem? (i := 419) (by decide +kernel), List.mem_of_getElem? (i := 420) (by decide +kernel)⟩
theorem lw_p23 : lw_okq (⟨"ClusterVolumeModel", "goHome", "(I)Z"⟩, 9) := ⟨⟨by decide +kernel, by decide +kernel⟩, List.mem_of_getElem? (i := 451) (by decide +kernel), List.mem_of_getElem? (i := 500) (by decide +kernel), List.mem_of_getElem? (i := 501) (by decide +kernel)⟩
theorem lw_p24 : lw_okq (⟨"ClusterVolumeModel", "entryIn", "(II)I"⟩, 9) := ⟨⟨by decide +kernel, by decide +kernel⟩, List.mem_of_getElem? (i := 451) (by decide +kernel), List.mem_of_getElem? (i := 504) (by decide +kernel), List.mem_of_getElem? (i := 505) (by decide +kernel)⟩
theorem lw_p25 : lw_okq (⟨"ClusterVolumeModel", "isDirectory", "(I)Z"⟩, 9) := ⟨⟨by decide +kernel, by decide +kernel⟩, List.mem_of_getElem? (i := 451) (by decide +kernel), List.mem_of_getElem? (i := 508) (by decide +kernel), List.mem_of_getElem? (i := 509) (by decide +kernel)⟩
theorem lw_p26 : lw_okq (⟨"ClusterVolumeModel", "taken", "()I"⟩, 9) := ⟨⟨by decide +kernel, by decide +kernel⟩, List.mem_of_getElem? (i := 451) (by decide +kernel), List.mem_of_getElem? (i := 512) (by decide +kernel), List.mem_of_getElem? (i := 513) (by decide +kernel)⟩
theorem lw_p27 : lw_okq (⟨"ClusterVolumeModel", "writeCluster", "(IIIII)V"⟩, 9) := ⟨⟨by decide +kernel, by decide +kernel⟩, List.mem_of_getElem? (i := 451) (by decide +kernel), List.mem_of_getElem? (i := 516) (by decide +kernel), List.mem_of_getElem? (i := 517) (by decide +kernel)⟩
theorem lw_p28 : lw_okq (⟨"ClusterVolumeModel", "writes", "()Z"⟩, 9) := ⟨⟨by decide +kernel, by decide +kernel⟩, List.mem_of_getElem? (i := 451) (by decide +kernel), List.mem_of_getElem? (i := 520) (by decide +kernel), List.mem_of_getElem? (i := 521) (by decide +kernel)⟩
theorem lw_p29 : lw_okq (⟨"ClusterVolumeModel", "writeTable", "(II)V"⟩, 9) := ⟨⟨by decide +kernel, by decide +kernel⟩, List.mem_of_getElem? (i := 451) (by decide +kernel), List.mem_of_getElem? (i := 524) (by decide +kernel), List.mem_of_getElem? (i := 525) (by decide +kernel)⟩
theorem lw_p30 : lw_okq (⟨"ClusterVolumeModel", "lastOf", "(I)I"⟩, 9) := ⟨⟨by decide +kernel, by decide +kernel⟩, List.mem_of_getElem? (i := 451) (by decide +kernel), List.mem_of_getElem? (i := 528) (by decide +kernel), List.mem_of_getElem? (i := 529) (by decide +kernel)⟩
theorem lw_p31 : lw_okq (⟨"ClusterVolumeModel", "writeEntry", "(III)V"⟩, 9) := ⟨⟨by decide +kernel, by decide +kernel⟩, List.mem_of_getElem? (i := 451) (by decide +kernel), List.mem_of_getElem? (i := 532) (by decide +kernel), List.mem_of_getElem? (i := 533) (by decide +kernel)⟩
def lw_privs_2 : List (MethodName × Nat) := [(⟨"ClusterVolume", "namesIn", "(I)I"⟩, 4), (⟨"ClusterVolume", "freeChain", "(I)I"⟩, 4), (⟨"ClusterVolume", "fileAt", "(I)I"⟩, 4), (⟨"ClusterVolume", "appendWithCluster", "(II)V"⟩, 4), (⟨"ClusterVolume", "writeExtent", "(III)V"⟩, 4), (⟨"ClusterVolume", "requirePlace", "(II)V"⟩, 4), (⟨"ClusterVolume", "freeBehind", "(I)I"⟩, 4), (⟨"ClusterVolumeModel", "goHome", "(I)Z"⟩, 9), (⟨"ClusterVolumeModel", "entryIn", "(II)I"⟩, 9), (⟨"ClusterVolumeModel", "isDirectory", "(I)Z"⟩, 9), (⟨"ClusterVolumeModel", "taken", "()I"⟩, 9), (⟨"ClusterVolumeModel", "writeCluster", "(IIIII)V"⟩, 9), (⟨"ClusterVolumeModel", "writes", "()Z"⟩, 9), (⟨"ClusterVolumeModel", "writeTable", "(II)V"⟩, 9), (⟨"ClusterVolumeModel", "lastOf", "(I)I"⟩, 9), (⟨"ClusterVolumeModel", "writeEntry", "(III)V"⟩, 9)]
theorem lw_r2 : ∀ q ∈ lw_privs_2, lw_okq q := List.forall_mem_cons.mpr ⟨lw_p16, List.forall_mem_cons.mpr ⟨lw_p17, List.forall_mem_cons.mpr ⟨lw_p18, List.forall_mem_cons.mpr ⟨lw_p19, List.forall_mem_cons.mpr ⟨lw_p20, List.forall_mem_cons.mpr ⟨lw_p21, List.forall_mem_cons.mpr ⟨lw_p22, List.forall_mem_cons.mpr ⟨lw_p23, List.forall_mem_cons.mpr ⟨lw_p24, List.forall_mem_cons.mpr ⟨lw_p25, List.forall_mem_cons.mpr ⟨lw_p26, List.forall_mem_cons.mpr ⟨lw_p27, List.forall_mem_cons.mpr ⟨lw_p28, List.forall_mem_cons.mpr ⟨lw_p29, List.forall_mem_cons.mpr ⟨lw_p30, List.forall_mem_cons.mpr ⟨lw_p31, fun _ h => absurd h List.not_mem_nil⟩⟩⟩⟩⟩⟩⟩⟩⟩⟩⟩⟩⟩⟩⟩⟩
theorem lw_p32 : lw_okq (⟨"ClusterVolumeModel", "lack", "(I)I"⟩, 9) := ⟨⟨by decide +kernel, by decide +kernel⟩, List.mem_of_getElem? (i := 451) (by decide +kernel), List.mem_of_getElem? (i := 540) (by decide +kernel), List.mem_of_getElem? (i := 541) (by decide +kernel)⟩
theorem lw_p33 : lw_okq (⟨"ClusterVolumeModel", "find", "(I)I"⟩, 9) := ⟨⟨by decide +kernel, by decide +kernel⟩, List.mem_of_getElem? (i := 451) (by decide +kernel), List.mem_of_getElem? (i := 544) (by decide +kernel), List.mem_of_getElem? (i := 545) (by decide +kernel)⟩
theorem lw_p34 : lw_okq (⟨"ClusterVolumeModel", "namesIn", "(I)I"⟩, 9) := ⟨⟨by decide +kernel, by decide +kernel⟩, List.mem_of_getElem? (i := 451) (by decide +kernel), List.mem_of_getElem? (i := 548) (by decide +kernel), List.mem_of_getElem? (i := 549) (by decide +kernel)⟩
theorem lw_p35 : lw_okq (⟨"ClusterVolumeModel", "release", "(I)V"⟩, 9) := ⟨⟨by decide +kernel, by decide +kernel⟩, List.mem_of_getElem? (i := 451) (by decide +kernel), List.mem_of_getElem? (i := 552) (by decide +kernel), List.mem_of_getElem? (i := 553) (by decide +kernel)⟩
theorem lw_p36 : lw_okq (⟨"ClusterVolumeModel", "writeCell", "(III)V"⟩, 9) := ⟨⟨by decide +kernel, by decide +kernel⟩, List.mem_of_getElem? (i := 451) (by decide +kernel), List.mem_of_getElem? (i := 560) (by decide +kernel), List.mem_of_getElem? (i := 561) (by decide +kernel)⟩
theorem lw_p37 : lw_okq (⟨"ClusterVolumeModel", "lackOfFile", "(I)I"⟩, 9) := ⟨⟨by decide +kernel, by decide +kernel⟩, List.mem_of_getElem? (i := 451) (by decide +kernel), List.mem_of_getElem? (i := 568) (by decide +kernel), List.mem_of_getElem? (i := 569) (by decide +kernel)⟩
theorem lw_p38 : lw_okq (⟨"ClusterVolumeModel", "lackOfCell", "(II)I"⟩, 9) := ⟨⟨by decide +kernel, by decide +kernel⟩, List.mem_of_getElem? (i := 451) (by decide +kernel), List.mem_of_getElem? (i := 576) (by decide +kernel), List.mem_of_getElem? (i := 577) (by decide +kernel)⟩
theorem lw_p39 : lw_okq (⟨"ClusterVolumeModel", "clusterOf", "(II)I"⟩, 9) := ⟨⟨by decide +kernel, by decide +kernel⟩, List.mem_of_getElem? (i := 451) (by decide +kernel), List.mem_of_getElem? (i := 580) (by decide +kernel), List.mem_of_getElem? (i := 581) (by decide +kernel)⟩
theorem lw_p40 : lw_okq (⟨"ClusterVolumeModel", "check", "()V"⟩, 9) := ⟨⟨by decide +kernel, by decide +kernel⟩, List.mem_of_getElem? (i := 451) (by decide +kernel), List.mem_of_getElem? (i := 616) (by decide +kernel), List.mem_of_getElem? (i := 617) (by decide +kernel)⟩
theorem lw_p41 : lw_okq (⟨"ClusterVolumeModel", "note", "(I)V"⟩, 9) := ⟨⟨by decide +kernel, by decide +kernel⟩, List.mem_of_getElem? (i := 451) (by decide +kernel), List.mem_of_getElem? (i := 620) (by decide +kernel), List.mem_of_getElem? (i := 621) (by decide +kernel)⟩
theorem lw_p42 : lw_okq (⟨"ClusterVolumeModel", "below", "(I)I"⟩, 9) := ⟨⟨by decide +kernel, by decide +kernel⟩, List.mem_of_getElem? (i := 451) (by decide +kernel), List.mem_of_getElem? (i := 624) (by decide +kernel), List.mem_of_getElem? (i := 625) (by decide +kernel)⟩
def lw_privs_3 : List (MethodName × Nat) := [(⟨"ClusterVolumeModel", "lack", "(I)I"⟩, 9), (⟨"ClusterVolumeModel", "find", "(I)I"⟩, 9), (⟨"ClusterVolumeModel", "namesIn", "(I)I"⟩, 9), (⟨"ClusterVolumeModel", "release", "(I)V"⟩, 9), (⟨"ClusterVolumeModel", "writeCell", "(III)V"⟩, 9), (⟨"ClusterVolumeModel", "lackOfFile", "(I)I"⟩, 9), (⟨"ClusterVolumeModel", "lackOfCell", "(II)I"⟩, 9), (⟨"ClusterVolumeModel", "clusterOf", "(II)I"⟩, 9), (⟨"ClusterVolumeModel", "check", "()V"⟩, 9), (⟨"ClusterVolumeModel", "note", "(I)V"⟩, 9), (⟨"ClusterVolumeModel", "below", "(I)I"⟩, 9)]
theorem lw_r3 : ∀ q ∈ lw_privs_3, lw_okq q := List.forall_mem_cons.mpr ⟨lw_p32, List.forall_mem_cons.mpr ⟨lw_p33, List.forall_mem_cons.mpr ⟨lw_p34, List.forall_mem_cons.mpr ⟨lw_p35, List.forall_mem_cons.mpr ⟨lw_p36, List.forall_mem_cons.mpr ⟨lw_p37, List.forall_mem_cons.mpr ⟨lw_p38, List.forall_mem_cons.mpr ⟨lw_p39, List.forall_mem_cons.mpr ⟨lw_p40, List.forall_mem_cons.mpr ⟨lw_p41, List.forall_mem_cons.mpr ⟨lw_p42, fun _ h => absurd h List.not_mem_nil⟩⟩⟩⟩⟩⟩⟩⟩⟩⟩⟩
def lw_privs : List (MethodName × Nat) := lw_privs_1 ++ (lw_privs_2 ++ (lw_privs_3))
def lw_tbl : List Cond := k2_sels lw_privs ++ tables_1
theorem lw_privs_ok : ∀ q ∈ lw_privs, lw_okq q := by
  show ∀ q ∈ lw_privs_1 ++ (lw_privs_2 ++ (lw_privs_3)), lw_okq q
  exact List.forall_mem_append.mpr ⟨lw_r1, List.forall_mem_append.mpr ⟨lw_r2, lw_r3⟩⟩
end
section
/-! A small machine: references are places in a list of cells; place mSC is the script. -/
abbrev mC : Type := (Nat × vp_A) ⊕ (Nat × List Value)
abbrev mH : Type := List mC
def mSC : Nat := 100000
/-- pc, locals, stack, cells -/
abbrev mS : Type := Nat × List (Option Value) × List Value × mH
/-- returned, or threw the exception of that number -/
abbrev mO : Type := Option Value ⊕ Nat
/-- the outcome, the cells, and how many cells of how many slots were made -/
abbrev mR : Type := mO × mH × Nat × Nat
/-- goes on; branches (no second road: it must be the first); ends (if the flag holds); calls; makes so many slots and goes on -/
abbrev mX : Type := mS ⊕ (Bool × mS × Option mS) ⊕ (Bool × mO × mH) ⊕ (Nat × List Value × mS) ⊕ (mS × Nat)
abbrev mI : Type := Instr × Nat × Nat × Nat
def mInb (i : Int32) (n : Nat) : Bool := decide (¬ (i < 0 ∨ n ≤ i.toNatClampNeg))
def mOkV (n : Nat) : Value → Bool
  | .ref a => Nat.blt a n || Nat.beq a mSC
  | _ => true
def mOkL (n : Nat) : List (Option Value) → Bool
  | [] => true
  | none :: t => mOkL n t
  | some v :: t => mOkV n v && mOkL n t
def mOkS (n : Nat) : List Value → Bool
  | [] => true
  | v :: t => mOkV n v && mOkS n t
def mOkH (n : Nat) : mH → Bool
  | [] => true
  | .inl _ :: t => mOkH n t
  | .inr (_, fs) :: t => mOkS n fs && mOkH n t
/-- one word each, ints and references -/
def mOne : List Value → Bool
  | [] => true
  | .int _ :: t => mOne t
  | .ref _ :: t => mOne t
  | _ => false
def mCat (S : List Value) : Nat := (S.map fun v => v.category).sum
def mBin (f : Int32 → Int32 → Int32) (pc : Nat) (L : List (Option Value)) (S : List Value) (h : mH) : Option mX :=
  match S with
  | .int b :: .int a :: S' => some (.inl (pc, L, .int (f a b) :: S', h))
  | _ => none
def mLdI (j : Nat) (pc : Nat) (L : List (Option Value)) (S : List Value) (h : mH) : Option mX :=
  match L[j]? with
  | some (some (.int v)) => some (.inl (pc, L, .int v :: S, h))
  | _ => none
def mLdA (j : Nat) (pc : Nat) (L : List (Option Value)) (S : List Value) (h : mH) : Option mX :=
  match L[j]? with
  | some (some (.ref a)) => some (.inl (pc, L, .ref a :: S, h))
  | _ => none
def mStI (j : Nat) (pc : Nat) (L : List (Option Value)) (S : List Value) (h : mH) : Option mX :=
  match S with
  | .int v :: S' => bif Nat.blt j L.length then some (.inl (pc, L.set j (some (.int v)), S', h)) else none
  | _ => none
def mStA (j : Nat) (pc : Nat) (L : List (Option Value)) (S : List Value) (h : mH) : Option mX :=
  match S with
  | .ref v :: S' => bif Nat.blt j L.length then some (.inl (pc, L.set j (some (.ref v)), S', h)) else none
  | _ => none
def mCmp0 (c : Jvm.ClassFile.Cond) (a : Int32) : Bool :=
  match c with
  | .eq => decide (a = 0)
  | .ne => decide (¬ a = 0)
  | .lt => decide (a < 0)
  | .ge => decide (0 ≤ a)
  | .gt => decide (0 < a)
  | .le => decide (a ≤ 0)
def mCmp (c : Jvm.ClassFile.Cond) (a b : Int32) : Bool :=
  match c with
  | .eq => decide (a = b)
  | .ne => decide (¬ a = b)
  | .lt => decide (a < b)
  | .ge => decide (b ≤ a)
  | .gt => decide (b < a)
  | .le => decide (a ≤ b)
def mPutOk (ty : FieldType) (v : Value) : Bool :=
  match ty, v with
  | .int, .int _ => true
  | .boolean, .int b => decide (b = 0) || decide (b = 1)
  | .array _, .ref _ => true
  | .object _, .ref _ => true
  | _, _ => false
def mSw (pc : Nat) (lo hi dflt : Int) (offs : List Int) (v : Int) : Nat :=
  bif decide (v < lo) || decide (hi < v) then ((pc : Int) + dflt).toNat else ((pc : Int) + offs.getD (v - lo).toNat 0).toNat
/-- a constant -/
def mK (n : Int) : Int32 :=
  match n with
  | .ofNat k => nI k
  | .negSucc 0 => -1
  | .negSucc 1 => -2
  | .negSucc 2 => -3
  | .negSucc k => -(nI (k + 1))
end
section
/-! tables of the small machine, written by a text program out of the Statement's own words and bytes -/
abbrev mRec : Type := List (Nat × List (Nat × mI)) × MethodName × ByteArray × Nat × Option FieldType × List (Nat × Nat × Nat × Nat) × Nat × Nat × Nat
def mc_0 : List (Nat × List (Nat × mI)) := [(16, [(0, .aload_n 0, 1, 0, 0), (1, .invokespecial 1, 4, 999, 0), (4, .aload_n 0, 5, 0, 0), (5, .new 7, 8, 1, 0), (8, .dup, 9, 0, 0), (9, .invokespecial 9, 12, 39, 0), (12, .putfield 10, 15, 0, 0), (15, .aload_n 0, 16, 0, 0)]), (32, [(16, .bipush 32, 18, 0, 0), (18, .newarray .boolean, 20, 0, 0), (20, .putfield 16, 23, 0, 1), (23, .aload_n 0, 24, 0, 0), (24, .bipush 32, 26, 0, 0), (26, .newarray .int, 28, 0, 0), (28, .putfield 20, 31, 0, 2), (31, .aload_n 0, 32, 0, 0)]), (37, [(32, .iconst 0, 33, 0, 0), (33, .putfield 24, 36, 0, 3), (36, .return_, 37, 0, 0)])]
def mr_0 : mRec := (mc_0, ⟨"ClusterVolume", "<init>", "()V"⟩, prog_1_method_1_code, 1, none, [], 2, 41, 0)
def mc_1 : List (Nat × List (Nat × mI)) := [(9, [(0, .aload_n 0, 1, 0, 0), (1, .getfield 10, 4, 0, 0), (4, .iload_n 1, 5, 0, 0), (5, .invokevirtual 142, 8, 40, 1), (8, .return_, 9, 0, 0)])]
def mr_1 : mRec := (mc_1, ⟨"ClusterVolume", "arm", "(I)V"⟩, prog_1_method_12_code, 2, none, [], 2, 41, 0)
def mc_2 : List (Nat × List (Nat × mI)) := [(8, [(0, .aload_n 0, 1, 0, 0), (1, .getfield 10, 4, 0, 0), (4, .invokevirtual 145, 7, 41, 0), (7, .ireturn, 8, 0, 0)])]
def mr_2 : mRec := (mc_2, ⟨"ClusterVolume", "isDown", "()Z"⟩, prog_1_method_13_code, 1, (some .boolean), [], 2, 40, 0)
def mc_3 : List (Nat × List (Nat × mI)) := [(16, [(0, .aload_n 0, 1, 0, 0), (1, .getfield 10, 4, 0, 0), (4, .invokevirtual 149, 7, 42, 0), (7, .aload_n 0, 8, 0, 0), (8, .invokevirtual 152, 11, 4, 0), (11, .aload_n 0, 12, 0, 0), (12, .invokevirtual 155, 15, 12, 0), (15, .ireturn, 16, 0, 0)])]
def mr_3 : mRec := (mc_3, ⟨"ClusterVolume", "mount", "()I"⟩, prog_1_method_14_code, 1, (some .int), [], 10, 187, 0)
def mc_4 : List (Nat × List (Nat × mI)) := [(13, [(0, .iconst 0, 1, 0, 0), (1, .istore_n 1, 2, 0, 0), (2, .iload_n 1, 3, 0, 0), (3, .bipush 32, 5, 0, 0), (5, .if_icmp .ge 16, 8, 21, 0), (8, .aload_n 0, 9, 0, 0), (9, .getfield 16, 12, 0, 1), (12, .iload_n 1, 13, 0, 0)]), (27, [(13, .iconst 0, 14, 0, 0), (14, .bastore, 15, 0, 0), (15, .iinc 1 1, 18, 0, 0), (18, .goto (-16), 21, 2, 0), (21, .aload_n 0, 22, 0, 0), (22, .iconst 0, 23, 0, 0), (23, .putfield 24, 26, 0, 3), (26, .aload_n 0, 27, 0, 0)]), (40, [(27, .iconst 0, 28, 0, 0), (28, .iconst 1, 29, 0, 0), (29, .invokevirtual 182, 32, 5, 2), (32, .iconst 0, 33, 0, 0), (33, .istore_n 1, 34, 0, 0), (34, .iload_n 1, 35, 0, 0), (35, .bipush 32, 37, 0, 0), (37, .if_icmp .ge 64, 40, 101, 0)]), (54, [(40, .iload_n 1, 41, 0, 0), (41, .aload_n 0, 42, 0, 0), (42, .getfield 24, 45, 0, 3), (45, .if_icmp .ge 56, 48, 101, 0), (48, .aload_n 0, 49, 0, 0), (49, .getfield 20, 52, 0, 2), (52, .iload_n 1, 53, 0, 0), (53, .iaload, 54, 0, 0)]), (70, [(54, .istore_n 2, 55, 0, 0), (55, .aload_n 0, 56, 0, 0), (56, .getfield 10, 59, 0, 0), (59, .iload_n 2, 60, 0, 0), (60, .iconst 0, 61, 0, 0), (61, .invokevirtual 118, 64, 44, 2), (64, .ifCond .ne 6, 67, 70, 0), (67, .goto 28, 70, 95, 0)]), (82, [(70, .aload_n 0, 71, 0, 0), (71, .iload_n 2, 72, 0, 0), (72, .invokevirtual 39, 75, 7, 1), (75, .istore_n 3, 76, 0, 0), (76, .iload_n 3, 77, 0, 0), (77, .ifCond .ne 8, 80, 85, 0), (80, .aload_n 0, 81, 0, 0), (81, .iload_n 2, 82, 0, 0)]), (98, [(82, .invokevirtual 186, 85, 8, 1), (85, .aload_n 0, 86, 0, 0), (86, .aload_n 0, 87, 0, 0), (87, .iload_n 2, 88, 0, 0), (88, .invokevirtual 81, 91, 11, 1), (91, .iload_n 3, 92, 0, 0), (92, .invokevirtual 182, 95, 5, 2), (95, .iinc 1 1, 98, 0, 0)]), (102, [(98, .goto (-64), 101, 34, 0), (101, .return_, 102, 0, 0)])]
def mr_4 : mRec := (mc_4, ⟨"ClusterVolume", "checkTree", "()V"⟩, prog_1_method_35_code, 4, none, [], 9, 164, 0)
def mc_5 : List (Nat × List (Nat × mI)) := [(13, [(0, .iload_n 1, 1, 0, 0), (1, .istore_n 3, 2, 0, 0), (2, .iconst 0, 3, 0, 0), (3, .istore 4, 5, 0, 0), (5, .iload 4, 7, 0, 0), (7, .bipush 32, 9, 0, 0), (9, .if_icmp .ge 65, 12, 74, 0), (12, .iload_n 3, 13, 0, 0)]), (27, [(13, .invokestatic 158, 16, 6, 1), (16, .ifCond .eq 58, 19, 74, 0), (19, .aload_n 0, 20, 0, 0), (20, .getfield 16, 23, 0, 1), (23, .iload_n 3, 24, 0, 0), (24, .iconst 1, 25, 0, 0), (25, .bastore, 26, 0, 0), (26, .iload_n 2, 27, 0, 0)]), (44, [(27, .ifCond .eq 32, 30, 59, 0), (30, .aload_n 0, 31, 0, 0), (31, .getfield 24, 34, 0, 3), (34, .bipush 32, 36, 0, 0), (36, .if_icmp .ge 23, 39, 59, 0), (39, .aload_n 0, 40, 0, 0), (40, .getfield 20, 43, 0, 2), (43, .aload_n 0, 44, 0, 0)]), (56, [(44, .getfield 24, 47, 0, 3), (47, .iload_n 3, 48, 0, 0), (48, .iastore, 49, 0, 0), (49, .aload_n 0, 50, 0, 0), (50, .dup, 51, 0, 0), (51, .getfield 24, 54, 0, 3), (54, .iconst 1, 55, 0, 0), (55, .iadd, 56, 0, 0)]), (74, [(56, .putfield 24, 59, 0, 3), (59, .aload_n 0, 60, 0, 0), (60, .getfield 10, 63, 0, 0), (63, .iload_n 3, 64, 0, 0), (64, .invokevirtual 139, 67, 43, 1), (67, .istore_n 3, 68, 0, 0), (68, .iinc 4 1, 71, 0, 0), (71, .goto (-66), 74, 5, 0)]), (75, [(74, .return_, 75, 0, 0)])]
def mr_5 : mRec := (mc_5, ⟨"ClusterVolume", "reachChain", "(IZ)V"⟩, prog_1_method_36_code, 5, none, [], 3, 61, 0)
def mc_6 : List (Nat × List (Nat × mI)) := [(15, [(0, .iload_n 0, 1, 0, 0), (1, .ifCond .lt 13, 4, 14, 0), (4, .iload_n 0, 5, 0, 0), (5, .bipush 32, 7, 0, 0), (7, .if_icmp .ge 7, 10, 14, 0), (10, .iconst 1, 11, 0, 0), (11, .goto 4, 14, 15, 0), (14, .iconst 0, 15, 0, 0)]), (16, [(15, .ireturn, 16, 0, 0)])]
def mr_6 : mRec := (mc_6, ⟨"ClusterVolume", "isCluster", "(I)Z"⟩, prog_1_method_39_code, 1, (some .boolean), [], 1, 20, 0)
def mc_7 : List (Nat × List (Nat × mI)) := [(15, [(0, .iload_n 1, 1, 0, 0), (1, .bipush (-3), 3, 0, 0), (3, .if_icmp .eq 16, 6, 19, 0), (6, .aload_n 0, 7, 0, 0), (7, .getfield 10, 10, 0, 0), (10, .iload_n 1, 11, 0, 0), (11, .iconst 1, 12, 0, 0), (12, .invokevirtual 118, 15, 44, 2)]), (25, [(15, .iconst 2, 16, 0, 0), (16, .if_icmp .ne 7, 19, 23, 0), (19, .iconst 1, 20, 0, 0), (20, .goto 4, 23, 24, 0), (23, .iconst 0, 24, 0, 0), (24, .ireturn, 25, 0, 0)])]
def mr_7 : mRec := (mc_7, ⟨"ClusterVolume", "isDirectory", "(I)Z"⟩, prog_1_method_24_code, 2, (some .boolean), [], 3, 62, 0)
def mc_8 : List (Nat × List (Nat × mI)) := [(14, [(0, .aload_n 0, 1, 0, 0), (1, .iload_n 1, 2, 0, 0), (2, .invokevirtual 103, 5, 9, 1), (5, .istore_n 2, 6, 0, 0), (6, .iload_n 2, 7, 0, 0), (7, .ifCond .le 19, 10, 26, 0), (10, .aload_n 0, 11, 0, 0), (11, .getfield 10, 14, 0, 0)]), (26, [(14, .aload_n 0, 15, 0, 0), (15, .iload_n 1, 16, 0, 0), (16, .iload_n 2, 17, 0, 0), (17, .iconst 1, 18, 0, 0), (18, .isub, 19, 0, 0), (19, .invokevirtual 115, 22, 10, 2), (22, .iconst (-1), 23, 0, 0), (23, .invokevirtual 67, 26, 45, 2)]), (27, [(26, .return_, 27, 0, 0)])]
def mr_8 : mRec := (mc_8, ⟨"ClusterVolume", "cutToLength", "(I)V"⟩, prog_1_method_37_code, 3, none, [], 8, 142, 0)
def mc_9 : List (Nat × List (Nat × mI)) := [(10, [(0, .aload_n 0, 1, 0, 0), (1, .getfield 10, 4, 0, 0), (4, .iload_n 1, 5, 0, 0), (5, .iconst 3, 6, 0, 0), (6, .invokevirtual 118, 9, 44, 2), (9, .ireturn, 10, 0, 0)])]
def mr_9 : mRec := (mc_9, ⟨"ClusterVolume", "lengthOf", "(I)I"⟩, prog_1_method_26_code, 2, (some .int), [], 3, 62, 0)
def mc_10 : List (Nat × List (Nat × mI)) := [(11, [(0, .aload_n 0, 1, 0, 0), (1, .iload_n 1, 2, 0, 0), (2, .invokevirtual 81, 5, 11, 1), (5, .istore_n 3, 6, 0, 0), (6, .iload_n 2, 7, 0, 0), (7, .iconst 4, 8, 0, 0), (8, .idiv, 9, 0, 0), (9, .istore 4, 11, 0, 0)]), (28, [(11, .iload 4, 13, 0, 0), (13, .ifCond .le 18, 16, 31, 0), (16, .aload_n 0, 17, 0, 0), (17, .getfield 10, 20, 0, 0), (20, .iload_n 3, 21, 0, 0), (21, .invokevirtual 139, 24, 43, 1), (24, .istore_n 3, 25, 0, 0), (25, .iinc 4 (-1), 28, 0, 0)]), (33, [(28, .goto (-17), 31, 11, 0), (31, .iload_n 3, 32, 0, 0), (32, .ireturn, 33, 0, 0)])]
def mr_10 : mRec := (mc_10, ⟨"ClusterVolume", "clusterOfPlace", "(II)I"⟩, prog_1_method_28_code, 5, (some .int), [], 4, 83, 0)
def mc_11 : List (Nat × List (Nat × mI)) := [(15, [(0, .iload_n 1, 1, 0, 0), (1, .bipush (-3), 3, 0, 0), (3, .if_icmp .ne 7, 6, 10, 0), (6, .iconst 0, 7, 0, 0), (7, .goto 12, 10, 19, 0), (10, .aload_n 0, 11, 0, 0), (11, .getfield 10, 14, 0, 0), (14, .iload_n 1, 15, 0, 0)]), (20, [(15, .iconst 2, 16, 0, 0), (16, .invokevirtual 118, 19, 44, 2), (19, .ireturn, 20, 0, 0)])]
def mr_11 : mRec := (mc_11, ⟨"ClusterVolume", "firstOf", "(I)I"⟩, prog_1_method_25_code, 2, (some .int), [], 3, 62, 0)
def mc_12 : List (Nat × List (Nat × mI)) := [(11, [(0, .iconst 0, 1, 0, 0), (1, .istore_n 1, 2, 0, 0), (2, .iconst 0, 3, 0, 0), (3, .istore_n 2, 4, 0, 0), (4, .iload_n 2, 5, 0, 0), (5, .bipush 32, 7, 0, 0), (7, .if_icmp .ge 44, 10, 51, 0), (10, .aload_n 0, 11, 0, 0)]), (27, [(11, .getfield 16, 14, 0, 1), (14, .iload_n 2, 15, 0, 0), (15, .baload, 16, 0, 0), (16, .ifCond .ne 29, 19, 45, 0), (19, .aload_n 0, 20, 0, 0), (20, .getfield 10, 23, 0, 0), (23, .iload_n 2, 24, 0, 0), (24, .invokevirtual 139, 27, 43, 1)]), (45, [(27, .bipush (-2), 29, 0, 0), (29, .if_icmp .eq 16, 32, 45, 0), (32, .aload_n 0, 33, 0, 0), (33, .getfield 10, 36, 0, 0), (36, .iload_n 2, 37, 0, 0), (37, .bipush (-2), 39, 0, 0), (39, .invokevirtual 67, 42, 45, 2), (42, .iinc 1 1, 45, 0, 0)]), (53, [(45, .iinc 2 1, 48, 0, 0), (48, .goto (-44), 51, 4, 0), (51, .iload_n 1, 52, 0, 0), (52, .ireturn, 53, 0, 0)])]
def mr_12 : mRec := (mc_12, ⟨"ClusterVolume", "freeUnreached", "()I"⟩, prog_1_method_38_code, 3, (some .int), [], 8, 142, 0)
def mc_13 : List (Nat × List (Nat × mI)) := [(10, [(0, .aload_n 0, 1, 0, 0), (1, .getfield 10, 4, 0, 0), (4, .iload_n 1, 5, 0, 0), (5, .iload_n 2, 6, 0, 0), (6, .invokevirtual 118, 9, 44, 2), (9, .ireturn, 10, 0, 0)])]
def mr_13 : mRec := (mc_13, ⟨"ClusterVolume", "cell", "(II)I"⟩, prog_1_method_15_code, 3, (some .int), [], 3, 62, 0)
def mc_14 : List (Nat × List (Nat × mI)) := [(18, [(0, .iload_n 1, 1, 0, 0), (1, .invokestatic 158, 4, 6, 1), (4, .ifCond .eq 14, 7, 18, 0), (7, .aload_n 0, 8, 0, 0), (8, .getfield 10, 11, 0, 0), (11, .iload_n 1, 12, 0, 0), (12, .invokevirtual 139, 15, 43, 1), (15, .goto 4, 18, 19, 0)]), (20, [(18, .iconst 0, 19, 0, 0), (19, .ireturn, 20, 0, 0)])]
def mr_14 : mRec := (mc_14, ⟨"ClusterVolume", "table", "(I)I"⟩, prog_1_method_16_code, 2, (some .int), [], 3, 61, 0)
def mc_15 : List (Nat × List (Nat × mI)) := [(12, [(0, .aload_n 0, 1, 0, 0), (1, .invokevirtual 28, 4, 16, 0), (4, .iload_n 1, 5, 0, 0), (5, .invokestatic 31, 8, 17, 1), (8, .aload_n 0, 9, 0, 0), (9, .iload_n 1, 10, 0, 0), (10, .iconst 4, 11, 0, 0), (11, .ishr, 12, 0, 0)]), (35, [(12, .invokevirtual 35, 15, 18, 1), (15, .istore_n 3, 16, 0, 0), (16, .aload_n 0, 17, 0, 0), (17, .iload_n 3, 18, 0, 0), (18, .invokevirtual 39, 21, 7, 1), (21, .ifCond .ne 13, 24, 34, 0), (24, .new 43, 27, 2, 1), (34, .iload_n 1, 35, 0, 0)]), (48, [(35, .bipush 15, 37, 0, 0), (37, .iand, 38, 0, 0), (38, .istore 4, 40, 0, 0), (40, .iload_n 1, 41, 0, 0), (41, .ifCond .eq 14, 44, 55, 0), (44, .aload_n 0, 45, 0, 0), (45, .iload_n 3, 46, 0, 0), (46, .iload 4, 48, 0, 0)]), (73, [(48, .invokevirtual 50, 51, 19, 2), (51, .iconst (-1), 52, 0, 0), (52, .if_icmp .eq 13, 55, 65, 0), (55, .new 54, 58, 3, 1), (65, .iload_n 2, 66, 0, 0), (66, .ifCond .eq 7, 69, 73, 0), (69, .iconst 2, 70, 0, 0), (70, .goto 4, 73, 74, 0)]), (86, [(73, .iconst 1, 74, 0, 0), (74, .istore 5, 76, 0, 0), (76, .aload_n 0, 77, 0, 0), (77, .iload_n 3, 78, 0, 0), (78, .iconst 0, 79, 0, 0), (79, .invokevirtual 50, 82, 19, 2), (82, .istore 6, 84, 0, 0), (84, .iload 6, 86, 0, 0)]), (101, [(86, .iconst (-1), 87, 0, 0), (87, .if_icmp .eq 21, 90, 108, 0), (90, .aload_n 0, 91, 0, 0), (91, .getfield 10, 94, 0, 0), (94, .iload 6, 96, 0, 0), (96, .iload 4, 98, 0, 0), (98, .iload 5, 100, 0, 0), (100, .iconst (-1), 101, 0, 0)]), (115, [(101, .iconst 0, 102, 0, 0), (102, .invokevirtual 59, 105, 47, 5), (105, .iload 6, 107, 0, 0), (107, .ireturn, 108, 0, 0), (108, .aload_n 0, 109, 0, 0), (109, .invokevirtual 63, 112, 20, 0), (112, .istore 7, 114, 0, 0), (114, .aload_n 0, 115, 0, 0)]), (130, [(115, .getfield 10, 118, 0, 0), (118, .iload 7, 120, 0, 0), (120, .iload 4, 122, 0, 0), (122, .iload 5, 124, 0, 0), (124, .iconst (-1), 125, 0, 0), (125, .iconst 0, 126, 0, 0), (126, .invokevirtual 59, 129, 47, 5), (129, .aload_n 0, 130, 0, 0)]), (146, [(130, .getfield 10, 133, 0, 0), (133, .iload 7, 135, 0, 0), (135, .iconst (-1), 136, 0, 0), (136, .invokevirtual 67, 139, 45, 2), (139, .aload_n 0, 140, 0, 0), (140, .iload_n 3, 141, 0, 0), (141, .iload 7, 143, 0, 0), (143, .invokevirtual 71, 146, 21, 2)]), (149, [(146, .iload 7, 148, 0, 0), (148, .ireturn, 149, 0, 0)])]
def mr_15 : mRec := (mc_15, ⟨"ClusterVolume", "make", "(IZ)I"⟩, prog_1_method_2_code, 8, (some .int), [], 9, 166, 0)
def mc_16 : List (Nat × List (Nat × mI)) := [(21, [(0, .aload_n 0, 1, 0, 0), (1, .getfield 10, 4, 0, 0), (4, .invokevirtual 145, 7, 41, 0), (7, .ifCond .eq 13, 10, 20, 0), (10, .new 161, 13, 0, 1), (20, .return_, 21, 0, 0)])]
def mr_16 : mRec := (mc_16, ⟨"ClusterVolume", "requireUp", "()V"⟩, prog_1_method_17_code, 1, none, [], 6, 100, 0)
def mc_17 : List (Nat × List (Nat × mI)) := [(22, [(0, .iload_n 0, 1, 0, 0), (1, .ifCond .lt 9, 4, 10, 0), (4, .iload_n 0, 5, 0, 0), (5, .ldc 166, 7, 65535, 0), (7, .if_icmp .le 13, 10, 20, 0), (10, .new 87, 13, 1, 1), (20, .iconst 0, 21, 0, 0), (21, .istore_n 1, 22, 0, 0)]), (34, [(22, .bipush 12, 24, 0, 0), (24, .istore_n 2, 25, 0, 0), (25, .iload_n 2, 26, 0, 0), (26, .ifCond .lt 48, 29, 74, 0), (29, .iload_n 0, 30, 0, 0), (30, .iload_n 2, 31, 0, 0), (31, .ishr, 32, 0, 0), (32, .bipush 15, 34, 0, 0)]), (55, [(34, .iand, 35, 0, 0), (35, .istore_n 3, 36, 0, 0), (36, .iload_n 1, 37, 0, 0), (37, .ifCond .eq 17, 40, 54, 0), (40, .iload_n 3, 41, 0, 0), (41, .ifCond .ne 13, 44, 54, 0), (44, .new 87, 47, 1, 1), (54, .iload_n 1, 55, 0, 0)]), (71, [(55, .ifCond .ne 7, 58, 62, 0), (58, .iload_n 3, 59, 0, 0), (59, .ifCond .eq 7, 62, 66, 0), (62, .iconst 1, 63, 0, 0), (63, .goto 4, 66, 67, 0), (66, .iconst 0, 67, 0, 0), (67, .istore_n 1, 68, 0, 0), (68, .iinc 2 (-4), 71, 0, 0)]), (75, [(71, .goto (-46), 74, 25, 0), (74, .return_, 75, 0, 0)])]
def mr_17 : mRec := (mc_17, ⟨"ClusterVolume", "requirePath", "(I)V"⟩, prog_1_method_18_code, 4, none, [], 6, 100, 0)
def mc_18 : List (Nat × List (Nat × mI)) := [(12, [(0, .bipush (-3), 2, 0, 0), (2, .istore_n 2, 3, 0, 0), (3, .bipush 12, 5, 0, 0), (5, .istore_n 3, 6, 0, 0), (6, .iload_n 3, 7, 0, 0), (7, .ifCond .lt 45, 10, 52, 0), (10, .iload_n 1, 11, 0, 0), (11, .iload_n 3, 12, 0, 0)]), (25, [(12, .ishr, 13, 0, 0), (13, .bipush 15, 15, 0, 0), (15, .iand, 16, 0, 0), (16, .istore 4, 18, 0, 0), (18, .iload 4, 20, 0, 0), (20, .ifCond .eq 11, 23, 31, 0), (23, .aload_n 0, 24, 0, 0), (24, .iload_n 2, 25, 0, 0)]), (49, [(25, .iload 4, 27, 0, 0), (27, .invokevirtual 50, 30, 19, 2), (30, .istore_n 2, 31, 0, 0), (31, .iload_n 2, 32, 0, 0), (32, .iconst (-1), 33, 0, 0), (33, .if_icmp .ne 13, 36, 46, 0), (36, .new 43, 39, 2, 1), (46, .iinc 3 (-4), 49, 0, 0)]), (54, [(49, .goto (-43), 52, 6, 0), (52, .iload_n 2, 53, 0, 0), (53, .ireturn, 54, 0, 0)])]
def mr_18 : mRec := (mc_18, ⟨"ClusterVolume", "entryAt", "(I)I"⟩, prog_1_method_20_code, 5, (some .int), [], 6, 107, 0)
def mc_19 : List (Nat × List (Nat × mI)) := [(16, [(0, .aload_n 0, 1, 0, 0), (1, .iload_n 1, 2, 0, 0), (2, .invokevirtual 39, 5, 7, 1), (5, .ifCond .eq 11, 8, 16, 0), (8, .aload_n 0, 9, 0, 0), (9, .iload_n 1, 10, 0, 0), (10, .invokevirtual 81, 13, 11, 1), (13, .goto 4, 16, 17, 0)]), (29, [(16, .iconst (-1), 17, 0, 0), (17, .istore_n 3, 18, 0, 0), (18, .iconst 0, 19, 0, 0), (19, .istore 4, 21, 0, 0), (21, .iload 4, 23, 0, 0), (23, .bipush 32, 25, 0, 0), (25, .if_icmp .ge 40, 28, 65, 0), (28, .iload_n 3, 29, 0, 0)]), (45, [(29, .invokestatic 158, 32, 6, 1), (32, .ifCond .eq 33, 35, 65, 0), (35, .aload_n 0, 36, 0, 0), (36, .getfield 10, 39, 0, 0), (39, .iload_n 3, 40, 0, 0), (40, .iconst 0, 41, 0, 0), (41, .invokevirtual 118, 44, 44, 2), (44, .iload_n 2, 45, 0, 0)]), (59, [(45, .if_icmp .ne 5, 48, 50, 0), (48, .iload_n 3, 49, 0, 0), (49, .ireturn, 50, 0, 0), (50, .aload_n 0, 51, 0, 0), (51, .getfield 10, 54, 0, 0), (54, .iload_n 3, 55, 0, 0), (55, .invokevirtual 139, 58, 43, 1), (58, .istore_n 3, 59, 0, 0)]), (67, [(59, .iinc 4 1, 62, 0, 0), (62, .goto (-41), 65, 21, 0), (65, .iconst (-1), 66, 0, 0), (66, .ireturn, 67, 0, 0)])]
def mr_19 : mRec := (mc_19, ⟨"ClusterVolume", "entryNamed", "(II)I"⟩, prog_1_method_22_code, 5, (some .int), [], 4, 83, 0)
def mc_20 : List (Nat × List (Nat × mI)) := [(13, [(0, .iconst 0, 1, 0, 0), (1, .istore_n 1, 2, 0, 0), (2, .iload_n 1, 3, 0, 0), (3, .bipush 32, 5, 0, 0), (5, .if_icmp .ge 24, 8, 29, 0), (8, .aload_n 0, 9, 0, 0), (9, .getfield 10, 12, 0, 0), (12, .iload_n 1, 13, 0, 0)]), (39, [(13, .invokevirtual 139, 16, 43, 1), (16, .bipush (-2), 18, 0, 0), (18, .if_icmp .ne 5, 21, 23, 0), (21, .iload_n 1, 22, 0, 0), (22, .ireturn, 23, 0, 0), (23, .iinc 1 1, 26, 0, 0), (26, .goto (-24), 29, 2, 0), (29, .new 177, 32, 4, 1)])]
def mr_20 : mRec := (mc_20, ⟨"ClusterVolume", "clusterToTake", "()I"⟩, prog_1_method_29_code, 2, (some .int), [], 6, 100, 0)
def mc_21 : List (Nat × List (Nat × mI)) := [(12, [(0, .aload_n 0, 1, 0, 0), (1, .iload_n 1, 2, 0, 0), (2, .invokevirtual 81, 5, 11, 1), (5, .istore_n 3, 6, 0, 0), (6, .iload_n 3, 7, 0, 0), (7, .iconst (-1), 8, 0, 0), (8, .if_icmp .ne 16, 11, 24, 0), (11, .aload_n 0, 12, 0, 0)]), (28, [(12, .getfield 10, 15, 0, 0), (15, .iload_n 1, 16, 0, 0), (16, .iconst 2, 17, 0, 0), (17, .iload_n 2, 18, 0, 0), (18, .invokevirtual 96, 21, 48, 3), (21, .goto 16, 24, 37, 0), (24, .aload_n 0, 25, 0, 0), (25, .getfield 10, 28, 0, 0)]), (38, [(28, .aload_n 0, 29, 0, 0), (29, .iload_n 3, 30, 0, 0), (30, .invokevirtual 109, 33, 22, 1), (33, .iload_n 2, 34, 0, 0), (34, .invokevirtual 67, 37, 45, 2), (37, .return_, 38, 0, 0)])]
def mr_21 : mRec := (mc_21, ⟨"ClusterVolume", "linkToDirectory", "(II)V"⟩, prog_1_method_30_code, 4, none, [], 8, 143, 0)
def mc_22 : List (Nat × List (Nat × mI)) := [(11, [(0, .iload_n 1, 1, 0, 0), (1, .istore_n 2, 2, 0, 0), (2, .iconst 0, 3, 0, 0), (3, .istore_n 3, 4, 0, 0), (4, .iload_n 3, 5, 0, 0), (5, .bipush 32, 7, 0, 0), (7, .if_icmp .ge 32, 10, 39, 0), (10, .aload_n 0, 11, 0, 0)]), (29, [(11, .getfield 10, 14, 0, 0), (14, .iload_n 2, 15, 0, 0), (15, .invokevirtual 139, 18, 43, 1), (18, .invokestatic 158, 21, 6, 1), (21, .ifCond .eq 18, 24, 39, 0), (24, .aload_n 0, 25, 0, 0), (25, .getfield 10, 28, 0, 0), (28, .iload_n 2, 29, 0, 0)]), (41, [(29, .invokevirtual 139, 32, 43, 1), (32, .istore_n 2, 33, 0, 0), (33, .iinc 3 1, 36, 0, 0), (36, .goto (-32), 39, 4, 0), (39, .iload_n 2, 40, 0, 0), (40, .ireturn, 41, 0, 0)])]
def mr_22 : mRec := (mc_22, ⟨"ClusterVolume", "lastOfChain", "(I)I"⟩, prog_1_method_27_code, 4, (some .int), [], 3, 61, 0)
def mc_23 : List (Nat × List (Nat × mI)) := [(14, [(0, .aload_n 0, 1, 0, 0), (1, .invokevirtual 28, 4, 16, 0), (4, .iload_n 1, 5, 0, 0), (5, .invokestatic 31, 8, 17, 1), (8, .aload_n 0, 9, 0, 0), (9, .iload_n 1, 10, 0, 0), (10, .invokevirtual 35, 13, 18, 1), (13, .istore_n 2, 14, 0, 0)]), (38, [(14, .iload_n 2, 15, 0, 0), (15, .bipush (-3), 17, 0, 0), (17, .if_icmp .ne 13, 20, 30, 0), (20, .new 54, 23, 3, 1), (30, .aload_n 0, 31, 0, 0), (31, .iload_n 2, 32, 0, 0), (32, .invokevirtual 39, 35, 7, 1), (35, .ifCond .eq 21, 38, 56, 0)]), (61, [(38, .aload_n 0, 39, 0, 0), (39, .iload_n 2, 40, 0, 0), (40, .invokevirtual 76, 43, 24, 1), (43, .ifCond .eq 13, 46, 56, 0), (46, .new 54, 49, 3, 1), (56, .aload_n 0, 57, 0, 0), (57, .iload_n 2, 58, 0, 0), (58, .invokevirtual 81, 61, 11, 1)]), (71, [(61, .istore_n 3, 62, 0, 0), (62, .aload_n 0, 63, 0, 0), (63, .getfield 10, 66, 0, 0), (66, .iload_n 2, 67, 0, 0), (67, .iconst 0, 68, 0, 0), (68, .iconst 0, 69, 0, 0), (69, .iconst 0, 70, 0, 0), (70, .iconst 0, 71, 0, 0)]), (80, [(71, .invokevirtual 59, 74, 47, 5), (74, .aload_n 0, 75, 0, 0), (75, .iload_n 3, 76, 0, 0), (76, .invokevirtual 84, 79, 25, 1), (79, .ireturn, 80, 0, 0)])]
def mr_23 : mRec := (mc_23, ⟨"ClusterVolume", "remove", "(I)I"⟩, prog_1_method_3_code, 4, (some .int), [], 9, 166, 0)
def mc_24 : List (Nat × List (Nat × mI)) := [(11, [(0, .iconst 0, 1, 0, 0), (1, .istore_n 2, 2, 0, 0), (2, .aload_n 0, 3, 0, 0), (3, .iload_n 1, 4, 0, 0), (4, .invokevirtual 81, 7, 11, 1), (7, .istore_n 3, 8, 0, 0), (8, .iconst 0, 9, 0, 0), (9, .istore 4, 11, 0, 0)]), (27, [(11, .iload 4, 13, 0, 0), (13, .bipush 32, 15, 0, 0), (15, .if_icmp .ge 39, 18, 54, 0), (18, .iload_n 3, 19, 0, 0), (19, .invokestatic 158, 22, 6, 1), (22, .ifCond .eq 32, 25, 54, 0), (25, .iload_n 2, 26, 0, 0), (26, .iconst 1, 27, 0, 0)]), (39, [(27, .aload_n 0, 28, 0, 0), (28, .getfield 10, 31, 0, 0), (31, .iload_n 3, 32, 0, 0), (32, .iconst 0, 33, 0, 0), (33, .invokevirtual 118, 36, 44, 2), (36, .ishl, 37, 0, 0), (37, .ior, 38, 0, 0), (38, .istore_n 2, 39, 0, 0)]), (55, [(39, .aload_n 0, 40, 0, 0), (40, .getfield 10, 43, 0, 0), (43, .iload_n 3, 44, 0, 0), (44, .invokevirtual 139, 47, 43, 1), (47, .istore_n 3, 48, 0, 0), (48, .iinc 4 1, 51, 0, 0), (51, .goto (-40), 54, 11, 0), (54, .iload_n 2, 55, 0, 0)]), (59, [(55, .bipush (-2), 57, 0, 0), (57, .iand, 58, 0, 0), (58, .ireturn, 59, 0, 0)])]
def mr_24 : mRec := (mc_24, ⟨"ClusterVolume", "namesIn", "(I)I"⟩, prog_1_method_23_code, 5, (some .int), [], 4, 83, 0)
def mc_25 : List (Nat × List (Nat × mI)) := [(11, [(0, .iconst 0, 1, 0, 0), (1, .istore_n 2, 2, 0, 0), (2, .iload_n 1, 3, 0, 0), (3, .istore_n 3, 4, 0, 0), (4, .iload_n 2, 5, 0, 0), (5, .bipush 32, 7, 0, 0), (7, .if_icmp .ge 39, 10, 46, 0), (10, .iload_n 3, 11, 0, 0)]), (28, [(11, .invokestatic 158, 14, 6, 1), (14, .ifCond .eq 32, 17, 46, 0), (17, .aload_n 0, 18, 0, 0), (18, .getfield 10, 21, 0, 0), (21, .iload_n 3, 22, 0, 0), (22, .invokevirtual 139, 25, 43, 1), (25, .istore 4, 27, 0, 0), (27, .aload_n 0, 28, 0, 0)]), (46, [(28, .getfield 10, 31, 0, 0), (31, .iload_n 3, 32, 0, 0), (32, .bipush (-2), 34, 0, 0), (34, .invokevirtual 67, 37, 45, 2), (37, .iload 4, 39, 0, 0), (39, .istore_n 3, 40, 0, 0), (40, .iinc 2 1, 43, 0, 0), (43, .goto (-39), 46, 4, 0)]), (48, [(46, .iload_n 2, 47, 0, 0), (47, .ireturn, 48, 0, 0)])]
def mr_25 : mRec := (mc_25, ⟨"ClusterVolume", "freeChain", "(I)I"⟩, prog_1_method_34_code, 5, (some .int), [], 8, 142, 0)
def mc_26 : List (Nat × List (Nat × mI)) := [(14, [(0, .aload_n 0, 1, 0, 0), (1, .invokevirtual 28, 4, 16, 0), (4, .iload_n 1, 5, 0, 0), (5, .invokestatic 31, 8, 17, 1), (8, .iload_n 2, 9, 0, 0), (9, .iconst 1, 10, 0, 0), (10, .if_icmp .lt 9, 13, 19, 0), (13, .iload_n 2, 14, 0, 0)]), (36, [(14, .bipush 15, 16, 0, 0), (16, .if_icmp .le 13, 19, 29, 0), (19, .new 87, 22, 1, 1), (29, .aload_n 0, 30, 0, 0), (30, .iload_n 1, 31, 0, 0), (31, .invokevirtual 35, 34, 18, 1), (34, .istore_n 3, 35, 0, 0), (35, .iload_n 3, 36, 0, 0)]), (57, [(36, .bipush (-3), 38, 0, 0), (38, .if_icmp .ne 13, 41, 51, 0), (41, .new 54, 44, 3, 1), (51, .iload_n 1, 52, 0, 0), (52, .iconst 4, 53, 0, 0), (53, .ishr, 54, 0, 0), (54, .istore 4, 56, 0, 0), (56, .aload_n 0, 57, 0, 0)]), (81, [(57, .aload_n 0, 58, 0, 0), (58, .iload 4, 60, 0, 0), (60, .invokevirtual 35, 63, 18, 1), (63, .iload_n 2, 64, 0, 0), (64, .invokevirtual 50, 67, 19, 2), (67, .iconst (-1), 68, 0, 0), (68, .if_icmp .eq 13, 71, 81, 0), (71, .new 54, 74, 3, 1)]), (94, [(81, .aload_n 0, 82, 0, 0), (82, .getfield 10, 85, 0, 0), (85, .iload_n 3, 86, 0, 0), (86, .iconst 0, 87, 0, 0), (87, .iload_n 2, 88, 0, 0), (88, .invokevirtual 96, 91, 48, 3), (91, .iload 4, 93, 0, 0), (93, .iconst 4, 94, 0, 0)]), (98, [(94, .ishl, 95, 0, 0), (95, .iload_n 2, 96, 0, 0), (96, .ior, 97, 0, 0), (97, .ireturn, 98, 0, 0)])]
def mr_26 : mRec := (mc_26, ⟨"ClusterVolume", "rename", "(II)I"⟩, prog_1_method_4_code, 5, (some .int), [], 8, 143, 0)
def mc_27 : List (Nat × List (Nat × mI)) := [(14, [(0, .aload_n 0, 1, 0, 0), (1, .invokevirtual 28, 4, 16, 0), (4, .iload_n 1, 5, 0, 0), (5, .invokestatic 31, 8, 17, 1), (8, .aload_n 0, 9, 0, 0), (9, .iload_n 1, 10, 0, 0), (10, .invokevirtual 100, 13, 28, 1), (13, .istore_n 3, 14, 0, 0)]), (27, [(14, .aload_n 0, 15, 0, 0), (15, .iload_n 3, 16, 0, 0), (16, .invokevirtual 103, 19, 9, 1), (19, .istore 4, 21, 0, 0), (21, .iload 4, 23, 0, 0), (23, .iconst 4, 24, 0, 0), (24, .irem, 25, 0, 0), (25, .istore 5, 27, 0, 0)]), (42, [(27, .iload 5, 29, 0, 0), (29, .ifCond .ne 12, 32, 41, 0), (32, .aload_n 0, 33, 0, 0), (33, .iload_n 3, 34, 0, 0), (34, .iload_n 2, 35, 0, 0), (35, .invokevirtual 106, 38, 29, 2), (38, .goto 35, 41, 73, 0), (41, .aload_n 0, 42, 0, 0)]), (57, [(42, .getfield 10, 45, 0, 0), (45, .aload_n 0, 46, 0, 0), (46, .aload_n 0, 47, 0, 0), (47, .iload_n 3, 48, 0, 0), (48, .invokevirtual 81, 51, 11, 1), (51, .invokevirtual 109, 54, 22, 1), (54, .iload 5, 56, 0, 0), (56, .iload_n 2, 57, 0, 0)]), (70, [(57, .invokevirtual 96, 60, 48, 3), (60, .aload_n 0, 61, 0, 0), (61, .getfield 10, 64, 0, 0), (64, .iload_n 3, 65, 0, 0), (65, .iconst 3, 66, 0, 0), (66, .iload 4, 68, 0, 0), (68, .iconst 1, 69, 0, 0), (69, .iadd, 70, 0, 0)]), (78, [(70, .invokevirtual 96, 73, 48, 3), (73, .iload 4, 75, 0, 0), (75, .iconst 1, 76, 0, 0), (76, .iadd, 77, 0, 0), (77, .ireturn, 78, 0, 0)])]
def mr_27 : mRec := (mc_27, ⟨"ClusterVolume", "append", "(II)I"⟩, prog_1_method_5_code, 6, (some .int), [], 10, 194, 0)
def mc_28 : List (Nat × List (Nat × mI)) := [(14, [(0, .aload_n 0, 1, 0, 0), (1, .iload_n 1, 2, 0, 0), (2, .invokevirtual 35, 5, 18, 1), (5, .istore_n 2, 6, 0, 0), (6, .aload_n 0, 7, 0, 0), (7, .iload_n 2, 8, 0, 0), (8, .invokevirtual 39, 11, 7, 1), (11, .ifCond .eq 13, 14, 24, 0)]), (26, [(14, .new 54, 17, 3, 1), (24, .iload_n 2, 25, 0, 0), (25, .ireturn, 26, 0, 0)])]
def mr_28 : mRec := (mc_28, ⟨"ClusterVolume", "fileAt", "(I)I"⟩, prog_1_method_21_code, 3, (some .int), [], 7, 131, 0)
def mc_29 : List (Nat × List (Nat × mI)) := [(13, [(0, .aload_n 0, 1, 0, 0), (1, .iload_n 1, 2, 0, 0), (2, .invokevirtual 103, 5, 9, 1), (5, .istore_n 3, 6, 0, 0), (6, .aload_n 0, 7, 0, 0), (7, .iload_n 1, 8, 0, 0), (8, .invokevirtual 81, 11, 11, 1), (11, .istore 4, 13, 0, 0)]), (27, [(13, .aload_n 0, 14, 0, 0), (14, .invokevirtual 63, 17, 20, 0), (17, .istore 5, 19, 0, 0), (19, .aload_n 0, 20, 0, 0), (20, .getfield 10, 23, 0, 0), (23, .iload 5, 25, 0, 0), (25, .iload_n 2, 26, 0, 0), (26, .iconst 0, 27, 0, 0)]), (42, [(27, .iconst 0, 28, 0, 0), (28, .iconst 0, 29, 0, 0), (29, .invokevirtual 59, 32, 47, 5), (32, .aload_n 0, 33, 0, 0), (33, .getfield 10, 36, 0, 0), (36, .iload 5, 38, 0, 0), (38, .iconst (-1), 39, 0, 0), (39, .invokevirtual 67, 42, 45, 2)]), (57, [(42, .iload_n 3, 43, 0, 0), (43, .ifCond .ne 14, 46, 57, 0), (46, .aload_n 0, 47, 0, 0), (47, .iload_n 1, 48, 0, 0), (48, .iload 5, 50, 0, 0), (50, .iconst 1, 51, 0, 0), (51, .invokevirtual 126, 54, 30, 3), (54, .goto 28, 57, 82, 0)]), (73, [(57, .aload_n 0, 58, 0, 0), (58, .getfield 10, 61, 0, 0), (61, .aload_n 0, 62, 0, 0), (62, .iload 4, 64, 0, 0), (64, .invokevirtual 109, 67, 22, 1), (67, .iload 5, 69, 0, 0), (69, .invokevirtual 67, 72, 45, 2), (72, .aload_n 0, 73, 0, 0)]), (83, [(73, .iload_n 1, 74, 0, 0), (74, .iload 4, 76, 0, 0), (76, .iload_n 3, 77, 0, 0), (77, .iconst 1, 78, 0, 0), (78, .iadd, 79, 0, 0), (79, .invokevirtual 126, 82, 30, 3), (82, .return_, 83, 0, 0)])]
def mr_29 : mRec := (mc_29, ⟨"ClusterVolume", "appendWithCluster", "(II)V"⟩, prog_1_method_31_code, 6, none, [], 9, 169, 0)
def mc_30 : List (Nat × List (Nat × mI)) := [(14, [(0, .aload_n 0, 1, 0, 0), (1, .getfield 10, 4, 0, 0), (4, .iload_n 1, 5, 0, 0), (5, .aload_n 0, 6, 0, 0), (6, .getfield 10, 9, 0, 0), (9, .iload_n 1, 10, 0, 0), (10, .iconst 0, 11, 0, 0), (11, .invokevirtual 118, 14, 44, 2)]), (28, [(14, .aload_n 0, 15, 0, 0), (15, .getfield 10, 18, 0, 0), (18, .iload_n 1, 19, 0, 0), (19, .iconst 1, 20, 0, 0), (20, .invokevirtual 118, 23, 44, 2), (23, .iload_n 2, 24, 0, 0), (24, .iload_n 3, 25, 0, 0), (25, .invokevirtual 59, 28, 47, 5)]), (29, [(28, .return_, 29, 0, 0)])]
def mr_30 : mRec := (mc_30, ⟨"ClusterVolume", "writeExtent", "(III)V"⟩, prog_1_method_32_code, 4, none, [], 8, 146, 0)
def mc_31 : List (Nat × List (Nat × mI)) := [(14, [(0, .aload_n 0, 1, 0, 0), (1, .invokevirtual 28, 4, 16, 0), (4, .iload_n 1, 5, 0, 0), (5, .invokestatic 31, 8, 17, 1), (8, .aload_n 0, 9, 0, 0), (9, .iload_n 1, 10, 0, 0), (10, .invokevirtual 100, 13, 28, 1), (13, .istore_n 3, 14, 0, 0)]), (26, [(14, .aload_n 0, 15, 0, 0), (15, .iload_n 3, 16, 0, 0), (16, .iload_n 2, 17, 0, 0), (17, .invokevirtual 112, 20, 32, 2), (20, .aload_n 0, 21, 0, 0), (21, .getfield 10, 24, 0, 0), (24, .aload_n 0, 25, 0, 0), (25, .iload_n 3, 26, 0, 0)]), (37, [(26, .iload_n 2, 27, 0, 0), (27, .invokevirtual 115, 30, 10, 2), (30, .iload_n 2, 31, 0, 0), (31, .iconst 4, 32, 0, 0), (32, .irem, 33, 0, 0), (33, .invokevirtual 118, 36, 44, 2), (36, .ireturn, 37, 0, 0)])]
def mr_31 : mRec := (mc_31, ⟨"ClusterVolume", "get", "(II)I"⟩, prog_1_method_6_code, 4, (some .int), [], 8, 153, 0)
def mc_32 : List (Nat × List (Nat × mI)) := [(23, [(0, .iload_n 2, 1, 0, 0), (1, .ifCond .lt 12, 4, 13, 0), (4, .iload_n 2, 5, 0, 0), (5, .aload_n 0, 6, 0, 0), (6, .iload_n 1, 7, 0, 0), (7, .invokevirtual 103, 10, 9, 1), (10, .if_icmp .lt 13, 13, 23, 0), (13, .new 121, 16, 5, 1)]), (24, [(23, .return_, 24, 0, 0)])]
def mr_32 : mRec := (mc_32, ⟨"ClusterVolume", "requirePlace", "(II)V"⟩, prog_1_method_19_code, 3, none, [], 6, 100, 0)
def mc_33 : List (Nat × List (Nat × mI)) := [(15, [(0, .aload_n 0, 1, 0, 0), (1, .invokevirtual 28, 4, 16, 0), (4, .iload_n 1, 5, 0, 0), (5, .invokestatic 31, 8, 17, 1), (8, .aload_n 0, 9, 0, 0), (9, .iload_n 1, 10, 0, 0), (10, .invokevirtual 100, 13, 28, 1), (13, .istore 4, 15, 0, 0)]), (29, [(15, .aload_n 0, 16, 0, 0), (16, .iload 4, 18, 0, 0), (18, .iload_n 2, 19, 0, 0), (19, .invokevirtual 112, 22, 32, 2), (22, .aload_n 0, 23, 0, 0), (23, .iload 4, 25, 0, 0), (25, .iload_n 2, 26, 0, 0), (26, .invokevirtual 115, 29, 10, 2)]), (43, [(29, .istore 5, 31, 0, 0), (31, .aload_n 0, 32, 0, 0), (32, .getfield 10, 35, 0, 0), (35, .iload 5, 37, 0, 0), (37, .iload_n 2, 38, 0, 0), (38, .iconst 4, 39, 0, 0), (39, .irem, 40, 0, 0), (40, .invokevirtual 118, 43, 44, 2)]), (55, [(43, .istore 6, 45, 0, 0), (45, .aload_n 0, 46, 0, 0), (46, .getfield 10, 49, 0, 0), (49, .iload 5, 51, 0, 0), (51, .iload_n 2, 52, 0, 0), (52, .iconst 4, 53, 0, 0), (53, .irem, 54, 0, 0), (54, .iload_n 3, 55, 0, 0)]), (61, [(55, .invokevirtual 96, 58, 48, 3), (58, .iload 6, 60, 0, 0), (60, .ireturn, 61, 0, 0)])]
def mr_33 : mRec := (mc_33, ⟨"ClusterVolume", "put", "(III)I"⟩, prog_1_method_7_code, 7, (some .int), [], 8, 153, 0)
def mc_34 : List (Nat × List (Nat × mI)) := [(14, [(0, .aload_n 0, 1, 0, 0), (1, .invokevirtual 28, 4, 16, 0), (4, .iload_n 1, 5, 0, 0), (5, .invokestatic 31, 8, 17, 1), (8, .aload_n 0, 9, 0, 0), (9, .iload_n 1, 10, 0, 0), (10, .invokevirtual 100, 13, 28, 1), (13, .istore_n 3, 14, 0, 0)]), (37, [(14, .iload_n 2, 15, 0, 0), (15, .ifCond .lt 12, 18, 27, 0), (18, .iload_n 2, 19, 0, 0), (19, .aload_n 0, 20, 0, 0), (20, .iload_n 3, 21, 0, 0), (21, .invokevirtual 103, 24, 9, 1), (24, .if_icmp .le 13, 27, 37, 0), (27, .new 121, 30, 5, 1)]), (49, [(37, .iload_n 2, 38, 0, 0), (38, .aload_n 0, 39, 0, 0), (39, .iload_n 3, 40, 0, 0), (40, .invokevirtual 103, 43, 9, 1), (43, .if_icmp .ne 5, 46, 48, 0), (46, .iconst 0, 47, 0, 0), (47, .ireturn, 48, 0, 0), (48, .aload_n 0, 49, 0, 0)]), (62, [(49, .iload_n 3, 50, 0, 0), (50, .invokevirtual 81, 53, 11, 1), (53, .istore 4, 55, 0, 0), (55, .iload_n 2, 56, 0, 0), (56, .ifCond .ne 17, 59, 73, 0), (59, .aload_n 0, 60, 0, 0), (60, .iload_n 3, 61, 0, 0), (61, .iconst (-1), 62, 0, 0)]), (75, [(62, .iconst 0, 63, 0, 0), (63, .invokevirtual 126, 66, 30, 3), (66, .aload_n 0, 67, 0, 0), (67, .iload 4, 69, 0, 0), (69, .invokevirtual 84, 72, 25, 1), (72, .ireturn, 73, 0, 0), (73, .aload_n 0, 74, 0, 0), (74, .iload_n 3, 75, 0, 0)]), (87, [(75, .iload_n 2, 76, 0, 0), (76, .iconst 1, 77, 0, 0), (77, .isub, 78, 0, 0), (78, .invokevirtual 115, 81, 10, 2), (81, .istore 5, 83, 0, 0), (83, .aload_n 0, 84, 0, 0), (84, .iload_n 3, 85, 0, 0), (85, .iload 4, 87, 0, 0)]), (98, [(87, .iload_n 2, 88, 0, 0), (88, .invokevirtual 126, 91, 30, 3), (91, .aload_n 0, 92, 0, 0), (92, .iload 5, 94, 0, 0), (94, .invokevirtual 129, 97, 35, 1), (97, .ireturn, 98, 0, 0)])]
def mr_34 : mRec := (mc_34, ⟨"ClusterVolume", "shorten", "(II)I"⟩, prog_1_method_8_code, 6, (some .int), [], 10, 188, 0)
def mc_35 : List (Nat × List (Nat × mI)) := [(16, [(0, .aload_n 0, 1, 0, 0), (1, .getfield 10, 4, 0, 0), (4, .iload_n 1, 5, 0, 0), (5, .invokevirtual 139, 8, 43, 1), (8, .istore_n 2, 9, 0, 0), (9, .iload_n 2, 10, 0, 0), (10, .invokestatic 158, 13, 6, 1), (13, .ifCond .ne 5, 16, 18, 0)]), (28, [(16, .iconst 0, 17, 0, 0), (17, .ireturn, 18, 0, 0), (18, .aload_n 0, 19, 0, 0), (19, .getfield 10, 22, 0, 0), (22, .iload_n 1, 23, 0, 0), (23, .iconst (-1), 24, 0, 0), (24, .invokevirtual 67, 27, 45, 2), (27, .aload_n 0, 28, 0, 0)]), (33, [(28, .iload_n 2, 29, 0, 0), (29, .invokevirtual 84, 32, 25, 1), (32, .ireturn, 33, 0, 0)])]
def mr_35 : mRec := (mc_35, ⟨"ClusterVolume", "freeBehind", "(I)I"⟩, prog_1_method_33_code, 3, (some .int), [], 9, 166, 0)
def mc_36 : List (Nat × List (Nat × mI)) := [(14, [(0, .aload_n 0, 1, 0, 0), (1, .invokevirtual 28, 4, 16, 0), (4, .iload_n 1, 5, 0, 0), (5, .invokestatic 31, 8, 17, 1), (8, .aload_n 0, 9, 0, 0), (9, .iload_n 1, 10, 0, 0), (10, .invokevirtual 35, 13, 18, 1), (13, .istore_n 2, 14, 0, 0)]), (28, [(14, .aload_n 0, 15, 0, 0), (15, .iload_n 2, 16, 0, 0), (16, .invokevirtual 39, 19, 7, 1), (19, .ifCond .eq 16, 22, 35, 0), (22, .iconst (-1), 23, 0, 0), (23, .aload_n 0, 24, 0, 0), (24, .iload_n 2, 25, 0, 0), (25, .invokevirtual 76, 28, 24, 1)]), (41, [(28, .invokestatic 132, 31, 98, 1), (31, .isub, 32, 0, 0), (32, .goto 8, 35, 40, 0), (35, .aload_n 0, 36, 0, 0), (36, .iload_n 2, 37, 0, 0), (37, .invokevirtual 103, 40, 9, 1), (40, .ireturn, 41, 0, 0)])]
def mr_36 : mRec := (mc_36, ⟨"ClusterVolume", "length", "(I)I"⟩, prog_1_method_9_code, 3, (some .int), [], 7, 131, 0)
def mc_37 : List (Nat × List (Nat × mI)) := [(14, [(0, .aload_n 0, 1, 0, 0), (1, .invokevirtual 28, 4, 16, 0), (4, .iload_n 1, 5, 0, 0), (5, .invokestatic 31, 8, 17, 1), (8, .aload_n 0, 9, 0, 0), (9, .iload_n 1, 10, 0, 0), (10, .invokevirtual 35, 13, 18, 1), (13, .istore_n 2, 14, 0, 0)]), (37, [(14, .aload_n 0, 15, 0, 0), (15, .iload_n 2, 16, 0, 0), (16, .invokevirtual 39, 19, 7, 1), (19, .ifCond .ne 13, 22, 32, 0), (22, .new 54, 25, 3, 1), (32, .aload_n 0, 33, 0, 0), (33, .iload_n 2, 34, 0, 0), (34, .invokevirtual 76, 37, 24, 1)]), (38, [(37, .ireturn, 38, 0, 0)])]
def mr_37 : mRec := (mc_37, ⟨"ClusterVolume", "names", "(I)I"⟩, prog_1_method_10_code, 3, (some .int), [], 7, 131, 0)
def mc_38 : List (Nat × List (Nat × mI)) := [(11, [(0, .aload_n 0, 1, 0, 0), (1, .invokevirtual 28, 4, 16, 0), (4, .iconst 0, 5, 0, 0), (5, .istore_n 1, 6, 0, 0), (6, .iconst 0, 7, 0, 0), (7, .istore_n 2, 8, 0, 0), (8, .iload_n 2, 9, 0, 0), (9, .bipush 32, 11, 0, 0)]), (30, [(11, .if_icmp .ge 25, 14, 36, 0), (14, .aload_n 0, 15, 0, 0), (15, .getfield 10, 18, 0, 0), (18, .iload_n 2, 19, 0, 0), (19, .invokevirtual 139, 22, 43, 1), (22, .bipush (-2), 24, 0, 0), (24, .if_icmp .ne 6, 27, 30, 0), (27, .iinc 1 1, 30, 0, 0)]), (38, [(30, .iinc 2 1, 33, 0, 0), (33, .goto (-25), 36, 8, 0), (36, .iload_n 1, 37, 0, 0), (37, .ireturn, 38, 0, 0)])]
def mr_38 : mRec := (mc_38, ⟨"ClusterVolume", "free", "()I"⟩, prog_1_method_11_code, 3, (some .int), [], 7, 120, 0)
def mc_39 : List (Nat × List (Nat × mI)) := [(16, [(0, .aload_n 0, 1, 0, 0), (1, .invokespecial 3, 4, 999, 0), (4, .aload_n 0, 5, 0, 0), (5, .sipush 128, 8, 0, 0), (8, .newarray .int, 10, 0, 0), (10, .putfield 9, 13, 1, 0), (13, .aload_n 0, 14, 0, 0), (14, .bipush 32, 16, 0, 0)]), (30, [(16, .newarray .int, 18, 0, 0), (18, .putfield 15, 21, 1, 1), (21, .iconst 0, 22, 0, 0), (22, .istore_n 1, 23, 0, 0), (23, .iload_n 1, 24, 0, 0), (24, .bipush 32, 26, 0, 0), (26, .if_icmp .ge 25, 29, 51, 0), (29, .aload_n 0, 30, 0, 0)]), (45, [(30, .getfield 15, 33, 1, 1), (33, .iload_n 1, 34, 0, 0), (34, .iload_n 1, 35, 0, 0), (35, .ifCond .ne 7, 38, 42, 0), (38, .iconst (-1), 39, 0, 0), (39, .goto 5, 42, 44, 0), (42, .bipush (-2), 44, 0, 0), (44, .iastore, 45, 0, 0)]), (61, [(45, .iinc 1 1, 48, 0, 0), (48, .goto (-25), 51, 23, 0), (51, .aload_n 0, 52, 0, 0), (52, .iconst (-1), 53, 0, 0), (53, .putfield 18, 56, 1, 2), (56, .aload_n 0, 57, 0, 0), (57, .iconst 0, 58, 0, 0), (58, .putfield 22, 61, 1, 3)]), (62, [(61, .return_, 62, 0, 0)])]
def mr_39 : mRec := (mc_39, ⟨"ClusterVolume$Disk", "<init>", "()V"⟩, prog_2_method_1_code, 2, none, [], 1, 20, 1)
def mc_40 : List (Nat × List (Nat × mI)) := [(14, [(0, .aload_n 0, 1, 0, 0), (1, .iload_n 1, 2, 0, 0), (2, .ifCond .ge 7, 5, 9, 0), (5, .iconst (-1), 6, 0, 0), (6, .goto 4, 9, 10, 0), (9, .iload_n 1, 10, 0, 0), (10, .putfield 18, 13, 1, 2), (13, .return_, 14, 0, 0)])]
def mr_40 : mRec := (mc_40, ⟨"ClusterVolume$Disk", "allowWrites", "(I)V"⟩, prog_2_method_7_code, 2, none, [], 1, 20, 1)
def mc_41 : List (Nat × List (Nat × mI)) := [(5, [(0, .aload_n 0, 1, 0, 0), (1, .getfield 22, 4, 1, 3), (4, .ireturn, 5, 0, 0)])]
def mr_41 : mRec := (mc_41, ⟨"ClusterVolume$Disk", "hasLostPower", "()Z"⟩, prog_2_method_8_code, 1, (some .boolean), [], 1, 20, 1)
def mc_42 : List (Nat × List (Nat × mI)) := [(11, [(0, .aload_n 0, 1, 0, 0), (1, .iconst 0, 2, 0, 0), (2, .putfield 22, 5, 1, 3), (5, .aload_n 0, 6, 0, 0), (6, .iconst (-1), 7, 0, 0), (7, .putfield 18, 10, 1, 2), (10, .return_, 11, 0, 0)])]
def mr_42 : mRec := (mc_42, ⟨"ClusterVolume$Disk", "powerUp", "()V"⟩, prog_2_method_9_code, 1, none, [], 1, 20, 1)
def mc_43 : List (Nat × List (Nat × mI)) := [(16, [(0, .iload_n 1, 1, 0, 0), (1, .invokestatic 26, 4, 6, 1), (4, .ifCond .eq 12, 7, 16, 0), (7, .aload_n 0, 8, 0, 0), (8, .getfield 15, 11, 1, 1), (11, .iload_n 1, 12, 0, 0), (12, .iaload, 13, 0, 0), (13, .goto 4, 16, 17, 0)]), (18, [(16, .iconst (-1), 17, 0, 0), (17, .ireturn, 18, 0, 0)])]
def mr_43 : mRec := (mc_43, ⟨"ClusterVolume$Disk", "nextAfter", "(I)I"⟩, prog_2_method_3_code, 2, (some .int), [], 2, 40, 1)
def mc_44 : List (Nat × List (Nat × mI)) := [(16, [(0, .iload_n 1, 1, 0, 0), (1, .invokestatic 26, 4, 6, 1), (4, .ifCond .eq 25, 7, 29, 0), (7, .iload_n 2, 8, 0, 0), (8, .ifCond .lt 21, 11, 29, 0), (11, .iload_n 2, 12, 0, 0), (12, .iconst 4, 13, 0, 0), (13, .if_icmp .ge 16, 16, 29, 0)]), (26, [(16, .aload_n 0, 17, 0, 0), (17, .getfield 9, 20, 1, 0), (20, .iload_n 1, 21, 0, 0), (21, .iconst 4, 22, 0, 0), (22, .imul, 23, 0, 0), (23, .iload_n 2, 24, 0, 0), (24, .iadd, 25, 0, 0), (25, .iaload, 26, 0, 0)]), (31, [(26, .goto 4, 29, 30, 0), (29, .iconst 0, 30, 0, 0), (30, .ireturn, 31, 0, 0)])]
def mr_44 : mRec := (mc_44, ⟨"ClusterVolume$Disk", "cellAt", "(II)I"⟩, prog_2_method_2_code, 3, (some .int), [], 2, 40, 1)
def mc_45 : List (Nat × List (Nat × mI)) := [(16, [(0, .aload_n 0, 1, 0, 0), (1, .invokevirtual 30, 4, 46, 0), (4, .iload_n 1, 5, 0, 0), (5, .invokestatic 26, 8, 6, 1), (8, .ifCond .eq 10, 11, 18, 0), (11, .aload_n 0, 12, 0, 0), (12, .getfield 15, 15, 1, 1), (15, .iload_n 1, 16, 0, 0)]), (19, [(16, .iload_n 2, 17, 0, 0), (17, .iastore, 18, 0, 0), (18, .return_, 19, 0, 0)])]
def mr_45 : mRec := (mc_45, ⟨"ClusterVolume$Disk", "writeTable", "(II)V"⟩, prog_2_method_6_code, 3, none, [], 7, 120, 1)
def mc_46 : List (Nat × List (Nat × mI)) := [(23, [(0, .aload_n 0, 1, 0, 0), (1, .getfield 18, 4, 1, 2), (4, .ifCond .ne 18, 7, 22, 0), (7, .aload_n 0, 8, 0, 0), (8, .iconst 1, 9, 0, 0), (9, .putfield 22, 12, 1, 3), (12, .new 33, 15, 0, 1), (22, .aload_n 0, 23, 0, 0)]), (39, [(23, .getfield 18, 26, 1, 2), (26, .ifCond .le 13, 29, 39, 0), (29, .aload_n 0, 30, 0, 0), (30, .dup, 31, 0, 0), (31, .getfield 18, 34, 1, 2), (34, .iconst 1, 35, 0, 0), (35, .isub, 36, 0, 0), (36, .putfield 18, 39, 1, 2)]), (40, [(39, .return_, 40, 0, 0)])]
def mr_46 : mRec := (mc_46, ⟨"ClusterVolume$Disk", "spendWrite", "()V"⟩, prog_2_method_10_code, 1, none, [], 6, 100, 1)
def mc_47 : List (Nat × List (Nat × mI)) := [(14, [(0, .aload_n 0, 1, 0, 0), (1, .invokevirtual 30, 4, 46, 0), (4, .iload_n 1, 5, 0, 0), (5, .invokestatic 26, 8, 6, 1), (8, .ifCond .eq 48, 11, 56, 0), (11, .iload_n 1, 12, 0, 0), (12, .iconst 4, 13, 0, 0), (13, .imul, 14, 0, 0)]), (28, [(14, .istore 6, 16, 0, 0), (16, .aload_n 0, 17, 0, 0), (17, .getfield 9, 20, 1, 0), (20, .iload 6, 22, 0, 0), (22, .iload_n 2, 23, 0, 0), (23, .iastore, 24, 0, 0), (24, .aload_n 0, 25, 0, 0), (25, .getfield 9, 28, 1, 0)]), (40, [(28, .iload 6, 30, 0, 0), (30, .iconst 1, 31, 0, 0), (31, .iadd, 32, 0, 0), (32, .iload_n 3, 33, 0, 0), (33, .iastore, 34, 0, 0), (34, .aload_n 0, 35, 0, 0), (35, .getfield 9, 38, 1, 0), (38, .iload 6, 40, 0, 0)]), (52, [(40, .iconst 2, 41, 0, 0), (41, .iadd, 42, 0, 0), (42, .iload 4, 44, 0, 0), (44, .iastore, 45, 0, 0), (45, .aload_n 0, 46, 0, 0), (46, .getfield 9, 49, 1, 0), (49, .iload 6, 51, 0, 0), (51, .iconst 3, 52, 0, 0)]), (57, [(52, .iadd, 53, 0, 0), (53, .iload 5, 55, 0, 0), (55, .iastore, 56, 0, 0), (56, .return_, 57, 0, 0)])]
def mr_47 : mRec := (mc_47, ⟨"ClusterVolume$Disk", "writeCluster", "(IIIII)V"⟩, prog_2_method_4_code, 7, none, [], 7, 120, 1)
def mc_48 : List (Nat × List (Nat × mI)) := [(16, [(0, .aload_n 0, 1, 0, 0), (1, .invokevirtual 30, 4, 46, 0), (4, .iload_n 1, 5, 0, 0), (5, .invokestatic 26, 8, 6, 1), (8, .ifCond .eq 23, 11, 31, 0), (11, .iload_n 2, 12, 0, 0), (12, .ifCond .lt 19, 15, 31, 0), (15, .iload_n 2, 16, 0, 0)]), (28, [(16, .iconst 4, 17, 0, 0), (17, .if_icmp .ge 14, 20, 31, 0), (20, .aload_n 0, 21, 0, 0), (21, .getfield 9, 24, 1, 0), (24, .iload_n 1, 25, 0, 0), (25, .iconst 4, 26, 0, 0), (26, .imul, 27, 0, 0), (27, .iload_n 2, 28, 0, 0)]), (32, [(28, .iadd, 29, 0, 0), (29, .iload_n 3, 30, 0, 0), (30, .iastore, 31, 0, 0), (31, .return_, 32, 0, 0)])]
def mr_48 : mRec := (mc_48, ⟨"ClusterVolume$Disk", "writeCell", "(III)V"⟩, prog_2_method_5_code, 4, none, [], 7, 120, 1)
def mc_49_0 : List (Nat × List (Nat × mI)) := [(12, [(0, .aload_n 0, 1, 0, 0), (1, .invokespecial 1, 4, 999, 0), (4, .aload_n 0, 5, 0, 0), (5, .bipush 32, 7, 0, 0), (7, .newarray .int, 9, 0, 0), (9, .dup, 10, 0, 0), (10, .iconst 0, 11, 0, 0), (11, .iconst (-1), 12, 0, 0)]), (22, [(12, .iastore, 13, 0, 0), (13, .dup, 14, 0, 0), (14, .iconst 1, 15, 0, 0), (15, .bipush (-2), 17, 0, 0), (17, .iastore, 18, 0, 0), (18, .dup, 19, 0, 0), (19, .iconst 2, 20, 0, 0), (20, .bipush (-2), 22, 0, 0)]), (32, [(22, .iastore, 23, 0, 0), (23, .dup, 24, 0, 0), (24, .iconst 3, 25, 0, 0), (25, .bipush (-2), 27, 0, 0), (27, .iastore, 28, 0, 0), (28, .dup, 29, 0, 0), (29, .iconst 4, 30, 0, 0), (30, .bipush (-2), 32, 0, 0)]), (43, [(32, .iastore, 33, 0, 0), (33, .dup, 34, 0, 0), (34, .iconst 5, 35, 0, 0), (35, .bipush (-2), 37, 0, 0), (37, .iastore, 38, 0, 0), (38, .dup, 39, 0, 0), (39, .bipush 6, 41, 0, 0), (41, .bipush (-2), 43, 0, 0)]), (55, [(43, .iastore, 44, 0, 0), (44, .dup, 45, 0, 0), (45, .bipush 7, 47, 0, 0), (47, .bipush (-2), 49, 0, 0), (49, .iastore, 50, 0, 0), (50, .dup, 51, 0, 0), (51, .bipush 8, 53, 0, 0), (53, .bipush (-2), 55, 0, 0)]), (67, [(55, .iastore, 56, 0, 0), (56, .dup, 57, 0, 0), (57, .bipush 9, 59, 0, 0), (59, .bipush (-2), 61, 0, 0), (61, .iastore, 62, 0, 0), (62, .dup, 63, 0, 0), (63, .bipush 10, 65, 0, 0), (65, .bipush (-2), 67, 0, 0)])]
def mc_49_1 : List (Nat × List (Nat × mI)) := [(79, [(67, .iastore, 68, 0, 0), (68, .dup, 69, 0, 0), (69, .bipush 11, 71, 0, 0), (71, .bipush (-2), 73, 0, 0), (73, .iastore, 74, 0, 0), (74, .dup, 75, 0, 0), (75, .bipush 12, 77, 0, 0), (77, .bipush (-2), 79, 0, 0)]), (91, [(79, .iastore, 80, 0, 0), (80, .dup, 81, 0, 0), (81, .bipush 13, 83, 0, 0), (83, .bipush (-2), 85, 0, 0), (85, .iastore, 86, 0, 0), (86, .dup, 87, 0, 0), (87, .bipush 14, 89, 0, 0), (89, .bipush (-2), 91, 0, 0)]), (103, [(91, .iastore, 92, 0, 0), (92, .dup, 93, 0, 0), (93, .bipush 15, 95, 0, 0), (95, .bipush (-2), 97, 0, 0), (97, .iastore, 98, 0, 0), (98, .dup, 99, 0, 0), (99, .bipush 16, 101, 0, 0), (101, .bipush (-2), 103, 0, 0)]), (115, [(103, .iastore, 104, 0, 0), (104, .dup, 105, 0, 0), (105, .bipush 17, 107, 0, 0), (107, .bipush (-2), 109, 0, 0), (109, .iastore, 110, 0, 0), (110, .dup, 111, 0, 0), (111, .bipush 18, 113, 0, 0), (113, .bipush (-2), 115, 0, 0)]), (127, [(115, .iastore, 116, 0, 0), (116, .dup, 117, 0, 0), (117, .bipush 19, 119, 0, 0), (119, .bipush (-2), 121, 0, 0), (121, .iastore, 122, 0, 0), (122, .dup, 123, 0, 0), (123, .bipush 20, 125, 0, 0), (125, .bipush (-2), 127, 0, 0)]), (139, [(127, .iastore, 128, 0, 0), (128, .dup, 129, 0, 0), (129, .bipush 21, 131, 0, 0), (131, .bipush (-2), 133, 0, 0), (133, .iastore, 134, 0, 0), (134, .dup, 135, 0, 0), (135, .bipush 22, 137, 0, 0), (137, .bipush (-2), 139, 0, 0)])]
def mc_49_2 : List (Nat × List (Nat × mI)) := [(151, [(139, .iastore, 140, 0, 0), (140, .dup, 141, 0, 0), (141, .bipush 23, 143, 0, 0), (143, .bipush (-2), 145, 0, 0), (145, .iastore, 146, 0, 0), (146, .dup, 147, 0, 0), (147, .bipush 24, 149, 0, 0), (149, .bipush (-2), 151, 0, 0)]), (163, [(151, .iastore, 152, 0, 0), (152, .dup, 153, 0, 0), (153, .bipush 25, 155, 0, 0), (155, .bipush (-2), 157, 0, 0), (157, .iastore, 158, 0, 0), (158, .dup, 159, 0, 0), (159, .bipush 26, 161, 0, 0), (161, .bipush (-2), 163, 0, 0)]), (175, [(163, .iastore, 164, 0, 0), (164, .dup, 165, 0, 0), (165, .bipush 27, 167, 0, 0), (167, .bipush (-2), 169, 0, 0), (169, .iastore, 170, 0, 0), (170, .dup, 171, 0, 0), (171, .bipush 28, 173, 0, 0), (173, .bipush (-2), 175, 0, 0)]), (187, [(175, .iastore, 176, 0, 0), (176, .dup, 177, 0, 0), (177, .bipush 29, 179, 0, 0), (179, .bipush (-2), 181, 0, 0), (181, .iastore, 182, 0, 0), (182, .dup, 183, 0, 0), (183, .bipush 30, 185, 0, 0), (185, .bipush (-2), 187, 0, 0)]), (201, [(187, .iastore, 188, 0, 0), (188, .dup, 189, 0, 0), (189, .bipush 31, 191, 0, 0), (191, .bipush (-2), 193, 0, 0), (193, .iastore, 194, 0, 0), (194, .putfield 7, 197, 2, 1), (197, .aload_n 0, 198, 0, 0), (198, .sipush 128, 201, 0, 0)]), (216, [(201, .newarray .int, 203, 0, 0), (203, .putfield 13, 206, 2, 2), (206, .aload_n 0, 207, 0, 0), (207, .iconst (-1), 208, 0, 0), (208, .putfield 16, 211, 2, 4), (211, .aload_n 0, 212, 0, 0), (212, .bipush 32, 214, 0, 0), (214, .newarray .boolean, 216, 0, 0)])]
def mc_49_3 : List (Nat × List (Nat × mI)) := [(220, [(216, .putfield 20, 219, 2, 5), (219, .return_, 220, 0, 0)])]
def mc_49 : List (Nat × List (Nat × mI)) := mc_49_0 ++ (mc_49_1 ++ (mc_49_2 ++ (mc_49_3)))
def mr_49 : mRec := (mc_49, ⟨"ClusterVolumeModel", "<init>", "()V"⟩, prog_4_method_1_code, 1, none, [], 1, 20, 2)
def mc_50 : List (Nat × List (Nat × mI)) := [(5, [(0, .aload_n 0, 1, 0, 0), (1, .getfield 24, 4, 2, 0), (4, .ireturn, 5, 0, 0)])]
def mr_50 : mRec := (mc_50, ⟨"ClusterVolumeModel", "thrown", "()I"⟩, prog_4_method_2_code, 1, (some .int), [], 1, 20, 2)
def mc_51_0 : List (Nat × List (Nat × mI)) := [(16, [(0, .aload_n 0, 1, 0, 0), (1, .aload_n 0, 2, 0, 0), (2, .getfield 27, 5, 2, 3), (5, .ifCond .eq 7, 8, 12, 0), (8, .iconst 1, 9, 0, 0), (9, .goto 50, 12, 59, 0), (12, .iload_n 1, 13, 0, 0), (13, .invokestatic 61, 16, 52, 1)]), (32, [(16, .ifCond .ne 7, 19, 23, 0), (19, .iconst 2, 20, 0, 0), (20, .goto 39, 23, 59, 0), (23, .aload_n 0, 24, 0, 0), (24, .iload_n 1, 25, 0, 0), (25, .invokevirtual 58, 28, 54, 1), (28, .ifCond .ne 7, 31, 35, 0), (31, .iconst 3, 32, 0, 0)]), (47, [(32, .goto 27, 35, 59, 0), (35, .iload_n 1, 36, 0, 0), (36, .ifCond .eq 18, 39, 54, 0), (39, .aload_n 0, 40, 0, 0), (40, .aload_n 0, 41, 0, 0), (41, .getfield 44, 44, 2, 6), (44, .iload_n 1, 45, 0, 0), (45, .bipush 15, 47, 0, 0)]), (63, [(47, .iand, 48, 0, 0), (48, .invokevirtual 50, 51, 55, 2), (51, .ifCond .lt 7, 54, 58, 0), (54, .iconst 4, 55, 0, 0), (55, .goto 4, 58, 59, 0), (58, .iconst 0, 59, 0, 0), (59, .putfield 24, 62, 2, 0), (62, .aload_n 0, 63, 0, 0)]), (79, [(63, .getfield 24, 66, 2, 0), (66, .ifCond .le 5, 69, 71, 0), (69, .iconst 0, 70, 0, 0), (70, .ireturn, 71, 0, 0), (71, .iload_n 2, 72, 0, 0), (72, .ifCond .eq 7, 75, 79, 0), (75, .iconst 2, 76, 0, 0), (76, .goto 4, 79, 80, 0)]), (92, [(79, .iconst 1, 80, 0, 0), (80, .istore_n 3, 81, 0, 0), (81, .aload_n 0, 82, 0, 0), (82, .aload_n 0, 83, 0, 0), (83, .getfield 44, 86, 2, 6), (86, .iconst 0, 87, 0, 0), (87, .invokevirtual 50, 90, 55, 2), (90, .istore 4, 92, 0, 0)])]
def mc_51_1 : List (Nat × List (Nat × mI)) := [(110, [(92, .iload 4, 94, 0, 0), (94, .ifCond .lt 8, 97, 102, 0), (97, .iload 4, 99, 0, 0), (99, .goto 7, 102, 106, 0), (102, .aload_n 0, 103, 0, 0), (103, .invokevirtual 71, 106, 57, 0), (106, .istore 5, 108, 0, 0), (108, .iload 5, 110, 0, 0)]), (123, [(110, .ifCond .ge 10, 113, 120, 0), (113, .aload_n 0, 114, 0, 0), (114, .iconst 5, 115, 0, 0), (115, .putfield 24, 118, 2, 0), (118, .iconst 0, 119, 0, 0), (119, .ireturn, 120, 0, 0), (120, .aload_n 0, 121, 0, 0), (121, .iload 5, 123, 0, 0)]), (135, [(123, .iload_n 1, 124, 0, 0), (124, .bipush 15, 126, 0, 0), (126, .iand, 127, 0, 0), (127, .iload_n 3, 128, 0, 0), (128, .iconst (-1), 129, 0, 0), (129, .iconst 0, 130, 0, 0), (130, .invokevirtual 35, 133, 58, 5), (133, .iload 4, 135, 0, 0)]), (152, [(135, .ifCond .ge 49, 138, 184, 0), (138, .aload_n 0, 139, 0, 0), (139, .iload 5, 141, 0, 0), (141, .iconst (-1), 142, 0, 0), (142, .invokevirtual 75, 145, 60, 2), (145, .aload_n 0, 146, 0, 0), (146, .getfield 44, 149, 2, 6), (149, .ifCond .lt 24, 152, 173, 0)]), (167, [(152, .aload_n 0, 153, 0, 0), (153, .aload_n 0, 154, 0, 0), (154, .getfield 44, 157, 2, 6), (157, .invokevirtual 79, 160, 61, 1), (160, .istore 6, 162, 0, 0), (162, .aload_n 0, 163, 0, 0), (163, .iload 6, 165, 0, 0), (165, .iload 5, 167, 0, 0)]), (184, [(167, .invokevirtual 75, 170, 60, 2), (170, .goto 14, 173, 184, 0), (173, .aload_n 0, 174, 0, 0), (174, .aload_n 0, 175, 0, 0), (175, .getfield 47, 178, 2, 7), (178, .iload 5, 180, 0, 0), (180, .iconst 0, 181, 0, 0), (181, .invokevirtual 82, 184, 62, 3)])]
def mc_51_2 : List (Nat × List (Nat × mI)) := [(200, [(184, .aload_n 0, 185, 0, 0), (185, .aload_n 0, 186, 0, 0), (186, .getfield 27, 189, 2, 3), (189, .ifCond .eq 7, 192, 196, 0), (192, .iconst 1, 193, 0, 0), (193, .goto 4, 196, 197, 0), (196, .iconst 0, 197, 0, 0), (197, .putfield 24, 200, 2, 0)]), (214, [(200, .aload_n 0, 201, 0, 0), (201, .getfield 27, 204, 2, 3), (204, .ifCond .eq 7, 207, 211, 0), (207, .iconst 0, 208, 0, 0), (208, .goto 5, 211, 213, 0), (211, .iload 5, 213, 0, 0), (213, .ireturn, 214, 0, 0)])]
def mc_51 : List (Nat × List (Nat × mI)) := mc_51_0 ++ (mc_51_1 ++ (mc_51_2))
def mr_51 : mRec := (mc_51, ⟨"ClusterVolumeModel", "make", "(IZ)I"⟩, prog_4_method_19_code, 7, (some .int), [], 4, 88, 2)
def mc_52 : List (Nat × List (Nat × mI)) := [(11, [(0, .iload_n 0, 1, 0, 0), (1, .iconst 0, 2, 0, 0), (2, .ldc 39, 4, 65535, 0), (4, .invokestatic 40, 7, 53, 3), (7, .istore_n 1, 8, 0, 0), (8, .iload_n 0, 9, 0, 0), (9, .istore_n 2, 10, 0, 0), (10, .iload_n 2, 11, 0, 0)]), (26, [(11, .ifCond .le 27, 14, 38, 0), (14, .iload_n 1, 15, 0, 0), (15, .ifCond .eq 23, 18, 38, 0), (18, .iload_n 2, 19, 0, 0), (19, .bipush 15, 21, 0, 0), (21, .iand, 22, 0, 0), (22, .ifCond .eq 7, 25, 29, 0), (25, .iconst 1, 26, 0, 0)]), (38, [(26, .goto 4, 29, 30, 0), (29, .iconst 0, 30, 0, 0), (30, .istore_n 1, 31, 0, 0), (31, .iload_n 2, 32, 0, 0), (32, .iconst 4, 33, 0, 0), (33, .ishr, 34, 0, 0), (34, .istore_n 2, 35, 0, 0), (35, .goto (-25), 38, 10, 0)]), (40, [(38, .iload_n 1, 39, 0, 0), (39, .ireturn, 40, 0, 0)])]
def mr_52 : mRec := (mc_52, ⟨"ClusterVolumeModel", "isPath", "(I)Z"⟩, prog_4_method_13_code, 3, (some .boolean), [], 2, 42, 2)
def mc_53 : List (Nat × List (Nat × mI)) := [(14, [(0, .iload_n 0, 1, 0, 0), (1, .iload_n 1, 2, 0, 0), (2, .if_icmp .lt 12, 5, 14, 0), (5, .iload_n 0, 6, 0, 0), (6, .iload_n 2, 7, 0, 0), (7, .if_icmp .gt 7, 10, 14, 0), (10, .iconst 1, 11, 0, 0), (11, .goto 4, 14, 15, 0)]), (16, [(14, .iconst 0, 15, 0, 0), (15, .ireturn, 16, 0, 0)])]
def mr_53 : mRec := (mc_53, ⟨"ClusterVolumeModel", "within", "(III)Z"⟩, prog_4_method_3_code, 3, (some .boolean), [], 1, 20, 2)
def mc_54 : List (Nat × List (Nat × mI)) := [(12, [(0, .aload_n 0, 1, 0, 0), (1, .iconst 0, 2, 0, 0), (2, .putfield 44, 5, 2, 6), (5, .aload_n 0, 6, 0, 0), (6, .iconst (-1), 7, 0, 0), (7, .putfield 47, 10, 2, 7), (10, .iconst 1, 11, 0, 0), (11, .istore_n 2, 12, 0, 0)]), (25, [(12, .bipush 12, 14, 0, 0), (14, .istore_n 3, 15, 0, 0), (15, .iload_n 3, 16, 0, 0), (16, .ifCond .le 87, 19, 103, 0), (19, .iload_n 2, 20, 0, 0), (20, .ifCond .eq 83, 23, 103, 0), (23, .iload_n 1, 24, 0, 0), (24, .iload_n 3, 25, 0, 0)]), (38, [(25, .ishr, 26, 0, 0), (26, .bipush 15, 28, 0, 0), (28, .iand, 29, 0, 0), (29, .istore 4, 31, 0, 0), (31, .iload 4, 33, 0, 0), (33, .ifCond .le 64, 36, 97, 0), (36, .aload_n 0, 37, 0, 0), (37, .aload_n 0, 38, 0, 0)]), (56, [(38, .getfield 44, 41, 2, 6), (41, .iload 4, 43, 0, 0), (43, .invokevirtual 50, 46, 55, 2), (46, .istore 5, 48, 0, 0), (48, .iload 5, 50, 0, 0), (50, .ifCond .lt 16, 53, 66, 0), (53, .aload_n 0, 54, 0, 0), (54, .iload 5, 56, 0, 0)]), (71, [(56, .invokevirtual 54, 59, 56, 1), (59, .ifCond .eq 7, 62, 66, 0), (62, .iconst 1, 63, 0, 0), (63, .goto 4, 66, 67, 0), (66, .iconst 0, 67, 0, 0), (67, .istore_n 2, 68, 0, 0), (68, .aload_n 0, 69, 0, 0), (69, .iload 5, 71, 0, 0)]), (86, [(71, .putfield 47, 74, 2, 7), (74, .aload_n 0, 75, 0, 0), (75, .iload_n 2, 76, 0, 0), (76, .ifCond .eq 17, 79, 93, 0), (79, .aload_n 0, 80, 0, 0), (80, .getfield 13, 83, 2, 2), (83, .iconst 4, 84, 0, 0), (84, .iload 5, 86, 0, 0)]), (100, [(86, .imul, 87, 0, 0), (87, .iconst 2, 88, 0, 0), (88, .iadd, 89, 0, 0), (89, .iaload, 90, 0, 0), (90, .goto 4, 93, 94, 0), (93, .iconst 0, 94, 0, 0), (94, .putfield 44, 97, 2, 6), (97, .iinc 3 (-4), 100, 0, 0)]), (105, [(100, .goto (-85), 103, 15, 0), (103, .iload_n 2, 104, 0, 0), (104, .ireturn, 105, 0, 0)])]
def mr_54 : mRec := (mc_54, ⟨"ClusterVolumeModel", "goHome", "(I)Z"⟩, prog_4_method_15_code, 6, (some .boolean), [], 2, 43, 2)
def mc_55 : List (Nat × List (Nat × mI)) := [(12, [(0, .iload_n 1, 1, 0, 0), (1, .istore_n 3, 2, 0, 0), (2, .iload_n 3, 3, 0, 0), (3, .ifCond .lt 25, 6, 28, 0), (6, .aload_n 0, 7, 0, 0), (7, .getfield 13, 10, 2, 2), (10, .iconst 4, 11, 0, 0), (11, .iload_n 3, 12, 0, 0)]), (24, [(12, .imul, 13, 0, 0), (13, .iaload, 14, 0, 0), (14, .iload_n 2, 15, 0, 0), (15, .if_icmp .eq 13, 18, 28, 0), (18, .aload_n 0, 19, 0, 0), (19, .getfield 7, 22, 2, 1), (22, .iload_n 3, 23, 0, 0), (23, .iaload, 24, 0, 0)]), (38, [(24, .istore_n 3, 25, 0, 0), (25, .goto (-23), 28, 2, 0), (28, .iload_n 3, 29, 0, 0), (29, .ifCond .ge 7, 32, 36, 0), (32, .iconst (-1), 33, 0, 0), (33, .goto 4, 36, 37, 0), (36, .iload_n 3, 37, 0, 0), (37, .ireturn, 38, 0, 0)])]
def mr_55 : mRec := (mc_55, ⟨"ClusterVolumeModel", "entryIn", "(II)I"⟩, prog_4_method_12_code, 4, (some .int), [], 1, 20, 2)
def mc_56 : List (Nat × List (Nat × mI)) := [(12, [(0, .iload_n 1, 1, 0, 0), (1, .iconst (-1), 2, 0, 0), (2, .if_icmp .eq 17, 5, 19, 0), (5, .aload_n 0, 6, 0, 0), (6, .getfield 13, 9, 2, 2), (9, .iconst 4, 10, 0, 0), (10, .iload_n 1, 11, 0, 0), (11, .imul, 12, 0, 0)]), (24, [(12, .iconst 1, 13, 0, 0), (13, .iadd, 14, 0, 0), (14, .iaload, 15, 0, 0), (15, .iconst 2, 16, 0, 0), (16, .if_icmp .ne 7, 19, 23, 0), (19, .iconst 1, 20, 0, 0), (20, .goto 4, 23, 24, 0), (23, .iconst 0, 24, 0, 0)]), (25, [(24, .ireturn, 25, 0, 0)])]
def mr_56 : mRec := (mc_56, ⟨"ClusterVolumeModel", "isDirectory", "(I)Z"⟩, prog_4_method_14_code, 2, (some .boolean), [], 1, 20, 2)
def mc_57 : List (Nat × List (Nat × mI)) := [(13, [(0, .iconst 0, 1, 0, 0), (1, .istore_n 1, 2, 0, 0), (2, .iload_n 1, 3, 0, 0), (3, .bipush 32, 5, 0, 0), (5, .if_icmp .ge 20, 8, 25, 0), (8, .aload_n 0, 9, 0, 0), (9, .getfield 7, 12, 2, 1), (12, .iload_n 1, 13, 0, 0)]), (31, [(13, .iaload, 14, 0, 0), (14, .bipush (-2), 16, 0, 0), (16, .if_icmp .eq 9, 19, 25, 0), (19, .iinc 1 1, 22, 0, 0), (22, .goto (-20), 25, 2, 0), (25, .iload_n 1, 26, 0, 0), (26, .bipush 32, 28, 0, 0), (28, .if_icmp .ne 7, 31, 35, 0)]), (37, [(31, .iconst (-1), 32, 0, 0), (32, .goto 4, 35, 36, 0), (35, .iload_n 1, 36, 0, 0), (36, .ireturn, 37, 0, 0)])]
def mr_57 : mRec := (mc_57, ⟨"ClusterVolumeModel", "taken", "()I"⟩, prog_4_method_9_code, 2, (some .int), [], 1, 20, 2)
def mc_58 : List (Nat × List (Nat × mI)) := [(14, [(0, .aload_n 0, 1, 0, 0), (1, .invokevirtual 31, 4, 59, 0), (4, .ifCond .eq 47, 7, 51, 0), (7, .aload_n 0, 8, 0, 0), (8, .getfield 13, 11, 2, 2), (11, .iconst 4, 12, 0, 0), (12, .iload_n 1, 13, 0, 0), (13, .imul, 14, 0, 0)]), (24, [(14, .iload_n 2, 15, 0, 0), (15, .iastore, 16, 0, 0), (16, .aload_n 0, 17, 0, 0), (17, .getfield 13, 20, 2, 2), (20, .iconst 4, 21, 0, 0), (21, .iload_n 1, 22, 0, 0), (22, .imul, 23, 0, 0), (23, .iconst 1, 24, 0, 0)]), (34, [(24, .iadd, 25, 0, 0), (25, .iload_n 3, 26, 0, 0), (26, .iastore, 27, 0, 0), (27, .aload_n 0, 28, 0, 0), (28, .getfield 13, 31, 2, 2), (31, .iconst 4, 32, 0, 0), (32, .iload_n 1, 33, 0, 0), (33, .imul, 34, 0, 0)]), (45, [(34, .iconst 2, 35, 0, 0), (35, .iadd, 36, 0, 0), (36, .iload 4, 38, 0, 0), (38, .iastore, 39, 0, 0), (39, .aload_n 0, 40, 0, 0), (40, .getfield 13, 43, 2, 2), (43, .iconst 4, 44, 0, 0), (44, .iload_n 1, 45, 0, 0)]), (52, [(45, .imul, 46, 0, 0), (46, .iconst 3, 47, 0, 0), (47, .iadd, 48, 0, 0), (48, .iload 5, 50, 0, 0), (50, .iastore, 51, 0, 0), (51, .return_, 52, 0, 0)])]
def mr_58 : mRec := (mc_58, ⟨"ClusterVolumeModel", "writeCluster", "(IIIII)V"⟩, prog_4_method_6_code, 6, none, [], 2, 40, 2)
def mc_59 : List (Nat × List (Nat × mI)) := [(16, [(0, .aload_n 0, 1, 0, 0), (1, .getfield 27, 4, 2, 3), (4, .ifCond .eq 5, 7, 9, 0), (7, .iconst 0, 8, 0, 0), (8, .ireturn, 9, 0, 0), (9, .aload_n 0, 10, 0, 0), (10, .getfield 16, 13, 2, 4), (13, .ifCond .ne 10, 16, 23, 0)]), (28, [(16, .aload_n 0, 17, 0, 0), (17, .iconst 1, 18, 0, 0), (18, .putfield 27, 21, 2, 3), (21, .iconst 0, 22, 0, 0), (22, .ireturn, 23, 0, 0), (23, .aload_n 0, 24, 0, 0), (24, .aload_n 0, 25, 0, 0), (25, .getfield 16, 28, 2, 4)]), (44, [(28, .ifCond .le 12, 31, 40, 0), (31, .aload_n 0, 32, 0, 0), (32, .getfield 16, 35, 2, 4), (35, .iconst 1, 36, 0, 0), (36, .isub, 37, 0, 0), (37, .goto 7, 40, 44, 0), (40, .aload_n 0, 41, 0, 0), (41, .getfield 16, 44, 2, 4)]), (49, [(44, .putfield 16, 47, 2, 4), (47, .iconst 1, 48, 0, 0), (48, .ireturn, 49, 0, 0)])]
def mr_59 : mRec := (mc_59, ⟨"ClusterVolumeModel", "writes", "()Z"⟩, prog_4_method_4_code, 1, (some .boolean), [], 1, 20, 2)
def mc_60 : List (Nat × List (Nat × mI)) := [(14, [(0, .aload_n 0, 1, 0, 0), (1, .invokevirtual 31, 4, 59, 0), (4, .ifCond .eq 10, 7, 14, 0), (7, .aload_n 0, 8, 0, 0), (8, .getfield 7, 11, 2, 1), (11, .iload_n 1, 12, 0, 0), (12, .iload_n 2, 13, 0, 0), (13, .iastore, 14, 0, 0)]), (15, [(14, .return_, 15, 0, 0)])]
def mr_60 : mRec := (mc_60, ⟨"ClusterVolumeModel", "writeTable", "(II)V"⟩, prog_4_method_5_code, 3, none, [], 2, 40, 2)
def mc_61 : List (Nat × List (Nat × mI)) := [(12, [(0, .iload_n 1, 1, 0, 0), (1, .istore_n 2, 2, 0, 0), (2, .iload_n 2, 3, 0, 0), (3, .ifCond .lt 22, 6, 25, 0), (6, .aload_n 0, 7, 0, 0), (7, .getfield 7, 10, 2, 1), (10, .iload_n 2, 11, 0, 0), (11, .iaload, 12, 0, 0)]), (26, [(12, .ifCond .lt 13, 15, 25, 0), (15, .aload_n 0, 16, 0, 0), (16, .getfield 7, 19, 2, 1), (19, .iload_n 2, 20, 0, 0), (20, .iaload, 21, 0, 0), (21, .istore_n 2, 22, 0, 0), (22, .goto (-20), 25, 2, 0), (25, .iload_n 2, 26, 0, 0)]), (27, [(26, .ireturn, 27, 0, 0)])]
def mr_61 : mRec := (mc_61, ⟨"ClusterVolumeModel", "lastOf", "(I)I"⟩, prog_4_method_10_code, 3, (some .int), [], 1, 20, 2)
def mc_62 : List (Nat × List (Nat × mI)) := [(10, [(0, .aload_n 0, 1, 0, 0), (1, .iload_n 1, 2, 0, 0), (2, .aload_n 0, 3, 0, 0), (3, .getfield 13, 6, 2, 2), (6, .iconst 4, 7, 0, 0), (7, .iload_n 1, 8, 0, 0), (8, .imul, 9, 0, 0), (9, .iaload, 10, 0, 0)]), (20, [(10, .aload_n 0, 11, 0, 0), (11, .getfield 13, 14, 2, 2), (14, .iconst 4, 15, 0, 0), (15, .iload_n 1, 16, 0, 0), (16, .imul, 17, 0, 0), (17, .iconst 1, 18, 0, 0), (18, .iadd, 19, 0, 0), (19, .iaload, 20, 0, 0)]), (26, [(20, .iload_n 2, 21, 0, 0), (21, .iload_n 3, 22, 0, 0), (22, .invokevirtual 35, 25, 58, 5), (25, .return_, 26, 0, 0)])]
def mr_62 : mRec := (mc_62, ⟨"ClusterVolumeModel", "writeEntry", "(III)V"⟩, prog_4_method_7_code, 4, none, [], 3, 65, 2)
def mc_63 : List (Nat × List (Nat × mI)) := [(16, [(0, .aload_n 0, 1, 0, 0), (1, .aload_n 0, 2, 0, 0), (2, .iload_n 1, 3, 0, 0), (3, .invokevirtual 68, 6, 64, 1), (6, .putfield 24, 9, 2, 0), (9, .aload_n 0, 10, 0, 0), (10, .getfield 24, 13, 2, 0), (13, .ifCond .le 5, 16, 18, 0)]), (28, [(16, .iconst 0, 17, 0, 0), (17, .ireturn, 18, 0, 0), (18, .iload_n 1, 19, 0, 0), (19, .ifCond .ne 7, 22, 26, 0), (22, .iconst (-1), 23, 0, 0), (23, .goto 8, 26, 31, 0), (26, .aload_n 0, 27, 0, 0), (27, .iload_n 1, 28, 0, 0)]), (42, [(28, .invokevirtual 64, 31, 65, 1), (31, .istore_n 2, 32, 0, 0), (32, .aload_n 0, 33, 0, 0), (33, .iload_n 1, 34, 0, 0), (34, .ifCond .eq 28, 37, 62, 0), (37, .aload_n 0, 38, 0, 0), (38, .iload_n 2, 39, 0, 0), (39, .invokevirtual 54, 42, 56, 1)]), (54, [(42, .ifCond .eq 24, 45, 66, 0), (45, .aload_n 0, 46, 0, 0), (46, .aload_n 0, 47, 0, 0), (47, .getfield 13, 50, 2, 2), (50, .iconst 4, 51, 0, 0), (51, .iload_n 2, 52, 0, 0), (52, .imul, 53, 0, 0), (53, .iconst 2, 54, 0, 0)]), (70, [(54, .iadd, 55, 0, 0), (55, .iaload, 56, 0, 0), (56, .invokevirtual 89, 59, 66, 1), (59, .ifCond .le 7, 62, 66, 0), (62, .iconst 4, 63, 0, 0), (63, .goto 4, 66, 67, 0), (66, .iconst 0, 67, 0, 0), (67, .putfield 24, 70, 2, 0)]), (84, [(70, .aload_n 0, 71, 0, 0), (71, .getfield 24, 74, 2, 0), (74, .ifCond .le 5, 77, 79, 0), (77, .iconst 0, 78, 0, 0), (78, .ireturn, 79, 0, 0), (79, .aload_n 0, 80, 0, 0), (80, .getfield 13, 83, 2, 2), (83, .iconst 4, 84, 0, 0)]), (92, [(84, .iload_n 2, 85, 0, 0), (85, .imul, 86, 0, 0), (86, .iconst 2, 87, 0, 0), (87, .iadd, 88, 0, 0), (88, .iaload, 89, 0, 0), (89, .istore_n 3, 90, 0, 0), (90, .aload_n 0, 91, 0, 0), (91, .iload_n 2, 92, 0, 0)]), (104, [(92, .iconst 0, 93, 0, 0), (93, .iconst 0, 94, 0, 0), (94, .iconst 0, 95, 0, 0), (95, .iconst 0, 96, 0, 0), (96, .invokevirtual 35, 99, 58, 5), (99, .aload_n 0, 100, 0, 0), (100, .iload_n 3, 101, 0, 0), (101, .invokevirtual 92, 104, 67, 1)]), (120, [(104, .aload_n 0, 105, 0, 0), (105, .aload_n 0, 106, 0, 0), (106, .getfield 27, 109, 2, 3), (109, .ifCond .eq 7, 112, 116, 0), (112, .iconst 1, 113, 0, 0), (113, .goto 4, 116, 117, 0), (116, .iconst 0, 117, 0, 0), (117, .putfield 24, 120, 2, 0)]), (136, [(120, .aload_n 0, 121, 0, 0), (121, .getfield 27, 124, 2, 3), (124, .ifCond .eq 7, 127, 131, 0), (127, .iconst 0, 128, 0, 0), (128, .goto 7, 131, 135, 0), (131, .aload_n 0, 132, 0, 0), (132, .getfield 86, 135, 2, 8), (135, .ireturn, 136, 0, 0)])]
def mr_63 : mRec := (mc_63, ⟨"ClusterVolumeModel", "remove", "(I)I"⟩, prog_4_method_22_code, 4, (some .int), [], 5, 110, 2)
def mc_64 : List (Nat × List (Nat × mI)) := [(18, [(0, .aload_n 0, 1, 0, 0), (1, .getfield 27, 4, 2, 3), (4, .ifCond .eq 7, 7, 11, 0), (7, .iconst 1, 8, 0, 0), (8, .goto 31, 11, 39, 0), (11, .iload_n 1, 12, 0, 0), (12, .invokestatic 61, 15, 52, 1), (15, .ifCond .ne 7, 18, 22, 0)]), (34, [(18, .iconst 2, 19, 0, 0), (19, .goto 20, 22, 39, 0), (22, .iload_n 1, 23, 0, 0), (23, .ifCond .eq 15, 26, 38, 0), (26, .aload_n 0, 27, 0, 0), (27, .iload_n 1, 28, 0, 0), (28, .invokevirtual 64, 31, 65, 1), (31, .ifCond .ge 7, 34, 38, 0)]), (40, [(34, .iconst 3, 35, 0, 0), (35, .goto 4, 38, 39, 0), (38, .iconst 0, 39, 0, 0), (39, .ireturn, 40, 0, 0)])]
def mr_64 : mRec := (mc_64, ⟨"ClusterVolumeModel", "lack", "(I)I"⟩, prog_4_method_17_code, 2, (some .int), [], 4, 89, 2)
def mc_65 : List (Nat × List (Nat × mI)) := [(14, [(0, .aload_n 0, 1, 0, 0), (1, .iload_n 1, 2, 0, 0), (2, .invokevirtual 58, 5, 54, 1), (5, .ifCond .eq 18, 8, 23, 0), (8, .aload_n 0, 9, 0, 0), (9, .aload_n 0, 10, 0, 0), (10, .getfield 44, 13, 2, 6), (13, .iload_n 1, 14, 0, 0)]), (25, [(14, .bipush 15, 16, 0, 0), (16, .iand, 17, 0, 0), (17, .invokevirtual 50, 20, 55, 2), (20, .goto 4, 23, 24, 0), (23, .iconst (-1), 24, 0, 0), (24, .ireturn, 25, 0, 0)])]
def mr_65 : mRec := (mc_65, ⟨"ClusterVolumeModel", "find", "(I)I"⟩, prog_4_method_16_code, 2, (some .int), [], 3, 68, 2)
def mc_66 : List (Nat × List (Nat × mI)) := [(12, [(0, .iconst 0, 1, 0, 0), (1, .istore_n 2, 2, 0, 0), (2, .iload_n 1, 3, 0, 0), (3, .istore_n 3, 4, 0, 0), (4, .iload_n 3, 5, 0, 0), (5, .ifCond .lt 41, 8, 46, 0), (8, .aload_n 0, 9, 0, 0), (9, .getfield 13, 12, 2, 2)]), (22, [(12, .iconst 4, 13, 0, 0), (13, .iload_n 3, 14, 0, 0), (14, .imul, 15, 0, 0), (15, .iaload, 16, 0, 0), (16, .ifCond .le 18, 19, 34, 0), (19, .iload_n 2, 20, 0, 0), (20, .iconst 1, 21, 0, 0), (21, .aload_n 0, 22, 0, 0)]), (34, [(22, .getfield 13, 25, 2, 2), (25, .iconst 4, 26, 0, 0), (26, .iload_n 3, 27, 0, 0), (27, .imul, 28, 0, 0), (28, .iaload, 29, 0, 0), (29, .ishl, 30, 0, 0), (30, .iadd, 31, 0, 0), (31, .goto 4, 34, 35, 0)]), (46, [(34, .iload_n 2, 35, 0, 0), (35, .istore_n 2, 36, 0, 0), (36, .aload_n 0, 37, 0, 0), (37, .getfield 7, 40, 2, 1), (40, .iload_n 3, 41, 0, 0), (41, .iaload, 42, 0, 0), (42, .istore_n 3, 43, 0, 0), (43, .goto (-39), 46, 4, 0)]), (48, [(46, .iload_n 2, 47, 0, 0), (47, .ireturn, 48, 0, 0)])]
def mr_66 : mRec := (mc_66, ⟨"ClusterVolumeModel", "namesIn", "(I)I"⟩, prog_4_method_21_code, 4, (some .int), [], 1, 20, 2)
def mc_67 : List (Nat × List (Nat × mI)) := [(12, [(0, .aload_n 0, 1, 0, 0), (1, .iconst 0, 2, 0, 0), (2, .putfield 86, 5, 2, 8), (5, .iload_n 1, 6, 0, 0), (6, .istore_n 2, 7, 0, 0), (7, .iload_n 2, 8, 0, 0), (8, .ifCond .lt 32, 11, 40, 0), (11, .aload_n 0, 12, 0, 0)]), (25, [(12, .getfield 7, 15, 2, 1), (15, .iload_n 2, 16, 0, 0), (16, .iaload, 17, 0, 0), (17, .istore_n 3, 18, 0, 0), (18, .aload_n 0, 19, 0, 0), (19, .iload_n 2, 20, 0, 0), (20, .bipush (-2), 22, 0, 0), (22, .invokevirtual 75, 25, 60, 2)]), (37, [(25, .aload_n 0, 26, 0, 0), (26, .dup, 27, 0, 0), (27, .getfield 86, 30, 2, 8), (30, .iconst 1, 31, 0, 0), (31, .iadd, 32, 0, 0), (32, .putfield 86, 35, 2, 8), (35, .iload_n 3, 36, 0, 0), (36, .istore_n 2, 37, 0, 0)]), (41, [(37, .goto (-30), 40, 7, 0), (40, .return_, 41, 0, 0)])]
def mr_67 : mRec := (mc_67, ⟨"ClusterVolumeModel", "release", "(I)V"⟩, prog_4_method_20_code, 4, none, [], 3, 62, 2)
def mc_68 : List (Nat × List (Nat × mI)) := [(16, [(0, .aload_n 0, 1, 0, 0), (1, .aload_n 0, 2, 0, 0), (2, .getfield 27, 5, 2, 3), (5, .ifCond .eq 7, 8, 12, 0), (8, .iconst 1, 9, 0, 0), (9, .goto 29, 12, 38, 0), (12, .iload_n 1, 13, 0, 0), (13, .invokestatic 61, 16, 52, 1)]), (33, [(16, .ifCond .eq 13, 19, 29, 0), (19, .iload_n 2, 20, 0, 0), (20, .iconst 1, 21, 0, 0), (21, .bipush 15, 23, 0, 0), (23, .invokestatic 40, 26, 53, 3), (26, .ifCond .ne 7, 29, 33, 0), (29, .iconst 2, 30, 0, 0), (30, .goto 8, 33, 38, 0)]), (49, [(33, .aload_n 0, 34, 0, 0), (34, .iload_n 1, 35, 0, 0), (35, .invokevirtual 68, 38, 64, 1), (38, .putfield 24, 41, 2, 0), (41, .aload_n 0, 42, 0, 0), (42, .getfield 24, 45, 2, 0), (45, .ifCond .le 5, 48, 50, 0), (48, .iconst 0, 49, 0, 0)]), (63, [(49, .ireturn, 50, 0, 0), (50, .iload_n 1, 51, 0, 0), (51, .ifCond .ne 7, 54, 58, 0), (54, .iconst (-1), 55, 0, 0), (55, .goto 8, 58, 63, 0), (58, .aload_n 0, 59, 0, 0), (59, .iload_n 1, 60, 0, 0), (60, .invokevirtual 64, 63, 65, 1)]), (75, [(63, .istore_n 3, 64, 0, 0), (64, .aload_n 0, 65, 0, 0), (65, .iload_n 1, 66, 0, 0), (66, .ifCond .eq 15, 69, 81, 0), (69, .aload_n 0, 70, 0, 0), (70, .aload_n 0, 71, 0, 0), (71, .getfield 44, 74, 2, 6), (74, .iload_n 2, 75, 0, 0)]), (93, [(75, .invokevirtual 50, 78, 55, 2), (78, .ifCond .lt 7, 81, 85, 0), (81, .iconst 4, 82, 0, 0), (82, .goto 4, 85, 86, 0), (85, .iconst 0, 86, 0, 0), (86, .putfield 24, 89, 2, 0), (89, .aload_n 0, 90, 0, 0), (90, .getfield 24, 93, 2, 0)]), (105, [(93, .ifCond .le 5, 96, 98, 0), (96, .iconst 0, 97, 0, 0), (97, .ireturn, 98, 0, 0), (98, .aload_n 0, 99, 0, 0), (99, .iload_n 3, 100, 0, 0), (100, .iconst 0, 101, 0, 0), (101, .iload_n 2, 102, 0, 0), (102, .invokevirtual 96, 105, 69, 3)]), (121, [(105, .aload_n 0, 106, 0, 0), (106, .aload_n 0, 107, 0, 0), (107, .getfield 27, 110, 2, 3), (110, .ifCond .eq 7, 113, 117, 0), (113, .iconst 1, 114, 0, 0), (114, .goto 4, 117, 118, 0), (117, .iconst 0, 118, 0, 0), (118, .putfield 24, 121, 2, 0)]), (136, [(121, .aload_n 0, 122, 0, 0), (122, .getfield 27, 125, 2, 3), (125, .ifCond .eq 7, 128, 132, 0), (128, .iconst 0, 129, 0, 0), (129, .goto 11, 132, 140, 0), (132, .iload_n 1, 133, 0, 0), (133, .iload_n 1, 134, 0, 0), (134, .bipush 15, 136, 0, 0)]), (141, [(136, .iand, 137, 0, 0), (137, .isub, 138, 0, 0), (138, .iload_n 2, 139, 0, 0), (139, .iadd, 140, 0, 0), (140, .ireturn, 141, 0, 0)])]
def mr_68 : mRec := (mc_68, ⟨"ClusterVolumeModel", "rename", "(II)I"⟩, prog_4_method_23_code, 4, (some .int), [], 5, 110, 2)
def mc_69 : List (Nat × List (Nat × mI)) := [(14, [(0, .aload_n 0, 1, 0, 0), (1, .invokevirtual 31, 4, 59, 0), (4, .ifCond .eq 14, 7, 18, 0), (7, .aload_n 0, 8, 0, 0), (8, .getfield 13, 11, 2, 2), (11, .iconst 4, 12, 0, 0), (12, .iload_n 1, 13, 0, 0), (13, .imul, 14, 0, 0)]), (19, [(14, .iload_n 2, 15, 0, 0), (15, .iadd, 16, 0, 0), (16, .iload_n 3, 17, 0, 0), (17, .iastore, 18, 0, 0), (18, .return_, 19, 0, 0)])]
def mr_69 : mRec := (mc_69, ⟨"ClusterVolumeModel", "writeCell", "(III)V"⟩, prog_4_method_8_code, 4, none, [], 2, 40, 2)
def mc_70_0 : List (Nat × List (Nat × mI)) := [(16, [(0, .aload_n 0, 1, 0, 0), (1, .aload_n 0, 2, 0, 0), (2, .iload_n 1, 3, 0, 0), (3, .invokevirtual 99, 6, 71, 1), (6, .putfield 24, 9, 2, 0), (9, .aload_n 0, 10, 0, 0), (10, .getfield 24, 13, 2, 0), (13, .ifCond .le 5, 16, 18, 0)]), (28, [(16, .iconst 0, 17, 0, 0), (17, .ireturn, 18, 0, 0), (18, .aload_n 0, 19, 0, 0), (19, .iload_n 1, 20, 0, 0), (20, .invokevirtual 64, 23, 65, 1), (23, .istore_n 3, 24, 0, 0), (24, .aload_n 0, 25, 0, 0), (25, .getfield 13, 28, 2, 2)]), (37, [(28, .iconst 4, 29, 0, 0), (29, .iload_n 3, 30, 0, 0), (30, .imul, 31, 0, 0), (31, .iconst 2, 32, 0, 0), (32, .iadd, 33, 0, 0), (33, .iaload, 34, 0, 0), (34, .istore 4, 36, 0, 0), (36, .aload_n 0, 37, 0, 0)]), (48, [(37, .getfield 13, 40, 2, 2), (40, .iconst 4, 41, 0, 0), (41, .iload_n 3, 42, 0, 0), (42, .imul, 43, 0, 0), (43, .iconst 3, 44, 0, 0), (44, .iadd, 45, 0, 0), (45, .iaload, 46, 0, 0), (46, .istore 5, 48, 0, 0)]), (63, [(48, .aload_n 0, 49, 0, 0), (49, .iload 4, 51, 0, 0), (51, .invokevirtual 79, 54, 61, 1), (54, .istore 6, 56, 0, 0), (56, .iload 5, 58, 0, 0), (58, .iconst 4, 59, 0, 0), (59, .irem, 60, 0, 0), (60, .ifCond .eq 28, 63, 88, 0)]), (75, [(63, .aload_n 0, 64, 0, 0), (64, .iload 6, 66, 0, 0), (66, .iload 5, 68, 0, 0), (68, .iconst 4, 69, 0, 0), (69, .irem, 70, 0, 0), (70, .iload_n 2, 71, 0, 0), (71, .invokevirtual 96, 74, 69, 3), (74, .aload_n 0, 75, 0, 0)])]
def mc_70_1 : List (Nat × List (Nat × mI)) := [(89, [(75, .iload_n 3, 76, 0, 0), (76, .iload 4, 78, 0, 0), (78, .iload 5, 80, 0, 0), (80, .iconst 1, 81, 0, 0), (81, .iadd, 82, 0, 0), (82, .invokevirtual 82, 85, 62, 3), (85, .goto 72, 88, 157, 0), (88, .aload_n 0, 89, 0, 0)]), (105, [(89, .invokevirtual 71, 92, 57, 0), (92, .istore 7, 94, 0, 0), (94, .iload 7, 96, 0, 0), (96, .ifCond .ge 10, 99, 106, 0), (99, .aload_n 0, 100, 0, 0), (100, .iconst 5, 101, 0, 0), (101, .putfield 24, 104, 2, 0), (104, .iconst 0, 105, 0, 0)]), (116, [(105, .ireturn, 106, 0, 0), (106, .aload_n 0, 107, 0, 0), (107, .iload 7, 109, 0, 0), (109, .iload_n 2, 110, 0, 0), (110, .iconst 0, 111, 0, 0), (111, .iconst 0, 112, 0, 0), (112, .iconst 0, 113, 0, 0), (113, .invokevirtual 35, 116, 58, 5)]), (131, [(116, .aload_n 0, 117, 0, 0), (117, .iload 7, 119, 0, 0), (119, .iconst (-1), 120, 0, 0), (120, .invokevirtual 75, 123, 60, 2), (123, .iload 5, 125, 0, 0), (125, .ifCond .eq 11, 128, 136, 0), (128, .aload_n 0, 129, 0, 0), (129, .iload 6, 131, 0, 0)]), (148, [(131, .iload 7, 133, 0, 0), (133, .invokevirtual 75, 136, 60, 2), (136, .aload_n 0, 137, 0, 0), (137, .iload_n 3, 138, 0, 0), (138, .iload 5, 140, 0, 0), (140, .ifCond .ne 8, 143, 148, 0), (143, .iload 7, 145, 0, 0), (145, .goto 5, 148, 150, 0)]), (162, [(148, .iload 4, 150, 0, 0), (150, .iload 5, 152, 0, 0), (152, .iconst 1, 153, 0, 0), (153, .iadd, 154, 0, 0), (154, .invokevirtual 82, 157, 62, 3), (157, .aload_n 0, 158, 0, 0), (158, .aload_n 0, 159, 0, 0), (159, .getfield 27, 162, 2, 3)])]
def mc_70_2 : List (Nat × List (Nat × mI)) := [(180, [(162, .ifCond .eq 7, 165, 169, 0), (165, .iconst 1, 166, 0, 0), (166, .goto 4, 169, 170, 0), (169, .iconst 0, 170, 0, 0), (170, .putfield 24, 173, 2, 0), (173, .aload_n 0, 174, 0, 0), (174, .getfield 27, 177, 2, 3), (177, .ifCond .eq 7, 180, 184, 0)]), (189, [(180, .iconst 0, 181, 0, 0), (181, .goto 7, 184, 188, 0), (184, .iload 5, 186, 0, 0), (186, .iconst 1, 187, 0, 0), (187, .iadd, 188, 0, 0), (188, .ireturn, 189, 0, 0)])]
def mc_70 : List (Nat × List (Nat × mI)) := mc_70_0 ++ (mc_70_1 ++ (mc_70_2))
def mr_70 : mRec := (mc_70, ⟨"ClusterVolumeModel", "append", "(II)I"⟩, prog_4_method_24_code, 8, (some .int), [], 6, 132, 2)
def mc_71 : List (Nat × List (Nat × mI)) := [(14, [(0, .aload_n 0, 1, 0, 0), (1, .iload_n 1, 2, 0, 0), (2, .invokevirtual 68, 5, 64, 1), (5, .istore_n 2, 6, 0, 0), (6, .iload_n 2, 7, 0, 0), (7, .ifCond .le 7, 10, 14, 0), (10, .iload_n 2, 11, 0, 0), (11, .goto 24, 14, 35, 0)]), (30, [(14, .iload_n 1, 15, 0, 0), (15, .ifCond .eq 15, 18, 30, 0), (18, .aload_n 0, 19, 0, 0), (19, .aload_n 0, 20, 0, 0), (20, .iload_n 1, 21, 0, 0), (21, .invokevirtual 64, 24, 65, 1), (24, .invokevirtual 54, 27, 56, 1), (27, .ifCond .eq 7, 30, 34, 0)]), (36, [(30, .iconst 4, 31, 0, 0), (31, .goto 4, 34, 35, 0), (34, .iconst 0, 35, 0, 0), (35, .ireturn, 36, 0, 0)])]
def mr_71 : mRec := (mc_71, ⟨"ClusterVolumeModel", "lackOfFile", "(I)I"⟩, prog_4_method_18_code, 3, (some .int), [], 5, 110, 2)
def mc_72 : List (Nat × List (Nat × mI)) := [(14, [(0, .aload_n 0, 1, 0, 0), (1, .aload_n 0, 2, 0, 0), (2, .iload_n 1, 3, 0, 0), (3, .iload_n 2, 4, 0, 0), (4, .invokevirtual 102, 7, 73, 2), (7, .putfield 24, 10, 2, 0), (10, .aload_n 0, 11, 0, 0), (11, .getfield 24, 14, 2, 0)]), (26, [(14, .ifCond .le 5, 17, 19, 0), (17, .iconst 0, 18, 0, 0), (18, .ireturn, 19, 0, 0), (19, .aload_n 0, 20, 0, 0), (20, .aload_n 0, 21, 0, 0), (21, .getfield 13, 24, 2, 2), (24, .iconst 4, 25, 0, 0), (25, .aload_n 0, 26, 0, 0)]), (36, [(26, .iload_n 1, 27, 0, 0), (27, .invokevirtual 64, 30, 65, 1), (30, .imul, 31, 0, 0), (31, .iconst 2, 32, 0, 0), (32, .iadd, 33, 0, 0), (33, .iaload, 34, 0, 0), (34, .iload_n 2, 35, 0, 0), (35, .iconst 4, 36, 0, 0)]), (48, [(36, .idiv, 37, 0, 0), (37, .invokevirtual 105, 40, 74, 2), (40, .istore_n 3, 41, 0, 0), (41, .aload_n 0, 42, 0, 0), (42, .getfield 13, 45, 2, 2), (45, .iconst 4, 46, 0, 0), (46, .iload_n 3, 47, 0, 0), (47, .imul, 48, 0, 0)]), (54, [(48, .iload_n 2, 49, 0, 0), (49, .iconst 4, 50, 0, 0), (50, .irem, 51, 0, 0), (51, .iadd, 52, 0, 0), (52, .iaload, 53, 0, 0), (53, .ireturn, 54, 0, 0)])]
def mr_72 : mRec := (mc_72, ⟨"ClusterVolumeModel", "get", "(II)I"⟩, prog_4_method_26_code, 4, (some .int), [], 7, 155, 2)
def mc_73 : List (Nat × List (Nat × mI)) := [(14, [(0, .aload_n 0, 1, 0, 0), (1, .iload_n 1, 2, 0, 0), (2, .invokevirtual 99, 5, 71, 1), (5, .istore_n 3, 6, 0, 0), (6, .iload_n 3, 7, 0, 0), (7, .ifCond .le 7, 10, 14, 0), (10, .iload_n 3, 11, 0, 0), (11, .goto 32, 14, 43, 0)]), (26, [(14, .iload_n 2, 15, 0, 0), (15, .iconst 0, 16, 0, 0), (16, .aload_n 0, 17, 0, 0), (17, .getfield 13, 20, 2, 2), (20, .iconst 4, 21, 0, 0), (21, .aload_n 0, 22, 0, 0), (22, .iload_n 1, 23, 0, 0), (23, .invokevirtual 64, 26, 65, 1)]), (38, [(26, .imul, 27, 0, 0), (27, .iconst 3, 28, 0, 0), (28, .iadd, 29, 0, 0), (29, .iaload, 30, 0, 0), (30, .iconst 1, 31, 0, 0), (31, .isub, 32, 0, 0), (32, .invokestatic 40, 35, 53, 3), (35, .ifCond .eq 7, 38, 42, 0)]), (44, [(38, .iconst 0, 39, 0, 0), (39, .goto 4, 42, 43, 0), (42, .iconst 5, 43, 0, 0), (43, .ireturn, 44, 0, 0)])]
def mr_73 : mRec := (mc_73, ⟨"ClusterVolumeModel", "lackOfCell", "(II)I"⟩, prog_4_method_25_code, 4, (some .int), [], 6, 132, 2)
def mc_74 : List (Nat × List (Nat × mI)) := [(12, [(0, .iload_n 1, 1, 0, 0), (1, .istore_n 3, 2, 0, 0), (2, .iconst 0, 3, 0, 0), (3, .istore 4, 5, 0, 0), (5, .iload 4, 7, 0, 0), (7, .iload_n 2, 8, 0, 0), (8, .if_icmp .ge 16, 11, 24, 0), (11, .aload_n 0, 12, 0, 0)]), (26, [(12, .getfield 7, 15, 2, 1), (15, .iload_n 3, 16, 0, 0), (16, .iaload, 17, 0, 0), (17, .istore_n 3, 18, 0, 0), (18, .iinc 4 1, 21, 0, 0), (21, .goto (-16), 24, 5, 0), (24, .iload_n 3, 25, 0, 0), (25, .ireturn, 26, 0, 0)])]
def mr_74 : mRec := (mc_74, ⟨"ClusterVolumeModel", "clusterOf", "(II)I"⟩, prog_4_method_11_code, 5, (some .int), [], 1, 20, 2)
def mc_75 : List (Nat × List (Nat × mI)) := [(14, [(0, .aload_n 0, 1, 0, 0), (1, .aload_n 0, 2, 0, 0), (2, .iload_n 1, 3, 0, 0), (3, .iload_n 2, 4, 0, 0), (4, .invokevirtual 102, 7, 73, 2), (7, .putfield 24, 10, 2, 0), (10, .aload_n 0, 11, 0, 0), (11, .getfield 24, 14, 2, 0)]), (26, [(14, .ifCond .le 5, 17, 19, 0), (17, .iconst 0, 18, 0, 0), (18, .ireturn, 19, 0, 0), (19, .aload_n 0, 20, 0, 0), (20, .aload_n 0, 21, 0, 0), (21, .getfield 13, 24, 2, 2), (24, .iconst 4, 25, 0, 0), (25, .aload_n 0, 26, 0, 0)]), (36, [(26, .iload_n 1, 27, 0, 0), (27, .invokevirtual 64, 30, 65, 1), (30, .imul, 31, 0, 0), (31, .iconst 2, 32, 0, 0), (32, .iadd, 33, 0, 0), (33, .iaload, 34, 0, 0), (34, .iload_n 2, 35, 0, 0), (35, .iconst 4, 36, 0, 0)]), (50, [(36, .idiv, 37, 0, 0), (37, .invokevirtual 105, 40, 74, 2), (40, .istore 4, 42, 0, 0), (42, .aload_n 0, 43, 0, 0), (43, .getfield 13, 46, 2, 2), (46, .iconst 4, 47, 0, 0), (47, .iload 4, 49, 0, 0), (49, .imul, 50, 0, 0)]), (60, [(50, .iload_n 2, 51, 0, 0), (51, .iconst 4, 52, 0, 0), (52, .irem, 53, 0, 0), (53, .iadd, 54, 0, 0), (54, .iaload, 55, 0, 0), (55, .istore 5, 57, 0, 0), (57, .aload_n 0, 58, 0, 0), (58, .iload 4, 60, 0, 0)]), (72, [(60, .iload_n 2, 61, 0, 0), (61, .iconst 4, 62, 0, 0), (62, .irem, 63, 0, 0), (63, .iload_n 3, 64, 0, 0), (64, .invokevirtual 96, 67, 69, 3), (67, .aload_n 0, 68, 0, 0), (68, .aload_n 0, 69, 0, 0), (69, .getfield 27, 72, 2, 3)]), (90, [(72, .ifCond .eq 7, 75, 79, 0), (75, .iconst 1, 76, 0, 0), (76, .goto 4, 79, 80, 0), (79, .iconst 0, 80, 0, 0), (80, .putfield 24, 83, 2, 0), (83, .aload_n 0, 84, 0, 0), (84, .getfield 27, 87, 2, 3), (87, .ifCond .eq 7, 90, 94, 0)]), (97, [(90, .iconst 0, 91, 0, 0), (91, .goto 5, 94, 96, 0), (94, .iload 5, 96, 0, 0), (96, .ireturn, 97, 0, 0)])]
def mr_75 : mRec := (mc_75, ⟨"ClusterVolumeModel", "put", "(III)I"⟩, prog_4_method_27_code, 6, (some .int), [], 7, 155, 2)
def mc_76_0 : List (Nat × List (Nat × mI)) := [(16, [(0, .aload_n 0, 1, 0, 0), (1, .aload_n 0, 2, 0, 0), (2, .iload_n 1, 3, 0, 0), (3, .invokevirtual 99, 6, 71, 1), (6, .putfield 24, 9, 2, 0), (9, .aload_n 0, 10, 0, 0), (10, .getfield 24, 13, 2, 0), (13, .ifCond .le 5, 16, 18, 0)]), (28, [(16, .iconst 0, 17, 0, 0), (17, .ireturn, 18, 0, 0), (18, .aload_n 0, 19, 0, 0), (19, .iload_n 1, 20, 0, 0), (20, .invokevirtual 64, 23, 65, 1), (23, .istore_n 3, 24, 0, 0), (24, .aload_n 0, 25, 0, 0), (25, .getfield 13, 28, 2, 2)]), (37, [(28, .iconst 4, 29, 0, 0), (29, .iload_n 3, 30, 0, 0), (30, .imul, 31, 0, 0), (31, .iconst 3, 32, 0, 0), (32, .iadd, 33, 0, 0), (33, .iaload, 34, 0, 0), (34, .istore 4, 36, 0, 0), (36, .aload_n 0, 37, 0, 0)]), (52, [(37, .iload_n 2, 38, 0, 0), (38, .iconst 0, 39, 0, 0), (39, .iload 4, 41, 0, 0), (41, .invokestatic 40, 44, 53, 3), (44, .ifCond .eq 7, 47, 51, 0), (47, .iconst 0, 48, 0, 0), (48, .goto 4, 51, 52, 0), (51, .iconst 5, 52, 0, 0)]), (69, [(52, .putfield 24, 55, 2, 0), (55, .aload_n 0, 56, 0, 0), (56, .getfield 24, 59, 2, 0), (59, .ifCond .gt 9, 62, 68, 0), (62, .iload_n 2, 63, 0, 0), (63, .iload 4, 65, 0, 0), (65, .if_icmp .ne 5, 68, 70, 0), (68, .iconst 0, 69, 0, 0)]), (79, [(69, .ireturn, 70, 0, 0), (70, .aload_n 0, 71, 0, 0), (71, .getfield 13, 74, 2, 2), (74, .iconst 4, 75, 0, 0), (75, .iload_n 3, 76, 0, 0), (76, .imul, 77, 0, 0), (77, .iconst 2, 78, 0, 0), (78, .iadd, 79, 0, 0)])]
def mc_76_1 : List (Nat × List (Nat × mI)) := [(89, [(79, .iaload, 80, 0, 0), (80, .istore 5, 82, 0, 0), (82, .iload_n 2, 83, 0, 0), (83, .iconst 3, 84, 0, 0), (84, .iadd, 85, 0, 0), (85, .iconst 4, 86, 0, 0), (86, .idiv, 87, 0, 0), (87, .istore 6, 89, 0, 0)]), (101, [(89, .iload 4, 91, 0, 0), (91, .iconst 3, 92, 0, 0), (92, .iadd, 93, 0, 0), (93, .iconst 4, 94, 0, 0), (94, .idiv, 95, 0, 0), (95, .istore 7, 97, 0, 0), (97, .iload 6, 99, 0, 0), (99, .iload 7, 101, 0, 0)]), (118, [(101, .if_icmp .ge 14, 104, 115, 0), (104, .aload_n 0, 105, 0, 0), (105, .iload 5, 107, 0, 0), (107, .iload 6, 109, 0, 0), (109, .invokevirtual 105, 112, 74, 2), (112, .goto 4, 115, 116, 0), (115, .iconst (-1), 116, 0, 0), (116, .istore 8, 118, 0, 0)]), (133, [(118, .iload 6, 120, 0, 0), (120, .ifCond .le 16, 123, 136, 0), (123, .aload_n 0, 124, 0, 0), (124, .iload 5, 126, 0, 0), (126, .iload 6, 128, 0, 0), (128, .iconst 1, 129, 0, 0), (129, .isub, 130, 0, 0), (130, .invokevirtual 105, 133, 74, 2)]), (146, [(133, .goto 4, 136, 137, 0), (136, .iconst (-1), 137, 0, 0), (137, .istore 9, 139, 0, 0), (139, .aload_n 0, 140, 0, 0), (140, .iload_n 3, 141, 0, 0), (141, .iload_n 2, 142, 0, 0), (142, .ifCond .ne 7, 145, 149, 0), (145, .iconst (-1), 146, 0, 0)]), (164, [(146, .goto 5, 149, 151, 0), (149, .iload 5, 151, 0, 0), (151, .iload_n 2, 152, 0, 0), (152, .invokevirtual 82, 155, 62, 3), (155, .iload 8, 157, 0, 0), (157, .ifCond .lt 14, 160, 171, 0), (160, .iload_n 2, 161, 0, 0), (161, .ifCond .eq 10, 164, 171, 0)])]
def mc_76_2 : List (Nat × List (Nat × mI)) := [(178, [(164, .aload_n 0, 165, 0, 0), (165, .iload 9, 167, 0, 0), (167, .iconst (-1), 168, 0, 0), (168, .invokevirtual 75, 171, 60, 2), (171, .aload_n 0, 172, 0, 0), (172, .iload 8, 174, 0, 0), (174, .invokevirtual 92, 177, 67, 1), (177, .aload_n 0, 178, 0, 0)]), (194, [(178, .aload_n 0, 179, 0, 0), (179, .getfield 27, 182, 2, 3), (182, .ifCond .eq 7, 185, 189, 0), (185, .iconst 1, 186, 0, 0), (186, .goto 4, 189, 190, 0), (189, .iconst 0, 190, 0, 0), (190, .putfield 24, 193, 2, 0), (193, .aload_n 0, 194, 0, 0)]), (209, [(194, .getfield 27, 197, 2, 3), (197, .ifCond .eq 7, 200, 204, 0), (200, .iconst 0, 201, 0, 0), (201, .goto 7, 204, 208, 0), (204, .aload_n 0, 205, 0, 0), (205, .getfield 86, 208, 2, 8), (208, .ireturn, 209, 0, 0)])]
def mc_76 : List (Nat × List (Nat × mI)) := mc_76_0 ++ (mc_76_1 ++ (mc_76_2))
def mr_76 : mRec := (mc_76, ⟨"ClusterVolumeModel", "shorten", "(II)I"⟩, prog_4_method_28_code, 10, (some .int), [], 6, 132, 2)
def mc_77 : List (Nat × List (Nat × mI)) := [(16, [(0, .aload_n 0, 1, 0, 0), (1, .aload_n 0, 2, 0, 0), (2, .iload_n 1, 3, 0, 0), (3, .invokevirtual 68, 6, 64, 1), (6, .putfield 24, 9, 2, 0), (9, .aload_n 0, 10, 0, 0), (10, .getfield 24, 13, 2, 0), (13, .ifCond .le 5, 16, 18, 0)]), (28, [(16, .iconst 0, 17, 0, 0), (17, .ireturn, 18, 0, 0), (18, .iload_n 1, 19, 0, 0), (19, .ifCond .ne 7, 22, 26, 0), (22, .iconst (-1), 23, 0, 0), (23, .goto 8, 26, 31, 0), (26, .aload_n 0, 27, 0, 0), (27, .iload_n 1, 28, 0, 0)]), (44, [(28, .invokevirtual 64, 31, 65, 1), (31, .istore_n 2, 32, 0, 0), (32, .aload_n 0, 33, 0, 0), (33, .iload_n 2, 34, 0, 0), (34, .invokevirtual 54, 37, 56, 1), (37, .ifCond .ne 14, 40, 51, 0), (40, .aload_n 0, 41, 0, 0), (41, .getfield 13, 44, 2, 2)]), (52, [(44, .iconst 4, 45, 0, 0), (45, .iload_n 2, 46, 0, 0), (46, .imul, 47, 0, 0), (47, .iconst 3, 48, 0, 0), (48, .iadd, 49, 0, 0), (49, .iaload, 50, 0, 0), (50, .ireturn, 51, 0, 0), (51, .iconst 0, 52, 0, 0)]), (66, [(52, .istore_n 3, 53, 0, 0), (53, .iload_n 2, 54, 0, 0), (54, .ifCond .ge 7, 57, 61, 0), (57, .iconst 0, 58, 0, 0), (58, .goto 13, 61, 71, 0), (61, .aload_n 0, 62, 0, 0), (62, .getfield 13, 65, 2, 2), (65, .iconst 4, 66, 0, 0)]), (78, [(66, .iload_n 2, 67, 0, 0), (67, .imul, 68, 0, 0), (68, .iconst 2, 69, 0, 0), (69, .iadd, 70, 0, 0), (70, .iaload, 71, 0, 0), (71, .istore 4, 73, 0, 0), (73, .iload 4, 75, 0, 0), (75, .ifCond .lt 35, 78, 110, 0)]), (91, [(78, .aload_n 0, 79, 0, 0), (79, .getfield 13, 82, 2, 2), (82, .iconst 4, 83, 0, 0), (83, .iload 4, 85, 0, 0), (85, .imul, 86, 0, 0), (86, .iaload, 87, 0, 0), (87, .ifCond .le 9, 90, 96, 0), (90, .iload_n 3, 91, 0, 0)]), (104, [(91, .iconst 1, 92, 0, 0), (92, .iadd, 93, 0, 0), (93, .goto 4, 96, 97, 0), (96, .iload_n 3, 97, 0, 0), (97, .istore_n 3, 98, 0, 0), (98, .aload_n 0, 99, 0, 0), (99, .getfield 7, 102, 2, 1), (102, .iload 4, 104, 0, 0)]), (114, [(104, .iaload, 105, 0, 0), (105, .istore 4, 107, 0, 0), (107, .goto (-34), 110, 73, 0), (110, .iconst (-1), 111, 0, 0), (111, .iload_n 3, 112, 0, 0), (112, .isub, 113, 0, 0), (113, .ireturn, 114, 0, 0)])]
def mr_77 : mRec := (mc_77, ⟨"ClusterVolumeModel", "length", "(I)I"⟩, prog_4_method_29_code, 5, (some .int), [], 5, 110, 2)
def mc_78 : List (Nat × List (Nat × mI)) := [(16, [(0, .aload_n 0, 1, 0, 0), (1, .aload_n 0, 2, 0, 0), (2, .iload_n 1, 3, 0, 0), (3, .invokevirtual 68, 6, 64, 1), (6, .putfield 24, 9, 2, 0), (9, .aload_n 0, 10, 0, 0), (10, .getfield 24, 13, 2, 0), (13, .ifCond .le 5, 16, 18, 0)]), (28, [(16, .iconst 0, 17, 0, 0), (17, .ireturn, 18, 0, 0), (18, .iload_n 1, 19, 0, 0), (19, .ifCond .ne 7, 22, 26, 0), (22, .iconst (-1), 23, 0, 0), (23, .goto 8, 26, 31, 0), (26, .aload_n 0, 27, 0, 0), (27, .iload_n 1, 28, 0, 0)]), (42, [(28, .invokevirtual 64, 31, 65, 1), (31, .istore_n 2, 32, 0, 0), (32, .aload_n 0, 33, 0, 0), (33, .aload_n 0, 34, 0, 0), (34, .iload_n 2, 35, 0, 0), (35, .invokevirtual 54, 38, 56, 1), (38, .ifCond .eq 7, 41, 45, 0), (41, .iconst 0, 42, 0, 0)]), (60, [(42, .goto 4, 45, 46, 0), (45, .iconst 4, 46, 0, 0), (46, .putfield 24, 49, 2, 0), (49, .aload_n 0, 50, 0, 0), (50, .getfield 24, 53, 2, 0), (53, .ifCond .le 7, 56, 60, 0), (56, .iconst 0, 57, 0, 0), (57, .goto 25, 60, 82, 0)]), (74, [(60, .aload_n 0, 61, 0, 0), (61, .iload_n 2, 62, 0, 0), (62, .ifCond .ge 7, 65, 69, 0), (65, .iconst 0, 66, 0, 0), (66, .goto 13, 69, 79, 0), (69, .aload_n 0, 70, 0, 0), (70, .getfield 13, 73, 2, 2), (73, .iconst 4, 74, 0, 0)]), (83, [(74, .iload_n 2, 75, 0, 0), (75, .imul, 76, 0, 0), (76, .iconst 2, 77, 0, 0), (77, .iadd, 78, 0, 0), (78, .iaload, 79, 0, 0), (79, .invokevirtual 89, 82, 66, 1), (82, .ireturn, 83, 0, 0)])]
def mr_78 : mRec := (mc_78, ⟨"ClusterVolumeModel", "names", "(I)I"⟩, prog_4_method_30_code, 3, (some .int), [], 5, 110, 2)
def mc_79 : List (Nat × List (Nat × mI)) := [(16, [(0, .aload_n 0, 1, 0, 0), (1, .aload_n 0, 2, 0, 0), (2, .getfield 27, 5, 2, 3), (5, .ifCond .eq 7, 8, 12, 0), (8, .iconst 1, 9, 0, 0), (9, .goto 4, 12, 13, 0), (12, .iconst 0, 13, 0, 0), (13, .putfield 24, 16, 2, 0)]), (27, [(16, .iconst 0, 17, 0, 0), (17, .istore_n 1, 18, 0, 0), (18, .iconst 0, 19, 0, 0), (19, .istore_n 2, 20, 0, 0), (20, .iload_n 2, 21, 0, 0), (21, .bipush 32, 23, 0, 0), (23, .if_icmp .ge 28, 26, 51, 0), (26, .aload_n 0, 27, 0, 0)]), (40, [(27, .getfield 7, 30, 2, 1), (30, .iload_n 2, 31, 0, 0), (31, .iaload, 32, 0, 0), (32, .bipush (-2), 34, 0, 0), (34, .if_icmp .ne 9, 37, 43, 0), (37, .iload_n 1, 38, 0, 0), (38, .iconst 1, 39, 0, 0), (39, .iadd, 40, 0, 0)]), (58, [(40, .goto 4, 43, 44, 0), (43, .iload_n 1, 44, 0, 0), (44, .istore_n 1, 45, 0, 0), (45, .iinc 2 1, 48, 0, 0), (48, .goto (-28), 51, 20, 0), (51, .aload_n 0, 52, 0, 0), (52, .getfield 27, 55, 2, 3), (55, .ifCond .eq 7, 58, 62, 0)]), (64, [(58, .iconst 0, 59, 0, 0), (59, .goto 4, 62, 63, 0), (62, .iload_n 1, 63, 0, 0), (63, .ireturn, 64, 0, 0)])]
def mr_79 : mRec := (mc_79, ⟨"ClusterVolumeModel", "free", "()I"⟩, prog_4_method_31_code, 3, (some .int), [], 1, 20, 2)
def mc_80 : List (Nat × List (Nat × mI)) := [(14, [(0, .aload_n 0, 1, 0, 0), (1, .iconst 0, 2, 0, 0), (2, .putfield 24, 5, 2, 0), (5, .aload_n 0, 6, 0, 0), (6, .iload_n 1, 7, 0, 0), (7, .ifCond .ge 7, 10, 14, 0), (10, .iconst (-1), 11, 0, 0), (11, .goto 4, 14, 15, 0)]), (19, [(14, .iload_n 1, 15, 0, 0), (15, .putfield 16, 18, 2, 4), (18, .return_, 19, 0, 0)])]
def mr_80 : mRec := (mc_80, ⟨"ClusterVolumeModel", "arm", "(I)V"⟩, prog_4_method_32_code, 2, none, [], 1, 20, 2)
def mc_81 : List (Nat × List (Nat × mI)) := [(10, [(0, .aload_n 0, 1, 0, 0), (1, .iconst 0, 2, 0, 0), (2, .putfield 24, 5, 2, 0), (5, .aload_n 0, 6, 0, 0), (6, .getfield 27, 9, 2, 3), (9, .ireturn, 10, 0, 0)])]
def mr_81 : mRec := (mc_81, ⟨"ClusterVolumeModel", "isDown", "()Z"⟩, prog_4_method_33_code, 1, (some .boolean), [], 1, 20, 2)
def mc_82 : List (Nat × List (Nat × mI)) := [(12, [(0, .aload_n 0, 1, 0, 0), (1, .iconst 0, 2, 0, 0), (2, .putfield 24, 5, 2, 0), (5, .aload_n 0, 6, 0, 0), (6, .iconst 0, 7, 0, 0), (7, .putfield 27, 10, 2, 3), (10, .aload_n 0, 11, 0, 0), (11, .iconst (-1), 12, 0, 0)]), (24, [(12, .putfield 16, 15, 2, 4), (15, .aload_n 0, 16, 0, 0), (16, .invokevirtual 114, 19, 83, 0), (19, .iconst 0, 20, 0, 0), (20, .istore_n 1, 21, 0, 0), (21, .iconst 0, 22, 0, 0), (22, .istore_n 2, 23, 0, 0), (23, .iload_n 2, 24, 0, 0)]), (39, [(24, .bipush 32, 26, 0, 0), (26, .if_icmp .ge 40, 29, 66, 0), (29, .aload_n 0, 30, 0, 0), (30, .getfield 20, 33, 2, 5), (33, .iload_n 2, 34, 0, 0), (34, .baload, 35, 0, 0), (35, .ifCond .ne 25, 38, 60, 0), (38, .aload_n 0, 39, 0, 0)]), (54, [(39, .getfield 7, 42, 2, 1), (42, .iload_n 2, 43, 0, 0), (43, .iaload, 44, 0, 0), (44, .bipush (-2), 46, 0, 0), (46, .if_icmp .eq 14, 49, 60, 0), (49, .aload_n 0, 50, 0, 0), (50, .getfield 7, 53, 2, 1), (53, .iload_n 2, 54, 0, 0)]), (68, [(54, .bipush (-2), 56, 0, 0), (56, .iastore, 57, 0, 0), (57, .iinc 1 1, 60, 0, 0), (60, .iinc 2 1, 63, 0, 0), (63, .goto (-40), 66, 23, 0), (66, .iload_n 1, 67, 0, 0), (67, .ireturn, 68, 0, 0)])]
def mr_82 : mRec := (mc_82, ⟨"ClusterVolumeModel", "mount", "()I"⟩, prog_4_method_37_code, 3, (some .int), [], 3, 70, 2)
def mc_83 : List (Nat × List (Nat × mI)) := [(13, [(0, .iconst 0, 1, 0, 0), (1, .istore_n 1, 2, 0, 0), (2, .iload_n 1, 3, 0, 0), (3, .bipush 32, 5, 0, 0), (5, .if_icmp .ge 16, 8, 21, 0), (8, .aload_n 0, 9, 0, 0), (9, .getfield 20, 12, 2, 5), (12, .iload_n 1, 13, 0, 0)]), (27, [(13, .iconst 0, 14, 0, 0), (14, .bastore, 15, 0, 0), (15, .iinc 1 1, 18, 0, 0), (18, .goto (-16), 21, 2, 0), (21, .iconst 0, 22, 0, 0), (22, .istore_n 1, 23, 0, 0), (23, .iload_n 1, 24, 0, 0), (24, .ifCond .lt 98, 27, 122, 0)]), (39, [(27, .aload_n 0, 28, 0, 0), (28, .iload_n 1, 29, 0, 0), (29, .invokevirtual 108, 32, 84, 1), (32, .aload_n 0, 33, 0, 0), (33, .iload_n 1, 34, 0, 0), (34, .invokevirtual 111, 37, 85, 1), (37, .istore_n 2, 38, 0, 0), (38, .iload_n 2, 39, 0, 0)]), (53, [(39, .ifCond .lt 73, 42, 112, 0), (42, .aload_n 0, 43, 0, 0), (43, .iload_n 2, 44, 0, 0), (44, .invokevirtual 108, 47, 84, 1), (47, .aload_n 0, 48, 0, 0), (48, .iload_n 2, 49, 0, 0), (49, .invokevirtual 111, 52, 85, 1), (52, .istore_n 3, 53, 0, 0)]), (67, [(53, .iload_n 3, 54, 0, 0), (54, .ifCond .lt 48, 57, 102, 0), (57, .aload_n 0, 58, 0, 0), (58, .iload_n 3, 59, 0, 0), (59, .invokevirtual 108, 62, 84, 1), (62, .aload_n 0, 63, 0, 0), (63, .iload_n 3, 64, 0, 0), (64, .invokevirtual 111, 67, 85, 1)]), (84, [(67, .istore 4, 69, 0, 0), (69, .iload 4, 71, 0, 0), (71, .ifCond .lt 21, 74, 92, 0), (74, .aload_n 0, 75, 0, 0), (75, .iload 4, 77, 0, 0), (77, .invokevirtual 108, 80, 84, 1), (80, .aload_n 0, 81, 0, 0), (81, .getfield 7, 84, 2, 1)]), (98, [(84, .iload 4, 86, 0, 0), (86, .iaload, 87, 0, 0), (87, .istore 4, 89, 0, 0), (89, .goto (-20), 92, 69, 0), (92, .aload_n 0, 93, 0, 0), (93, .getfield 7, 96, 2, 1), (96, .iload_n 3, 97, 0, 0), (97, .iaload, 98, 0, 0)]), (112, [(98, .istore_n 3, 99, 0, 0), (99, .goto (-46), 102, 53, 0), (102, .aload_n 0, 103, 0, 0), (103, .getfield 7, 106, 2, 1), (106, .iload_n 2, 107, 0, 0), (107, .iaload, 108, 0, 0), (108, .istore_n 2, 109, 0, 0), (109, .goto (-71), 112, 38, 0)]), (123, [(112, .aload_n 0, 113, 0, 0), (113, .getfield 7, 116, 2, 1), (116, .iload_n 1, 117, 0, 0), (117, .iaload, 118, 0, 0), (118, .istore_n 1, 119, 0, 0), (119, .goto (-96), 122, 23, 0), (122, .return_, 123, 0, 0)])]
def mr_83 : mRec := (mc_83, ⟨"ClusterVolumeModel", "check", "()V"⟩, prog_4_method_36_code, 5, none, [], 2, 46, 2)
def mc_84 : List (Nat × List (Nat × mI)) := [(12, [(0, .aload_n 0, 1, 0, 0), (1, .getfield 20, 4, 2, 5), (4, .iload_n 1, 5, 0, 0), (5, .iconst 1, 6, 0, 0), (6, .bastore, 7, 0, 0), (7, .aload_n 0, 8, 0, 0), (8, .getfield 13, 11, 2, 2), (11, .iconst 4, 12, 0, 0)]), (24, [(12, .iload_n 1, 13, 0, 0), (13, .imul, 14, 0, 0), (14, .iaload, 15, 0, 0), (15, .ifCond .le 21, 18, 36, 0), (18, .aload_n 0, 19, 0, 0), (19, .getfield 13, 22, 2, 2), (22, .iconst 4, 23, 0, 0), (23, .iload_n 1, 24, 0, 0)]), (36, [(24, .imul, 25, 0, 0), (25, .iconst 1, 26, 0, 0), (26, .iadd, 27, 0, 0), (27, .iaload, 28, 0, 0), (28, .iconst 1, 29, 0, 0), (29, .if_icmp .ne 7, 32, 36, 0), (32, .iconst 1, 33, 0, 0), (33, .goto 4, 36, 37, 0)]), (48, [(36, .iconst 0, 37, 0, 0), (37, .istore_n 2, 38, 0, 0), (38, .iload_n 2, 39, 0, 0), (39, .ifCond .eq 20, 42, 59, 0), (42, .aload_n 0, 43, 0, 0), (43, .getfield 13, 46, 2, 2), (46, .iconst 4, 47, 0, 0), (47, .iload_n 1, 48, 0, 0)]), (56, [(48, .imul, 49, 0, 0), (49, .iconst 3, 50, 0, 0), (50, .iadd, 51, 0, 0), (51, .iaload, 52, 0, 0), (52, .iconst 3, 53, 0, 0), (53, .iadd, 54, 0, 0), (54, .iconst 4, 55, 0, 0), (55, .idiv, 56, 0, 0)]), (68, [(56, .goto 4, 59, 60, 0), (59, .iconst 0, 60, 0, 0), (60, .istore_n 3, 61, 0, 0), (61, .aload_n 0, 62, 0, 0), (62, .getfield 13, 65, 2, 2), (65, .iconst 4, 66, 0, 0), (66, .iload_n 1, 67, 0, 0), (67, .imul, 68, 0, 0)]), (79, [(68, .iconst 2, 69, 0, 0), (69, .iadd, 70, 0, 0), (70, .iaload, 71, 0, 0), (71, .istore 4, 73, 0, 0), (73, .iconst 0, 74, 0, 0), (74, .istore 5, 76, 0, 0), (76, .iload 5, 78, 0, 0), (78, .iload_n 3, 79, 0, 0)]), (94, [(79, .if_icmp .ge 51, 82, 130, 0), (82, .aload_n 0, 83, 0, 0), (83, .getfield 20, 86, 2, 5), (86, .iload 4, 88, 0, 0), (88, .iconst 1, 89, 0, 0), (89, .bastore, 90, 0, 0), (90, .aload_n 0, 91, 0, 0), (91, .getfield 7, 94, 2, 1)]), (108, [(94, .iload 4, 96, 0, 0), (96, .iaload, 97, 0, 0), (97, .istore 6, 99, 0, 0), (99, .aload_n 0, 100, 0, 0), (100, .getfield 7, 103, 2, 1), (103, .iload 4, 105, 0, 0), (105, .iload 5, 107, 0, 0), (107, .iload_n 3, 108, 0, 0)]), (122, [(108, .iconst 1, 109, 0, 0), (109, .isub, 110, 0, 0), (110, .if_icmp .ne 7, 113, 117, 0), (113, .iconst (-1), 114, 0, 0), (114, .goto 5, 117, 119, 0), (117, .iload 6, 119, 0, 0), (119, .iastore, 120, 0, 0), (120, .iload 6, 122, 0, 0)]), (131, [(122, .istore 4, 124, 0, 0), (124, .iinc 5 1, 127, 0, 0), (127, .goto (-51), 130, 76, 0), (130, .return_, 131, 0, 0)])]
def mr_84 : mRec := (mc_84, ⟨"ClusterVolumeModel", "note", "(I)V"⟩, prog_4_method_35_code, 7, none, [], 1, 20, 2)
def mc_85 : List (Nat × List (Nat × mI)) := [(12, [(0, .aload_n 0, 1, 0, 0), (1, .getfield 13, 4, 2, 2), (4, .iconst 4, 5, 0, 0), (5, .iload_n 1, 6, 0, 0), (6, .imul, 7, 0, 0), (7, .iaload, 8, 0, 0), (8, .ifCond .le 30, 11, 38, 0), (11, .aload_n 0, 12, 0, 0)]), (22, [(12, .getfield 13, 15, 2, 2), (15, .iconst 4, 16, 0, 0), (16, .iload_n 1, 17, 0, 0), (17, .imul, 18, 0, 0), (18, .iconst 1, 19, 0, 0), (19, .iadd, 20, 0, 0), (20, .iaload, 21, 0, 0), (21, .iconst 2, 22, 0, 0)]), (34, [(22, .if_icmp .ne 16, 25, 38, 0), (25, .aload_n 0, 26, 0, 0), (26, .getfield 13, 29, 2, 2), (29, .iconst 4, 30, 0, 0), (30, .iload_n 1, 31, 0, 0), (31, .imul, 32, 0, 0), (32, .iconst 2, 33, 0, 0), (33, .iadd, 34, 0, 0)]), (40, [(34, .iaload, 35, 0, 0), (35, .goto 4, 38, 39, 0), (38, .iconst (-1), 39, 0, 0), (39, .ireturn, 40, 0, 0)])]
def mr_85 : mRec := (mc_85, ⟨"ClusterVolumeModel", "below", "(I)I"⟩, prog_4_method_34_code, 2, (some .int), [], 1, 20, 2)
def mc_86 : List (Nat × List (Nat × mI)) := [(15, [(0, .aload_n 0, 1, 0, 0), (1, .iconst 0, 2, 0, 0), (2, .putfield 24, 5, 2, 0), (5, .iload_n 1, 6, 0, 0), (6, .iconst 0, 7, 0, 0), (7, .bipush 31, 9, 0, 0), (9, .invokestatic 40, 12, 53, 3), (12, .ifCond .eq 25, 15, 37, 0)]), (29, [(15, .iload_n 2, 16, 0, 0), (16, .iconst 0, 17, 0, 0), (17, .iconst 3, 18, 0, 0), (18, .invokestatic 40, 21, 53, 3), (21, .ifCond .eq 16, 24, 37, 0), (24, .aload_n 0, 25, 0, 0), (25, .getfield 13, 28, 2, 2), (28, .iconst 4, 29, 0, 0)]), (39, [(29, .iload_n 1, 30, 0, 0), (30, .imul, 31, 0, 0), (31, .iload_n 2, 32, 0, 0), (32, .iadd, 33, 0, 0), (33, .iaload, 34, 0, 0), (34, .goto 4, 37, 38, 0), (37, .iconst 0, 38, 0, 0), (38, .ireturn, 39, 0, 0)])]
def mr_86 : mRec := (mc_86, ⟨"ClusterVolumeModel", "cell", "(II)I"⟩, prog_4_method_38_code, 3, (some .int), [], 2, 42, 2)
def mc_87 : List (Nat × List (Nat × mI)) := [(15, [(0, .aload_n 0, 1, 0, 0), (1, .iconst 0, 2, 0, 0), (2, .putfield 24, 5, 2, 0), (5, .iload_n 1, 6, 0, 0), (6, .iconst 0, 7, 0, 0), (7, .bipush 31, 9, 0, 0), (9, .invokestatic 40, 12, 53, 3), (12, .ifCond .eq 12, 15, 24, 0)]), (26, [(15, .aload_n 0, 16, 0, 0), (16, .getfield 7, 19, 2, 1), (19, .iload_n 1, 20, 0, 0), (20, .iaload, 21, 0, 0), (21, .goto 4, 24, 25, 0), (24, .iconst 0, 25, 0, 0), (25, .ireturn, 26, 0, 0)])]
def mr_87 : mRec := (mc_87, ⟨"ClusterVolumeModel", "table", "(I)I"⟩, prog_4_method_39_code, 2, (some .int), [], 2, 42, 2)
def mc_88 : List (Nat × List (Nat × mI)) := [(10, [(0, .aload_n 3, 1, 0, 0), (1, .iconst 0, 2, 0, 0), (2, .aload_n 0, 3, 0, 0), (3, .iload_n 1, 4, 0, 0), (4, .iload_n 2, 5, 0, 0), (5, .invokevirtual 7, 8, 15, 2), (8, .i2l, 9, 0, 0), (9, .lastore, 10, 0, 0)]), (23, [(10, .goto 23, 13, 33, 0), (13, .astore 4, 15, 0, 0), (15, .iconst 1, 16, 0, 0), (16, .ireturn, 17, 0, 0), (17, .astore 4, 19, 0, 0), (19, .iconst 2, 20, 0, 0), (20, .ireturn, 21, 0, 0), (21, .astore 4, 23, 0, 0)]), (33, [(23, .iconst 3, 24, 0, 0), (24, .ireturn, 25, 0, 0), (25, .astore 4, 27, 0, 0), (27, .iconst 4, 28, 0, 0), (28, .ireturn, 29, 0, 0), (29, .astore 4, 31, 0, 0), (31, .iconst 5, 32, 0, 0), (32, .ireturn, 33, 0, 0)]), (35, [(33, .iconst 0, 34, 0, 0), (34, .ireturn, 35, 0, 0)])]
def mr_88 : mRec := (mc_88, ⟨"ClusterVolumeLaw", "make", "(LClusterVolume;IZ[J)I"⟩, method_3_code, 5, (some .int), [(0, 10, 13, 13), (0, 10, 17, 15), (0, 10, 21, 17), (0, 10, 25, 19), (0, 10, 29, 21)], 10, 193, 999)
def mc_89 : List (Nat × List (Nat × mI)) := [(12, [(0, .aload_n 2, 1, 0, 0), (1, .iconst 0, 2, 0, 0), (2, .aload_n 0, 3, 0, 0), (3, .iload_n 1, 4, 0, 0), (4, .invokevirtual 23, 7, 23, 1), (7, .i2l, 8, 0, 0), (8, .lastore, 9, 0, 0), (9, .goto 15, 12, 24, 0)]), (20, [(12, .astore_n 3, 13, 0, 0), (13, .iconst 1, 14, 0, 0), (14, .ireturn, 15, 0, 0), (15, .astore_n 3, 16, 0, 0), (16, .iconst 2, 17, 0, 0), (17, .ireturn, 18, 0, 0), (18, .astore_n 3, 19, 0, 0), (19, .iconst 3, 20, 0, 0)]), (26, [(20, .ireturn, 21, 0, 0), (21, .astore_n 3, 22, 0, 0), (22, .iconst 4, 23, 0, 0), (23, .ireturn, 24, 0, 0), (24, .iconst 0, 25, 0, 0), (25, .ireturn, 26, 0, 0)])]
def mr_89 : mRec := (mc_89, ⟨"ClusterVolumeLaw", "remove", "(LClusterVolume;I[J)I"⟩, method_4_code, 4, (some .int), [(0, 9, 12, 13), (0, 9, 15, 15), (0, 9, 18, 17), (0, 9, 21, 19)], 10, 189, 999)
def mc_90 : List (Nat × List (Nat × mI)) := [(10, [(0, .aload_n 3, 1, 0, 0), (1, .iconst 0, 2, 0, 0), (2, .aload_n 0, 3, 0, 0), (3, .iload_n 1, 4, 0, 0), (4, .iload_n 2, 5, 0, 0), (5, .invokevirtual 27, 8, 26, 2), (8, .i2l, 9, 0, 0), (9, .lastore, 10, 0, 0)]), (23, [(10, .goto 19, 13, 29, 0), (13, .astore 4, 15, 0, 0), (15, .iconst 1, 16, 0, 0), (16, .ireturn, 17, 0, 0), (17, .astore 4, 19, 0, 0), (19, .iconst 2, 20, 0, 0), (20, .ireturn, 21, 0, 0), (21, .astore 4, 23, 0, 0)]), (31, [(23, .iconst 3, 24, 0, 0), (24, .ireturn, 25, 0, 0), (25, .astore 4, 27, 0, 0), (27, .iconst 4, 28, 0, 0), (28, .ireturn, 29, 0, 0), (29, .iconst 0, 30, 0, 0), (30, .ireturn, 31, 0, 0)])]
def mr_90 : mRec := (mc_90, ⟨"ClusterVolumeLaw", "rename", "(LClusterVolume;II[J)I"⟩, method_5_code, 5, (some .int), [(0, 10, 13, 13), (0, 10, 17, 15), (0, 10, 21, 17), (0, 10, 25, 19)], 9, 167, 999)
def mc_91 : List (Nat × List (Nat × mI)) := [(10, [(0, .aload_n 3, 1, 0, 0), (1, .iconst 0, 2, 0, 0), (2, .aload_n 0, 3, 0, 0), (3, .iload_n 1, 4, 0, 0), (4, .iload_n 2, 5, 0, 0), (5, .invokevirtual 31, 8, 27, 2), (8, .i2l, 9, 0, 0), (9, .lastore, 10, 0, 0)]), (23, [(10, .goto 23, 13, 33, 0), (13, .astore 4, 15, 0, 0), (15, .iconst 1, 16, 0, 0), (16, .ireturn, 17, 0, 0), (17, .astore 4, 19, 0, 0), (19, .iconst 2, 20, 0, 0), (20, .ireturn, 21, 0, 0), (21, .astore 4, 23, 0, 0)]), (33, [(23, .iconst 3, 24, 0, 0), (24, .ireturn, 25, 0, 0), (25, .astore 4, 27, 0, 0), (27, .iconst 4, 28, 0, 0), (28, .ireturn, 29, 0, 0), (29, .astore 4, 31, 0, 0), (31, .iconst 5, 32, 0, 0), (32, .ireturn, 33, 0, 0)]), (35, [(33, .iconst 0, 34, 0, 0), (34, .ireturn, 35, 0, 0)])]
def mr_91 : mRec := (mc_91, ⟨"ClusterVolumeLaw", "append", "(LClusterVolume;II[J)I"⟩, method_6_code, 5, (some .int), [(0, 10, 13, 13), (0, 10, 17, 15), (0, 10, 21, 17), (0, 10, 25, 19), (0, 10, 29, 21)], 11, 219, 999)
def mc_92 : List (Nat × List (Nat × mI)) := [(10, [(0, .aload_n 3, 1, 0, 0), (1, .iconst 0, 2, 0, 0), (2, .aload_n 0, 3, 0, 0), (3, .iload_n 1, 4, 0, 0), (4, .iload_n 2, 5, 0, 0), (5, .invokevirtual 34, 8, 31, 2), (8, .i2l, 9, 0, 0), (9, .lastore, 10, 0, 0)]), (23, [(10, .goto 23, 13, 33, 0), (13, .astore 4, 15, 0, 0), (15, .iconst 1, 16, 0, 0), (16, .ireturn, 17, 0, 0), (17, .astore 4, 19, 0, 0), (19, .iconst 2, 20, 0, 0), (20, .ireturn, 21, 0, 0), (21, .astore 4, 23, 0, 0)]), (33, [(23, .iconst 3, 24, 0, 0), (24, .ireturn, 25, 0, 0), (25, .astore 4, 27, 0, 0), (27, .iconst 4, 28, 0, 0), (28, .ireturn, 29, 0, 0), (29, .astore 4, 31, 0, 0), (31, .iconst 5, 32, 0, 0), (32, .ireturn, 33, 0, 0)]), (35, [(33, .iconst 0, 34, 0, 0), (34, .ireturn, 35, 0, 0)])]
def mr_92 : mRec := (mc_92, ⟨"ClusterVolumeLaw", "get", "(LClusterVolume;II[J)I"⟩, method_7_code, 5, (some .int), [(0, 10, 13, 13), (0, 10, 17, 15), (0, 10, 21, 17), (0, 10, 25, 19), (0, 10, 29, 37)], 9, 176, 999)
def mc_93 : List (Nat × List (Nat × mI)) := [(11, [(0, .aload 4, 2, 0, 0), (2, .iconst 0, 3, 0, 0), (3, .aload_n 0, 4, 0, 0), (4, .iload_n 1, 5, 0, 0), (5, .iload_n 2, 6, 0, 0), (6, .iload_n 3, 7, 0, 0), (7, .invokevirtual 39, 10, 33, 3), (10, .i2l, 11, 0, 0)]), (23, [(11, .lastore, 12, 0, 0), (12, .goto 23, 15, 35, 0), (15, .astore 5, 17, 0, 0), (17, .iconst 1, 18, 0, 0), (18, .ireturn, 19, 0, 0), (19, .astore 5, 21, 0, 0), (21, .iconst 2, 22, 0, 0), (22, .ireturn, 23, 0, 0)]), (34, [(23, .astore 5, 25, 0, 0), (25, .iconst 3, 26, 0, 0), (26, .ireturn, 27, 0, 0), (27, .astore 5, 29, 0, 0), (29, .iconst 4, 30, 0, 0), (30, .ireturn, 31, 0, 0), (31, .astore 5, 33, 0, 0), (33, .iconst 5, 34, 0, 0)]), (37, [(34, .ireturn, 35, 0, 0), (35, .iconst 0, 36, 0, 0), (36, .ireturn, 37, 0, 0)])]
def mr_93 : mRec := (mc_93, ⟨"ClusterVolumeLaw", "put", "(LClusterVolume;III[J)I"⟩, method_8_code, 6, (some .int), [(0, 12, 15, 13), (0, 12, 19, 15), (0, 12, 23, 17), (0, 12, 27, 19), (0, 12, 31, 37)], 9, 179, 999)
def mc_94 : List (Nat × List (Nat × mI)) := [(10, [(0, .aload_n 3, 1, 0, 0), (1, .iconst 0, 2, 0, 0), (2, .aload_n 0, 3, 0, 0), (3, .iload_n 1, 4, 0, 0), (4, .iload_n 2, 5, 0, 0), (5, .invokevirtual 43, 8, 34, 2), (8, .i2l, 9, 0, 0), (9, .lastore, 10, 0, 0)]), (23, [(10, .goto 23, 13, 33, 0), (13, .astore 4, 15, 0, 0), (15, .iconst 1, 16, 0, 0), (16, .ireturn, 17, 0, 0), (17, .astore 4, 19, 0, 0), (19, .iconst 2, 20, 0, 0), (20, .ireturn, 21, 0, 0), (21, .astore 4, 23, 0, 0)]), (33, [(23, .iconst 3, 24, 0, 0), (24, .ireturn, 25, 0, 0), (25, .astore 4, 27, 0, 0), (27, .iconst 4, 28, 0, 0), (28, .ireturn, 29, 0, 0), (29, .astore 4, 31, 0, 0), (31, .iconst 5, 32, 0, 0), (32, .ireturn, 33, 0, 0)]), (35, [(33, .iconst 0, 34, 0, 0), (34, .ireturn, 35, 0, 0)])]
def mr_94 : mRec := (mc_94, ⟨"ClusterVolumeLaw", "shorten", "(LClusterVolume;II[J)I"⟩, method_9_code, 5, (some .int), [(0, 10, 13, 13), (0, 10, 17, 15), (0, 10, 21, 17), (0, 10, 25, 19), (0, 10, 29, 37)], 11, 213, 999)
def mc_95 : List (Nat × List (Nat × mI)) := [(12, [(0, .aload_n 2, 1, 0, 0), (1, .iconst 0, 2, 0, 0), (2, .aload_n 0, 3, 0, 0), (3, .iload_n 1, 4, 0, 0), (4, .invokevirtual 46, 7, 36, 1), (7, .i2l, 8, 0, 0), (8, .lastore, 9, 0, 0), (9, .goto 12, 12, 21, 0)]), (20, [(12, .astore_n 3, 13, 0, 0), (13, .iconst 1, 14, 0, 0), (14, .ireturn, 15, 0, 0), (15, .astore_n 3, 16, 0, 0), (16, .iconst 2, 17, 0, 0), (17, .ireturn, 18, 0, 0), (18, .astore_n 3, 19, 0, 0), (19, .iconst 3, 20, 0, 0)]), (23, [(20, .ireturn, 21, 0, 0), (21, .iconst 0, 22, 0, 0), (22, .ireturn, 23, 0, 0)])]
def mr_95 : mRec := (mc_95, ⟨"ClusterVolumeLaw", "length", "(LClusterVolume;I[J)I"⟩, method_10_code, 4, (some .int), [(0, 9, 12, 13), (0, 9, 15, 15), (0, 9, 18, 17)], 8, 153, 999)
def mc_96 : List (Nat × List (Nat × mI)) := [(12, [(0, .aload_n 2, 1, 0, 0), (1, .iconst 0, 2, 0, 0), (2, .aload_n 0, 3, 0, 0), (3, .iload_n 1, 4, 0, 0), (4, .invokevirtual 49, 7, 37, 1), (7, .i2l, 8, 0, 0), (8, .lastore, 9, 0, 0), (9, .goto 15, 12, 24, 0)]), (20, [(12, .astore_n 3, 13, 0, 0), (13, .iconst 1, 14, 0, 0), (14, .ireturn, 15, 0, 0), (15, .astore_n 3, 16, 0, 0), (16, .iconst 2, 17, 0, 0), (17, .ireturn, 18, 0, 0), (18, .astore_n 3, 19, 0, 0), (19, .iconst 3, 20, 0, 0)]), (26, [(20, .ireturn, 21, 0, 0), (21, .astore_n 3, 22, 0, 0), (22, .iconst 4, 23, 0, 0), (23, .ireturn, 24, 0, 0), (24, .iconst 0, 25, 0, 0), (25, .ireturn, 26, 0, 0)])]
def mr_96 : mRec := (mc_96, ⟨"ClusterVolumeLaw", "names", "(LClusterVolume;I[J)I"⟩, method_11_code, 4, (some .int), [(0, 9, 12, 13), (0, 9, 15, 15), (0, 9, 18, 17), (0, 9, 21, 19)], 8, 153, 999)
def mc_97 : List (Nat × List (Nat × mI)) := [(12, [(0, .aload_n 1, 1, 0, 0), (1, .iconst 0, 2, 0, 0), (2, .aload_n 0, 3, 0, 0), (3, .invokevirtual 52, 6, 38, 0), (6, .i2l, 7, 0, 0), (7, .lastore, 8, 0, 0), (8, .goto 6, 11, 14, 0), (11, .astore_n 2, 12, 0, 0)]), (16, [(12, .iconst 1, 13, 0, 0), (13, .ireturn, 14, 0, 0), (14, .iconst 0, 15, 0, 0), (15, .ireturn, 16, 0, 0)])]
def mr_97 : mRec := (mc_97, ⟨"ClusterVolumeLaw", "free", "(LClusterVolume;[J)I"⟩, method_12_code, 3, (some .int), [(0, 8, 11, 13)], 8, 142, 999)
def mc_98 : List (Nat × List (Nat × mI)) := [(10, [(0, .iload_n 0, 1, 0, 0), (1, .iload_n 0, 2, 0, 0), (2, .iconst 1, 3, 0, 0), (3, .iushr, 4, 0, 0), (4, .ldc_w 265, 7, 1431655765, 0), (7, .iand, 8, 0, 0), (8, .isub, 9, 0, 0), (9, .istore_n 0, 10, 0, 0)]), (22, [(10, .iload_n 0, 11, 0, 0), (11, .ldc_w 266, 14, 858993459, 0), (14, .iand, 15, 0, 0), (15, .iload_n 0, 16, 0, 0), (16, .iconst 2, 17, 0, 0), (17, .iushr, 18, 0, 0), (18, .ldc_w 266, 21, 858993459, 0), (21, .iand, 22, 0, 0)]), (32, [(22, .iadd, 23, 0, 0), (23, .istore_n 0, 24, 0, 0), (24, .iload_n 0, 25, 0, 0), (25, .iload_n 0, 26, 0, 0), (26, .iconst 4, 27, 0, 0), (27, .iushr, 28, 0, 0), (28, .iadd, 29, 0, 0), (29, .ldc_w 267, 32, 252645135, 0)]), (41, [(32, .iand, 33, 0, 0), (33, .istore_n 0, 34, 0, 0), (34, .iload_n 0, 35, 0, 0), (35, .iload_n 0, 36, 0, 0), (36, .bipush 8, 38, 0, 0), (38, .iushr, 39, 0, 0), (39, .iadd, 40, 0, 0), (40, .istore_n 0, 41, 0, 0)]), (51, [(41, .iload_n 0, 42, 0, 0), (42, .iload_n 0, 43, 0, 0), (43, .bipush 16, 45, 0, 0), (45, .iushr, 46, 0, 0), (46, .iadd, 47, 0, 0), (47, .istore_n 0, 48, 0, 0), (48, .iload_n 0, 49, 0, 0), (49, .bipush 63, 51, 0, 0)]), (53, [(51, .iand, 52, 0, 0), (52, .ireturn, 53, 0, 0)])]
def mr_98 : mRec := (mc_98, ⟨"java/lang/Integer", "bitCount", "(I)I"⟩, prog_10_method_49_code, 1, (some .int), [], 1, 20, 999)
def mc_99_0 : List (Nat × List (Nat × mI)) := [(16, [(0, .new 8, 3, 0, 0), (3, .dup, 4, 0, 0), (4, .invokespecial 56, 7, 0, 0), (7, .astore_n 1, 8, 0, 0), (8, .new 57, 11, 2, 0), (11, .dup, 12, 0, 0), (12, .invokespecial 59, 15, 49, 0), (15, .astore_n 2, 16, 0, 0)]), (27, [(16, .iconst 1, 17, 0, 0), (17, .newarray .long, 19, 0, 0), (19, .astore_n 3, 20, 0, 0), (20, .iconst 0, 21, 0, 0), (21, .istore 4, 23, 0, 0), (23, .iload 4, 25, 0, 0), (25, .aload_n 0, 26, 0, 0), (26, .arraylength, 27, 0, 0)]), (39, [(27, .iconst 4, 28, 0, 0), (28, .isub, 29, 0, 0), (29, .if_icmp .gt 848, 32, 877, 0), (32, .aload_n 0, 33, 0, 0), (33, .iload 4, 35, 0, 0), (35, .iaload, 36, 0, 0), (36, .bipush 15, 38, 0, 0), (38, .iand, 39, 0, 0)]), (120, [(39, .tableswitch 832 0 14 #[73, 157, 213, 281, 349, 417, 497, 565, 621, 677, 721, 744, 757, 770, 807], 112, 0, 0), (112, .aload_n 1, 113, 0, 0), (113, .aload_n 0, 114, 0, 0), (114, .iload 4, 116, 0, 0), (116, .iconst 1, 117, 0, 0), (117, .iadd, 118, 0, 0), (118, .iaload, 119, 0, 0), (119, .aload_n 0, 120, 0, 0)]), (133, [(120, .iload 4, 122, 0, 0), (122, .iconst 2, 123, 0, 0), (123, .iadd, 124, 0, 0), (124, .iaload, 125, 0, 0), (125, .ifCond .eq 7, 128, 132, 0), (128, .iconst 1, 129, 0, 0), (129, .goto 4, 132, 133, 0), (132, .iconst 0, 133, 0, 0)]), (145, [(133, .aload_n 3, 134, 0, 0), (134, .invokestatic 60, 137, 88, 4), (137, .istore 5, 139, 0, 0), (139, .aload_n 2, 140, 0, 0), (140, .aload_n 0, 141, 0, 0), (141, .iload 4, 143, 0, 0), (143, .iconst 1, 144, 0, 0), (144, .iadd, 145, 0, 0)])]
def mc_99_1 : List (Nat × List (Nat × mI)) := [(156, [(145, .iaload, 146, 0, 0), (146, .aload_n 0, 147, 0, 0), (147, .iload 4, 149, 0, 0), (149, .iconst 2, 150, 0, 0), (150, .iadd, 151, 0, 0), (151, .iaload, 152, 0, 0), (152, .ifCond .eq 7, 155, 159, 0), (155, .iconst 1, 156, 0, 0)]), (174, [(156, .goto 4, 159, 160, 0), (159, .iconst 0, 160, 0, 0), (160, .invokevirtual 65, 163, 51, 2), (163, .istore 6, 165, 0, 0), (165, .aload_n 2, 166, 0, 0), (166, .invokevirtual 66, 169, 50, 0), (169, .iload 5, 171, 0, 0), (171, .if_icmp .eq 5, 174, 176, 0)]), (186, [(174, .iconst 0, 175, 0, 0), (175, .ireturn, 176, 0, 0), (176, .iload 5, 178, 0, 0), (178, .ifCond .ne 15, 181, 193, 0), (181, .aload_n 3, 182, 0, 0), (182, .iconst 0, 183, 0, 0), (183, .laload, 184, 0, 0), (184, .iload 6, 186, 0, 0)]), (198, [(186, .i2l, 187, 0, 0), (187, .lcmp, 188, 0, 0), (188, .ifCond .eq 5, 191, 193, 0), (191, .iconst 0, 192, 0, 0), (192, .ireturn, 193, 0, 0), (193, .goto 678, 196, 871, 0), (196, .aload_n 1, 197, 0, 0), (197, .aload_n 0, 198, 0, 0)]), (210, [(198, .iload 4, 200, 0, 0), (200, .iconst 1, 201, 0, 0), (201, .iadd, 202, 0, 0), (202, .iaload, 203, 0, 0), (203, .aload_n 3, 204, 0, 0), (204, .invokestatic 69, 207, 89, 3), (207, .istore 5, 209, 0, 0), (209, .aload_n 2, 210, 0, 0)]), (222, [(210, .aload_n 0, 211, 0, 0), (211, .iload 4, 213, 0, 0), (213, .iconst 1, 214, 0, 0), (214, .iadd, 215, 0, 0), (215, .iaload, 216, 0, 0), (216, .invokevirtual 72, 219, 63, 1), (219, .istore 6, 221, 0, 0), (221, .aload_n 2, 222, 0, 0)])]
def mc_99_2 : List (Nat × List (Nat × mI)) := [(238, [(222, .invokevirtual 66, 225, 50, 0), (225, .iload 5, 227, 0, 0), (227, .if_icmp .eq 5, 230, 232, 0), (230, .iconst 0, 231, 0, 0), (231, .ireturn, 232, 0, 0), (232, .iload 5, 234, 0, 0), (234, .ifCond .ne 15, 237, 249, 0), (237, .aload_n 3, 238, 0, 0)]), (249, [(238, .iconst 0, 239, 0, 0), (239, .laload, 240, 0, 0), (240, .iload 6, 242, 0, 0), (242, .i2l, 243, 0, 0), (243, .lcmp, 244, 0, 0), (244, .ifCond .eq 5, 247, 249, 0), (247, .iconst 0, 248, 0, 0), (248, .ireturn, 249, 0, 0)]), (260, [(249, .goto 622, 252, 871, 0), (252, .aload_n 1, 253, 0, 0), (253, .aload_n 0, 254, 0, 0), (254, .iload 4, 256, 0, 0), (256, .iconst 1, 257, 0, 0), (257, .iadd, 258, 0, 0), (258, .iaload, 259, 0, 0), (259, .aload_n 0, 260, 0, 0)]), (272, [(260, .iload 4, 262, 0, 0), (262, .iconst 2, 263, 0, 0), (263, .iadd, 264, 0, 0), (264, .iaload, 265, 0, 0), (265, .aload_n 3, 266, 0, 0), (266, .invokestatic 73, 269, 90, 4), (269, .istore 5, 271, 0, 0), (271, .aload_n 2, 272, 0, 0)]), (282, [(272, .aload_n 0, 273, 0, 0), (273, .iload 4, 275, 0, 0), (275, .iconst 1, 276, 0, 0), (276, .iadd, 277, 0, 0), (277, .iaload, 278, 0, 0), (278, .aload_n 0, 279, 0, 0), (279, .iload 4, 281, 0, 0), (281, .iconst 2, 282, 0, 0)]), (298, [(282, .iadd, 283, 0, 0), (283, .iaload, 284, 0, 0), (284, .invokevirtual 76, 287, 68, 2), (287, .istore 6, 289, 0, 0), (289, .aload_n 2, 290, 0, 0), (290, .invokevirtual 66, 293, 50, 0), (293, .iload 5, 295, 0, 0), (295, .if_icmp .eq 5, 298, 300, 0)])]
def mc_99_3 : List (Nat × List (Nat × mI)) := [(310, [(298, .iconst 0, 299, 0, 0), (299, .ireturn, 300, 0, 0), (300, .iload 5, 302, 0, 0), (302, .ifCond .ne 15, 305, 317, 0), (305, .aload_n 3, 306, 0, 0), (306, .iconst 0, 307, 0, 0), (307, .laload, 308, 0, 0), (308, .iload 6, 310, 0, 0)]), (322, [(310, .i2l, 311, 0, 0), (311, .lcmp, 312, 0, 0), (312, .ifCond .eq 5, 315, 317, 0), (315, .iconst 0, 316, 0, 0), (316, .ireturn, 317, 0, 0), (317, .goto 554, 320, 871, 0), (320, .aload_n 1, 321, 0, 0), (321, .aload_n 0, 322, 0, 0)]), (332, [(322, .iload 4, 324, 0, 0), (324, .iconst 1, 325, 0, 0), (325, .iadd, 326, 0, 0), (326, .iaload, 327, 0, 0), (327, .aload_n 0, 328, 0, 0), (328, .iload 4, 330, 0, 0), (330, .iconst 2, 331, 0, 0), (331, .iadd, 332, 0, 0)]), (344, [(332, .iaload, 333, 0, 0), (333, .aload_n 3, 334, 0, 0), (334, .invokestatic 77, 337, 91, 4), (337, .istore 5, 339, 0, 0), (339, .aload_n 2, 340, 0, 0), (340, .aload_n 0, 341, 0, 0), (341, .iload 4, 343, 0, 0), (343, .iconst 1, 344, 0, 0)]), (355, [(344, .iadd, 345, 0, 0), (345, .iaload, 346, 0, 0), (346, .aload_n 0, 347, 0, 0), (347, .iload 4, 349, 0, 0), (349, .iconst 2, 350, 0, 0), (350, .iadd, 351, 0, 0), (351, .iaload, 352, 0, 0), (352, .invokevirtual 79, 355, 70, 2)]), (370, [(355, .istore 6, 357, 0, 0), (357, .aload_n 2, 358, 0, 0), (358, .invokevirtual 66, 361, 50, 0), (361, .iload 5, 363, 0, 0), (363, .if_icmp .eq 5, 366, 368, 0), (366, .iconst 0, 367, 0, 0), (367, .ireturn, 368, 0, 0), (368, .iload 5, 370, 0, 0)])]
def mc_99_4 : List (Nat × List (Nat × mI)) := [(383, [(370, .ifCond .ne 15, 373, 385, 0), (373, .aload_n 3, 374, 0, 0), (374, .iconst 0, 375, 0, 0), (375, .laload, 376, 0, 0), (376, .iload 6, 378, 0, 0), (378, .i2l, 379, 0, 0), (379, .lcmp, 380, 0, 0), (380, .ifCond .eq 5, 383, 385, 0)]), (394, [(383, .iconst 0, 384, 0, 0), (384, .ireturn, 385, 0, 0), (385, .goto 486, 388, 871, 0), (388, .aload_n 1, 389, 0, 0), (389, .aload_n 0, 390, 0, 0), (390, .iload 4, 392, 0, 0), (392, .iconst 1, 393, 0, 0), (393, .iadd, 394, 0, 0)]), (405, [(394, .iaload, 395, 0, 0), (395, .aload_n 0, 396, 0, 0), (396, .iload 4, 398, 0, 0), (398, .iconst 2, 399, 0, 0), (399, .iadd, 400, 0, 0), (400, .iaload, 401, 0, 0), (401, .aload_n 3, 402, 0, 0), (402, .invokestatic 80, 405, 92, 4)]), (415, [(405, .istore 5, 407, 0, 0), (407, .aload_n 2, 408, 0, 0), (408, .aload_n 0, 409, 0, 0), (409, .iload 4, 411, 0, 0), (411, .iconst 1, 412, 0, 0), (412, .iadd, 413, 0, 0), (413, .iaload, 414, 0, 0), (414, .aload_n 0, 415, 0, 0)]), (429, [(415, .iload 4, 417, 0, 0), (417, .iconst 2, 418, 0, 0), (418, .iadd, 419, 0, 0), (419, .iaload, 420, 0, 0), (420, .invokevirtual 82, 423, 72, 2), (423, .istore 6, 425, 0, 0), (425, .aload_n 2, 426, 0, 0), (426, .invokevirtual 66, 429, 50, 0)]), (443, [(429, .iload 5, 431, 0, 0), (431, .if_icmp .eq 5, 434, 436, 0), (434, .iconst 0, 435, 0, 0), (435, .ireturn, 436, 0, 0), (436, .iload 5, 438, 0, 0), (438, .ifCond .ne 15, 441, 453, 0), (441, .aload_n 3, 442, 0, 0), (442, .iconst 0, 443, 0, 0)])]
def mc_99_5 : List (Nat × List (Nat × mI)) := [(456, [(443, .laload, 444, 0, 0), (444, .iload 6, 446, 0, 0), (446, .i2l, 447, 0, 0), (447, .lcmp, 448, 0, 0), (448, .ifCond .eq 5, 451, 453, 0), (451, .iconst 0, 452, 0, 0), (452, .ireturn, 453, 0, 0), (453, .goto 418, 456, 871, 0)]), (466, [(456, .aload_n 1, 457, 0, 0), (457, .aload_n 0, 458, 0, 0), (458, .iload 4, 460, 0, 0), (460, .iconst 1, 461, 0, 0), (461, .iadd, 462, 0, 0), (462, .iaload, 463, 0, 0), (463, .aload_n 0, 464, 0, 0), (464, .iload 4, 466, 0, 0)]), (475, [(466, .iconst 2, 467, 0, 0), (467, .iadd, 468, 0, 0), (468, .iaload, 469, 0, 0), (469, .aload_n 0, 470, 0, 0), (470, .iload 4, 472, 0, 0), (472, .iconst 3, 473, 0, 0), (473, .iadd, 474, 0, 0), (474, .iaload, 475, 0, 0)]), (487, [(475, .aload_n 3, 476, 0, 0), (476, .invokestatic 83, 479, 93, 5), (479, .istore 5, 481, 0, 0), (481, .aload_n 2, 482, 0, 0), (482, .aload_n 0, 483, 0, 0), (483, .iload 4, 485, 0, 0), (485, .iconst 1, 486, 0, 0), (486, .iadd, 487, 0, 0)]), (497, [(487, .iaload, 488, 0, 0), (488, .aload_n 0, 489, 0, 0), (489, .iload 4, 491, 0, 0), (491, .iconst 2, 492, 0, 0), (492, .iadd, 493, 0, 0), (493, .iaload, 494, 0, 0), (494, .aload_n 0, 495, 0, 0), (495, .iload 4, 497, 0, 0)]), (511, [(497, .iconst 3, 498, 0, 0), (498, .iadd, 499, 0, 0), (499, .iaload, 500, 0, 0), (500, .invokevirtual 86, 503, 75, 3), (503, .istore 6, 505, 0, 0), (505, .aload_n 2, 506, 0, 0), (506, .invokevirtual 66, 509, 50, 0), (509, .iload 5, 511, 0, 0)])]
def mc_99_6 : List (Nat × List (Nat × mI)) := [(524, [(511, .if_icmp .eq 5, 514, 516, 0), (514, .iconst 0, 515, 0, 0), (515, .ireturn, 516, 0, 0), (516, .iload 5, 518, 0, 0), (518, .ifCond .ne 15, 521, 533, 0), (521, .aload_n 3, 522, 0, 0), (522, .iconst 0, 523, 0, 0), (523, .laload, 524, 0, 0)]), (537, [(524, .iload 6, 526, 0, 0), (526, .i2l, 527, 0, 0), (527, .lcmp, 528, 0, 0), (528, .ifCond .eq 5, 531, 533, 0), (531, .iconst 0, 532, 0, 0), (532, .ireturn, 533, 0, 0), (533, .goto 338, 536, 871, 0), (536, .aload_n 1, 537, 0, 0)]), (547, [(537, .aload_n 0, 538, 0, 0), (538, .iload 4, 540, 0, 0), (540, .iconst 1, 541, 0, 0), (541, .iadd, 542, 0, 0), (542, .iaload, 543, 0, 0), (543, .aload_n 0, 544, 0, 0), (544, .iload 4, 546, 0, 0), (546, .iconst 2, 547, 0, 0)]), (559, [(547, .iadd, 548, 0, 0), (548, .iaload, 549, 0, 0), (549, .aload_n 3, 550, 0, 0), (550, .invokestatic 87, 553, 94, 4), (553, .istore 5, 555, 0, 0), (555, .aload_n 2, 556, 0, 0), (556, .aload_n 0, 557, 0, 0), (557, .iload 4, 559, 0, 0)]), (568, [(559, .iconst 1, 560, 0, 0), (560, .iadd, 561, 0, 0), (561, .iaload, 562, 0, 0), (562, .aload_n 0, 563, 0, 0), (563, .iload 4, 565, 0, 0), (565, .iconst 2, 566, 0, 0), (566, .iadd, 567, 0, 0), (567, .iaload, 568, 0, 0)]), (584, [(568, .invokevirtual 89, 571, 76, 2), (571, .istore 6, 573, 0, 0), (573, .aload_n 2, 574, 0, 0), (574, .invokevirtual 66, 577, 50, 0), (577, .iload 5, 579, 0, 0), (579, .if_icmp .eq 5, 582, 584, 0), (582, .iconst 0, 583, 0, 0), (583, .ireturn, 584, 0, 0)])]
def mc_99_7 : List (Nat × List (Nat × mI)) := [(596, [(584, .iload 5, 586, 0, 0), (586, .ifCond .ne 15, 589, 601, 0), (589, .aload_n 3, 590, 0, 0), (590, .iconst 0, 591, 0, 0), (591, .laload, 592, 0, 0), (592, .iload 6, 594, 0, 0), (594, .i2l, 595, 0, 0), (595, .lcmp, 596, 0, 0)]), (609, [(596, .ifCond .eq 5, 599, 601, 0), (599, .iconst 0, 600, 0, 0), (600, .ireturn, 601, 0, 0), (601, .goto 270, 604, 871, 0), (604, .aload_n 1, 605, 0, 0), (605, .aload_n 0, 606, 0, 0), (606, .iload 4, 608, 0, 0), (608, .iconst 1, 609, 0, 0)]), (621, [(609, .iadd, 610, 0, 0), (610, .iaload, 611, 0, 0), (611, .aload_n 3, 612, 0, 0), (612, .invokestatic 90, 615, 95, 3), (615, .istore 5, 617, 0, 0), (617, .aload_n 2, 618, 0, 0), (618, .aload_n 0, 619, 0, 0), (619, .iload 4, 621, 0, 0)]), (635, [(621, .iconst 1, 622, 0, 0), (622, .iadd, 623, 0, 0), (623, .iaload, 624, 0, 0), (624, .invokevirtual 92, 627, 77, 1), (627, .istore 6, 629, 0, 0), (629, .aload_n 2, 630, 0, 0), (630, .invokevirtual 66, 633, 50, 0), (633, .iload 5, 635, 0, 0)]), (648, [(635, .if_icmp .eq 5, 638, 640, 0), (638, .iconst 0, 639, 0, 0), (639, .ireturn, 640, 0, 0), (640, .iload 5, 642, 0, 0), (642, .ifCond .ne 15, 645, 657, 0), (645, .aload_n 3, 646, 0, 0), (646, .iconst 0, 647, 0, 0), (647, .laload, 648, 0, 0)]), (661, [(648, .iload 6, 650, 0, 0), (650, .i2l, 651, 0, 0), (651, .lcmp, 652, 0, 0), (652, .ifCond .eq 5, 655, 657, 0), (655, .iconst 0, 656, 0, 0), (656, .ireturn, 657, 0, 0), (657, .goto 214, 660, 871, 0), (660, .aload_n 1, 661, 0, 0)])]
def mc_99_8 : List (Nat × List (Nat × mI)) := [(673, [(661, .aload_n 0, 662, 0, 0), (662, .iload 4, 664, 0, 0), (664, .iconst 1, 665, 0, 0), (665, .iadd, 666, 0, 0), (666, .iaload, 667, 0, 0), (667, .aload_n 3, 668, 0, 0), (668, .invokestatic 93, 671, 96, 3), (671, .istore 5, 673, 0, 0)]), (685, [(673, .aload_n 2, 674, 0, 0), (674, .aload_n 0, 675, 0, 0), (675, .iload 4, 677, 0, 0), (677, .iconst 1, 678, 0, 0), (678, .iadd, 679, 0, 0), (679, .iaload, 680, 0, 0), (680, .invokevirtual 95, 683, 78, 1), (683, .istore 6, 685, 0, 0)]), (701, [(685, .aload_n 2, 686, 0, 0), (686, .invokevirtual 66, 689, 50, 0), (689, .iload 5, 691, 0, 0), (691, .if_icmp .eq 5, 694, 696, 0), (694, .iconst 0, 695, 0, 0), (695, .ireturn, 696, 0, 0), (696, .iload 5, 698, 0, 0), (698, .ifCond .ne 15, 701, 713, 0)]), (712, [(701, .aload_n 3, 702, 0, 0), (702, .iconst 0, 703, 0, 0), (703, .laload, 704, 0, 0), (704, .iload 6, 706, 0, 0), (706, .i2l, 707, 0, 0), (707, .lcmp, 708, 0, 0), (708, .ifCond .eq 5, 711, 713, 0), (711, .iconst 0, 712, 0, 0)]), (727, [(712, .ireturn, 713, 0, 0), (713, .goto 158, 716, 871, 0), (716, .aload_n 1, 717, 0, 0), (717, .aload_n 3, 718, 0, 0), (718, .invokestatic 96, 721, 97, 2), (721, .istore 5, 723, 0, 0), (723, .aload_n 2, 724, 0, 0), (724, .invokevirtual 99, 727, 79, 0)]), (742, [(727, .istore 6, 729, 0, 0), (729, .aload_n 2, 730, 0, 0), (730, .invokevirtual 66, 733, 50, 0), (733, .iload 5, 735, 0, 0), (735, .if_icmp .eq 5, 738, 740, 0), (738, .iconst 0, 739, 0, 0), (739, .ireturn, 740, 0, 0), (740, .iload 5, 742, 0, 0)])]
def mc_99_9 : List (Nat × List (Nat × mI)) := [(755, [(742, .ifCond .ne 15, 745, 757, 0), (745, .aload_n 3, 746, 0, 0), (746, .iconst 0, 747, 0, 0), (747, .laload, 748, 0, 0), (748, .iload 6, 750, 0, 0), (750, .i2l, 751, 0, 0), (751, .lcmp, 752, 0, 0), (752, .ifCond .eq 5, 755, 757, 0)]), (766, [(755, .iconst 0, 756, 0, 0), (756, .ireturn, 757, 0, 0), (757, .goto 114, 760, 871, 0), (760, .aload_n 1, 761, 0, 0), (761, .aload_n 0, 762, 0, 0), (762, .iload 4, 764, 0, 0), (764, .iconst 1, 765, 0, 0), (765, .iadd, 766, 0, 0)]), (777, [(766, .iaload, 767, 0, 0), (767, .invokevirtual 100, 770, 1, 1), (770, .aload_n 2, 771, 0, 0), (771, .aload_n 0, 772, 0, 0), (772, .iload 4, 774, 0, 0), (774, .iconst 1, 775, 0, 0), (775, .iadd, 776, 0, 0), (776, .iaload, 777, 0, 0)]), (795, [(777, .invokevirtual 104, 780, 80, 1), (780, .goto 91, 783, 871, 0), (783, .aload_n 1, 784, 0, 0), (784, .invokevirtual 105, 787, 2, 0), (787, .aload_n 2, 788, 0, 0), (788, .invokevirtual 109, 791, 81, 0), (791, .if_icmp .eq 80, 794, 871, 0), (794, .iconst 0, 795, 0, 0)]), (809, [(795, .ireturn, 796, 0, 0), (796, .aload_n 1, 797, 0, 0), (797, .invokevirtual 110, 800, 3, 0), (800, .aload_n 2, 801, 0, 0), (801, .invokevirtual 113, 804, 82, 0), (804, .if_icmp .eq 67, 807, 871, 0), (807, .iconst 0, 808, 0, 0), (808, .ireturn, 809, 0, 0)]), (819, [(809, .aload_n 1, 810, 0, 0), (810, .aload_n 0, 811, 0, 0), (811, .iload 4, 813, 0, 0), (813, .iconst 1, 814, 0, 0), (814, .iadd, 815, 0, 0), (815, .iaload, 816, 0, 0), (816, .aload_n 0, 817, 0, 0), (817, .iload 4, 819, 0, 0)])]
def mc_99_10 : List (Nat × List (Nat × mI)) := [(830, [(819, .iconst 2, 820, 0, 0), (820, .iadd, 821, 0, 0), (821, .iaload, 822, 0, 0), (822, .invokevirtual 114, 825, 13, 2), (825, .aload_n 2, 826, 0, 0), (826, .aload_n 0, 827, 0, 0), (827, .iload 4, 829, 0, 0), (829, .iconst 1, 830, 0, 0)]), (841, [(830, .iadd, 831, 0, 0), (831, .iaload, 832, 0, 0), (832, .aload_n 0, 833, 0, 0), (833, .iload 4, 835, 0, 0), (835, .iconst 2, 836, 0, 0), (836, .iadd, 837, 0, 0), (837, .iaload, 838, 0, 0), (838, .invokevirtual 117, 841, 86, 2)]), (852, [(841, .if_icmp .eq 30, 844, 871, 0), (844, .iconst 0, 845, 0, 0), (845, .ireturn, 846, 0, 0), (846, .aload_n 1, 847, 0, 0), (847, .aload_n 0, 848, 0, 0), (848, .iload 4, 850, 0, 0), (850, .iconst 1, 851, 0, 0), (851, .iadd, 852, 0, 0)]), (863, [(852, .iaload, 853, 0, 0), (853, .invokevirtual 118, 856, 14, 1), (856, .aload_n 2, 857, 0, 0), (857, .aload_n 0, 858, 0, 0), (858, .iload 4, 860, 0, 0), (860, .iconst 1, 861, 0, 0), (861, .iadd, 862, 0, 0), (862, .iaload, 863, 0, 0)]), (879, [(863, .invokevirtual 121, 866, 87, 1), (866, .if_icmp .eq 5, 869, 871, 0), (869, .iconst 0, 870, 0, 0), (870, .ireturn, 871, 0, 0), (871, .iinc 4 4, 874, 0, 0), (874, .goto (-851), 877, 23, 0), (877, .iconst 1, 878, 0, 0), (878, .ireturn, 879, 0, 0)])]
def mc_99 : List (Nat × List (Nat × mI)) := mc_99_0 ++ (mc_99_1 ++ (mc_99_2 ++ (mc_99_3 ++ (mc_99_4 ++ (mc_99_5 ++ (mc_99_6 ++ (mc_99_7 ++ (mc_99_8 ++ (mc_99_9 ++ (mc_99_10))))))))))
def mr_99 : mRec := (mc_99, ⟨"ClusterVolumeLaw", "law", "([I)Z"⟩, code, 7, (some .boolean), [], 12, 243, 999)
def mRecs : List (List mRec) := [[mr_0, mr_1, mr_2, mr_3, mr_4, mr_5, mr_6, mr_7, mr_8, mr_9], [mr_10, mr_11, mr_12, mr_13, mr_14, mr_15, mr_16, mr_17, mr_18, mr_19], [mr_20, mr_21, mr_22, mr_23, mr_24, mr_25, mr_26, mr_27, mr_28, mr_29], [mr_30, mr_31, mr_32, mr_33, mr_34, mr_35, mr_36, mr_37, mr_38, mr_39], [mr_40, mr_41, mr_42, mr_43, mr_44, mr_45, mr_46, mr_47, mr_48, mr_49], [mr_50, mr_51, mr_52, mr_53, mr_54, mr_55, mr_56, mr_57, mr_58, mr_59], [mr_60, mr_61, mr_62, mr_63, mr_64, mr_65, mr_66, mr_67, mr_68, mr_69], [mr_70, mr_71, mr_72, mr_73, mr_74, mr_75, mr_76, mr_77, mr_78, mr_79], [mr_80, mr_81, mr_82, mr_83, mr_84, mr_85, mr_86, mr_87, mr_88, mr_89], [mr_90, mr_91, mr_92, mr_93, mr_94, mr_95, mr_96, mr_97, mr_98, mr_99]]
def mRec? (k : Nat) : Option mRec :=
  match mRecs[k / 10]? with
  | some l => l[k % 10]?
  | none => none
def mLook1 : List (Nat × mI) → Nat → Option mI
  | [], _ => none
  | (q, i) :: t, pc => bif Nat.beq q pc then some i else mLook1 t pc
def mLook : List (Nat × List (Nat × mI)) → Nat → Option mI
  | [], _ => none
  | (b, l) :: t, pc => bif Nat.blt pc b then mLook1 l pc else mLook t pc
def mCode (k pc : Nat) : Option mI :=
  match mRec? k with
  | some r => mLook r.1 pc
  | none => none
def mR0 : mRec := ([], ⟨"", "", ""⟩, ⟨#[]⟩, 0, none, [], 0, 0, 0)
def mRecD (k : Nat) : mRec := (mRec? k).getD mR0
def mY (k : Nat) : MethodName := (mRecD k).2.1
def mBy (k : Nat) : ByteArray := (mRecD k).2.2.1
def mNL (k : Nat) : Nat := (mRecD k).2.2.2.1
def mRet (k : Nat) : Option FieldType := (mRecD k).2.2.2.2.1
def mHH (k : Nat) : List (Nat × Nat × Nat × Nat) := (mRecD k).2.2.2.2.2.1
def mFr (k : Nat) : Nat := (mRecD k).2.2.2.2.2.2.1
def mLo (k : Nat) : Nat := (mRecD k).2.2.2.2.2.2.2.1
def mCl (k : Nat) : Nat := (mRecD k).2.2.2.2.2.2.2.2
def mNoH (k : Nat) : Bool := (mHH k).isEmpty
def mTf_0 : u_T := fun k => match k with
  | 0 => ("ClusterVolume", "disk", "LClusterVolume$Disk;", true)
  | 1 => ("ClusterVolume", "reached", "[Z", true)
  | 2 => ("ClusterVolume", "entries", "[I", true)
  | _ => ("ClusterVolume", "entryCount", "I", false)
def mTy_0 : Nat → FieldType := fun k => match k with
  | 0 => .object "ClusterVolume$Disk"
  | 1 => .array .boolean
  | 2 => .array .int
  | _ => .int
def mTf_1 : u_T := fun k => match k with
  | 0 => ("ClusterVolume$Disk", "cells", "[I", true)
  | 1 => ("ClusterVolume$Disk", "nexts", "[I", true)
  | 2 => ("ClusterVolume$Disk", "writesLeft", "I", false)
  | _ => ("ClusterVolume$Disk", "down", "Z", false)
def mTy_1 : Nat → FieldType := fun k => match k with
  | 0 => .array .int
  | 1 => .array .int
  | 2 => .int
  | _ => .boolean
def mTf_2 : u_T := fun k => match k with
  | 0 => ("ClusterVolumeModel", "code", "I", false)
  | 1 => ("ClusterVolumeModel", "table", "[I", false)
  | 2 => ("ClusterVolumeModel", "cells", "[I", false)
  | 3 => ("ClusterVolumeModel", "down", "Z", false)
  | 4 => ("ClusterVolumeModel", "left", "I", false)
  | 5 => ("ClusterVolumeModel", "marked", "[Z", false)
  | 6 => ("ClusterVolumeModel", "home", "I", false)
  | 7 => ("ClusterVolumeModel", "homeEntry", "I", false)
  | _ => ("ClusterVolumeModel", "freed", "I", false)
def mTy_2 : Nat → FieldType := fun k => match k with
  | 0 => .int
  | 1 => .array .int
  | 2 => .array .int
  | 3 => .boolean
  | 4 => .int
  | 5 => .array .boolean
  | 6 => .int
  | 7 => .int
  | _ => .int
def mCls : List vw_C := [("ClusterVolume", mTf_0, 4), ("ClusterVolume$Disk", mTf_1, 4), ("ClusterVolumeModel", mTf_2, 9)]
def mFT (c y : Nat) : FieldType :=
  match c with
  | 0 => mTy_0 y
  | 1 => mTy_1 y
  | _ => mTy_2 y
def mDef (c : Nat) : List Value :=
  match c with
  | 0 => [.null, .null, .null, .int 0]
  | 1 => [.null, .null, .int 0, .int 0]
  | _ => [.int 0, .null, .null, .int 0, .int 0, .null, .int 0, .int 0, .int 0]
def mXn (j : Nat) : String :=
  match j with
  | 0 => "java/lang/IllegalStateException"
  | 1 => "java/lang/IllegalArgumentException"
  | 2 => "java/util/NoSuchElementException"
  | 3 => "java/lang/UnsupportedOperationException"
  | 4 => "java/lang/ArithmeticException"
  | _ => "java/lang/IndexOutOfBoundsException"
def mHn (k pc j : Nat) : Option (Nat × Nat) :=
  match k with
  | 88 => match j with
    | 0 => bif Nat.blt pc 10 then some (15, 4) else none
    | 1 => bif Nat.blt pc 10 then some (19, 4) else none
    | 2 => bif Nat.blt pc 10 then some (23, 4) else none
    | 3 => bif Nat.blt pc 10 then some (27, 4) else none
    | 4 => bif Nat.blt pc 10 then some (31, 4) else none
    | _ => none
  | 89 => match j with
    | 0 => bif Nat.blt pc 9 then some (13, 3) else none
    | 1 => bif Nat.blt pc 9 then some (16, 3) else none
    | 2 => bif Nat.blt pc 9 then some (19, 3) else none
    | 3 => bif Nat.blt pc 9 then some (22, 3) else none
    | _ => none
  | 90 => match j with
    | 0 => bif Nat.blt pc 10 then some (15, 4) else none
    | 1 => bif Nat.blt pc 10 then some (19, 4) else none
    | 2 => bif Nat.blt pc 10 then some (23, 4) else none
    | 3 => bif Nat.blt pc 10 then some (27, 4) else none
    | _ => none
  | 91 => match j with
    | 0 => bif Nat.blt pc 10 then some (15, 4) else none
    | 1 => bif Nat.blt pc 10 then some (19, 4) else none
    | 2 => bif Nat.blt pc 10 then some (23, 4) else none
    | 3 => bif Nat.blt pc 10 then some (27, 4) else none
    | 4 => bif Nat.blt pc 10 then some (31, 4) else none
    | _ => none
  | 92 => match j with
    | 0 => bif Nat.blt pc 10 then some (15, 4) else none
    | 1 => bif Nat.blt pc 10 then some (19, 4) else none
    | 2 => bif Nat.blt pc 10 then some (23, 4) else none
    | 3 => bif Nat.blt pc 10 then some (27, 4) else none
    | 5 => bif Nat.blt pc 10 then some (31, 4) else none
    | _ => none
  | 93 => match j with
    | 0 => bif Nat.blt pc 12 then some (17, 5) else none
    | 1 => bif Nat.blt pc 12 then some (21, 5) else none
    | 2 => bif Nat.blt pc 12 then some (25, 5) else none
    | 3 => bif Nat.blt pc 12 then some (29, 5) else none
    | 5 => bif Nat.blt pc 12 then some (33, 5) else none
    | _ => none
  | 94 => match j with
    | 0 => bif Nat.blt pc 10 then some (15, 4) else none
    | 1 => bif Nat.blt pc 10 then some (19, 4) else none
    | 2 => bif Nat.blt pc 10 then some (23, 4) else none
    | 3 => bif Nat.blt pc 10 then some (27, 4) else none
    | 5 => bif Nat.blt pc 10 then some (31, 4) else none
    | _ => none
  | 95 => match j with
    | 0 => bif Nat.blt pc 9 then some (13, 3) else none
    | 1 => bif Nat.blt pc 9 then some (16, 3) else none
    | 2 => bif Nat.blt pc 9 then some (19, 3) else none
    | _ => none
  | 96 => match j with
    | 0 => bif Nat.blt pc 9 then some (13, 3) else none
    | 1 => bif Nat.blt pc 9 then some (16, 3) else none
    | 2 => bif Nat.blt pc 9 then some (19, 3) else none
    | 3 => bif Nat.blt pc 9 then some (22, 3) else none
    | _ => none
  | 97 => match j with
    | 0 => bif Nat.blt pc 8 then some (12, 2) else none
    | _ => none
  | _ => none
end
section
section MEX
variable (Ls : Nat) (xs : Nat → Int32)
def mEx (k : Nat) (i : Instr) (nx x y : Nat) (pc : Nat) (L : List (Option Value)) (S : List Value) (h : mH) : Option mX :=
  match i with
  | .iconst n => some (.inl (nx, L, .int (mK n) :: S, h))
  | .bipush n => some (.inl (nx, L, .int (mK n) :: S, h))
  | .sipush n => some (.inl (nx, L, .int (mK n) :: S, h))
  | .ldc _ => some (.inl (nx, L, .int (nI x) :: S, h))
  | .ldc_w _ => some (.inl (nx, L, .int (nI x) :: S, h))
  | .iload_n j => mLdI j.val (nx) L S h
  | .iload j => mLdI j (nx) L S h
  | .aload_n j => mLdA j.val (nx) L S h
  | .aload j => mLdA j (nx) L S h
  | .istore_n j => mStI j.val (nx) L S h
  | .istore j => mStI j (nx) L S h
  | .astore_n j => mStA j.val (nx) L S h
  | .astore j => mStA j (nx) L S h
  | .iinc j n =>
    match L[j]? with
    | some (some (.int v)) => some (.inl (nx, L.set j (some (.int (v + mK n))), S, h))
    | _ => none
  | .iadd => mBin (fun a b => a + b) (nx) L S h
  | .isub => mBin (fun a b => a - b) (nx) L S h
  | .imul => mBin (fun a b => a * b) (nx) L S h
  | .iand => mBin (fun a b => a &&& b) (nx) L S h
  | .ior => mBin (fun a b => a ||| b) (nx) L S h
  | .ishl => mBin (fun a b => a <<< (b &&& 31)) (nx) L S h
  | .ishr => mBin (fun a b => a >>> (b &&& 31)) (nx) L S h
  | .iushr => mBin (fun a b => (a.toUInt32 >>> (b.toUInt32 &&& Int32.toUInt32 31)).toInt32) (nx) L S h
  | .idiv =>
    match S with
    | .int b :: .int a :: S' => bif decide (b = 0) then none else some (.inl (nx, L, .int (a / b) :: S', h))
    | _ => none
  | .irem =>
    match S with
    | .int b :: .int a :: S' => bif decide (b = 0) then none else some (.inl (nx, L, .int (a - a / b * b) :: S', h))
    | _ => none
  | .i2l =>
    match S with
    | .int a :: S' => some (.inl (nx, L, .long a.toInt64 :: S', h))
    | _ => none
  | .lcmp =>
    match S with
    | .long b :: .long a :: S' => some (.inl (nx, L, .int (lg_cmp a b) :: S', h))
    | _ => none
  | .dup =>
    match S with
    | .int a :: S' => some (.inl (nx, L, .int a :: .int a :: S', h))
    | .ref a :: S' => some (.inl (nx, L, .ref a :: .ref a :: S', h))
    | _ => none
  | .goto _ => some (.inl (x, L, S, h))
  | .ifCond c _ =>
    match S with
    | .int a :: S' => some (.inr (.inl (mCmp0 c a, (x, L, S', h), some (nx, L, S', h))))
    | _ => none
  | .if_icmp c _ =>
    match S with
    | .int b :: .int a :: S' => some (.inr (.inl (mCmp c a b, (x, L, S', h), some (nx, L, S', h))))
    | _ => none
  | .tableswitch d lo hi offs =>
    match S with
    | .int v :: S' => some (.inl (mSw pc lo hi d offs.toList v.toInt, L, S', h))
    | _ => none
  | .getfield _ =>
    match S with
    | .ref a :: S' =>
      match h[a]? with
      | some (.inr (ci, fs)) =>
        bif Nat.beq ci x then
          match fs[y]? with
          | some v => some (.inl (nx, L, v :: S', h))
          | none => none
        else none
      | _ => none
    | _ => none
  | .putfield _ =>
    match S with
    | v :: .ref a :: S' =>
      match h[a]? with
      | some (.inr (ci, fs)) =>
        bif Nat.beq ci x && Nat.blt y fs.length && mPutOk (mFT x y) v then some (.inl (nx, L, S', h.set a (.inr (ci, fs.set y v))))
        else none
      | _ => none
    | _ => none
  | .iaload =>
    match S with
    | .int j :: .ref a :: S' =>
      bif Nat.beq a mSC then some (.inr (.inl (mInb j Ls, (nx, L, .int (xs j.toNatClampNeg) :: S', h), none)))
      else
        match h[a]? with
        | some (.inl (0, n, .inl f)) => some (.inr (.inl (mInb j n, (nx, L, .int (f j.toNatClampNeg) :: S', h), none)))
        | _ => none
    | _ => none
  | .iastore =>
    match S with
    | .int v :: .int j :: .ref a :: S' =>
      match h[a]? with
      | some (.inl (0, n, .inl f)) => some (.inr (.inl (mInb j n, (nx, L, S', h.set a (.inl (0, n, .inl (upd f j.toNatClampNeg v)))  ), none)))
      | _ => none
    | _ => none
  | .baload =>
    match S with
    | .int j :: .ref a :: S' =>
      match h[a]? with
      | some (.inl (1, n, .inl f)) => some (.inr (.inl (mInb j n, (nx, L, .int (f j.toNatClampNeg) :: S', h), none)))
      | _ => none
    | _ => none
  | .bastore =>
    match S with
    | .int v :: .int j :: .ref a :: S' =>
      match h[a]? with
      | some (.inl (1, n, .inl f)) => some (.inr (.inl (mInb j n, (nx, L, S', h.set a (.inl (1, n, .inl (upd f j.toNatClampNeg (vp_nar .boolean v))))  ), none)))
      | _ => none
    | _ => none
  | .laload =>
    match S with
    | .int j :: .ref a :: S' =>
      match h[a]? with
      | some (.inl (2, n, .inr (.inl f))) => some (.inr (.inl (mInb j n, (nx, L, .long (f j.toNatClampNeg) :: S', h), none)))
      | _ => none
    | _ => none
  | .lastore =>
    match S with
    | .long v :: .int j :: .ref a :: S' =>
      match h[a]? with
      | some (.inl (2, n, .inr (.inl f))) => some (.inr (.inl (mInb j n, (nx, L, S', h.set a (.inl (2, n, .inr (.inl (vp_updL f j.toNatClampNeg v))))  ), none)))
      | _ => none
    | _ => none
  | .arraylength =>
    match S with
    | .ref a :: S' => bif Nat.beq a mSC then some (.inl (nx, L, .int (Int32.ofNat Ls) :: S', h)) else none
    | _ => none
  | .newarray t =>
    match S with
    | .int n :: S' =>
      bif decide (¬ n < 0) && Nat.ble n.toNatClampNeg 1000 && mOkL h.length L && mOkS h.length S' && mOkH h.length h && Nat.blt h.length 1000 then
        match t with
        | .int => some (.inr (.inr (.inr (.inr ((nx, L, .ref h.length :: S', h ++ [.inl (0, n.toNatClampNeg, .inl fun _ => 0)]), n.toNatClampNeg)))))
        | .boolean => some (.inr (.inr (.inr (.inr ((nx, L, .ref h.length :: S', h ++ [.inl (1, n.toNatClampNeg, .inl fun _ => 0)]), n.toNatClampNeg)))))
        | .long => some (.inr (.inr (.inr (.inr ((nx, L, .ref h.length :: S', h ++ [.inl (2, n.toNatClampNeg, .inr (.inl fun _ => 0))]), n.toNatClampNeg)))))
        | _ => none
      else none
    | _ => none
  | .new _ =>
    match y with
    | 0 => bif mOkL h.length L && mOkS h.length S && mOkH h.length h && Nat.blt h.length 1000 then some (.inr (.inr (.inr (.inr ((nx, L, .ref h.length :: S, h ++ [.inr (x, mDef x)]), (mDef x).length))))) else none
    | _ => bif mNoH k && Nat.ble (mCat S) 6 && Nat.ble 6 (mFr k) && Nat.ble 100 (mLo k) then some (.inr (.inr (.inl (true, .inr x, h)))) else none
  | .invokestatic _ =>
    bif Nat.ble y S.length && mOne (S.take y) && mOkL h.length L && mOkS h.length S && Nat.ble (mCat (S.drop y)) 8 && Nat.ble (mFr x + 1) (mFr k) && Nat.ble (8 + (mNL x + 11) + mLo x) (mLo k) then
      some (.inr (.inr (.inr (.inl (x, (S.take y).reverse, (nx, L, S.drop y, h))))))
    else none
  | .invokevirtual _ =>
    match S[y]? with
    | some (.ref a) =>
      match h[a]? with
      | some (.inr (ci, _)) =>
        bif Nat.beq ci (mCl x) && mOne (S.take (y + 1)) && mOkL h.length L && mOkS h.length S && Nat.ble (mCat (S.drop (y + 1))) 8 && Nat.ble (mFr x + 1) (mFr k) && Nat.ble (8 + (mNL x + 11) + mLo x) (mLo k) then
          some (.inr (.inr (.inr (.inl (x, (S.take (y + 1)).reverse, (nx, L, S.drop (y + 1), h))))))
        else none
      | _ => none
    | _ => none
  | .invokespecial _ =>
    match S with
    | .ref a :: S' =>
      bif Nat.beq x 999 then bif Nat.ble (mCat S' + 12) (mLo k) && Nat.ble 1 (mFr k) then some (.inl (nx, L, S', h)) else none
      else
        bif mOkL h.length L && mOkS h.length S && Nat.ble (mCat S') 8 && Nat.ble (mFr x + 1) (mFr k) && Nat.ble (8 + (mNL x + 11) + mLo x) (mLo k) then
          some (.inr (.inr (.inr (.inl (x, [.ref a], (nx, L, S', h))))))
        else none
    | _ => none
  | .ireturn =>
    match S with
    | [.int v] =>
      match mRet k with
      | some .int => some (.inr (.inr (.inl (true, .inl (some (.int v)), h))))
      | some .boolean => some (.inr (.inr (.inl (decide (v &&& 1 = v), .inl (some (.int v)), h))))
      | _ => none
    | _ => none
  | .return_ =>
    match S with
    | [] =>
      match mRet k with
      | none => some (.inr (.inr (.inl (true, .inl none, h))))
      | _ => none
    | _ => none
  | _ => none
def mStep (k : Nat) : mS → Option mX
  | (pc, L, S, h) =>
    match mCode k pc with
    | some (i, nx, x, y) => mEx Ls xs k i nx x y pc L S h
    | none => none
def mEnt (k : Nat) (av : List Value) (h : mH) : mS := (0, av.map some ++ List.replicate (mNL k - av.length) none, [], h)
def mAdd (c s : Nat) (r : mR) : mR := (r.1, r.2.1, c + r.2.2.1, s + r.2.2.2)
def mGo : Nat → Nat → mS → Option mR
  | 0, _, _ => none
  | n + 1, k, st =>
    match mStep Ls xs k st with
    | none => none
    | some (.inl st') => mGo n k st'
    | some (.inr (.inl (true, a, _))) => mGo n k a
    | some (.inr (.inl (false, _, some b))) => mGo n k b
    | some (.inr (.inl (false, _, none))) => none
    | some (.inr (.inr (.inl (true, .inl v, h)))) => some (.inl v, h, 0, 0)
    | some (.inr (.inr (.inl (true, .inr j, h)))) => some (.inr j, h, 1, 6)
    | some (.inr (.inr (.inl (false, _, _)))) => none
    | some (.inr (.inr (.inr (.inr (st', s))))) => (mGo n k st').map (mAdd 1 s)
    | some (.inr (.inr (.inr (.inl (k', av, (pc, L, S, h)))))) =>
      match mGo n k' (mEnt k' av h) with
      | none => none
      | some (.inl v, h', c, s) => (mGo n k (pc, L, v.toList ++ S, h')).map (mAdd c s)
      | some (.inr j, h', c, s) =>
        match mHH k with
        | [] => some (.inr j, h', c, s)
        | _ =>
          match mHn k (pc - 3) j with
          | some (q, i) => (mGo n k (q, L.set i none, [], h')).map (mAdd c s)
          | none => none
end MEX
end
section
section MEV
variable {Ls : Nat} {xs : Nat → Int32}
theorem mGo_succ : ∀ (n k : Nat) (st : mS) (r : mR), mGo Ls xs n k st = some r → mGo Ls xs (n + 1) k st = some r := by
  intro n
  induction n with
  | zero => intro k st r h; simp [mGo] at h
  | succ n ih =>
    intro k st r h
    have ihm : ∀ (k : Nat) (st : mS) (f : mR → mR) (r : mR), (mGo Ls xs n k st).map f = some r → (mGo Ls xs (n + 1) k st).map f = some r := by
      intro k st f r h
      obtain ⟨q, h1, h2⟩ := Option.map_eq_some_iff.mp h
      rw [ih _ _ _ h1, ← h2]; rfl
    rw [mGo] at h
    rw [mGo]
    split at h
    · simp at h
    · exact ih _ _ _ h
    · exact ih _ _ _ h
    · exact ih _ _ _ h
    · simp at h
    · exact h
    · exact h
    · simp at h
    · exact ihm _ _ _ _ h
    · rename_i k' av pc L S hh _
      cases hg : mGo Ls xs n k' (mEnt k' av hh) with
      | none => rw [hg] at h; simp at h
      | some q =>
        rw [ih _ _ _ hg]
        rw [hg] at h
        obtain ⟨o, h', c, s⟩ := q
        cases o with
        | inl v => exact ihm _ _ _ _ h
        | inr j =>
          dsimp only at h ⊢
          split at h
          · exact h
          · split at h
            · exact ihm _ _ _ _ h
            · exact h
theorem mGo_le {n n' k : Nat} {st : mS} {r : mR} (h : mGo Ls xs n k st = some r) (hn : n ≤ n') : mGo Ls xs n' k st = some r := by
  induction hn with
  | refl => exact h
  | step _ ih => exact mGo_succ _ _ _ _ ih
def mEv (Ls : Nat) (xs : Nat → Int32) (k : Nat) (st : mS) (r : mR) : Prop := ∃ n, mGo Ls xs n k st = some r
def mRun (Ls : Nat) (xs : Nat → Int32) : Nat → Nat → mS → mS
  | 0, _, st => st
  | n + 1, k, st =>
    match mStep Ls xs k st with
    | some (.inl st') => mRun Ls xs n k st'
    | _ => st
def mHd (Ls : Nat) (xs : Nat → Int32) (k : Nat) (st : mS) : Option mX := mStep Ls xs k (mRun Ls xs 300 k st)
theorem mEv.plain {k : Nat} {st st' : mS} {r : mR} (h : mStep Ls xs k st = some (.inl st')) (he : mEv Ls xs k st' r) : mEv Ls xs k st r := by
  obtain ⟨n, hn⟩ := he
  exact ⟨n + 1, by rw [mGo, h]; exact hn⟩
theorem mEv.run {k : Nat} {r : mR} : ∀ (n : Nat) {st : mS}, mEv Ls xs k (mRun Ls xs n k st) r → mEv Ls xs k st r := by
  intro n
  induction n with
  | zero => intro st h; exact h
  | succ n ih =>
    intro st h
    rw [mRun] at h
    split at h
    · rename_i st' heq
      exact mEv.plain heq (ih h)
    · exact h
theorem mEv.brT {k : Nat} {st a : mS} {b : Option mS} {r : mR} {c : Bool} (h : mHd Ls xs k st = some (.inr (.inl (c, a, b)))) (hc : c = true) (he : mEv Ls xs k a r) : mEv Ls xs k st r := by
  refine mEv.run 300 ?_
  obtain ⟨n, hn⟩ := he
  subst hc
  exact ⟨n + 1, by rw [mHd] at h; rw [mGo, h]; exact hn⟩
theorem mEv.brF {k : Nat} {st a b : mS} {r : mR} {c : Bool} (h : mHd Ls xs k st = some (.inr (.inl (c, a, some b)))) (hc : c = false) (he : mEv Ls xs k b r) : mEv Ls xs k st r := by
  refine mEv.run 300 ?_
  obtain ⟨n, hn⟩ := he
  subst hc
  exact ⟨n + 1, by rw [mHd] at h; rw [mGo, h]; exact hn⟩
theorem mEv.br {k : Nat} {st a b : mS} {r : mR} {P : Prop} {dP : Decidable P} (h : mHd Ls xs k st = some (.inr (.inl (@decide P dP, a, some b)))) (ht : P → mEv Ls xs k a r) (hf : ¬ P → mEv Ls xs k b r) : mEv Ls xs k st r := by
  by_cases hP : P
  · exact mEv.brT h (by simp [hP]) (ht hP)
  · exact mEv.brF h (by simp [hP]) (hf hP)
theorem mEv.retV {k : Nat} {st : mS} {v : Option Value} {h' : mH} {c : Bool} (h : mHd Ls xs k st = some (.inr (.inr (.inl (c, .inl v, h'))))) (hc : c = true) : mEv Ls xs k st (.inl v, h', 0, 0) := by
  refine mEv.run 300 ?_
  subst hc
  exact ⟨1, by rw [mHd] at h; rw [mGo, h]⟩
theorem mEv.retX {k : Nat} {st : mS} {j : Nat} {h' : mH} {c : Bool} (h : mHd Ls xs k st = some (.inr (.inr (.inl (c, .inr j, h'))))) (hc : c = true) : mEv Ls xs k st (.inr j, h', 1, 6) := by
  refine mEv.run 300 ?_
  subst hc
  exact ⟨1, by rw [mHd] at h; rw [mGo, h]⟩
theorem mEv.mk {k : Nat} {st a : mS} {z : Nat} {r : mR} (h : mHd Ls xs k st = some (.inr (.inr (.inr (.inr (a, z)))))) (he : mEv Ls xs k a r) : mEv Ls xs k st (mAdd 1 z r) := by
  refine mEv.run 300 ?_
  obtain ⟨n, hn⟩ := he
  exact ⟨n + 1, by rw [mHd] at h; rw [mGo, h]; simp only [hn]; rfl⟩
theorem mEv.call {k k' pc c s : Nat} {st : mS} {r : mR} {av S : List Value} {L : List (Option Value)} {h h' : mH} {v : Option Value} (hs : mHd Ls xs k st = some (.inr (.inr (.inr (.inl (k', av, (pc, L, S, h))))))) (hc : mEv Ls xs k' (mEnt k' av h) (.inl v, h', c, s))
    (he : mEv Ls xs k (pc, L, v.toList ++ S, h') r) : mEv Ls xs k st (mAdd c s r) := by
  refine mEv.run 300 ?_
  obtain ⟨n1, h1⟩ := hc
  obtain ⟨n2, h2⟩ := he
  exact ⟨max n1 n2 + 1, by rw [mHd] at hs; rw [mGo, hs]; simp only [mGo_le h1 (Nat.le_max_left _ _), mGo_le h2 (Nat.le_max_right _ _)]; rfl⟩
/-- the same, where the called method makes nothing -/
theorem mEv.call0 {k k' pc : Nat} {st : mS} {r : mR} {av S : List Value} {L : List (Option Value)} {h h' : mH} {v : Option Value} (hs : mHd Ls xs k st = some (.inr (.inr (.inr (.inl (k', av, (pc, L, S, h))))))) (hc : mEv Ls xs k' (mEnt k' av h) (.inl v, h', 0, 0))
    (he : mEv Ls xs k (pc, L, v.toList ++ S, h') r) : mEv Ls xs k st r := by
  have := mEv.call hs hc he
  rwa [show mAdd 0 0 r = r by simp [mAdd]] at this
theorem mEv.thr {k k' pc c s j : Nat} {st : mS} {av S : List Value} {L : List (Option Value)} {h h' : mH} (hs : mHd Ls xs k st = some (.inr (.inr (.inr (.inl (k', av, (pc, L, S, h))))))) (hc : mEv Ls xs k' (mEnt k' av h) (.inr j, h', c, s))
    (hh : mHH k = []) : mEv Ls xs k st (.inr j, h', c, s) := by
  refine mEv.run 300 ?_
  obtain ⟨n1, h1⟩ := hc
  exact ⟨n1 + 1, by rw [mHd] at hs; rw [mGo, hs]; simp only [h1, hh]⟩
theorem mEv.cat {k k' pc c s j q i : Nat} {st : mS} {r : mR} {av S : List Value} {L : List (Option Value)} {h h' : mH} (hs : mHd Ls xs k st = some (.inr (.inr (.inr (.inl (k', av, (pc, L, S, h))))))) (hc : mEv Ls xs k' (mEnt k' av h) (.inr j, h', c, s))
    (hne : mHH k ≠ []) (hh : mHn k (pc - 3) j = some (q, i)) (he : mEv Ls xs k (q, L.set i none, [], h') r) : mEv Ls xs k st (mAdd c s r) := by
  refine mEv.run 300 ?_
  obtain ⟨n1, h1⟩ := hc
  obtain ⟨n2, h2⟩ := he
  exact ⟨max n1 n2 + 1, by rw [mHd] at hs; rw [mGo, hs]; simp only [mGo_le h1 (Nat.le_max_left _ _), hh, mGo_le h2 (Nat.le_max_right _ _)]; rfl⟩
end MEV
end
section
/-! from places to addresses -/
theorem blt_lt {a n : Nat} (h : Nat.blt a n = true) : a < n := Nat.le_of_ble_eq_true h
theorem mOne_iff {S : List Value} : mOne S = true ↔ ∀ v ∈ S, (∃ z, v = .int z) ∨ ∃ a, v = .ref a := by
  induction S with
  | nil => simp [mOne]
  | cons v t ih => cases v <;> simp [mOne, ih]
def trV (ρ : Nat → Nat) : Value → Value
  | .ref k => .ref (ρ k)
  | v => v
def trC (ρ : Nat → Nat) (dA : Nat → ClassId) : mC → va_E
  | .inl (t, a) => .inl (dA t, a)
  | .inr (ci, fs) => .inr (ci, fs.map (trV ρ))
def trH (ρ : Nat → Nat) (dA : Nat → ClassId) (h : mH) : va_W := h.mapIdx fun i c => (ρ i, trC ρ dA c)
theorem trH_get {ρ : Nat → Nat} {dA : Nat → ClassId} {h : mH} {i : Nat} {c : mC} (hc : h[i]? = some c) : (trH ρ dA h)[i]? = some (ρ i, trC ρ dA c) := by
  simp [trH, hc]
theorem trH_inv {ρ : Nat → Nat} {dA : Nat → ClassId} {h : mH} {i : Nat} {q : Nat × va_E} (hq : (trH ρ dA h)[i]? = some q) : ∃ c, h[i]? = some c ∧ q = (ρ i, trC ρ dA c) := by
  simp only [trH, List.getElem?_mapIdx] at hq
  obtain ⟨c, h1, h2⟩ := Option.map_eq_some_iff.mp hq
  exact ⟨c, h1, h2.symm⟩
theorem trH_set {ρ : Nat → Nat} {dA : Nat → ClassId} {h : mH} {i : Nat} {c : mC} : (trH ρ dA h).set i (ρ i, trC ρ dA c) = trH ρ dA (h.set i c) := by
  apply List.ext_getElem?
  intro j
  by_cases hj : i = j
  · subst hj
    by_cases hl : i < h.length
    · rw [List.getElem?_set_self (by simpa [trH] using hl), trH_get (List.getElem?_set_self hl)]
    · rw [List.getElem?_eq_none (by simp [trH]; omega), List.getElem?_eq_none (by simp [trH]; omega)]
  · rw [List.getElem?_set_ne hj]
    simp [trH, List.getElem?_set_ne hj]
theorem trH_push {ρ : Nat → Nat} {dA : Nat → ClassId} {h : mH} {c : mC} : trH ρ dA (h ++ [c]) = trH ρ dA h ++ [(ρ h.length, trC ρ dA c)] := by
  simp [trH, List.mapIdx_append]
theorem mOkV_tr {n : Nat} {v : Value} {ρ ρ' : Nat → Nat} (h : mOkV n v = true) (e : ∀ i, i < n → ρ' i = ρ i) (e2 : ρ' mSC = ρ mSC) : trV ρ' v = trV ρ v := by
  cases v with
  | ref a =>
    simp only [mOkV, Bool.or_eq_true] at h
    rcases h with h | h
    · have : a < n := blt_lt h
      simp [trV, e a this]
    · have : a = mSC := Nat.eq_of_beq_eq_true h
      subst this
      simp [trV, e2]
  | _ => rfl
theorem mOkS_tr {n : Nat} {S : List Value} {ρ ρ' : Nat → Nat} (h : mOkS n S = true) (e : ∀ i, i < n → ρ' i = ρ i) (e2 : ρ' mSC = ρ mSC) : S.map (trV ρ') = S.map (trV ρ) := by
  induction S with
  | nil => rfl
  | cons v t ih =>
    simp only [mOkS, Bool.and_eq_true] at h
    simp [mOkV_tr h.1 e e2, ih h.2]
theorem mOkH_tr {n : Nat} {ρ ρ' : Nat → Nat} {dA : Nat → ClassId} (e : ∀ i, i < n → ρ' i = ρ i) (e2 : ρ' mSC = ρ mSC) : ∀ (h : mH) (i : Nat) (c : mC), mOkH n h = true → h[i]? = some c → trC ρ' dA c = trC ρ dA c := by
  intro h
  induction h with
  | nil => intro i c _ hc; simp at hc
  | cons d t ih =>
    intro i c ho hc
    cases i with
    | zero =>
      simp at hc
      subst hc
      obtain ⟨t1, a⟩ | ⟨ci, fs⟩ := d
      · rfl
      · simp only [mOkH, Bool.and_eq_true] at ho
        simp only [trC]
        rw [mOkS_tr ho.1 e e2]
    | succ i =>
      refine ih i c ?_ (by simpa using hc)
      obtain ⟨t1, a⟩ | ⟨ci, fs⟩ := d
      · simpa [mOkH] using ho
      · simp only [mOkH, Bool.and_eq_true] at ho
        exact ho.2
theorem trH_ext {n : Nat} {ρ ρ' : Nat → Nat} {dA : Nat → ClassId} {h : mH} (e : ∀ i, i < n → ρ' i = ρ i) (e2 : ρ' mSC = ρ mSC) (hn : h.length ≤ n) (ho : mOkH n h = true) : trH ρ' dA h = trH ρ dA h := by
  apply List.ext_getElem?
  intro i
  simp only [trH, List.getElem?_mapIdx]
  cases hc : h[i]? with
  | none => rfl
  | some c =>
    have hi : i < h.length := (List.getElem?_eq_some_iff.mp hc).1
    simp [mOkH_tr e e2 h i c ho hc, e i (by omega)]
/-! locals -/
def lpm (ρ : Nat → Nat) (L : List (Option Value)) : List (Nat × Value) := L.zipIdx.filterMap fun q => q.1.map fun v => (q.2, trV ρ v)
theorem lpm_mem {ρ : Nat → Nat} {L : List (Option Value)} {q : Nat × Value} : q ∈ lpm ρ L ↔ ∃ v, L[q.1]? = some (some v) ∧ q.2 = trV ρ v := by
  obtain ⟨i, w⟩ := q
  simp only [lpm, List.mem_filterMap, Option.map_eq_some_iff, Prod.mk.injEq, Prod.exists]
  constructor
  · rintro ⟨o, j, hm, v, rfl, rfl, rfl⟩
    exact ⟨v, List.mem_zipIdx_iff_getElem?.mp hm, rfl⟩
  · rintro ⟨v, hv, rfl⟩
    exact ⟨some v, i, List.mem_zipIdx_iff_getElem?.mpr hv, v, rfl, rfl, rfl⟩
def LR (ρ : Nat → Nat) (ls : Array Slot) (n : Nat) (L : List (Option Value)) : Prop := lv_has ls n (lpm ρ L) ∧ L.length = n ∧ ∀ (i : Nat) (v : Value), L[i]? = some (some v) → v.category = 1
theorem LR.at {ρ : Nat → Nat} {ls : Array Slot} {n i : Nat} {L : List (Option Value)} {v : Value} (h : LR ρ ls n L) (hv : L[i]? = some (some v)) : ls[i]? = some (.val (trV ρ v)) := h.1.2.2 (i, trV ρ v) (lpm_mem.mpr ⟨v, hv, rfl⟩)
theorem trV_cat {ρ : Nat → Nat} {v : Value} : (trV ρ v).category = v.category := by cases v <;> rfl
theorem LR.put {ρ : Nat → Nat} {ls ls' : Array Slot} {n i : Nat} {L : List (Option Value)} {v : Value} (h : LR ρ ls n L) (hc : v.category = 1) (hi : i < L.length)
    (h' : lv_has ls' n ((i, trV ρ v) :: (lpm ρ L).filter (fun q => !(q.1 == i) && !(q.1 + 1 == i && q.2.category == 2)))) : LR ρ ls' n (L.set i (some v)) := by
  have key : ∀ (j : Nat) (w : Value), (L.set i (some v))[j]? = some (some w) → (j = i ∧ w = v) ∨ (j ≠ i ∧ L[j]? = some (some w)) := by
    intro j w hj
    by_cases e : i = j
    · subst e
      rw [List.getElem?_set_self hi] at hj
      exact Or.inl ⟨rfl, by simpa using hj.symm⟩
    · rw [List.getElem?_set_ne e] at hj
      exact Or.inr ⟨Ne.symm e, hj⟩
  refine ⟨⟨h'.1, h'.2.1, fun q hq => ?_⟩, by simp [h.2.1], fun j w hj => ?_⟩
  · obtain ⟨w, hw, hw2⟩ := lpm_mem.mp hq
    obtain ⟨j, z⟩ := q
    dsimp only at hw hw2
    rcases key j w hw with ⟨rfl, rfl⟩ | ⟨hne, hj⟩
    · subst hw2
      exact h'.2.2 _ List.mem_cons_self
    · subst hw2
      refine h'.2.2 _ (List.mem_cons_of_mem _ (List.mem_filter.mpr ⟨lpm_mem.mpr ⟨w, hj, rfl⟩, ?_⟩))
      have := h.2.2 j w hj
      simp [hne, trV_cat, this]
  · rcases key j w hj with ⟨rfl, rfl⟩ | ⟨-, hj⟩
    · exact hc
    · exact h.2.2 j w hj
theorem LR.drop {ρ : Nat → Nat} {ls ls' : Array Slot} {n i : Nat} {L : List (Option Value)} {v : Value} (h : LR ρ ls n L)
    (h' : lv_has ls' n ((i, v) :: (lpm ρ L).filter (fun q => !(q.1 == i) && !(q.1 + 1 == i && q.2.category == 2)))) : LR ρ ls' n (L.set i none) := by
  have key : ∀ (j : Nat) (w : Value), (L.set i none)[j]? = some (some w) → j ≠ i ∧ L[j]? = some (some w) := by
    intro j w hj
    by_cases e : i = j
    · subst e
      by_cases hi : i < L.length
      · rw [List.getElem?_set_self hi] at hj
        simp at hj
      · rw [List.getElem?_eq_none (by simp; omega)] at hj
        simp at hj
    · rw [List.getElem?_set_ne e] at hj
      exact ⟨Ne.symm e, hj⟩
  refine ⟨⟨h'.1, h'.2.1, fun q hq => ?_⟩, by simp [h.2.1], fun j w hj => h.2.2 j w (key j w hj).2⟩
  obtain ⟨w, hw, hw2⟩ := lpm_mem.mp hq
  obtain ⟨j, z⟩ := q
  dsimp only at hw hw2
  obtain ⟨hne, hj⟩ := key j w hw
  subst hw2
  refine h'.2.2 _ (List.mem_cons_of_mem _ (List.mem_filter.mpr ⟨lpm_mem.mpr ⟨w, hj, rfl⟩, ?_⟩))
  have := h.2.2 j w hj
  simp [hne, trV_cat, this]
theorem LR.ext {n : Nat} {ρ ρ' : Nat → Nat} {ls : Array Slot} {nl : Nat} {L : List (Option Value)} (h : LR ρ ls nl L) (ho : mOkL n L = true) (e : ∀ i, i < n → ρ' i = ρ i) (e2 : ρ' mSC = ρ mSC) : LR ρ' ls nl L := by
  have key : ∀ (L : List (Option Value)), mOkL n L = true → ∀ (i : Nat) (v : Value), L[i]? = some (some v) → mOkV n v = true := by
    intro L
    induction L with
    | nil => intro _ i v hv; simp at hv
    | cons o t ih =>
      intro ho i v hv
      cases o with
      | none =>
        cases i with
        | zero => simp at hv
        | succ i => exact ih (by simpa [mOkL] using ho) i v (by simpa using hv)
      | some w =>
        simp only [mOkL, Bool.and_eq_true] at ho
        cases i with
        | zero => simp at hv; subst hv; exact ho.1
        | succ i => exact ih ho.2 i v (by simpa using hv)
  refine ⟨⟨h.1.1, h.1.2.1, fun q hq => ?_⟩, h.2⟩
  obtain ⟨v, hv, hw⟩ := lpm_mem.mp hq
  refine h.1.2.2 q (lpm_mem.mpr ⟨v, hv, ?_⟩)
  rw [hw, mOkV_tr (key L ho q.1 v hv) e e2]
theorem LR.entry {ρ : Nat → Nat} {av : List Value} {n : Nat} (hn : av.length ≤ n) (h1 : mOne av = true) :
    LR ρ ((lg_sl (av.map (trV ρ)) ++ List.replicate (n - (lg_sl (av.map (trV ρ))).length) Slot.unset).toArray) n (av.map some ++ List.replicate (n - av.length) none) := by
  have c1 : ∀ (av : List Value), mOne av = true → ∀ v ∈ av, v.category = 1 := by
    intro av ho v hv
    rcases mOne_iff.mp ho v hv with ⟨z, rfl⟩ | ⟨z, rfl⟩ <;> rfl
  have l1 : ∀ (av : List Value), (∀ v ∈ av, v.category = 1) → (lg_sl av).length = av.length := by
    intro av
    induction av with
    | nil => intro _; rfl
    | cons w t ih =>
      intro hc
      have h2 : ¬ w.category = 2 := by rw [hc w List.mem_cons_self]; decide
      simp [lg_sl, h2] 
      have := ih (fun v hv => hc v (List.mem_cons_of_mem _ hv))
      simpa [lg_sl] using this
  have m1 : ∀ (av : List Value) (j i : Nat) (v : Value), (∀ v ∈ av, v.category = 1) → av[i]? = some v → (j + i, v) ∈ lv_args j av := by
    intro av
    induction av with
    | nil => intro j i v _ hv; simp at hv
    | cons w t ih =>
      intro j i v hc hv
      have h2 : ¬ w.category = 2 := by rw [hc w List.mem_cons_self]; decide
      simp only [lv_args, h2, if_false]
      cases i with
      | zero => simp at hv; subst hv; simp
      | succ i =>
        refine List.mem_cons_of_mem _ ?_
        have := ih (j + 1) i v (fun v hv => hc v (List.mem_cons_of_mem _ hv)) (by simpa using hv)
        rwa [show j + 1 + i = j + (i + 1) by omega] at this
  have hc2 : ∀ v ∈ av.map (trV ρ), v.category = 1 := by
    intro v hv
    obtain ⟨w, hw, rfl⟩ := List.mem_map.mp hv
    rw [trV_cat]; exact c1 av h1 w hw
  have hl := lv_entry (av.map (trV ρ)) (n := n) (by rw [l1 _ hc2]; simpa using hn)
  have hget : ∀ (i : Nat) (v : Value), (av.map some ++ List.replicate (n - av.length) none)[i]? = some (some v) → av[i]? = some v := by
    intro i v hv
    by_cases hi : i < av.length
    · rw [List.getElem?_append_left (by simpa using hi)] at hv
      simpa using hv
    · rw [List.getElem?_append_right (by simpa using hi)] at hv
      simp [List.getElem?_replicate] at hv
  refine ⟨⟨hl.1, hl.2.1, fun q hq => ?_⟩, by simp; omega, fun i v hv => c1 av h1 v (List.mem_of_getElem? (hget i v hv))⟩
  obtain ⟨v, hv, hw⟩ := lpm_mem.mp hq
  refine hl.2.2 q ?_
  have := m1 (av.map (trV ρ)) 0 q.1 (trV ρ v) hc2 (by simp [hget _ _ hv])
  rw [Nat.zero_add, ← hw] at this
  exact this
end
section
section XCA
variable {p : Program} {l : Launch} {e : Env} {R : Room} {s : State} {m : MethodId} {args : Array Value} {below : List Frame} {meth : Method} {c : Code} {T : State} {locs : List Loc} {cells slots : Nat}
/-- the method of that name, its code and its handlers -/
def xHas (s : State) (y : MethodName) (bytes : ByteArray) (maxL : Nat) (ret : Option FieldType) (hh : List (Nat × Nat × Nat × Nat)) : Prop :=
  ∃ mk methM cM, s.methodNamed? y = some mk ∧ s.vm.method? mk = some methM ∧ methM.code = some cM ∧ cM.code = bytes ∧ cM.maxLocals = maxL ∧
    cM.exceptionTable.toList.map (fun h => (h.startPc, h.endPc, h.handlerPc, h.catchType)) = hh ∧ methM.sig.returnType = ret ∧ methM.locks = false ∧ parseMethodDescriptor y.desc = some methM.sig
theorem xHas.ofW {y : MethodName} {bytes : ByteArray} {maxL : Nat} {ret : Option FieldType} {hh : List (Nat × Nat × Nat × Nat)} (h : (Jvm.Cond.codeWith y bytes maxL ret hh).before args s = true) : xHas s y bytes maxL ret hh := by
  obtain ⟨m9, meth9, c9, h0, h1, h2, h3, h4, h5, h6, h7, h8⟩ := Cond.codeWith_spec h
  exact ⟨m9, meth9, c9, h0, h1, h2, h3, h4, h5, h6, h7, h8⟩
theorem xHas.of {y : MethodName} {bytes : ByteArray} {maxL : Nat} {ret : Option FieldType} (h : (Jvm.Cond.code y bytes maxL ret).before args s = true) : xHas s y bytes maxL ret [] := by
  obtain ⟨m9, hn⟩ := Cond.code_named h
  obtain ⟨meth9, c9, h1, h2, h3, h4, h5, h6, h7, h8⟩ := Cond.code_spec hn h
  have h0 : c9.exceptionTable.size = 0 := by simpa [Array.isEmpty] using h7
  have h9 : c9.exceptionTable.toList = [] := List.eq_nil_of_length_eq_zero (by simpa using h0)
  exact ⟨m9, meth9, c9, hn, h1, h2, h3, h4, by rw [h9]; rfl, h5, h6, h8⟩
/-- the call has been made: what is left is the invoked method -/
def xGo (p : Program) (l : Launch) (e : Env) (R : Room) (s : State) (m : MethodId) (args : Array Value) (below : List Frame) (meth : Method) (c : Code) (T : State) (locs : List Loc) (cells slots : Nat) (g : JFrame) (rest : List Value) (y : MethodName) (av : Array Value) : Prop :=
  ∃ (mk : MethodId) (vm₁ : Vm), s.methodNamed? y = some mk ∧ Stand p l e R s m args below meth c (T.setVm vm₁) locs cells slots ∧
    ∀ target, Steps p.tables e below (doInvoke e ((T.setVm vm₁).setTop { g with stack := rest }) [] mk av).1 target → Steps p.tables e below (T.setTop g) target
theorem xGoV (X : Stand p l e R s m args below meth c T locs cells slots) (hexec : p.tables.exec = Jvm.exec) {own C : String} {index : Nat} {y : MethodName} {bytes : ByteArray} {maxL : Nat} {ret : Option FieldType} {hh : List (Nat × Nat × Nat × Nat)}
    (hown : s.vm.findClass own = some m.cls) (hlink : (Jvm.Cond.methodLink own index y).before args s = true) (hinst : (Jvm.Cond.instanceMethod y).before args s = true) (hsel : (Jvm.Cond.selects C y y).before args s = true)
    (hcode : xHas s y bytes maxL ret hh) (hy : y.cls ≠ "java/lang/invoke/MethodHandle" ∧ y.cls ≠ "java/lang/invoke/VarHandle")
    {b : Addr} {cellB : Cell} (hcell : T.heap[b]? = some cellB) (hobj : cellB.vm.isStatics = false) (hcls : s.vm.findClass C = some cellB.cls)
    {g : JFrame} (hg : g.method = m) {argsL rest : List Value} (hlen : ∀ sig, parseMethodDescriptor y.desc = some sig → argsL.length = sig.parameters.length)
    (hstack : g.stack = argsL.reverse ++ .ref b :: rest) (hdg : decode c.code g.pc = .ok (.invokevirtual index, 3)) :
    xGo p l e R s m args below meth c T locs cells slots g rest y (Value.ref b :: argsL).toArray := by
  obtain ⟨mk, methM, hnamed, hmethM, hstM, habM⟩ := Cond.instanceMethod_spec hinst
  obtain ⟨mk', methM', cM, hnamed', hmethM', -, -, -, -, -, -, hsigM⟩ := hcode
  cases hnamed.symm.trans hnamed'
  cases hmethM.symm.trans hmethM'
  obtain ⟨c2, r2, m2, q1, q2, q3, q4, kP, hkP, hkPi⟩ := Cond.selects_spec hsel
  cases hcls.symm.trans q1
  cases (State.methodFound?_of_named hnamed hy).symm.trans q2
  cases hnamed.symm.trans q3
  have hselP : selectMethod e.platform s.vm cellB.cls mk = .method mk := by rw [Launch.admits_selectMethod X.admits]; exact q4
  obtain ⟨vm₁, X₁, hstep₁⟩ := X.invokevirtual hexec hown hlink hnamed hmethM hstM hkP hkPi hy (a := b) (cell := cellB) hcell
    (fun z h => by rw [h] at hobj; cases hobj) hselP hmethM habM hkP hkPi (g := g) hg (argsL := argsL) (rest := rest) (hlen _ hsigM) hstack hdg
  exact ⟨mk, vm₁, hnamed, X₁, fun target h => hstep₁ _ fun acts => by rw [doInvoke_state]; exact h⟩
theorem xGoS (X : Stand p l e R s m args below meth c T locs cells slots) (hexec : p.tables.exec = Jvm.exec) {own : String} {index : Nat} {y : MethodName} {bytes : ByteArray} {maxL : Nat} {ret : Option FieldType} {hh : List (Nat × Nat × Nat × Nat)}
    (hown : s.vm.findClass own = some m.cls) (hlink : (Jvm.Cond.methodLink own index y).before args s = true) (hstat : (Jvm.Cond.static y).before args s = true) (hinit : (Jvm.Cond.initialized y.cls).before args s = true)
    (hcode : xHas s y bytes maxL ret hh) (hy : y.cls ≠ "java/lang/invoke/MethodHandle" ∧ y.cls ≠ "java/lang/invoke/VarHandle")
    {g : JFrame} (hg : g.method = m) {argsL rest : List Value} (hlen : ∀ sig, parseMethodDescriptor y.desc = some sig → argsL.length = sig.parameters.length)
    (hstack : g.stack = argsL.reverse ++ rest) (hdg : decode c.code g.pc = .ok (.invokestatic index, 3)) :
    xGo p l e R s m args below meth c T locs cells slots g rest y argsL.toArray := by
  obtain ⟨mk, methM, cM, hnamed, hmethM, -, -, -, -, -, -, hsigM⟩ := hcode
  have hstatic : methM.isStatic = true := Cond.static_spec hnamed hmethM hstat
  obtain ⟨kP, hkP, -⟩ := className_of_methodNamed hnamed
  have hinitP : kP.init = .initialized := Cond.initialized_spec (findClass_of_methodNamed hnamed) hkP hinit
  obtain ⟨vm₁, X₁, hstep₁⟩ := X.invokestatic hexec hown hlink hnamed hmethM hstatic hkP hinitP hy (g := g) hg (argsL := argsL) (rest := rest) (hlen _ hsigM) hstack hdg
  exact ⟨mk, vm₁, hnamed, X₁, fun target h => hstep₁ _ fun acts => by rw [doInvoke_state]; exact h⟩
theorem xGoSN (X : Stand p l e R s m args below meth c T locs cells slots) (hexec : p.tables.exec = Jvm.exec) {own host : String} {index : Nat} {y : MethodName} {bytes : ByteArray} {maxL : Nat} {ret : Option FieldType} {hh : List (Nat × Nat × Nat × Nat)}
    (hown : s.vm.findClass own = some m.cls) (hlink : (Jvm.Cond.methodLinkNest own index y host).before args s = true) (hstat : (Jvm.Cond.static y).before args s = true) (hinit : (Jvm.Cond.initialized y.cls).before args s = true)
    (hcode : xHas s y bytes maxL ret hh) (hy : y.cls ≠ "java/lang/invoke/MethodHandle" ∧ y.cls ≠ "java/lang/invoke/VarHandle")
    {g : JFrame} (hg : g.method = m) {argsL rest : List Value} (hlen : ∀ sig, parseMethodDescriptor y.desc = some sig → argsL.length = sig.parameters.length)
    (hstack : g.stack = argsL.reverse ++ rest) (hdg : decode c.code g.pc = .ok (.invokestatic index, 3)) :
    xGo p l e R s m args below meth c T locs cells slots g rest y argsL.toArray := by
  obtain ⟨mk, methM, cM, hnamed, hmethM, -, -, -, -, -, -, hsigM⟩ := hcode
  have hstatic : methM.isStatic = true := Cond.static_spec hnamed hmethM hstat
  obtain ⟨kP, hkP, -⟩ := className_of_methodNamed hnamed
  have hinitP : kP.init = .initialized := Cond.initialized_spec (findClass_of_methodNamed hnamed) hkP hinit
  obtain ⟨vm₁, X₁, hstep₁⟩ := X.invokestaticNest hexec hown hlink hnamed hmethM hstatic hkP hinitP hy (g := g) hg (argsL := argsL) (rest := rest) (hlen _ hsigM) hstack hdg
  exact ⟨mk, vm₁, hnamed, X₁, fun target h => hstep₁ _ fun acts => by rw [doInvoke_state]; exact h⟩
theorem xGoI (X : Stand p l e R s m args below meth c T locs cells slots) (hexec : p.tables.exec = Jvm.exec) {own : String} {index : Nat} {y : MethodName} {bytes : ByteArray} {maxL : Nat}
    (hown : s.vm.findClass own = some m.cls) (hy1 : y.name = "<init>") (hlink : (Jvm.Cond.methodLink own index y).before args s = true) (hinst : (Jvm.Cond.instanceMethod y).before args s = true)
    (hcode : (Jvm.Cond.code y bytes maxL none).before args s = true) (hy : y.cls ≠ "java/lang/invoke/MethodHandle" ∧ y.cls ≠ "java/lang/invoke/VarHandle")
    {g : JFrame} (hg : g.method = m) {a : Addr} {argsL rest : List Value} (hlen : ∀ sig, parseMethodDescriptor y.desc = some sig → argsL.length = sig.parameters.length)
    (hstack : g.stack = argsL.reverse ++ .ref a :: rest) (hdg : decode c.code g.pc = .ok (.invokespecial index, 3)) :
    xGo p l e R s m args below meth c T locs cells slots g rest y (Value.ref a :: argsL).toArray := by
  subst hg
  have hpl : e.platform.magicAccessors = ({} : Platform).magicAccessors := by rw [X.admits.platform]
  obtain ⟨mk, methM, cM, kP, vm₁, hnamed, hmethM, hcodeM, -, hlocalsM, -, hkP, -, hW₁, hstep₁⟩ := Steps.initColdArgs (e := e) X.here hexec X.warmed hpl hown hy1 hy hlink hinst hcode (f := g) rfl hlen hstack hdg
  exact ⟨mk, vm₁, hnamed, X.noted hW₁, fun target h => hstep₁ _ fun acts => by rw [doInvoke_state]; exact h⟩
/-- what a called method leaves: its own word; warmer tables; the frame -/
def xQ (Qx : Array Value → State → Outcome → State → Prop) (mc ms : Nat) (free : State → Addr → Prop) : Array Value → State → Outcome → State → Prop := fun a st o t =>
  Qx a st o t ∧ st.WarmedH t.vm ∧ ∃ L, st.sameButNew ({ t with vm := st.vm } : State) L mc ms ∧ ∀ q ∈ L, free st q.base
def xMet (l : Launch) (y : MethodName) (ws : List Jvm.Cond) (rm : Room) (Pc : Array Value → State → Prop) (Qx : Array Value → State → Outcome → State → Prop) (free : State → Addr → Prop) : Prop :=
  MetFree l y (headSpec ws rm) Pc (fun _ _ _ _ _ => True) (xQ Qx rm.cells rm.slots free)
/-- where the machine stands behind the call -/
def xTo (U : State) (g : JFrame) (len : Nat) : Outcome → State
  | .returned v => U.setTop { g with pc := g.pc + len, stack := v.toList ++ g.stack }
  | .threw x => (U.setTop g).pushFrame (.throwing x)
theorem xCall {U : State} (X : Stand p l e R s m args below meth c U locs cells slots) {y : MethodName} {ws : List Jvm.Cond} {rm : Room} {Pc : Array Value → State → Prop} {Qx : Array Value → State → Outcome → State → Prop} {free : State → Addr → Prop} (hM : xMet l y ws rm Pc Qx free)
    {g : JFrame} (hg : g.method = m) (hsize : g.locals.size = c.maxLocals) {ig : Instr} {len : Nat} (hdg : decode c.code g.pc = .ok (ig, len)) {bytes : ByteArray} {maxL : Nat} {ret : Option FieldType} {hh : List (Nat × Nat × Nat × Nat)} (hcode : xHas U y bytes maxL ret hh) {mk : MethodId} (hn : U.methodNamed? y = some mk) {a : Array Value}
    (hini : (Jvm.Cond.initialized y.cls).before a U = true) (hframes : rm.frames + 1 ≤ R.frames) (hlocals : 2 * g.monitorRoom + (g.stack.map fun v => v.category).sum + (maxL + 11) + rm.locals ≤ R.locals) (hcells : cells + rm.cells ≤ R.cells) (hslots : slots + rm.slots ≤ R.slots)
    (hpre : (allAtoms ws).before a U = true) (hP : Pc a (U.calling g mk a)) :
    ∃ (o : Outcome) (t U' : State) (L : List Loc), Stand p l e R s m args below meth c U' (locs ++ L) (cells + rm.cells) (slots + rm.slots) ∧ (∀ q ∈ L, free (U.calling g mk a) q.base) ∧ U'.heap = t.heap ∧ U'.vm = t.vm ∧ Qx a (U.calling g mk a) o t ∧ Steps p.tables e below (doInvoke e (U.setTop g) [] mk a).1 (xTo U' g len o) := by
  obtain ⟨mk', methY, cY, hn', hmY, hcY, -, hlY, -, -, -, -⟩ := hcode
  cases hn.symm.trans hn'
  obtain ⟨kY, hkY, -⟩ := className_of_methodNamed hn
  have hinitY : kY.init = .initialized := Cond.initialized_spec (findClass_of_methodNamed hn) hkY hini
  have h : At U g.method c below := by rw [hg]; exact X.here
  have happ : (headSpec ws rm).appliesLoose y e.platform (U.calling g mk a) = true :=
    Spec.appliesLoose_calling (g := g) h hdg hn hkY hinitY
      (X.room_calling (g := g) (R' := rm) hsize hmY hcY hframes (by rw [hlY]; omega) hcells hslots) hpre
  obtain ⟨mid, hmid⟩ := h.above
  have hfr : (U.setTop g).frames = (.java g :: mid) ++ below := by rw [State.frames_setTop' g h.top, hmid]; rfl
  obtain ⟨o, s₂, hsteps, -, hend, hq⟩ := Steps.callFree hM p X.admits X.cas X.clock (acts := []) hfr happ hP trivial
  have hq' : xQ Qx rm.cells rm.slots free a (U.calling g mk a) o s₂ := hq
  rw [State.frames_setTop' g h.top] at hend
  obtain ⟨hqx, hW₂, L, ⟨e2, q2, q3, q4, q5, q6⟩, hL⟩ := hq'
  have e3 : s₂ = ({ (U.calling g mk a).setFrames s₂.frames with heap := s₂.heap, slotsUsed := s₂.slotsUsed } : State).setVm s₂.vm := by
    have : s₂ = ({ s₂ with vm := (U.calling g mk a).vm } : State).setVm s₂.vm := rfl
    rw [e2] at this
    exact this
  have hW' : U.WarmedH s₂.vm := hW₂
  obtain ⟨g₀, hg0⟩ := Option.isSome_iff_exists.mp h.top
  obtain ⟨r, hr⟩ := State.topJava?_eq_some.mp hg0
  have hr' : (({ U with heap := s₂.heap, slotsUsed := s₂.slotsUsed } : State).setVm s₂.vm).frames = .java g₀ :: r := hr
  have hsame : U.sameButNew ({ U with heap := s₂.heap, slotsUsed := s₂.slotsUsed } : State) L rm.cells rm.slots := by
    refine ⟨?_, q2, q3, q4, q5, q6⟩
    obtain ⟨t, ht, -⟩ := State.frames_cons hr
    show ({ U with heap := s₂.heap, slotsUsed := s₂.slotsUsed } : State) = { U.setFrames U.frames with heap := s₂.heap, slotsUsed := s₂.slotsUsed }
    rw [State.setFrames_self ht]
  have hX : Stand p l e R s m args below meth c (({ U with heap := s₂.heap, slotsUsed := s₂.slotsUsed } : State).setVm s₂.vm) (locs ++ L) (cells + rm.cells) (slots + rm.slots) := by
    subst hg
    exact ⟨X.admits, X.cas, X.clock, X.frames, X.room, X.hears, X.method, X.code, (X.here.setHeapUsed s₂.heap s₂.slotsUsed).setVm hW'.alike, X.tail, State.WarmedH.trans X.warmed hW', X.limits, X.bytes, X.same.trans (hsame.setVm s.vm)⟩
  refine ⟨o, s₂, ({ U with heap := s₂.heap, slotsUsed := s₂.slotsUsed } : State).setVm s₂.vm, L, hX, hL, rfl, rfl, hqx, ?_⟩
  cases o with
  | returned v =>
    obtain ⟨c₂, i₂, len₂, hc₂, hd₂, hf₂⟩ := hend
    have hcc : c₂ = c := by
      have h1 : s₂.code? g.method = U.code? g.method := by
        rw [State.code?_eq, State.code?_eq, hW'.alike.method?]
      exact Option.some.inj (hc₂.symm.trans (h1.trans h.code))
    subst hcc
    have hlen : len₂ = len := by rw [hdg] at hd₂; cases hd₂; rfl
    subst hlen
    have hs₂ : s₂ = (({ U with heap := s₂.heap, slotsUsed := s₂.slotsUsed } : State).setVm s₂.vm).setTop { g with pc := g.pc + len₂, stack := v.toList ++ g.stack } := by
      refine e3.trans ?_
      rw [hf₂, State.calling_eq h.top, State.setFrames_setFrames, State.setTop_of_frames _ hr', hr]
      rfl
    show Steps p.tables e below _ ((({ U with heap := s₂.heap, slotsUsed := s₂.slotsUsed } : State).setVm s₂.vm).setTop { g with pc := g.pc + len₂, stack := v.toList ++ g.stack })
    rw [← hs₂]
    exact hsteps
  | threw x =>
    have hf₂ : s₂.frames = .throwing x :: .java g :: U.frames.tail := hend
    have hs₂ : s₂ = ((({ U with heap := s₂.heap, slotsUsed := s₂.slotsUsed } : State).setVm s₂.vm).setTop g).pushFrame (.throwing x) := by
      refine e3.trans ?_
      rw [hf₂, State.calling_eq h.top, State.setFrames_setFrames, State.pushFrame, State.frames_setTop' g (s := ({ U with heap := s₂.heap, slotsUsed := s₂.slotsUsed } : State).setVm s₂.vm) (by exact h.top), State.setTop_of_frames _ hr', State.setFrames_setFrames]
      rfl
    show Steps p.tables e below _ (((({ U with heap := s₂.heap, slotsUsed := s₂.slotsUsed } : State).setVm s₂.vm).setTop g).pushFrame (.throwing x))
    rw [← hs₂]
    exact hsteps
end XCA
section XCB
variable {p : Program} {l : Launch} {e : Env} {R : Room} {s : State} {m : MethodId} {args : Array Value} {below : List Frame} {meth : Method} {c : Code} {T : State} {locs : List Loc} {cells slots : Nat}
/-- the row of a table of handlers that takes an exception of the class k at pc: its handler is q -/
def xTakes (e : Env) (s : State) (d : ClassId) (pc : Nat) (k : ClassId) (q : Nat) : List ExceptionTableEntry → Prop
  | [] => False
  | r :: t => (covers r pc = false ∧ xTakes e s d pc k q t) ∨ (covers r pc = true ∧ r.catchType ≠ 0 ∧ ∃ c : ClassId, s.vm.ClassLinks e.platform d r.catchType c ∧ ((s.vm.assignable k c = true ∧ r.handlerPc = q) ∨ (s.vm.assignable k c = false ∧ xTakes e s d pc k q t)))
theorem xSearch {f : JFrame} {a : Addr} {cell : Cell} (hobj : ∀ k, cell.vm ≠ .statics k) {k0 : Class} (hk0 : s.vm.classes[cell.cls]? = some k0) (q : Nat) :
    ∀ (rows : List ExceptionTableEntry) (S : State), s.WarmedH S.vm → S.heap[a]? = some cell → xTakes e s f.method.cls f.pc cell.cls q rows →
      ∃ vm', s.WarmedH vm' ∧ ∀ (Q : Handler → Pre) (E : CtlPost) (d : Bool) (acts : List Action), wp (findHandler.go f a rows) Q E e d acts S ↔ Q (.found q) d acts (S.setVm vm') := by
  intro rows
  induction rows with
  | nil => intro S _ _ h; exact h.elim
  | cons r t ih =>
    intro S hW hcell h
    obtain ⟨k1, hk1, -⟩ := hW.alike.2.2 _ _ hk0
    rcases h with ⟨h1, h2⟩ | ⟨h1, h0, c, hl, h2⟩
    · obtain ⟨vm', hW', hq⟩ := ih S hW hcell h2
      exact ⟨vm', hW', fun Q E d acts => (W.findHandler_go_skip h1).trans (hq Q E d acts)⟩
    · have hlS : S.vm.ClassLinks e.platform f.method.cls r.catchType c := hW.classLinks hl
      obtain ⟨dk, _, _, kt, hd, _, _, _, _, hkt, _, hopen⟩ := hl.here
      have hW1 : s.WarmedH (S.vm.noted f.method.cls r.catchType (.cls c)) := hW.noted hd hopen (State.rightAt_cls hl)
      obtain ⟨ha, ht⟩ := (resolveClass_links e.toSetting hlS).op (op := VmOp.resolveClass f.method.cls r.catchType) rfl
      obtain ⟨k2, hk2, -⟩ := hW1.alike.2.2 _ _ hk0
      obtain ⟨k3, hk3, -⟩ := hW1.alike.2.2 _ _ hkt
      have hc := h1
      simp only [covers] at hc
      rcases h2 with ⟨hy, rfl⟩ | ⟨hno, h2⟩
      · have hy' : (S.vm.noted f.method.cls r.catchType (.cls c)).assignable cell.cls c = true := by rw [hW1.alike.assignable]; exact hy
        exact ⟨_, hW1, fun Q E d acts => by simp [findHandler.go, hc, h0, ha, ht, hcell, hobj, hk2, hk3, hy', VmOp.dirties, VmOp.acts]⟩
      · have hno' : (S.vm.noted f.method.cls r.catchType (.cls c)).assignable cell.cls c = false := by rw [hW1.alike.assignable]; exact hno
        obtain ⟨vm', hW', hq⟩ := ih (S.setVm (S.vm.noted f.method.cls r.catchType (.cls c))) hW1 hcell h2
        exact ⟨vm', hW', fun Q E d acts => by
          refine Iff.trans ?_ (hq Q E d acts)
          simp [findHandler.go, hc, h0, ha, ht, hcell, hobj, hk2, hk3, hno', VmOp.dirties, VmOp.acts]⟩
theorem xStepCatch {e : Env} {s : State} {a : Addr} {f : JFrame} {r : List Frame} {pc : Nat} {vm' : Vm} (hfind : ∀ (Q : Handler → Pre) (E : CtlPost) (d : Bool) (acts : List Action), wp (findHandler f a) Q E e d acts s ↔ Q (.found pc) d acts (s.setVm vm')) :
    (stepThrowing e s a (.java f :: r)).Is ((s.setVm vm').setFrames (.java { f with pc := pc, stack := [.ref a] } :: r)) [] := by
  simp only [stepThrowing, searchFrame, vmDo]
  generalize hr : Sem.go _ e false [] s = res
  obtain ⟨as, rfl, ha⟩ := Sem.eq_ok_of hr (a := Handler.found pc) (s' := s.setVm vm') (acts' := []) (by simp [hfind _ _ _ _])
  exact ⟨rfl, ha⟩
theorem xCatch (X : Stand p l e R s m args below meth c T locs cells slots) {a : Addr} {g : JFrame} (hg : g.method = m) {cell : Cell} (hcell : T.heap[a]? = some cell) (hobj : cell.vm.isStatics = false) {k0 : Class} (hk0 : s.vm.classes[cell.cls]? = some k0) {q : Nat}
    (ht : xTakes e s m.cls g.pc cell.cls q c.exceptionTable.toList) :
    ∃ vm', Stand p l e R s m args below meth c (T.setVm vm') locs cells slots ∧ ∀ target, Steps p.tables e below ((T.setVm vm').setTop { g with pc := q, stack := [.ref a] }) target → Steps p.tables e below ((T.setTop g).pushFrame (.throwing a)) target := by
  subst hg
  obtain ⟨vm', hW', hq⟩ := xSearch (e := e) (f := g) (a := a) (VmData.ne_statics_of hobj) hk0 q c.exceptionTable.toList ((T.setTop g).pushFrame (.throwing a)) X.warmed hcell ht
  refine ⟨vm', X.noted hW', fun target hrest => ?_⟩
  obtain ⟨hgo, hw⟩ := X.here.throwing (g := g) a
  refine Steps.head hgo hw ?_
  have hfind : ∀ (Q : Handler → Pre) (E : CtlPost) (d : Bool) (acts : List Action), wp (findHandler g a) Q E e d acts ((T.setTop g).pushFrame (.throwing a)) ↔ Q (.found q) d acts (((T.setTop g).pushFrame (.throwing a)).setVm vm') := fun Q E d acts => by
    rw [W.findHandler_eq (s := (T.setTop g).pushFrame (.throwing a)) X.method' X.code]; exact hq Q E d acts
  rw [stepThread_throwing (frames_entered X.here.top _), (xStepCatch (s := (T.setTop g).pushFrame (.throwing a)) hfind).1]
  obtain ⟨g₀, hg⟩ := Option.isSome_iff_exists.mp X.here.top
  obtain ⟨r, hr⟩ := State.topJava?_eq_some.mp hg
  have e1 : (T.setVm vm').setTop { g with pc := q, stack := [.ref a] } = (T.setFrames (.java { g with pc := q, stack := [.ref a] } :: r)).setVm vm' := by
    rw [State.setTop_of_frames _ (show (T.setVm vm').frames = .java g₀ :: r from hr)]; rfl
  have e2 : (((T.setTop g).pushFrame (.throwing a)).setVm vm').setFrames (.java { g with pc := q, stack := [.ref a] } :: T.frames.tail) = (T.setFrames (.java { g with pc := q, stack := [.ref a] } :: r)).setVm vm' := by
    rw [hr]
    show ((((T.setTop g).pushFrame (.throwing a))).setFrames (.java { g with pc := q, stack := [.ref a] } :: r)).setVm vm' = _
    rw [State.pushFrame, State.setFrames_setFrames, State.setTop_of_frames _ hr, State.setFrames_setFrames]
  rw [e1] at hrest
  rw [e2]
  exact hrest
end XCB
end
section
/-! words that are carried from call to call -/
def mVk : Jvm.Cond → Bool
  | .castable _ _ => true
  | .stringRef _ _ _ => true
  | .methodLinkNest _ _ _ _ => true
  | .declares _ => true
  | .not (.castable _ _) => true
  | _ => false
def mNcN : List String := ["java/lang/IllegalStateException", "java/lang/IllegalArgumentException", "java/util/NoSuchElementException", "java/lang/UnsupportedOperationException", "java/lang/ArithmeticException", "java/lang/IndexOutOfBoundsException"]
def mNcs : List Jvm.Cond := mNcN.flatMap fun a => (mNcN.filter fun b => b != a).map fun b => .not (.castable a b)
def mWs : List Jvm.Cond := lw_tbl.filter goodWord
def mVs : List Jvm.Cond := lw_tbl.filter mVk ++ mNcs
theorem mWs_in {n : Nat} {w : Jvm.Cond} (h : lw_tbl[n]? = some w) (hg : goodWord w = true) : w ∈ mWs := List.mem_filter.mpr ⟨List.mem_of_getElem? h, hg⟩
theorem mVs_in {n : Nat} {w : Jvm.Cond} (h : lw_tbl[n]? = some w) (hg : mVk w = true) : w ∈ mVs := List.mem_append_left _ (List.mem_filter.mpr ⟨List.mem_of_getElem? h, hg⟩)
theorem mGood (w : Jvm.Cond) (h : w ∈ mWs) : (w.onTables && w.keeps) = true ∨ ∃ ty, w = .arrayClass ty := good_of_word (List.mem_filter.mp h).2
theorem mNcs_k : ∀ w ∈ mNcs, mVk w = true := by decide +kernel
theorem mVs_k (w : Jvm.Cond) (h : w ∈ mVs) : mVk w = true := by
  rcases List.mem_append.mp h with h | h
  · exact (List.mem_filter.mp h).2
  · exact mNcs_k w h
theorem vk_R_move {a a' : Array Value} {s U : State} {c tx : String} {i : Nat} (hW : s.WarmedH U.vm) (h : (Jvm.Cond.stringRef c i tx).before a s = true) : (Jvm.Cond.stringRef c i tx).before a' U = true := by
  have h2 := Cond.stringRef_warmed (args := a) hW h
  first
    | exact va_tabs rfl (rfl : (s.setVm U.vm).vm = U.vm) h2
    | (simp only [Cond.before, Cond.holds, Cond.value, State.names, State.poolOf?, State.resolvedAt?] at h2 ⊢; exact h2)
theorem mV_move {w : Jvm.Cond} (hk : mVk w = true) {a a' : Array Value} {s U : State} (hW : s.WarmedH U.vm) (h : w.before a s = true) : w.before a' U = true := by
  unfold mVk at hk
  split at hk
  · refine va_tabs (A := a) rfl (rfl : (s.setVm U.vm).vm = U.vm) ?_
    rw [Cond.castable_setVm hW.alike]; exact h
  · exact (vk_R_move hW h)
  · exact va_tabs rfl (rfl : (s.setVm U.vm).vm = U.vm) (Cond.methodLinkNest_warmed (args := a) hW h)
  · refine va_tabs (A := a) rfl (rfl : (s.setVm U.vm).vm = U.vm) ?_
    rw [Cond.declares_setVm hW.alike]; exact h
  · obtain ⟨c1, t1, h1, h2, h3⟩ := va_Nc.moved hW.alike (va_Nc.of h)
    simp only [Cond.before, Cond.holds, Cond.value, h1, h2, h3]
    rfl
  · cases hk
end
section
/-! throwing a new exception -/
def xS1 : Jvm.Cond := .laysStatic "java/lang/Throwable" "UNASSIGNED_STACK" "[Ljava/lang/StackTraceElement;"
def xS2 : Jvm.Cond := .laysStatic "java/lang/Throwable" "SUPPRESSED_SENTINEL" "Ljava/util/List;"
def xS3 : Jvm.Cond := .isRef (.static "java/lang/Throwable" "UNASSIGNED_STACK" "[Ljava/lang/StackTraceElement;")
def xS4 : Jvm.Cond := .isRef (.static "java/lang/Throwable" "SUPPRESSED_SENTINEL" "Ljava/util/List;")
/-- the two statics of Throwable that its constructor reads -/
def xZ (U : State) : Prop := (xS1.before #[] U = true ∧ xS3.before #[] U = true) ∧ xS2.before #[] U = true ∧ xS4.before #[] U = true
/-- the words of a constructor that passes its text on (through RuntimeException, Exception) to Throwable's -/
def xAll (own : String) (ic : Nat) (X : String) (ix : Nat) (rx : ByteArray) : List Jvm.Cond :=
  Bundle.throwableAtoms.filter (fun w => !(w == xS1) && !(w == xS2)) ++ Bundle.throwableSAtoms ++ Bundle.passSAtoms X "java/lang/RuntimeException" ix rx ++ Bundle.chainSAtoms "java/lang/RuntimeException" ["java/lang/Exception"] ++
  [.methodLink own ic (Bundle.initS X), .instantiable X 6, .castable X X, .selects X Bundle.tFill0 Bundle.tFill0, .selects X Bundle.tFill Bundle.tFill,
   .lays X Bundle.tN "cause" "Ljava/lang/Throwable;", .lays X Bundle.tN "stackTrace" Bundle.steD, .lays X Bundle.tN "suppressedExceptions" Bundle.listD, .lays X Bundle.tN "detailMessage" "Ljava/lang/String;",
   .fieldLink Bundle.tN 198 Bundle.tN "backtrace" "Ljava/lang/Object;", .lays Bundle.tN Bundle.tN "backtrace" "Ljava/lang/Object;", .lays X Bundle.tN "backtrace" "Ljava/lang/Object;"]
theorem xS_move {C n d : String} {a a' : Array Value} {U V : State} (h : (Jvm.Cond.laysStatic C n d).before a U = true) (h2 : (Jvm.Cond.isRef (.static C n d)).before a U = true) (hvm : U.vm.Alike V.vm)
    (hh : ∀ (q : Nat) (cell : Cell), U.heap[q]? = some cell → cell.vm.isStatics = true → V.heap[q]? = some cell) :
    (Jvm.Cond.laysStatic C n d).before a' V = true ∧ (Jvm.Cond.isRef (.static C n d)).before a' V = true := by
  obtain ⟨c, k, i, f, q, cell, h1, h3, h4, h5, h6, h7, h8, h9, h10⟩ := Cond.laysStatic_spec h
  obtain ⟨k', hk', hek⟩ := State.fieldFound?_setVm hvm h3
  have hV := hh q cell h6 h7
  have e1 : V.vm.findClass C = some c := by rw [hvm.findClass]; exact h1
  have e2 : V.fieldFound? C n d = some (c, k', i, f) := hk'
  have e3 : k'.statics = some q := by rw [hek]; exact h5
  have e4 : k'.staticTypes[f.slot]? = some f.type := by rw [hek]; exact h10
  refine ⟨?_, ?_⟩
  · simp [Cond.before, Cond.holds, Cond.value, e1, e2, e3, hV, h4, h7, h8, h9, e4]
  · have : (Term.static C n d).eval a' V none [] V = (Term.static C n d).eval a U none [] U := by
      simp [Term.eval, State.fieldNamed?, e2, h3, h4, h5, e3, hV, h6, h7]
    simp only [Cond.before, Cond.holds, Cond.value, this] at h2 ⊢
    exact h2
theorem xZ.move {U V : State} (h : xZ U) (hvm : U.vm.Alike V.vm) (hh : ∀ (q : Nat) (cell : Cell), U.heap[q]? = some cell → cell.vm.isStatics = true → V.heap[q]? = some cell) : xZ V :=
  ⟨xS_move h.1.1 h.1.2 hvm hh, xS_move h.2.1 h.2.2 hvm hh⟩
section XTH
variable {p : Program} {l : Launch} {e : Env} {R : Room} {s : State} {m : MethodId} {args : Array Value} {below : List Frame} {meth : Method} {c : Code} {T : State} {locs : List Loc} {cells slots : Nat}
set_option maxHeartbeats 4000000 in
/-- the constructor's call and the throw -/
theorem xThrow (X : Stand p l e R s m args below meth c T locs cells slots) (hexec : p.tables.exec = Jvm.exec) (hst : l.stackTraces = false) {own cls : String} {ic ix : Nat} {rx : ByteArray}
    (hown : s.vm.findClass own = some m.cls) (hcls : Bundle.fit cls = true) (r0 : decode rx 0 = .ok (.aload_n 0, 1)) (r1 : decode rx 1 = .ok (.aload_n 1, 1)) (r2 : decode rx 2 = .ok (.invokespecial ix, 3)) (r5 : decode rx 5 = .ok (.return_, 1))
    (h : ∀ w ∈ xAll own ic cls ix rx, w.before args s = true) (hZ : xZ s)
    (hlocs : ∀ x ∈ locs, ∀ cell, s.heap[x.base]? = some cell → cell.vm.isStatics = false)
    {a : Addr} {cX : ClassId} {kX : Class} (hfoundX : s.vm.findClass cls = some cX) (hkX : s.vm.classes[cX]? = some kX) (hcell : T.heap[a]? = some { cls := cX, slots := kX.instanceTypes.map defaultValue, vm := .none }) (hnew : s.heap.size ≤ a)
    {msg : Value} (hmsg : msg.isRef = true)
    {g : JFrame} (hg : g.method = m) (hsize : g.locals.size = c.maxLocals) (hlocked : g.locked = none) (hentered : g.entered = []) {rest : List Value} (hstack : g.stack = msg :: .ref a :: .ref a :: rest)
    (hd6 : decode c.code g.pc = .ok (.invokespecial ic, 3)) (hd9 : decode c.code (g.pc + 3) = .ok (.athrow, 1)) (hout : ∀ x ∈ c.exceptionTable.toList, covers x (g.pc + 3) = false)
    (hRframes : 6 ≤ R.frames) (hRlocals : 2 * g.monitorRoom + ((Value.ref a :: rest).map fun v => v.category).sum + 81 ≤ R.locals) (hlocks : meth.locks = false) :
    ∃ (U : State) (ce : Cell), Steps p.tables e below (T.setTop g) U ∧ U.status = .running ∧ Ended U below (.threw a) ∧ s.WarmedH U.vm ∧ s.sameButNew ({ U with vm := s.vm } : State) locs cells slots ∧
      U.heap = T.heap.setIfInBounds a ce ∧ ce.vm = .none ∧ s.vm.findClass cls = some ce.cls := by
  have htr : e.platform.stackTraces = false := by rw [X.admits.platform]; exact hst
  have howns : e.platform.frameOwnsMonitors = true := by rw [X.admits.platform]
  have hfin : e.platform.finalization = false := by rw [X.admits.platform]
  have hpl : e.platform.magicAccessors = ({} : Platform).magicAccessors := by rw [X.admits.platform]
  have hz1 : xS1.before args s = true := (xS_move (a' := args) hZ.1.1 hZ.1.2 (Vm.Alike.refl s.vm) (fun _ _ q _ => q)).1
  have hz3 : xS3.before args s = true := (xS_move (a' := args) hZ.1.1 hZ.1.2 (Vm.Alike.refl s.vm) (fun _ _ q _ => q)).2
  have hz2 : xS2.before args s = true := (xS_move (a' := args) hZ.2.1 hZ.2.2 (Vm.Alike.refl s.vm) (fun _ _ q _ => q)).1
  have hz4 : xS4.before args s = true := (xS_move (a' := args) hZ.2.1 hZ.2.2 (Vm.Alike.refl s.vm) (fun _ _ q _ => q)).2
  have hth : ∀ w ∈ Bundle.throwableAtoms, w.before args s = true := by
    intro w hw
    by_cases e1 : w = xS1
    · rw [e1]; exact hz1
    · by_cases e2 : w = xS2
      · rw [e2]; exact hz2
      · refine h w ?_
        simp only [xAll, List.mem_append]
        refine Or.inl (Or.inl (Or.inl (Or.inl (List.mem_filter.mpr ⟨hw, by simp [e1, e2]⟩))))
  have hts : ∀ w ∈ Bundle.throwableSAtoms, w.before args s = true := fun w hw => h w (by simp only [xAll, List.mem_append]; exact Or.inl (Or.inl (Or.inl (Or.inr hw))))
  have hps : ∀ w ∈ Bundle.passSAtoms cls "java/lang/RuntimeException" ix rx, w.before args s = true := fun w hw => h w (by simp only [xAll, List.mem_append]; exact Or.inl (Or.inl (Or.inr hw)))
  have hcs : ∀ w ∈ Bundle.chainSAtoms "java/lang/RuntimeException" ["java/lang/Exception"], w.before args s = true := fun w hw => h w (by simp only [xAll, List.mem_append]; exact Or.inl (Or.inr hw))
  have hl : ∀ w ∈ [Jvm.Cond.methodLink own ic (Bundle.initS cls), .instantiable cls 6, .castable cls cls, .selects cls Bundle.tFill0 Bundle.tFill0, .selects cls Bundle.tFill Bundle.tFill,
     .lays cls Bundle.tN "cause" "Ljava/lang/Throwable;", .lays cls Bundle.tN "stackTrace" Bundle.steD, .lays cls Bundle.tN "suppressedExceptions" Bundle.listD, .lays cls Bundle.tN "detailMessage" "Ljava/lang/String;",
     .fieldLink Bundle.tN 198 Bundle.tN "backtrace" "Ljava/lang/Object;", .lays Bundle.tN Bundle.tN "backtrace" "Ljava/lang/Object;", .lays cls Bundle.tN "backtrace" "Ljava/lang/Object;"], w.before args s = true := fun w hw => h w (by simp only [xAll, List.mem_append]; exact Or.inr hw)
  obtain ⟨B, Z0, LB, -, Y⟩ := ThrowableC.of_atoms (args := args) howns hfin hpl hth
  obtain ⟨Z, M, LZ, LM, hnZ⟩ := Init0T.ofS_atoms (args := args) hpl LB Y hts
  obtain ⟨P2, Ps, hlen, L2, hL, hP2m, hlink2, hlinkS⟩ := Bundle.chainS (args := args) hpl hnZ ["java/lang/Exception"] "java/lang/RuntimeException" (by decide +kernel) (by decide +kernel) hcs
  obtain ⟨P1, L1, hP1m, hP1s⟩ := PassC.ofS_atoms (args := args) (s := s) hpl (X := cls) (Y := "java/lang/RuntimeException") (Bundle.fit_spec hcls).1 (by decide) r0 r1 r2 r5 hps
  have hP12 : P1.sup = P2.m := Option.some.inj (hP1s.symm.trans hP2m)
  have hcc : cX = P1.m.cls := Option.some.inj (hfoundX.symm.trans (findClass_of_methodNamed hP1m))
  subst hcc
  obtain ⟨c1, k1, hc1, hk1, hord, -, -, hn6⟩ := Cond.instantiable_spec (hl (.instantiable cls 6) (by simp))
  cases Option.some.inj (hc1.symm.trans hfoundX)
  cases Option.some.inj (hkX.symm.trans hk1)
  have sel : ∀ (y : MethodName) (mk : MethodId), s.methodNamed? y = some mk → (y.cls ≠ "java/lang/invoke/MethodHandle" ∧ y.cls ≠ "java/lang/invoke/VarHandle") → (Jvm.Cond.selects cls y y).before args s = true → selectMethod e.platform s.vm P1.m.cls mk = .method mk := by
    intro y mk hy hyn hs
    obtain ⟨c2, q2, m2, w1, w2, w3, w4, -⟩ := Cond.selects_spec hs
    cases Option.some.inj (w1.symm.trans hfoundX)
    cases Option.some.inj (w2.symm.trans (State.methodFound?_of_named hy hyn))
    cases Option.some.inj (w3.symm.trans hy)
    rw [Launch.admits_selectMethod X.admits]; exact w4
  have hsel0 := sel _ _ Y.fill0 (by decide) (hl (.selects cls Bundle.tFill0 Bundle.tFill0) (by simp))
  have hselF := sel _ _ Y.fill (by decide) (hl (.selects cls Bundle.tFill Bundle.tFill) (by simp))
  obtain ⟨cS0, hcS0, hiss⟩ := Y.statics
  obtain ⟨u0, hu0⟩ := Cond.staticRefV Y.unassigned LB.unassignedStatic LB.statics hcS0 hiss hz3
  obtain ⟨sen, hsen⟩ := Cond.staticRefV Y.sentinel LB.sentinelStatic LB.statics hcS0 hiss hz4
  obtain ⟨ciB, iB, fB, hkB, hgB, haB, hsB, -, hnB, htB, hffB⟩ := Cond.ownField (t := .object "java/lang/Object") Y.found LB.cls (by decide +kernel) (hl (.fieldLink Bundle.tN 198 Bundle.tN "backtrace" "Ljava/lang/Object;") (by simp)) (hl (.lays Bundle.tN Bundle.tN "backtrace" "Ljava/lang/Object;") (by simp)) e.platform hpl
  obtain ⟨cS, hcS', heS, -, hkeep⟩ := X.same.2.2.2.2.2 B.aS cS0 hcS0
  have hcellS : T.heap[B.aS]? = some cS := hcS'
  have hfree : ∀ i, (⟨B.aS, i⟩ : Loc) ∉ locs := fun i hmem => by
    have := hlocs _ hmem cS0 hcS0
    rw [hiss] at this; cases this
  have hknownS : cS.vm ≠ .unknown := by
    rw [heS]; intro hu
    rw [show cS0.vm = .unknown from hu] at hiss
    cases hiss
  have hneS : B.aS ≠ a := Nat.ne_of_lt (Nat.lt_of_lt_of_le (Array.getElem?_eq_some_iff.mp hcS0).1 hnew)
  obtain ⟨iM, hffM⟩ := Y.msg
  obtain ⟨tyC, dC, hdC, hdnC⟩ := Cond.laysAt hfoundX hk1 Y.cause (hl (.lays cls Bundle.tN "cause" "Ljava/lang/Throwable;") (by simp))
  obtain ⟨tyS, dS, hdS, hdnS⟩ := Cond.laysAt hfoundX hk1 Y.stack (hl (.lays cls Bundle.tN "stackTrace" Bundle.steD) (by simp))
  obtain ⟨tyP, dP, hdP, hdnP⟩ := Cond.laysAt hfoundX hk1 Y.supp (hl (.lays cls Bundle.tN "suppressedExceptions" Bundle.listD) (by simp))
  obtain ⟨tyM, dM, hdM, hdnM⟩ := Cond.laysAt hfoundX hk1 hffM (hl (.lays cls Bundle.tN "detailMessage" "Ljava/lang/String;") (by simp))
  obtain ⟨tyB, dB, hdB, hdnB⟩ := Cond.laysAt hfoundX hk1 hffB (hl (.lays cls Bundle.tN "backtrace" "Ljava/lang/Object;") (by simp))
  have bC := Cond.laysApart hdB hdC hdnB hdnC (by rw [hnB, Y.causeName]; decide)
  have bS := Cond.laysApart hdB hdS hdnB hdnS (by rw [hnB, Y.stackName]; decide)
  have bP := Cond.laysApart hdB hdP hdnB hdnP (by rw [hnB, Y.suppName]; decide)
  have hskip : SkipFacts B e.platform s (fun u => u) u0 ((preparedCellV B.toThrowableT (freshCell P1.m.cls kX) a u0 sen).withEntry T.cur) :=
    ⟨{ ci198 := ciB, i198 := iB, fBack := fB }, ⟨hkB, hgB, haB, hsB⟩, by
      have := fresh_default (c := P1.m.cls) tyB
      rw [htB] at this
      simpa [preparedCellV, Cell.setSlot, Cell.withEntry, Array.getElem?_setIfInBounds, bC, bS, bP, bC.symm, bS.symm, bP.symm, defaultValue] using this, fun _ _ => rfl⟩
  obtain ⟨tm, methC, cdC, kC, vm₁, hnC, -, -, -, -, -, -, -, hW₁, st1⟩ := Steps.initColdS (tb := p.tables) (e := e) (below := below) (s := s) (U := T) X.here hexec X.warmed hpl hown (t := Bundle.initS cls) rfl rfl (Bundle.fit_spec hcls).2
    (hl (.methodLink own ic (Bundle.initS cls)) (by simp)) (hps (.instanceMethod (Bundle.initS cls)) (by simp [Bundle.passSAtoms])) (bytes := rx) (maxL := 2) (hps (.code (Bundle.initS cls) rx 2 none) (by simp [Bundle.passSAtoms]))
    (f := g) hg (a := a) (msg := msg) (rest := .ref a :: rest) hstack hd6
  cases Option.some.inj (hnC.symm.trans hP1m)
  have X₁ := X.noted hW₁
  obtain ⟨vm₂, X₂, st2⟩ := X₁.ctorMessageOffV hexec (g := { g with stack := .ref a :: rest }) hg hsize B LB Z LZ M LM (P1 :: P2 :: Ps)
    (fun P hP => by
      rcases List.mem_cons.mp hP with rfl | hP
      · exact L1
      · rcases List.mem_cons.mp hP with rfl | hP
        · exact L2
        · exact hL P hP) ⟨hP12, hlink2, hlinkS⟩ (u0 := u0) (sen := sen) (self := a) hmsg (cell := freshCell P1.m.cls kX) (cellS := cS)
    hcell (fun _ => by simp) (by simp) rfl rfl hsel0 hselF hcellS hneS hknownS (by rw [hkeep _ (hfree _)]; exact hu0) (by rw [hkeep _ (hfree _)]; exact hsen)
    (Takes.of_laid hk1 hord tyC (by rw [Y.causeType]; rfl)) (Takes.of_laid hk1 hord tyS (by rw [Y.stackType]; exact fits_refV_array _ u0)) (Takes.of_laid hk1 hord tyP (by rw [Y.suppType]; exact fits_refV_object _ sen))
    (Takes.of_laid hk1 hord tyM (by rw [Y.msgType]; exact fits_refV_object _ ⟨msg, hmsg⟩)) Y.objLocals hskip htr [] hd6
    (by simp only [List.length_cons, hlen, List.length_nil]; omega) (by simp only [List.length_cons, hlen, List.length_nil]; exact hRlocals)
  obtain ⟨hwalk, hrun, hended, hWU, hsame⟩ := X₂.athrowLeaves hexec (g := { g with stack := .ref a :: rest, pc := g.pc + 3 }) hg hlocked hentered hout (a := a) (rest := rest) rfl hd9
  refine ⟨_, plainBareV B.toThrowableT (freshCell P1.m.cls kX) a u0 sen msg, st1 _ (fun acts => ?_), hrun, hended, hWU, hsame.weaken (fun y hy hlt' => ?_) (Nat.le_refl _) (Nat.le_refl _), rfl, rfl, hfoundX⟩
  · rw [doInvoke_state]
    exact st2 _ hwalk
  · rcases List.mem_append.mp hy with h1 | h1
    · exact h1
    · exfalso
      have hb : y.base = a := by
        simp only [List.mem_cons, List.not_mem_nil, or_false] at h1
        rcases h1 with rfl | rfl | rfl | rfl | rfl <;> rfl
      rw [hb] at hlt'
      exact Nat.not_lt.mpr hnew hlt'
end XTH
end
section
/-! the facts of an instruction, and the place where a walk stands -/
def mLen : Instr → Nat
  | .iload _ | .aload _ | .istore _ | .astore _ | .bipush _ | .ldc _ | .newarray _ => 2
  | .sipush _ | .iinc _ _ | .goto _ | .ifCond _ _ | .if_icmp _ _ | .getfield _ | .putfield _ | .invokevirtual _ | .invokespecial _ | .invokestatic _ | .new _ | .ldc_w _ => 3
  | .tableswitch _ _ _ _ => 73
  | _ => 1
def mTys (dA : Nat → ClassId) : List (ClassId × FieldType) := [(dA 0, .int), (dA 1, .boolean), (dA 2, .long)]
def mMeth (w : Nat) : Prop := ((mHH w = [] ∧ Jvm.Cond.code (mY w) (mBy w) (mNL w) (mRet w) ∈ mWs) ∨ (mHH w ≠ [] ∧ Jvm.Cond.codeWith (mY w) (mBy w) (mNL w) (mRet w) (mHH w) ∈ mWs)) ∧ Jvm.Cond.initialized (mY w).cls ∈ mWs ∧ (mY w).cls ≠ "java/lang/invoke/MethodHandle" ∧ (mY w).cls ≠ "java/lang/invoke/VarHandle" ∧ plainName (mY w).cls = true
def mFact (k pc : Nat) (i : Instr) (nx x y : Nat) : Prop :=
  decode (mBy k) pc = .ok (i, mLen i) ∧ nx = pc + mLen i ∧
  match i with
  | .iconst n => Int32.ofInt n = mK n
  | .bipush n => (Int8.ofInt n).toInt32 = mK n
  | .sipush n => (Int16.ofInt n).toInt32 = mK n
  | .iinc _ n => Int32.ofInt n = mK n
  | .ldc j => Jvm.Cond.constant (mY k).cls j (Int32.ofNat x) ∈ mWs
  | .ldc_w j => Jvm.Cond.constant (mY k).cls j (Int32.ofNat x) ∈ mWs
  | .goto off => (pc : Int) + off = (x : Int)
  | .ifCond _ off => (pc : Int) + off = (x : Int)
  | .if_icmp _ off => (pc : Int) + off = (x : Int)
  | .tableswitch d lo hi offs => 0 ≤ (pc : Int) + d ∧ (hi - lo + 1).toNat = offs.size ∧ lo ≤ hi ∧ ∀ o ∈ offs.toList, 0 ≤ (pc : Int) + o
  | .getfield j => ∃ C T N, mCls[x]? = some (C, T, N) ∧ y < N ∧ Jvm.Cond.fieldLink (mY k).cls j (T y).1 (T y).2.1 (T y).2.2.1 ∈ mWs
  | .putfield j => ∃ C T N, mCls[x]? = some (C, T, N) ∧ y < N ∧ Jvm.Cond.fieldLink (mY k).cls j (T y).1 (T y).2.1 (T y).2.2.1 ∈ mWs ∧ ((T y).2.2.2 = false ∨ ((T y).2.2.2 = true ∧ (mY k).name = "<init>" ∧ (T y).1 = (mY k).cls))
  | .newarray t => Jvm.Cond.arrayClass (newarray.typeOf t) ∈ mWs
  | .new j =>
    match y with
    | 0 => ∃ C T N, mCls[x]? = some (C, T, N) ∧ (mDef x).length = N ∧ Jvm.Cond.classLink (mY k).cls j C ∈ mWs ∧ Jvm.Cond.instantiable C N ∈ mWs ∧ Jvm.Cond.initialized C ∈ mWs ∧ ∀ q, q < N → defaultValue (mFT x q) = vp_V (mDef x) q
    | _ => ∃ (is ic : Nat) (text : String) (ix : Nat) (rx : ByteArray), decode (mBy k) (pc + 3) = .ok (.dup, 1) ∧ decode (mBy k) (pc + 4) = .ok (.ldc is, 2) ∧ decode (mBy k) (pc + 6) = .ok (.invokespecial ic, 3) ∧ decode (mBy k) (pc + 9) = .ok (.athrow, 1) ∧ Jvm.Cond.stringRef (mY k).cls is text ∈ mVs ∧
        Jvm.Cond.classLink (mY k).cls j (mXn x) ∈ mWs ∧ Jvm.Cond.initialized (mXn x) ∈ mWs ∧ Bundle.fit (mXn x) = true ∧ decode rx 0 = .ok (.aload_n 0, 1) ∧ decode rx 1 = .ok (.aload_n 1, 1) ∧ decode rx 2 = .ok (.invokespecial ix, 3) ∧ decode rx 5 = .ok (.return_, 1) ∧ ∀ w ∈ xAll (mY k).cls ic (mXn x) ix rx, w ∈ mWs ∨ w ∈ mVs
  | .invokestatic j => mMeth x ∧ Jvm.Cond.static (mY x) ∈ mWs ∧ (parseMethodDescriptor (mY x).desc).map (fun d => d.parameters.length) = some y ∧ y ≤ mNL x ∧ (Jvm.Cond.methodLink (mY k).cls j (mY x) ∈ mWs ∨ ∃ host, Jvm.Cond.methodLinkNest (mY k).cls j (mY x) host ∈ mVs)
  | .invokevirtual j => mMeth x ∧ Jvm.Cond.instanceMethod (mY x) ∈ mWs ∧ (parseMethodDescriptor (mY x).desc).map (fun d => d.parameters.length) = some y ∧ y + 1 ≤ mNL x ∧ Jvm.Cond.methodLink (mY k).cls j (mY x) ∈ mWs ∧ (∃ T N, mCls[mCl x]? = some ((mY x).cls, T, N)) ∧ Jvm.Cond.selects (mY x).cls (mY x) (mY x) ∈ mWs
  | .invokespecial j =>
    (x = 999 ∧ Jvm.Cond.methodLink (mY k).cls j Lib.objectInit ∈ mWs ∧ Jvm.Cond.instanceMethod Lib.objectInit ∈ mWs ∧ Jvm.Cond.code Lib.objectInit ⟨#[0xb1]⟩ 1 none ∈ mWs) ∨
    (x ≠ 999 ∧ mMeth x ∧ mHH x = [] ∧ mRet x = none ∧ Jvm.Cond.instanceMethod (mY x) ∈ mWs ∧ (mY x).name = "<init>" ∧ (parseMethodDescriptor (mY x).desc).map (fun d => d.parameters.length) = some 0 ∧ 1 ≤ mNL x ∧ Jvm.Cond.methodLink (mY k).cls j (mY x) ∈ mWs)
  | _ => True
section SND
variable {p : Program} {l : Launch} {e : Env} {R : Room} {s : State} {m : MethodId} {args : Array Value} {below : List Frame} {meth : Method} {c : Code} {H : Heap} {locs : List Loc} {cells slots : Nat} {Q : State → Prop}
variable {D : va_G} {dA : Nat → ClassId} {b Ls : Nat} {xs : Nat → Int32} {A : Nat → Prop} {ρ : Nat → Nat} {k : Nat}
/-- what holds all through a method's walk -/
def Cx (D : va_G) (dA : Nat → ClassId) (b Ls : Nat) (xs : Nat → Int32) (A : Nat → Prop) (p : Program) (s : State) (m : MethodId) (args : Array Value) (meth : Method) (c : Code) (k : Nat) : Prop :=
  p.tables.exec = Jvm.exec ∧ c.code = mBy k ∧ c.maxLocals = mNL k ∧ s.vm.findClass (mY k).cls = some m.cls ∧ (∀ w ∈ mWs, w.before args s = true) ∧ (∀ w ∈ mVs, w.before args s = true) ∧ va_K D mCls (mTys dA) s ∧ va_X b Ls xs s s.heap ∧ b < s.heap.size ∧ ¬ A b ∧ (∀ q, s.heap.size ≤ q → A q) ∧ meth.sig.returnType = mRet k ∧ meth.locks = false ∧ meth.name = (mY k).name ∧
  c.exceptionTable.toList.map (fun h => (h.startPc, h.endPc, h.handlerPc, h.catchType)) = mHH k ∧ xZ s ∧ ∀ (q : Nat) (cell : Cell), A q → s.heap[q]? = some cell → cell.vm.isStatics = false
/-- the cells at a point of the walk -/
def Wp (D : va_G) (dA : Nat → ClassId) (b : Nat) (A : Nat → Prop) (s : State) (ρ : Nat → Nat) (h : mH) (H : Heap) (locs : List Loc) : Prop :=
  va_P D mCls (trH ρ dA h) H ∧ va_D A (trH ρ dA h) ∧ va_S A s.heap H locs ∧ ρ mSC = b
theorem mBin_inv {f : Int32 → Int32 → Int32} {pc : Nat} {L : List (Option Value)} {S : List Value} {h : mH} {r : mX} (hs : mBin f pc L S h = some r) :
    ∃ x y S0, S = .int y :: .int x :: S0 ∧ r = .inl (pc, L, .int (f x y) :: S0, h) := by
  unfold mBin at hs
  split at hs
  · cases hs; exact ⟨_, _, _, rfl, rfl⟩
  · cases hs
theorem mLdI_inv {j pc : Nat} {L : List (Option Value)} {S : List Value} {h : mH} {r : mX} (hs : mLdI j pc L S h = some r) :
    ∃ v, L[j]? = some (some (.int v)) ∧ r = .inl (pc, L, .int v :: S, h) := by
  unfold mLdI at hs
  split at hs
  · rename_i v hv; cases hs; exact ⟨_, hv, rfl⟩
  · cases hs
theorem mLdA_inv {j pc : Nat} {L : List (Option Value)} {S : List Value} {h : mH} {r : mX} (hs : mLdA j pc L S h = some r) :
    ∃ v, L[j]? = some (some (.ref v)) ∧ r = .inl (pc, L, .ref v :: S, h) := by
  unfold mLdA at hs
  split at hs
  · rename_i v hv; cases hs; exact ⟨_, hv, rfl⟩
  · cases hs
theorem mStI_inv {j pc : Nat} {L : List (Option Value)} {S : List Value} {h : mH} {r : mX} (hs : mStI j pc L S h = some r) :
    ∃ v S0, S = .int v :: S0 ∧ j < L.length ∧ r = .inl (pc, L.set j (some (.int v)), S0, h) := by
  unfold mStI at hs
  split at hs
  · cases hb : Nat.blt j L.length <;> rw [hb] at hs <;> simp only [cond_true, cond_false] at hs <;> cases hs
    exact ⟨_, _, rfl, blt_lt hb, rfl⟩
  · cases hs
theorem mStA_inv {j pc : Nat} {L : List (Option Value)} {S : List Value} {h : mH} {r : mX} (hs : mStA j pc L S h = some r) :
    ∃ v S0, S = .ref v :: S0 ∧ j < L.length ∧ r = .inl (pc, L.set j (some (.ref v)), S0, h) := by
  unfold mStA at hs
  split at hs
  · cases hb : Nat.blt j L.length <;> rw [hb] at hs <;> simp only [cond_true, cond_false] at hs <;> cases hs
    exact ⟨_, _, rfl, blt_lt hb, rfl⟩
  · cases hs
theorem mOne_rev {S : List Value} (h : mOne S = true) : mOne S.reverse = true := by
  rw [mOne_iff] at h ⊢
  intro v hv
  exact h v (List.mem_reverse.mp hv)
theorem mOkS_drop {n : Nat} {S : List Value} (h : mOkS n S = true) (y : Nat) : mOkS n (S.drop y) = true := by
  induction S generalizing y with
  | nil => simpa using h
  | cons v t ih =>
    simp only [mOkS, Bool.and_eq_true] at h
    cases y with
    | zero => simp [mOkS, h.1, h.2]
    | succ y => exact ih h.2 y
theorem mMeth_has {args : Array Value} {s : State} {x : Nat} (hts : ∀ w ∈ mWs, w.before args s = true) (h : mMeth x) : xHas s (mY x) (mBy x) (mNL x) (mRet x) (mHH x) := by
  rcases h.1 with ⟨h0, h1⟩ | ⟨-, h1⟩
  · rw [h0]; exact xHas.of (hts _ h1)
  · exact xHas.ofW (hts _ h1)
theorem mInb_spec {i : Int32} {n : Nat} (h : mInb i n = true) : vp_in i n := by
  unfold mInb at h
  unfold vp_in
  exact of_decide_eq_true h
theorem mT {b : Bool} (h : b = false → False) : b = true := by cases b; exact (h rfl).elim; rfl
theorem mCat_tr {S : List Value} : ((S.map (trV ρ)).map fun v => v.category).sum = mCat S := by
  simp only [mCat, List.map_map]
  congr 2
  funext v
  exact trV_cat
theorem mPutOk_spec {ty : FieldType} {v : Value} (h : mPutOk ty v = true) : narrow ty (trV ρ v) = trV ρ v ∧ fits ty (trV ρ v) = true := by
  unfold mPutOk at h
  split at h
  · exact ⟨rfl, rfl⟩
  · rename_i z
    simp only [Bool.or_eq_true, decide_eq_true_eq] at h
    rcases h with rfl | rfl
    · exact ⟨rfl, rfl⟩
    · exact ⟨rfl, rfl⟩
  · exact ⟨rfl, rfl⟩
  · exact ⟨rfl, rfl⟩
  · cases h
end SND
theorem mLay0 : ∀ w ∈ u_ws "ClusterVolume" mTf_0 4, w ∈ mWs := by decide +kernel
theorem mLay1 : ∀ w ∈ u_ws "ClusterVolume$Disk" mTf_1 4, w ∈ mWs := by decide +kernel
theorem mLay2 : ∀ w ∈ u_ws "ClusterVolumeModel" mTf_2 9, w ∈ mWs := by decide +kernel
theorem mCls_cases {x : Nat} {C : String} {T : u_T} {N : Nat} (h : mCls[x]? = some (C, T, N)) : (x = 0 ∧ C = "ClusterVolume" ∧ T = mTf_0 ∧ N = 4) ∨ (x = 1 ∧ C = "ClusterVolume$Disk" ∧ T = mTf_1 ∧ N = 4) ∨ (x = 2 ∧ C = "ClusterVolumeModel" ∧ T = mTf_2 ∧ N = 9) := by
  match x, h with
  | 0, h => cases h; exact Or.inl ⟨rfl, rfl, rfl, rfl⟩
  | 1, h => cases h; exact Or.inr (Or.inl ⟨rfl, rfl, rfl, rfl⟩)
  | 2, h => cases h; exact Or.inr (Or.inr ⟨rfl, rfl, rfl, rfl⟩)
  | n + 3, h => cases h
theorem mLay {x : Nat} {C : String} {T : u_T} {N : Nat} (h : mCls[x]? = some (C, T, N)) : ∀ w ∈ u_ws C T N, w ∈ mWs := by
  rcases mCls_cases h with ⟨rfl, rfl, rfl, rfl⟩ | ⟨rfl, rfl, rfl, rfl⟩ | ⟨rfl, rfl, rfl, rfl⟩
  · exact mLay0
  · exact mLay1
  · exact mLay2
theorem mFTy0 : ∀ k, k < 4 → parseFieldDescriptor (mTf_0 k).2.2.1 = some (mFT 0 k) := by decide +kernel
theorem mFTy1 : ∀ k, k < 4 → parseFieldDescriptor (mTf_1 k).2.2.1 = some (mFT 1 k) := by decide +kernel
theorem mFTy2 : ∀ k, k < 9 → parseFieldDescriptor (mTf_2 k).2.2.1 = some (mFT 2 k) := by decide +kernel
theorem mFTy {x : Nat} {C : String} {T : u_T} {N : Nat} (h : mCls[x]? = some (C, T, N)) : ∀ k, k < N → parseFieldDescriptor (T k).2.2.1 = some (mFT x k) := by
  rcases mCls_cases h with ⟨rfl, rfl, rfl, rfl⟩ | ⟨rfl, rfl, rfl, rfl⟩ | ⟨rfl, rfl, rfl, rfl⟩
  · exact mFTy0
  · exact mFTy1
  · exact mFTy2
theorem mNd0 : ∀ a, a < 4 → ∀ b, b < 4 → a ≠ b → (mTf_0 a).2.1 ≠ (mTf_0 b).2.1 := by decide +kernel
theorem mNd1 : ∀ a, a < 4 → ∀ b, b < 4 → a ≠ b → (mTf_1 a).2.1 ≠ (mTf_1 b).2.1 := by decide +kernel
theorem mNd2 : ∀ a, a < 9 → ∀ b, b < 9 → a ≠ b → (mTf_2 a).2.1 ≠ (mTf_2 b).2.1 := by decide +kernel
theorem mNd {x : Nat} {C : String} {T : u_T} {N : Nat} (h : mCls[x]? = some (C, T, N)) : ∀ a, a < N → ∀ b, b < N → a ≠ b → (T a).2.1 ≠ (T b).2.1 := by
  rcases mCls_cases h with ⟨rfl, rfl, rfl, rfl⟩ | ⟨rfl, rfl, rfl, rfl⟩ | ⟨rfl, rfl, rfl, rfl⟩
  · exact mNd0
  · exact mNd1
  · exact mNd2
theorem mDef_tr {ρ : Nat → Nat} {x : Nat} : (mDef x).map (trV ρ) = mDef x := by
  unfold mDef
  split <;> rfl
end
section
/-! facts of the tables, written by a text program: each by the kernel -/
def mPl (c j : Nat) : Nat :=
  match c with
  | 0 => match j with
    | 1 => 62
    | 7 => 65
    | 9 => 67
    | 10 => 85
    | 16 => 86
    | 20 => 87
    | 24 => 88
    | 28 => 266
    | 31 => 273
    | 35 => 294
    | 39 => 143
    | 43 => 302
    | 50 => 298
    | 54 => 319
    | 59 => 335
    | 63 => 339
    | 67 => 163
    | 71 => 359
    | 76 => 379
    | 81 => 159
    | 84 => 384
    | 87 => 277
    | 96 => 363
    | 100 => 405
    | 103 => 151
    | 106 => 410
    | 109 => 367
    | 112 => 426
    | 115 => 155
    | 118 => 139
    | 121 => 430
    | 126 => 414
    | 129 => 461
    | 132 => 472
    | 139 => 134
    | 142 => 103
    | 145 => 111
    | 149 => 119
    | 152 => 123
    | 155 => 242
    | 158 => 131
    | 161 => 270
    | 166 => 276
    | 177 => 343
    | 182 => 127
    | 186 => 147
    | _ => 0
  | 1 => match j with
    | 3 => 70
    | 9 => 71
    | 15 => 72
    | 18 => 73
    | 22 => 74
    | 26 => 138
    | 30 => 167
    | 33 => 171
    | _ => 0
  | 2 => match j with
    | 1 => 498
    | 7 => 500
    | 13 => 501
    | 16 => 503
    | 20 => 504
    | 24 => 499
    | 27 => 502
    | 31 => 562
    | 35 => 558
    | 39 => 538
    | 40 => 539
    | 44 => 505
    | 47 => 506
    | 50 => 546
    | 54 => 550
    | 58 => 542
    | 61 => 535
    | 64 => 586
    | 68 => 582
    | 71 => 554
    | 75 => 566
    | 79 => 570
    | 82 => 574
    | 86 => 507
    | 89 => 590
    | 92 => 594
    | 96 => 602
    | 99 => 610
    | 102 => 618
    | 105 => 622
    | 108 => 662
    | 111 => 666
    | 114 => 658
    | _ => 0
  | 3 => match j with
    | 7 => 262
    | 8 => 57
    | 23 => 374
    | 27 => 391
    | 31 => 401
    | 34 => 422
    | 39 => 449
    | 43 => 456
    | 46 => 468
    | 49 => 481
    | 52 => 489
    | 56 => 59
    | 57 => 493
    | 59 => 495
    | 60 => 254
    | 65 => 531
    | 66 => 527
    | 69 => 371
    | 72 => 578
    | 73 => 388
    | 76 => 598
    | 77 => 398
    | 79 => 606
    | 80 => 418
    | 82 => 614
    | 83 => 446
    | 86 => 626
    | 87 => 453
    | 89 => 630
    | 90 => 465
    | 92 => 634
    | 93 => 478
    | 95 => 638
    | 96 => 486
    | 99 => 642
    | 100 => 99
    | 104 => 646
    | 105 => 107
    | 109 => 650
    | 110 => 115
    | 113 => 654
    | 114 => 246
    | 117 => 670
    | 118 => 250
    | 121 => 674
    | _ => 0
  | 4 => match j with
    | 265 => 475
    | 266 => 476
    | 267 => 477
    | _ => 0
  | _ => 0
def mPs : List Nat := [0, 0, 0, 0, 0, 0, 132, 0, 0, 0, 0, 0, 0, 0, 0, 0, 0, 274, 0, 0, 0, 0, 0, 0, 0, 0, 0, 0, 0, 0, 0, 0, 0, 0, 0, 0, 0, 0, 0, 0, 0, 0, 0, 0, 0, 0, 0, 0, 0, 0, 0, 0, 536, 540, 0, 0, 0, 0, 0, 0, 0, 0, 0, 0, 0, 0, 0, 0, 0, 0, 0, 0, 0, 0, 0, 0, 0, 0, 0, 0, 0, 0, 0, 0, 0, 0, 0, 0, 255, 372, 389, 399, 419, 447, 454, 466, 479, 487, 473, 0]
def mPi : List Nat := [60, 100, 108, 116, 125, 129, 0, 145, 149, 153, 157, 161, 244, 247, 251, 263, 268, 0, 296, 300, 341, 361, 369, 375, 381, 386, 392, 402, 407, 412, 416, 423, 428, 450, 457, 463, 469, 482, 490, 68, 104, 112, 120, 135, 140, 164, 169, 336, 364, 496, 528, 532, 0, 0, 544, 548, 552, 556, 560, 564, 568, 572, 576, 579, 584, 588, 592, 596, 599, 604, 607, 612, 615, 620, 624, 627, 631, 635, 639, 643, 647, 651, 655, 660, 664, 668, 671, 675, 0, 0, 0, 0, 0, 0, 0, 0, 0, 0, 0, 0]
def mPe : List Nat := [0, 101, 109, 117, 0, 1, 0, 2, 3, 4, 5, 6, 9, 248, 252, 264, 10, 0, 11, 12, 13, 14, 15, 376, 16, 17, 393, 403, 18, 19, 20, 424, 21, 451, 458, 22, 470, 483, 491, 0, 105, 113, 121, 136, 141, 165, 7, 337, 365, 0, 529, 533, 0, 0, 23, 24, 25, 26, 27, 28, 29, 30, 31, 580, 32, 33, 34, 35, 600, 36, 608, 37, 616, 38, 39, 628, 632, 636, 640, 644, 648, 652, 656, 40, 41, 42, 672, 676, 0, 0, 0, 0, 0, 0, 0, 0, 0, 0, 0, 0]
def mOws : List Nat := [0, 0, 0, 0, 0, 0, 0, 0, 0, 0, 0, 0, 0, 0, 0, 0, 0, 0, 0, 0, 0, 0, 0, 0, 0, 0, 0, 0, 0, 0, 0, 0, 0, 0, 0, 0, 0, 0, 0, 1, 1, 1, 1, 1, 1, 1, 1, 1, 1, 2, 2, 2, 2, 2, 2, 2, 2, 2, 2, 2, 2, 2, 2, 2, 2, 2, 2, 2, 2, 2, 2, 2, 2, 2, 2, 2, 2, 2, 2, 2, 2, 2, 2, 2, 2, 2, 2, 2, 3, 3, 3, 3, 3, 3, 3, 3, 3, 3, 4, 3]
def mStr (c j : Nat) : Nat × String :=
  match c with
  | 0 => match j with
    | 45 => (318, "a file is on the way")
    | 56 => (328, "the path is there already")
    | 74 => (378, "the root stays")
    | 79 => (383, "the directory has names")
    | 89 => (395, "a name is 1 to 15")
    | 92 => (396, "the root has no name")
    | 94 => (397, "the name is there already")
    | 123 => (460, "a file is cut to 0 up to its own length")
    | 137 => (485, "a file has no names")
    | 163 => (271, "the volume is down")
    | 167 => (286, "a path has at most four digits")
    | 169 => (293, "a digit of a path is 0")
    | 171 => (439, "the file has no such cell")
    | 173 => (311, "the path leads nowhere")
    | 175 => (409, "a file is needed")
    | 179 => (352, "no cluster is free")
    | _ => (0, "")
  | 1 => match j with
    | 35 => (215, "the power is lost")
    | _ => (0, "")
  | _ => (0, "")
def mRx (x : Nat) : Nat × ByteArray :=
  match x with
  | 0 => (7, prog_8_method_2_code)
  | 1 => (7, prog_7_method_2_code)
  | 2 => (13, prog_15_method_4_code)
  | 3 => (7, prog_14_method_2_code)
  | 4 => (7, prog_5_method_2_code)
  | _ => (7, prog_9_method_2_code)
def mAtW (n : Nat) (w : Jvm.Cond) : Bool := decide (lw_tbl[n]? = some w) && goodWord w
def mAtV (n : Nat) (w : Jvm.Cond) : Bool := decide (lw_tbl[n]? = some w) && mVk w
theorem mAtW_in {n : Nat} {w : Jvm.Cond} (h : mAtW n w = true) : w ∈ mWs := by
  simp only [mAtW, Bool.and_eq_true] at h
  exact mWs_in (of_decide_eq_true h.1) h.2
theorem mAtV_in {n : Nat} {w : Jvm.Cond} (h : mAtV n w = true) : w ∈ mVs := by
  simp only [mAtV, Bool.and_eq_true] at h
  exact mVs_in (of_decide_eq_true h.1) h.2
def mOk2 (L : List Jvm.Cond) : Bool := L.all fun w => decide (w ∈ lw_tbl) && (goodWord w || mVk w)
theorem mOk2_in {L : List Jvm.Cond} (h : mOk2 L = true) : ∀ w ∈ L, w ∈ mWs ∨ w ∈ mVs := by
  intro w hw
  have h1 := List.all_eq_true.mp h w hw
  simp only [Bool.and_eq_true, Bool.or_eq_true, decide_eq_true_eq] at h1
  rcases h1.2 with h2 | h2
  · exact Or.inl (List.mem_filter.mpr ⟨h1.1, h2⟩)
  · exact Or.inr (List.mem_append_left _ (List.mem_filter.mpr ⟨h1.1, h2⟩))
theorem mTh_0_0 : mOk2 (xAll "ClusterVolume" 165 "java/lang/IllegalStateException" (mRx 0).1 (mRx 0).2) = true := by decide +kernel
theorem mTh_0_1 : mOk2 (xAll "ClusterVolume" 91 "java/lang/IllegalArgumentException" (mRx 1).1 (mRx 1).2) = true := by decide +kernel
theorem mTh_0_2 : mOk2 (xAll "ClusterVolume" 47 "java/util/NoSuchElementException" (mRx 2).1 (mRx 2).2) = true := by decide +kernel
theorem mTh_0_3 : mOk2 (xAll "ClusterVolume" 58 "java/lang/UnsupportedOperationException" (mRx 3).1 (mRx 3).2) = true := by decide +kernel
theorem mTh_0_4 : mOk2 (xAll "ClusterVolume" 181 "java/lang/ArithmeticException" (mRx 4).1 (mRx 4).2) = true := by decide +kernel
theorem mTh_0_5 : mOk2 (xAll "ClusterVolume" 125 "java/lang/IndexOutOfBoundsException" (mRx 5).1 (mRx 5).2) = true := by decide +kernel
theorem mTh_1_0 : mOk2 (xAll "ClusterVolume$Disk" 37 "java/lang/IllegalStateException" (mRx 0).1 (mRx 0).2) = true := by decide +kernel
theorem mRxd_0 : decode (mRx 0).2 0 = .ok (.aload_n 0, 1) ∧ decode (mRx 0).2 1 = .ok (.aload_n 1, 1) ∧ decode (mRx 0).2 2 = .ok (.invokespecial (mRx 0).1, 3) ∧ decode (mRx 0).2 5 = .ok (.return_, 1) := by decide +kernel
theorem mRxd_1 : decode (mRx 1).2 0 = .ok (.aload_n 0, 1) ∧ decode (mRx 1).2 1 = .ok (.aload_n 1, 1) ∧ decode (mRx 1).2 2 = .ok (.invokespecial (mRx 1).1, 3) ∧ decode (mRx 1).2 5 = .ok (.return_, 1) := by decide +kernel
theorem mRxd_2 : decode (mRx 2).2 0 = .ok (.aload_n 0, 1) ∧ decode (mRx 2).2 1 = .ok (.aload_n 1, 1) ∧ decode (mRx 2).2 2 = .ok (.invokespecial (mRx 2).1, 3) ∧ decode (mRx 2).2 5 = .ok (.return_, 1) := by decide +kernel
theorem mRxd_3 : decode (mRx 3).2 0 = .ok (.aload_n 0, 1) ∧ decode (mRx 3).2 1 = .ok (.aload_n 1, 1) ∧ decode (mRx 3).2 2 = .ok (.invokespecial (mRx 3).1, 3) ∧ decode (mRx 3).2 5 = .ok (.return_, 1) := by decide +kernel
theorem mRxd_4 : decode (mRx 4).2 0 = .ok (.aload_n 0, 1) ∧ decode (mRx 4).2 1 = .ok (.aload_n 1, 1) ∧ decode (mRx 4).2 2 = .ok (.invokespecial (mRx 4).1, 3) ∧ decode (mRx 4).2 5 = .ok (.return_, 1) := by decide +kernel
theorem mRxd_5 : decode (mRx 5).2 0 = .ok (.aload_n 0, 1) ∧ decode (mRx 5).2 1 = .ok (.aload_n 1, 1) ∧ decode (mRx 5).2 2 = .ok (.invokespecial (mRx 5).1, 3) ∧ decode (mRx 5).2 5 = .ok (.return_, 1) := by decide +kernel
set_option maxRecDepth 100000 in
theorem mMe_0 : mMeth 0 := ⟨Or.inl ⟨rfl, mWs_in (n := 61) (w := Jvm.Cond.code (mY 0) (mBy 0) (mNL 0) (mRet 0)) rfl rfl⟩, mWs_in (n := 44) (w := .initialized (mY 0).cls) rfl rfl, by decide, by decide, by decide +kernel⟩
set_option maxRecDepth 100000 in
theorem mMe_1 : mMeth 1 := ⟨Or.inl ⟨rfl, mWs_in (n := 102) (w := Jvm.Cond.code (mY 1) (mBy 1) (mNL 1) (mRet 1)) rfl rfl⟩, mWs_in (n := 44) (w := .initialized (mY 1).cls) rfl rfl, by decide, by decide, by decide +kernel⟩
set_option maxRecDepth 100000 in
theorem mMe_2 : mMeth 2 := ⟨Or.inl ⟨rfl, mWs_in (n := 110) (w := Jvm.Cond.code (mY 2) (mBy 2) (mNL 2) (mRet 2)) rfl rfl⟩, mWs_in (n := 44) (w := .initialized (mY 2).cls) rfl rfl, by decide, by decide, by decide +kernel⟩
set_option maxRecDepth 100000 in
theorem mMe_3 : mMeth 3 := ⟨Or.inl ⟨rfl, mWs_in (n := 118) (w := Jvm.Cond.code (mY 3) (mBy 3) (mNL 3) (mRet 3)) rfl rfl⟩, mWs_in (n := 44) (w := .initialized (mY 3).cls) rfl rfl, by decide, by decide, by decide +kernel⟩
set_option maxRecDepth 100000 in
theorem mMe_4 : mMeth 4 := ⟨Or.inl ⟨rfl, mWs_in (n := 126) (w := Jvm.Cond.code (mY 4) (mBy 4) (mNL 4) (mRet 4)) rfl rfl⟩, mWs_in (n := 44) (w := .initialized (mY 4).cls) rfl rfl, by decide, by decide, by decide +kernel⟩
set_option maxRecDepth 100000 in
theorem mMe_5 : mMeth 5 := ⟨Or.inl ⟨rfl, mWs_in (n := 130) (w := Jvm.Cond.code (mY 5) (mBy 5) (mNL 5) (mRet 5)) rfl rfl⟩, mWs_in (n := 44) (w := .initialized (mY 5).cls) rfl rfl, by decide, by decide, by decide +kernel⟩
set_option maxRecDepth 100000 in
theorem mMe_6 : mMeth 6 := ⟨Or.inl ⟨rfl, mWs_in (n := 133) (w := Jvm.Cond.code (mY 6) (mBy 6) (mNL 6) (mRet 6)) rfl rfl⟩, mWs_in (n := 44) (w := .initialized (mY 6).cls) rfl rfl, by decide, by decide, by decide +kernel⟩
set_option maxRecDepth 100000 in
theorem mMe_7 : mMeth 7 := ⟨Or.inl ⟨rfl, mWs_in (n := 146) (w := Jvm.Cond.code (mY 7) (mBy 7) (mNL 7) (mRet 7)) rfl rfl⟩, mWs_in (n := 44) (w := .initialized (mY 7).cls) rfl rfl, by decide, by decide, by decide +kernel⟩
set_option maxRecDepth 100000 in
theorem mMe_8 : mMeth 8 := ⟨Or.inl ⟨rfl, mWs_in (n := 150) (w := Jvm.Cond.code (mY 8) (mBy 8) (mNL 8) (mRet 8)) rfl rfl⟩, mWs_in (n := 44) (w := .initialized (mY 8).cls) rfl rfl, by decide, by decide, by decide +kernel⟩
set_option maxRecDepth 100000 in
theorem mMe_9 : mMeth 9 := ⟨Or.inl ⟨rfl, mWs_in (n := 154) (w := Jvm.Cond.code (mY 9) (mBy 9) (mNL 9) (mRet 9)) rfl rfl⟩, mWs_in (n := 44) (w := .initialized (mY 9).cls) rfl rfl, by decide, by decide, by decide +kernel⟩
set_option maxRecDepth 100000 in
theorem mMe_10 : mMeth 10 := ⟨Or.inl ⟨rfl, mWs_in (n := 158) (w := Jvm.Cond.code (mY 10) (mBy 10) (mNL 10) (mRet 10)) rfl rfl⟩, mWs_in (n := 44) (w := .initialized (mY 10).cls) rfl rfl, by decide, by decide, by decide +kernel⟩
set_option maxRecDepth 100000 in
theorem mMe_11 : mMeth 11 := ⟨Or.inl ⟨rfl, mWs_in (n := 162) (w := Jvm.Cond.code (mY 11) (mBy 11) (mNL 11) (mRet 11)) rfl rfl⟩, mWs_in (n := 44) (w := .initialized (mY 11).cls) rfl rfl, by decide, by decide, by decide +kernel⟩
set_option maxRecDepth 100000 in
theorem mMe_12 : mMeth 12 := ⟨Or.inl ⟨rfl, mWs_in (n := 245) (w := Jvm.Cond.code (mY 12) (mBy 12) (mNL 12) (mRet 12)) rfl rfl⟩, mWs_in (n := 44) (w := .initialized (mY 12).cls) rfl rfl, by decide, by decide, by decide +kernel⟩
set_option maxRecDepth 100000 in
theorem mMe_13 : mMeth 13 := ⟨Or.inl ⟨rfl, mWs_in (n := 249) (w := Jvm.Cond.code (mY 13) (mBy 13) (mNL 13) (mRet 13)) rfl rfl⟩, mWs_in (n := 44) (w := .initialized (mY 13).cls) rfl rfl, by decide, by decide, by decide +kernel⟩
set_option maxRecDepth 100000 in
theorem mMe_14 : mMeth 14 := ⟨Or.inl ⟨rfl, mWs_in (n := 253) (w := Jvm.Cond.code (mY 14) (mBy 14) (mNL 14) (mRet 14)) rfl rfl⟩, mWs_in (n := 44) (w := .initialized (mY 14).cls) rfl rfl, by decide, by decide, by decide +kernel⟩
set_option maxRecDepth 100000 in
theorem mMe_15 : mMeth 15 := ⟨Or.inl ⟨rfl, mWs_in (n := 265) (w := Jvm.Cond.code (mY 15) (mBy 15) (mNL 15) (mRet 15)) rfl rfl⟩, mWs_in (n := 44) (w := .initialized (mY 15).cls) rfl rfl, by decide, by decide, by decide +kernel⟩
set_option maxRecDepth 100000 in
theorem mMe_16 : mMeth 16 := ⟨Or.inl ⟨rfl, mWs_in (n := 269) (w := Jvm.Cond.code (mY 16) (mBy 16) (mNL 16) (mRet 16)) rfl rfl⟩, mWs_in (n := 44) (w := .initialized (mY 16).cls) rfl rfl, by decide, by decide, by decide +kernel⟩
set_option maxRecDepth 100000 in
theorem mMe_17 : mMeth 17 := ⟨Or.inl ⟨rfl, mWs_in (n := 275) (w := Jvm.Cond.code (mY 17) (mBy 17) (mNL 17) (mRet 17)) rfl rfl⟩, mWs_in (n := 44) (w := .initialized (mY 17).cls) rfl rfl, by decide, by decide, by decide +kernel⟩
set_option maxRecDepth 100000 in
theorem mMe_18 : mMeth 18 := ⟨Or.inl ⟨rfl, mWs_in (n := 297) (w := Jvm.Cond.code (mY 18) (mBy 18) (mNL 18) (mRet 18)) rfl rfl⟩, mWs_in (n := 44) (w := .initialized (mY 18).cls) rfl rfl, by decide, by decide, by decide +kernel⟩
set_option maxRecDepth 100000 in
theorem mMe_19 : mMeth 19 := ⟨Or.inl ⟨rfl, mWs_in (n := 301) (w := Jvm.Cond.code (mY 19) (mBy 19) (mNL 19) (mRet 19)) rfl rfl⟩, mWs_in (n := 44) (w := .initialized (mY 19).cls) rfl rfl, by decide, by decide, by decide +kernel⟩
set_option maxRecDepth 100000 in
theorem mMe_20 : mMeth 20 := ⟨Or.inl ⟨rfl, mWs_in (n := 342) (w := Jvm.Cond.code (mY 20) (mBy 20) (mNL 20) (mRet 20)) rfl rfl⟩, mWs_in (n := 44) (w := .initialized (mY 20).cls) rfl rfl, by decide, by decide, by decide +kernel⟩
set_option maxRecDepth 100000 in
theorem mMe_21 : mMeth 21 := ⟨Or.inl ⟨rfl, mWs_in (n := 362) (w := Jvm.Cond.code (mY 21) (mBy 21) (mNL 21) (mRet 21)) rfl rfl⟩, mWs_in (n := 44) (w := .initialized (mY 21).cls) rfl rfl, by decide, by decide, by decide +kernel⟩
set_option maxRecDepth 100000 in
theorem mMe_22 : mMeth 22 := ⟨Or.inl ⟨rfl, mWs_in (n := 370) (w := Jvm.Cond.code (mY 22) (mBy 22) (mNL 22) (mRet 22)) rfl rfl⟩, mWs_in (n := 44) (w := .initialized (mY 22).cls) rfl rfl, by decide, by decide, by decide +kernel⟩
set_option maxRecDepth 100000 in
theorem mMe_23 : mMeth 23 := ⟨Or.inl ⟨rfl, mWs_in (n := 377) (w := Jvm.Cond.code (mY 23) (mBy 23) (mNL 23) (mRet 23)) rfl rfl⟩, mWs_in (n := 44) (w := .initialized (mY 23).cls) rfl rfl, by decide, by decide, by decide +kernel⟩
set_option maxRecDepth 100000 in
theorem mMe_24 : mMeth 24 := ⟨Or.inl ⟨rfl, mWs_in (n := 382) (w := Jvm.Cond.code (mY 24) (mBy 24) (mNL 24) (mRet 24)) rfl rfl⟩, mWs_in (n := 44) (w := .initialized (mY 24).cls) rfl rfl, by decide, by decide, by decide +kernel⟩
set_option maxRecDepth 100000 in
theorem mMe_25 : mMeth 25 := ⟨Or.inl ⟨rfl, mWs_in (n := 387) (w := Jvm.Cond.code (mY 25) (mBy 25) (mNL 25) (mRet 25)) rfl rfl⟩, mWs_in (n := 44) (w := .initialized (mY 25).cls) rfl rfl, by decide, by decide, by decide +kernel⟩
set_option maxRecDepth 100000 in
theorem mMe_26 : mMeth 26 := ⟨Or.inl ⟨rfl, mWs_in (n := 394) (w := Jvm.Cond.code (mY 26) (mBy 26) (mNL 26) (mRet 26)) rfl rfl⟩, mWs_in (n := 44) (w := .initialized (mY 26).cls) rfl rfl, by decide, by decide, by decide +kernel⟩
set_option maxRecDepth 100000 in
theorem mMe_27 : mMeth 27 := ⟨Or.inl ⟨rfl, mWs_in (n := 404) (w := Jvm.Cond.code (mY 27) (mBy 27) (mNL 27) (mRet 27)) rfl rfl⟩, mWs_in (n := 44) (w := .initialized (mY 27).cls) rfl rfl, by decide, by decide, by decide +kernel⟩
set_option maxRecDepth 100000 in
theorem mMe_28 : mMeth 28 := ⟨Or.inl ⟨rfl, mWs_in (n := 408) (w := Jvm.Cond.code (mY 28) (mBy 28) (mNL 28) (mRet 28)) rfl rfl⟩, mWs_in (n := 44) (w := .initialized (mY 28).cls) rfl rfl, by decide, by decide, by decide +kernel⟩
set_option maxRecDepth 100000 in
theorem mMe_29 : mMeth 29 := ⟨Or.inl ⟨rfl, mWs_in (n := 413) (w := Jvm.Cond.code (mY 29) (mBy 29) (mNL 29) (mRet 29)) rfl rfl⟩, mWs_in (n := 44) (w := .initialized (mY 29).cls) rfl rfl, by decide, by decide, by decide +kernel⟩
set_option maxRecDepth 100000 in
theorem mMe_30 : mMeth 30 := ⟨Or.inl ⟨rfl, mWs_in (n := 417) (w := Jvm.Cond.code (mY 30) (mBy 30) (mNL 30) (mRet 30)) rfl rfl⟩, mWs_in (n := 44) (w := .initialized (mY 30).cls) rfl rfl, by decide, by decide, by decide +kernel⟩
set_option maxRecDepth 100000 in
theorem mMe_31 : mMeth 31 := ⟨Or.inl ⟨rfl, mWs_in (n := 425) (w := Jvm.Cond.code (mY 31) (mBy 31) (mNL 31) (mRet 31)) rfl rfl⟩, mWs_in (n := 44) (w := .initialized (mY 31).cls) rfl rfl, by decide, by decide, by decide +kernel⟩
set_option maxRecDepth 100000 in
theorem mMe_32 : mMeth 32 := ⟨Or.inl ⟨rfl, mWs_in (n := 429) (w := Jvm.Cond.code (mY 32) (mBy 32) (mNL 32) (mRet 32)) rfl rfl⟩, mWs_in (n := 44) (w := .initialized (mY 32).cls) rfl rfl, by decide, by decide, by decide +kernel⟩
set_option maxRecDepth 100000 in
theorem mMe_33 : mMeth 33 := ⟨Or.inl ⟨rfl, mWs_in (n := 452) (w := Jvm.Cond.code (mY 33) (mBy 33) (mNL 33) (mRet 33)) rfl rfl⟩, mWs_in (n := 44) (w := .initialized (mY 33).cls) rfl rfl, by decide, by decide, by decide +kernel⟩
set_option maxRecDepth 100000 in
theorem mMe_34 : mMeth 34 := ⟨Or.inl ⟨rfl, mWs_in (n := 459) (w := Jvm.Cond.code (mY 34) (mBy 34) (mNL 34) (mRet 34)) rfl rfl⟩, mWs_in (n := 44) (w := .initialized (mY 34).cls) rfl rfl, by decide, by decide, by decide +kernel⟩
set_option maxRecDepth 100000 in
theorem mMe_35 : mMeth 35 := ⟨Or.inl ⟨rfl, mWs_in (n := 464) (w := Jvm.Cond.code (mY 35) (mBy 35) (mNL 35) (mRet 35)) rfl rfl⟩, mWs_in (n := 44) (w := .initialized (mY 35).cls) rfl rfl, by decide, by decide, by decide +kernel⟩
set_option maxRecDepth 100000 in
theorem mMe_36 : mMeth 36 := ⟨Or.inl ⟨rfl, mWs_in (n := 471) (w := Jvm.Cond.code (mY 36) (mBy 36) (mNL 36) (mRet 36)) rfl rfl⟩, mWs_in (n := 44) (w := .initialized (mY 36).cls) rfl rfl, by decide, by decide, by decide +kernel⟩
set_option maxRecDepth 100000 in
theorem mMe_37 : mMeth 37 := ⟨Or.inl ⟨rfl, mWs_in (n := 484) (w := Jvm.Cond.code (mY 37) (mBy 37) (mNL 37) (mRet 37)) rfl rfl⟩, mWs_in (n := 44) (w := .initialized (mY 37).cls) rfl rfl, by decide, by decide, by decide +kernel⟩
set_option maxRecDepth 100000 in
theorem mMe_38 : mMeth 38 := ⟨Or.inl ⟨rfl, mWs_in (n := 492) (w := Jvm.Cond.code (mY 38) (mBy 38) (mNL 38) (mRet 38)) rfl rfl⟩, mWs_in (n := 44) (w := .initialized (mY 38).cls) rfl rfl, by decide, by decide, by decide +kernel⟩
set_option maxRecDepth 100000 in
theorem mMe_39 : mMeth 39 := ⟨Or.inl ⟨rfl, mWs_in (n := 69) (w := Jvm.Cond.code (mY 39) (mBy 39) (mNL 39) (mRet 39)) rfl rfl⟩, mWs_in (n := 45) (w := .initialized (mY 39).cls) rfl rfl, by decide, by decide, by decide +kernel⟩
set_option maxRecDepth 100000 in
theorem mMe_40 : mMeth 40 := ⟨Or.inl ⟨rfl, mWs_in (n := 106) (w := Jvm.Cond.code (mY 40) (mBy 40) (mNL 40) (mRet 40)) rfl rfl⟩, mWs_in (n := 45) (w := .initialized (mY 40).cls) rfl rfl, by decide, by decide, by decide +kernel⟩
set_option maxRecDepth 100000 in
theorem mMe_41 : mMeth 41 := ⟨Or.inl ⟨rfl, mWs_in (n := 114) (w := Jvm.Cond.code (mY 41) (mBy 41) (mNL 41) (mRet 41)) rfl rfl⟩, mWs_in (n := 45) (w := .initialized (mY 41).cls) rfl rfl, by decide, by decide, by decide +kernel⟩
set_option maxRecDepth 100000 in
theorem mMe_42 : mMeth 42 := ⟨Or.inl ⟨rfl, mWs_in (n := 122) (w := Jvm.Cond.code (mY 42) (mBy 42) (mNL 42) (mRet 42)) rfl rfl⟩, mWs_in (n := 45) (w := .initialized (mY 42).cls) rfl rfl, by decide, by decide, by decide +kernel⟩
set_option maxRecDepth 100000 in
theorem mMe_43 : mMeth 43 := ⟨Or.inl ⟨rfl, mWs_in (n := 137) (w := Jvm.Cond.code (mY 43) (mBy 43) (mNL 43) (mRet 43)) rfl rfl⟩, mWs_in (n := 45) (w := .initialized (mY 43).cls) rfl rfl, by decide, by decide, by decide +kernel⟩
set_option maxRecDepth 100000 in
theorem mMe_44 : mMeth 44 := ⟨Or.inl ⟨rfl, mWs_in (n := 142) (w := Jvm.Cond.code (mY 44) (mBy 44) (mNL 44) (mRet 44)) rfl rfl⟩, mWs_in (n := 45) (w := .initialized (mY 44).cls) rfl rfl, by decide, by decide, by decide +kernel⟩
set_option maxRecDepth 100000 in
theorem mMe_45 : mMeth 45 := ⟨Or.inl ⟨rfl, mWs_in (n := 166) (w := Jvm.Cond.code (mY 45) (mBy 45) (mNL 45) (mRet 45)) rfl rfl⟩, mWs_in (n := 45) (w := .initialized (mY 45).cls) rfl rfl, by decide, by decide, by decide +kernel⟩
set_option maxRecDepth 100000 in
theorem mMe_46 : mMeth 46 := ⟨Or.inl ⟨rfl, mWs_in (n := 170) (w := Jvm.Cond.code (mY 46) (mBy 46) (mNL 46) (mRet 46)) rfl rfl⟩, mWs_in (n := 45) (w := .initialized (mY 46).cls) rfl rfl, by decide, by decide, by decide +kernel⟩
set_option maxRecDepth 100000 in
theorem mMe_47 : mMeth 47 := ⟨Or.inl ⟨rfl, mWs_in (n := 338) (w := Jvm.Cond.code (mY 47) (mBy 47) (mNL 47) (mRet 47)) rfl rfl⟩, mWs_in (n := 45) (w := .initialized (mY 47).cls) rfl rfl, by decide, by decide, by decide +kernel⟩
set_option maxRecDepth 100000 in
theorem mMe_48 : mMeth 48 := ⟨Or.inl ⟨rfl, mWs_in (n := 366) (w := Jvm.Cond.code (mY 48) (mBy 48) (mNL 48) (mRet 48)) rfl rfl⟩, mWs_in (n := 45) (w := .initialized (mY 48).cls) rfl rfl, by decide, by decide, by decide +kernel⟩
set_option maxRecDepth 100000 in
theorem mMe_49 : mMeth 49 := ⟨Or.inl ⟨rfl, mWs_in (n := 497) (w := Jvm.Cond.code (mY 49) (mBy 49) (mNL 49) (mRet 49)) rfl rfl⟩, mWs_in (n := 46) (w := .initialized (mY 49).cls) rfl rfl, by decide, by decide, by decide +kernel⟩
set_option maxRecDepth 100000 in
theorem mMe_50 : mMeth 50 := ⟨Or.inl ⟨rfl, mWs_in (n := 530) (w := Jvm.Cond.code (mY 50) (mBy 50) (mNL 50) (mRet 50)) rfl rfl⟩, mWs_in (n := 46) (w := .initialized (mY 50).cls) rfl rfl, by decide, by decide, by decide +kernel⟩
set_option maxRecDepth 100000 in
theorem mMe_51 : mMeth 51 := ⟨Or.inl ⟨rfl, mWs_in (n := 534) (w := Jvm.Cond.code (mY 51) (mBy 51) (mNL 51) (mRet 51)) rfl rfl⟩, mWs_in (n := 46) (w := .initialized (mY 51).cls) rfl rfl, by decide, by decide, by decide +kernel⟩
set_option maxRecDepth 100000 in
theorem mMe_52 : mMeth 52 := ⟨Or.inl ⟨rfl, mWs_in (n := 537) (w := Jvm.Cond.code (mY 52) (mBy 52) (mNL 52) (mRet 52)) rfl rfl⟩, mWs_in (n := 46) (w := .initialized (mY 52).cls) rfl rfl, by decide, by decide, by decide +kernel⟩
set_option maxRecDepth 100000 in
theorem mMe_53 : mMeth 53 := ⟨Or.inl ⟨rfl, mWs_in (n := 541) (w := Jvm.Cond.code (mY 53) (mBy 53) (mNL 53) (mRet 53)) rfl rfl⟩, mWs_in (n := 46) (w := .initialized (mY 53).cls) rfl rfl, by decide, by decide, by decide +kernel⟩
set_option maxRecDepth 100000 in
theorem mMe_54 : mMeth 54 := ⟨Or.inl ⟨rfl, mWs_in (n := 545) (w := Jvm.Cond.code (mY 54) (mBy 54) (mNL 54) (mRet 54)) rfl rfl⟩, mWs_in (n := 46) (w := .initialized (mY 54).cls) rfl rfl, by decide, by decide, by decide +kernel⟩
set_option maxRecDepth 100000 in
theorem mMe_55 : mMeth 55 := ⟨Or.inl ⟨rfl, mWs_in (n := 549) (w := Jvm.Cond.code (mY 55) (mBy 55) (mNL 55) (mRet 55)) rfl rfl⟩, mWs_in (n := 46) (w := .initialized (mY 55).cls) rfl rfl, by decide, by decide, by decide +kernel⟩
set_option maxRecDepth 100000 in
theorem mMe_56 : mMeth 56 := ⟨Or.inl ⟨rfl, mWs_in (n := 553) (w := Jvm.Cond.code (mY 56) (mBy 56) (mNL 56) (mRet 56)) rfl rfl⟩, mWs_in (n := 46) (w := .initialized (mY 56).cls) rfl rfl, by decide, by decide, by decide +kernel⟩
set_option maxRecDepth 100000 in
theorem mMe_57 : mMeth 57 := ⟨Or.inl ⟨rfl, mWs_in (n := 557) (w := Jvm.Cond.code (mY 57) (mBy 57) (mNL 57) (mRet 57)) rfl rfl⟩, mWs_in (n := 46) (w := .initialized (mY 57).cls) rfl rfl, by decide, by decide, by decide +kernel⟩
set_option maxRecDepth 100000 in
theorem mMe_58 : mMeth 58 := ⟨Or.inl ⟨rfl, mWs_in (n := 561) (w := Jvm.Cond.code (mY 58) (mBy 58) (mNL 58) (mRet 58)) rfl rfl⟩, mWs_in (n := 46) (w := .initialized (mY 58).cls) rfl rfl, by decide, by decide, by decide +kernel⟩
set_option maxRecDepth 100000 in
theorem mMe_59 : mMeth 59 := ⟨Or.inl ⟨rfl, mWs_in (n := 565) (w := Jvm.Cond.code (mY 59) (mBy 59) (mNL 59) (mRet 59)) rfl rfl⟩, mWs_in (n := 46) (w := .initialized (mY 59).cls) rfl rfl, by decide, by decide, by decide +kernel⟩
set_option maxRecDepth 100000 in
theorem mMe_60 : mMeth 60 := ⟨Or.inl ⟨rfl, mWs_in (n := 569) (w := Jvm.Cond.code (mY 60) (mBy 60) (mNL 60) (mRet 60)) rfl rfl⟩, mWs_in (n := 46) (w := .initialized (mY 60).cls) rfl rfl, by decide, by decide, by decide +kernel⟩
set_option maxRecDepth 100000 in
theorem mMe_61 : mMeth 61 := ⟨Or.inl ⟨rfl, mWs_in (n := 573) (w := Jvm.Cond.code (mY 61) (mBy 61) (mNL 61) (mRet 61)) rfl rfl⟩, mWs_in (n := 46) (w := .initialized (mY 61).cls) rfl rfl, by decide, by decide, by decide +kernel⟩
set_option maxRecDepth 100000 in
theorem mMe_62 : mMeth 62 := ⟨Or.inl ⟨rfl, mWs_in (n := 577) (w := Jvm.Cond.code (mY 62) (mBy 62) (mNL 62) (mRet 62)) rfl rfl⟩, mWs_in (n := 46) (w := .initialized (mY 62).cls) rfl rfl, by decide, by decide, by decide +kernel⟩
set_option maxRecDepth 100000 in
theorem mMe_63 : mMeth 63 := ⟨Or.inl ⟨rfl, mWs_in (n := 581) (w := Jvm.Cond.code (mY 63) (mBy 63) (mNL 63) (mRet 63)) rfl rfl⟩, mWs_in (n := 46) (w := .initialized (mY 63).cls) rfl rfl, by decide, by decide, by decide +kernel⟩
set_option maxRecDepth 100000 in
theorem mMe_64 : mMeth 64 := ⟨Or.inl ⟨rfl, mWs_in (n := 585) (w := Jvm.Cond.code (mY 64) (mBy 64) (mNL 64) (mRet 64)) rfl rfl⟩, mWs_in (n := 46) (w := .initialized (mY 64).cls) rfl rfl, by decide, by decide, by decide +kernel⟩
set_option maxRecDepth 100000 in
theorem mMe_65 : mMeth 65 := ⟨Or.inl ⟨rfl, mWs_in (n := 589) (w := Jvm.Cond.code (mY 65) (mBy 65) (mNL 65) (mRet 65)) rfl rfl⟩, mWs_in (n := 46) (w := .initialized (mY 65).cls) rfl rfl, by decide, by decide, by decide +kernel⟩
set_option maxRecDepth 100000 in
theorem mMe_66 : mMeth 66 := ⟨Or.inl ⟨rfl, mWs_in (n := 593) (w := Jvm.Cond.code (mY 66) (mBy 66) (mNL 66) (mRet 66)) rfl rfl⟩, mWs_in (n := 46) (w := .initialized (mY 66).cls) rfl rfl, by decide, by decide, by decide +kernel⟩
set_option maxRecDepth 100000 in
theorem mMe_67 : mMeth 67 := ⟨Or.inl ⟨rfl, mWs_in (n := 597) (w := Jvm.Cond.code (mY 67) (mBy 67) (mNL 67) (mRet 67)) rfl rfl⟩, mWs_in (n := 46) (w := .initialized (mY 67).cls) rfl rfl, by decide, by decide, by decide +kernel⟩
set_option maxRecDepth 100000 in
theorem mMe_68 : mMeth 68 := ⟨Or.inl ⟨rfl, mWs_in (n := 601) (w := Jvm.Cond.code (mY 68) (mBy 68) (mNL 68) (mRet 68)) rfl rfl⟩, mWs_in (n := 46) (w := .initialized (mY 68).cls) rfl rfl, by decide, by decide, by decide +kernel⟩
set_option maxRecDepth 100000 in
theorem mMe_69 : mMeth 69 := ⟨Or.inl ⟨rfl, mWs_in (n := 605) (w := Jvm.Cond.code (mY 69) (mBy 69) (mNL 69) (mRet 69)) rfl rfl⟩, mWs_in (n := 46) (w := .initialized (mY 69).cls) rfl rfl, by decide, by decide, by decide +kernel⟩
set_option maxRecDepth 100000 in
theorem mMe_70 : mMeth 70 := ⟨Or.inl ⟨rfl, mWs_in (n := 609) (w := Jvm.Cond.code (mY 70) (mBy 70) (mNL 70) (mRet 70)) rfl rfl⟩, mWs_in (n := 46) (w := .initialized (mY 70).cls) rfl rfl, by decide, by decide, by decide +kernel⟩
set_option maxRecDepth 100000 in
theorem mMe_71 : mMeth 71 := ⟨Or.inl ⟨rfl, mWs_in (n := 613) (w := Jvm.Cond.code (mY 71) (mBy 71) (mNL 71) (mRet 71)) rfl rfl⟩, mWs_in (n := 46) (w := .initialized (mY 71).cls) rfl rfl, by decide, by decide, by decide +kernel⟩
set_option maxRecDepth 100000 in
theorem mMe_72 : mMeth 72 := ⟨Or.inl ⟨rfl, mWs_in (n := 617) (w := Jvm.Cond.code (mY 72) (mBy 72) (mNL 72) (mRet 72)) rfl rfl⟩, mWs_in (n := 46) (w := .initialized (mY 72).cls) rfl rfl, by decide, by decide, by decide +kernel⟩
set_option maxRecDepth 100000 in
theorem mMe_73 : mMeth 73 := ⟨Or.inl ⟨rfl, mWs_in (n := 621) (w := Jvm.Cond.code (mY 73) (mBy 73) (mNL 73) (mRet 73)) rfl rfl⟩, mWs_in (n := 46) (w := .initialized (mY 73).cls) rfl rfl, by decide, by decide, by decide +kernel⟩
set_option maxRecDepth 100000 in
theorem mMe_74 : mMeth 74 := ⟨Or.inl ⟨rfl, mWs_in (n := 625) (w := Jvm.Cond.code (mY 74) (mBy 74) (mNL 74) (mRet 74)) rfl rfl⟩, mWs_in (n := 46) (w := .initialized (mY 74).cls) rfl rfl, by decide, by decide, by decide +kernel⟩
set_option maxRecDepth 100000 in
theorem mMe_75 : mMeth 75 := ⟨Or.inl ⟨rfl, mWs_in (n := 629) (w := Jvm.Cond.code (mY 75) (mBy 75) (mNL 75) (mRet 75)) rfl rfl⟩, mWs_in (n := 46) (w := .initialized (mY 75).cls) rfl rfl, by decide, by decide, by decide +kernel⟩
set_option maxRecDepth 100000 in
theorem mMe_76 : mMeth 76 := ⟨Or.inl ⟨rfl, mWs_in (n := 633) (w := Jvm.Cond.code (mY 76) (mBy 76) (mNL 76) (mRet 76)) rfl rfl⟩, mWs_in (n := 46) (w := .initialized (mY 76).cls) rfl rfl, by decide, by decide, by decide +kernel⟩
set_option maxRecDepth 100000 in
theorem mMe_77 : mMeth 77 := ⟨Or.inl ⟨rfl, mWs_in (n := 637) (w := Jvm.Cond.code (mY 77) (mBy 77) (mNL 77) (mRet 77)) rfl rfl⟩, mWs_in (n := 46) (w := .initialized (mY 77).cls) rfl rfl, by decide, by decide, by decide +kernel⟩
set_option maxRecDepth 100000 in
theorem mMe_78 : mMeth 78 := ⟨Or.inl ⟨rfl, mWs_in (n := 641) (w := Jvm.Cond.code (mY 78) (mBy 78) (mNL 78) (mRet 78)) rfl rfl⟩, mWs_in (n := 46) (w := .initialized (mY 78).cls) rfl rfl, by decide, by decide, by decide +kernel⟩
set_option maxRecDepth 100000 in
theorem mMe_79 : mMeth 79 := ⟨Or.inl ⟨rfl, mWs_in (n := 645) (w := Jvm.Cond.code (mY 79) (mBy 79) (mNL 79) (mRet 79)) rfl rfl⟩, mWs_in (n := 46) (w := .initialized (mY 79).cls) rfl rfl, by decide, by decide, by decide +kernel⟩
set_option maxRecDepth 100000 in
theorem mMe_80 : mMeth 80 := ⟨Or.inl ⟨rfl, mWs_in (n := 649) (w := Jvm.Cond.code (mY 80) (mBy 80) (mNL 80) (mRet 80)) rfl rfl⟩, mWs_in (n := 46) (w := .initialized (mY 80).cls) rfl rfl, by decide, by decide, by decide +kernel⟩
set_option maxRecDepth 100000 in
theorem mMe_81 : mMeth 81 := ⟨Or.inl ⟨rfl, mWs_in (n := 653) (w := Jvm.Cond.code (mY 81) (mBy 81) (mNL 81) (mRet 81)) rfl rfl⟩, mWs_in (n := 46) (w := .initialized (mY 81).cls) rfl rfl, by decide, by decide, by decide +kernel⟩
set_option maxRecDepth 100000 in
theorem mMe_82 : mMeth 82 := ⟨Or.inl ⟨rfl, mWs_in (n := 657) (w := Jvm.Cond.code (mY 82) (mBy 82) (mNL 82) (mRet 82)) rfl rfl⟩, mWs_in (n := 46) (w := .initialized (mY 82).cls) rfl rfl, by decide, by decide, by decide +kernel⟩
set_option maxRecDepth 100000 in
theorem mMe_83 : mMeth 83 := ⟨Or.inl ⟨rfl, mWs_in (n := 661) (w := Jvm.Cond.code (mY 83) (mBy 83) (mNL 83) (mRet 83)) rfl rfl⟩, mWs_in (n := 46) (w := .initialized (mY 83).cls) rfl rfl, by decide, by decide, by decide +kernel⟩
set_option maxRecDepth 100000 in
theorem mMe_84 : mMeth 84 := ⟨Or.inl ⟨rfl, mWs_in (n := 665) (w := Jvm.Cond.code (mY 84) (mBy 84) (mNL 84) (mRet 84)) rfl rfl⟩, mWs_in (n := 46) (w := .initialized (mY 84).cls) rfl rfl, by decide, by decide, by decide +kernel⟩
set_option maxRecDepth 100000 in
theorem mMe_85 : mMeth 85 := ⟨Or.inl ⟨rfl, mWs_in (n := 669) (w := Jvm.Cond.code (mY 85) (mBy 85) (mNL 85) (mRet 85)) rfl rfl⟩, mWs_in (n := 46) (w := .initialized (mY 85).cls) rfl rfl, by decide, by decide, by decide +kernel⟩
set_option maxRecDepth 100000 in
theorem mMe_86 : mMeth 86 := ⟨Or.inl ⟨rfl, mWs_in (n := 673) (w := Jvm.Cond.code (mY 86) (mBy 86) (mNL 86) (mRet 86)) rfl rfl⟩, mWs_in (n := 46) (w := .initialized (mY 86).cls) rfl rfl, by decide, by decide, by decide +kernel⟩
set_option maxRecDepth 100000 in
theorem mMe_87 : mMeth 87 := ⟨Or.inl ⟨rfl, mWs_in (n := 677) (w := Jvm.Cond.code (mY 87) (mBy 87) (mNL 87) (mRet 87)) rfl rfl⟩, mWs_in (n := 46) (w := .initialized (mY 87).cls) rfl rfl, by decide, by decide, by decide +kernel⟩
set_option maxRecDepth 100000 in
theorem mMe_88 : mMeth 88 := ⟨Or.inr ⟨by decide, mWs_in (n := 256) (w := Jvm.Cond.codeWith (mY 88) (mBy 88) (mNL 88) (mRet 88) (mHH 88)) rfl rfl⟩, mWs_in (n := 43) (w := .initialized (mY 88).cls) rfl rfl, by decide, by decide, by decide +kernel⟩
set_option maxRecDepth 100000 in
theorem mMe_89 : mMeth 89 := ⟨Or.inr ⟨by decide, mWs_in (n := 373) (w := Jvm.Cond.codeWith (mY 89) (mBy 89) (mNL 89) (mRet 89) (mHH 89)) rfl rfl⟩, mWs_in (n := 43) (w := .initialized (mY 89).cls) rfl rfl, by decide, by decide, by decide +kernel⟩
set_option maxRecDepth 100000 in
theorem mMe_90 : mMeth 90 := ⟨Or.inr ⟨by decide, mWs_in (n := 390) (w := Jvm.Cond.codeWith (mY 90) (mBy 90) (mNL 90) (mRet 90) (mHH 90)) rfl rfl⟩, mWs_in (n := 43) (w := .initialized (mY 90).cls) rfl rfl, by decide, by decide, by decide +kernel⟩
set_option maxRecDepth 100000 in
theorem mMe_91 : mMeth 91 := ⟨Or.inr ⟨by decide, mWs_in (n := 400) (w := Jvm.Cond.codeWith (mY 91) (mBy 91) (mNL 91) (mRet 91) (mHH 91)) rfl rfl⟩, mWs_in (n := 43) (w := .initialized (mY 91).cls) rfl rfl, by decide, by decide, by decide +kernel⟩
set_option maxRecDepth 100000 in
theorem mMe_92 : mMeth 92 := ⟨Or.inr ⟨by decide, mWs_in (n := 420) (w := Jvm.Cond.codeWith (mY 92) (mBy 92) (mNL 92) (mRet 92) (mHH 92)) rfl rfl⟩, mWs_in (n := 43) (w := .initialized (mY 92).cls) rfl rfl, by decide, by decide, by decide +kernel⟩
set_option maxRecDepth 100000 in
theorem mMe_93 : mMeth 93 := ⟨Or.inr ⟨by decide, mWs_in (n := 448) (w := Jvm.Cond.codeWith (mY 93) (mBy 93) (mNL 93) (mRet 93) (mHH 93)) rfl rfl⟩, mWs_in (n := 43) (w := .initialized (mY 93).cls) rfl rfl, by decide, by decide, by decide +kernel⟩
set_option maxRecDepth 100000 in
theorem mMe_94 : mMeth 94 := ⟨Or.inr ⟨by decide, mWs_in (n := 455) (w := Jvm.Cond.codeWith (mY 94) (mBy 94) (mNL 94) (mRet 94) (mHH 94)) rfl rfl⟩, mWs_in (n := 43) (w := .initialized (mY 94).cls) rfl rfl, by decide, by decide, by decide +kernel⟩
set_option maxRecDepth 100000 in
theorem mMe_95 : mMeth 95 := ⟨Or.inr ⟨by decide, mWs_in (n := 467) (w := Jvm.Cond.codeWith (mY 95) (mBy 95) (mNL 95) (mRet 95) (mHH 95)) rfl rfl⟩, mWs_in (n := 43) (w := .initialized (mY 95).cls) rfl rfl, by decide, by decide, by decide +kernel⟩
set_option maxRecDepth 100000 in
theorem mMe_96 : mMeth 96 := ⟨Or.inr ⟨by decide, mWs_in (n := 480) (w := Jvm.Cond.codeWith (mY 96) (mBy 96) (mNL 96) (mRet 96) (mHH 96)) rfl rfl⟩, mWs_in (n := 43) (w := .initialized (mY 96).cls) rfl rfl, by decide, by decide, by decide +kernel⟩
set_option maxRecDepth 100000 in
theorem mMe_97 : mMeth 97 := ⟨Or.inr ⟨by decide, mWs_in (n := 488) (w := Jvm.Cond.codeWith (mY 97) (mBy 97) (mNL 97) (mRet 97) (mHH 97)) rfl rfl⟩, mWs_in (n := 43) (w := .initialized (mY 97).cls) rfl rfl, by decide, by decide, by decide +kernel⟩
set_option maxRecDepth 100000 in
theorem mMe_98 : mMeth 98 := ⟨Or.inl ⟨rfl, mWs_in (n := 474) (w := Jvm.Cond.code (mY 98) (mBy 98) (mNL 98) (mRet 98)) rfl rfl⟩, mWs_in (n := 56) (w := .initialized (mY 98).cls) rfl rfl, by decide, by decide, by decide +kernel⟩
theorem mMeths : ∀ k, k < 99 → mMeth k
  | 0, _ => mMe_0
  | 1, _ => mMe_1
  | 2, _ => mMe_2
  | 3, _ => mMe_3
  | 4, _ => mMe_4
  | 5, _ => mMe_5
  | 6, _ => mMe_6
  | 7, _ => mMe_7
  | 8, _ => mMe_8
  | 9, _ => mMe_9
  | 10, _ => mMe_10
  | 11, _ => mMe_11
  | 12, _ => mMe_12
  | 13, _ => mMe_13
  | 14, _ => mMe_14
  | 15, _ => mMe_15
  | 16, _ => mMe_16
  | 17, _ => mMe_17
  | 18, _ => mMe_18
  | 19, _ => mMe_19
  | 20, _ => mMe_20
  | 21, _ => mMe_21
  | 22, _ => mMe_22
  | 23, _ => mMe_23
  | 24, _ => mMe_24
  | 25, _ => mMe_25
  | 26, _ => mMe_26
  | 27, _ => mMe_27
  | 28, _ => mMe_28
  | 29, _ => mMe_29
  | 30, _ => mMe_30
  | 31, _ => mMe_31
  | 32, _ => mMe_32
  | 33, _ => mMe_33
  | 34, _ => mMe_34
  | 35, _ => mMe_35
  | 36, _ => mMe_36
  | 37, _ => mMe_37
  | 38, _ => mMe_38
  | 39, _ => mMe_39
  | 40, _ => mMe_40
  | 41, _ => mMe_41
  | 42, _ => mMe_42
  | 43, _ => mMe_43
  | 44, _ => mMe_44
  | 45, _ => mMe_45
  | 46, _ => mMe_46
  | 47, _ => mMe_47
  | 48, _ => mMe_48
  | 49, _ => mMe_49
  | 50, _ => mMe_50
  | 51, _ => mMe_51
  | 52, _ => mMe_52
  | 53, _ => mMe_53
  | 54, _ => mMe_54
  | 55, _ => mMe_55
  | 56, _ => mMe_56
  | 57, _ => mMe_57
  | 58, _ => mMe_58
  | 59, _ => mMe_59
  | 60, _ => mMe_60
  | 61, _ => mMe_61
  | 62, _ => mMe_62
  | 63, _ => mMe_63
  | 64, _ => mMe_64
  | 65, _ => mMe_65
  | 66, _ => mMe_66
  | 67, _ => mMe_67
  | 68, _ => mMe_68
  | 69, _ => mMe_69
  | 70, _ => mMe_70
  | 71, _ => mMe_71
  | 72, _ => mMe_72
  | 73, _ => mMe_73
  | 74, _ => mMe_74
  | 75, _ => mMe_75
  | 76, _ => mMe_76
  | 77, _ => mMe_77
  | 78, _ => mMe_78
  | 79, _ => mMe_79
  | 80, _ => mMe_80
  | 81, _ => mMe_81
  | 82, _ => mMe_82
  | 83, _ => mMe_83
  | 84, _ => mMe_84
  | 85, _ => mMe_85
  | 86, _ => mMe_86
  | 87, _ => mMe_87
  | 88, _ => mMe_88
  | 89, _ => mMe_89
  | 90, _ => mMe_90
  | 91, _ => mMe_91
  | 92, _ => mMe_92
  | 93, _ => mMe_93
  | 94, _ => mMe_94
  | 95, _ => mMe_95
  | 96, _ => mMe_96
  | 97, _ => mMe_97
  | 98, _ => mMe_98
  | k + 99, h => absurd h (by omega)
end
section
def mIcL : List (String × Nat × Nat) := [("ClusterVolume", 0, 165), ("ClusterVolume", 1, 91), ("ClusterVolume", 2, 47), ("ClusterVolume", 3, 58), ("ClusterVolume", 4, 181), ("ClusterVolume", 5, 125), ("ClusterVolume$Disk", 0, 37)]
def mIc (c : String) (x ic : Nat) : Bool := decide ((c, x, ic) ∈ mIcL)
/-! the check of an instruction, by the kernel -/
def mChkN (k j x : Nat) : Bool :=
  match mCls[x]? with
  | some (C, _, N) => Nat.beq (mDef x).length N && mAtW (mPl (mOws.getD k 0) j) (.classLink (mY k).cls j C) && mAtW ([58, 66, 494].getD x 0) (.instantiable C N) && mAtW ([44, 45, 46].getD x 0) (.initialized C) && (List.range N).all (fun q => decide (defaultValue (mFT x q) = vp_V (mDef x) q))
  | none => false
def mChkU (k pc x : Nat) : Bool :=
  match decode (mBy k) (pc + 4), decode (mBy k) (pc + 6) with
  | .ok (.ldc is, 2), .ok (.invokespecial ic, 3) => mAtV (mStr (mOws.getD k 0) is).1 (.stringRef (mY k).cls is (mStr (mOws.getD k 0) is).2) && mIc (mY k).cls x ic
  | _, _ => false
def mChkT (k pc j x : Nat) : Bool :=
  decide (decode (mBy k) (pc + 3) = .ok (.dup, 1)) && decide (decode (mBy k) (pc + 9) = .ok (.athrow, 1)) && mAtW (mPl (mOws.getD k 0) j) (.classLink (mY k).cls j (mXn x)) && mAtW ([50, 51, 52, 53, 54, 55].getD x 0) (.initialized (mXn x)) && Nat.blt x 6 && mChkU k pc x
def mChk (k pc : Nat) (i : Instr) (nx x y : Nat) : Bool :=
  decide (decode (mBy k) pc = .ok (i, mLen i)) && Nat.beq nx (pc + mLen i) &&
  match i with
  | .iconst n => decide (Int32.ofInt n = mK n)
  | .bipush n => decide ((Int8.ofInt n).toInt32 = mK n)
  | .sipush n => decide ((Int16.ofInt n).toInt32 = mK n)
  | .iinc _ n => decide (Int32.ofInt n = mK n)
  | .ldc j => mAtW (mPl (mOws.getD k 0) j) (.constant (mY k).cls j (Int32.ofNat x))
  | .ldc_w j => mAtW (mPl (mOws.getD k 0) j) (.constant (mY k).cls j (Int32.ofNat x))
  | .goto off => decide ((pc : Int) + off = (x : Int))
  | .ifCond _ off => decide ((pc : Int) + off = (x : Int))
  | .if_icmp _ off => decide ((pc : Int) + off = (x : Int))
  | .tableswitch d lo hi offs => decide (0 ≤ (pc : Int) + d) && decide ((hi - lo + 1).toNat = offs.size) && decide (lo ≤ hi) && offs.toList.all (fun o => decide (0 ≤ (pc : Int) + o))
  | .getfield j =>
    match mCls[x]? with
    | some (_, T, N) => Nat.blt y N && mAtW (mPl (mOws.getD k 0) j) (.fieldLink (mY k).cls j (T y).1 (T y).2.1 (T y).2.2.1)
    | none => false
  | .putfield j =>
    match mCls[x]? with
    | some (_, T, N) => Nat.blt y N && mAtW (mPl (mOws.getD k 0) j) (.fieldLink (mY k).cls j (T y).1 (T y).2.1 (T y).2.2.1) && (decide ((T y).2.2.2 = false) || (decide ((T y).2.2.2 = true) && decide ((mY k).name = "<init>") && decide ((T y).1 = (mY k).cls)))
    | none => false
  | .newarray t => mAtW (match t with | .int => 84 | .boolean => 98 | _ => 678) (.arrayClass (newarray.typeOf t))
  | .new j =>
    match y with
    | 0 => mChkN k j x
    | _ => mChkT k pc j x
  | .invokestatic j => Nat.blt x 99 && mAtW (mPs.getD x 0) (.static (mY x)) && decide ((parseMethodDescriptor (mY x).desc).map (fun d => d.parameters.length) = some y) && Nat.ble y (mNL x) && (mAtW (mPl (mOws.getD k 0) j) (.methodLink (mY k).cls j (mY x)) || mAtV (mPl (mOws.getD k 0) j) (.methodLinkNest (mY k).cls j (mY x) "ClusterVolume"))
  | .invokevirtual j => Nat.blt x 99 && mAtW (mPi.getD x 0) (.instanceMethod (mY x)) && decide ((parseMethodDescriptor (mY x).desc).map (fun d => d.parameters.length) = some y) && Nat.ble (y + 1) (mNL x) && mAtW (mPl (mOws.getD k 0) j) (.methodLink (mY k).cls j (mY x)) && mAtW (mPe.getD x 0) (.selects (mY x).cls (mY x) (mY x)) &&
      (match mCls[mCl x]? with
       | some (C, _, _) => decide (C = (mY x).cls)
       | none => false)
  | .invokespecial j =>
    bif Nat.beq x 999 then mAtW (mPl (mOws.getD k 0) j) (.methodLink (mY k).cls j Lib.objectInit) && mAtW 63 (.instanceMethod Lib.objectInit) && mAtW 64 (.code Lib.objectInit ⟨#[0xb1]⟩ 1 none)
    else Nat.blt x 99 && decide (mHH x = []) && decide (mRet x = none) && mAtW (mPi.getD x 0) (.instanceMethod (mY x)) && decide ((mY x).name = "<init>") && decide ((parseMethodDescriptor (mY x).desc).map (fun d => d.parameters.length) = some 0) && Nat.ble 1 (mNL x) && mAtW (mPl (mOws.getD k 0) j) (.methodLink (mY k).cls j (mY x))
  | _ => true
theorem mIc_all : ∀ q ∈ mIcL, ∀ w ∈ xAll q.1 q.2.2 (mXn q.2.1) (mRx q.2.1).1 (mRx q.2.1).2, w ∈ mWs ∨ w ∈ mVs := List.forall_mem_cons.mpr ⟨mOk2_in mTh_0_0, List.forall_mem_cons.mpr ⟨mOk2_in mTh_0_1, List.forall_mem_cons.mpr ⟨mOk2_in mTh_0_2, List.forall_mem_cons.mpr ⟨mOk2_in mTh_0_3, List.forall_mem_cons.mpr ⟨mOk2_in mTh_0_4, List.forall_mem_cons.mpr ⟨mOk2_in mTh_0_5, List.forall_mem_cons.mpr ⟨mOk2_in mTh_1_0, fun _ h => absurd h List.not_mem_nil⟩⟩⟩⟩⟩⟩⟩
theorem mIc_spec {c : String} {x ic : Nat} (h : mIc c x ic = true) : ∀ w ∈ xAll c ic (mXn x) (mRx x).1 (mRx x).2, w ∈ mWs ∨ w ∈ mVs := mIc_all (c, x, ic) (of_decide_eq_true h)
theorem mRxd {x : Nat} (h : x < 6) : Bundle.fit (mXn x) = true ∧ decode (mRx x).2 0 = .ok (.aload_n 0, 1) ∧ decode (mRx x).2 1 = .ok (.aload_n 1, 1) ∧ decode (mRx x).2 2 = .ok (.invokespecial (mRx x).1, 3) ∧ decode (mRx x).2 5 = .ok (.return_, 1) := by
  match x, h with
  | 0, _ => exact ⟨by decide +kernel, mRxd_0⟩
  | 1, _ => exact ⟨by decide +kernel, mRxd_1⟩
  | 2, _ => exact ⟨by decide +kernel, mRxd_2⟩
  | 3, _ => exact ⟨by decide +kernel, mRxd_3⟩
  | 4, _ => exact ⟨by decide +kernel, mRxd_4⟩
  | 5, _ => exact ⟨by decide +kernel, mRxd_5⟩
  | n + 6, h => exact absurd h (by omega)
set_option maxHeartbeats 4000000 in
theorem mChk_spec {k pc nx x y : Nat} {i : Instr} (h : mChk k pc i nx x y = true) : mFact k pc i nx x y := by
  unfold mChk at h
  rw [Bool.and_eq_true, Bool.and_eq_true] at h
  obtain ⟨⟨h1, h2⟩, h3⟩ := h
  refine ⟨of_decide_eq_true h1, Nat.eq_of_beq_eq_true h2, ?_⟩
  cases i with
  | iconst n => exact of_decide_eq_true h3
  | bipush n => exact of_decide_eq_true h3
  | sipush n => exact of_decide_eq_true h3
  | iinc j n => exact of_decide_eq_true h3
  | ldc j => exact mAtW_in h3
  | ldc_w j => exact mAtW_in h3
  | goto off => exact of_decide_eq_true h3
  | ifCond c off => exact of_decide_eq_true h3
  | if_icmp c off => exact of_decide_eq_true h3
  | tableswitch d lo hi offs =>
    simp only [Bool.and_eq_true, List.all_eq_true] at h3
    obtain ⟨⟨⟨a1, a2⟩, a3⟩, a4⟩ := h3
    exact ⟨of_decide_eq_true a1, of_decide_eq_true a2, of_decide_eq_true a3, fun o ho => of_decide_eq_true (a4 o ho)⟩
  | getfield j =>
    dsimp only at h3
    split at h3
    · rename_i C T N hc
      simp only [Bool.and_eq_true] at h3
      exact ⟨C, T, N, hc, blt_lt h3.1, mAtW_in h3.2⟩
    · cases h3
  | putfield j =>
    dsimp only at h3
    split at h3
    · rename_i C T N hc
      simp only [Bool.and_eq_true, Bool.or_eq_true, decide_eq_true_eq] at h3
      refine ⟨C, T, N, hc, blt_lt h3.1.1, mAtW_in h3.1.2, ?_⟩
      rcases h3.2 with h4 | ⟨⟨h4, h5⟩, h6⟩
      · exact Or.inl h4
      · exact Or.inr ⟨h4, h5, h6⟩
    · cases h3
  | newarray t => exact mAtW_in h3
  | new j =>
    cases y with
    | zero =>
      have h3 : mChkN k j x = true := h3
      unfold mChkN at h3
      split at h3
      · rename_i C T N hc
        simp only [Bool.and_eq_true, List.all_eq_true] at h3
        obtain ⟨⟨⟨⟨a1, a2⟩, a3⟩, a4⟩, a5⟩ := h3
        exact ⟨C, T, N, hc, Nat.eq_of_beq_eq_true a1, mAtW_in a2, mAtW_in a3, mAtW_in a4, fun q hq => of_decide_eq_true (a5 q (List.mem_range.mpr hq))⟩
      · cases h3
    | succ y =>
      have h3 : mChkT k pc j x = true := h3
      unfold mChkT at h3
      simp only [Bool.and_eq_true] at h3
      obtain ⟨⟨⟨⟨⟨a1, a2⟩, a3⟩, a4⟩, a5⟩, a6⟩ := h3
      unfold mChkU at a6
      split at a6
      · rename_i is ic d4 d6
        simp only [Bool.and_eq_true] at a6
        obtain ⟨c1, c2, c3, c4, c5⟩ := mRxd (blt_lt a5)
        exact ⟨is, ic, _, (mRx x).1, (mRx x).2, of_decide_eq_true a1, d4, d6, of_decide_eq_true a2, mAtV_in a6.1, mAtW_in a3, mAtW_in a4, c1, c2, c3, c4, c5, mIc_spec a6.2⟩
      · cases a6
  | invokestatic j =>
    simp only [Bool.and_eq_true, Bool.or_eq_true] at h3
    obtain ⟨⟨⟨⟨a1, a2⟩, a3⟩, a4⟩, a5⟩ := h3
    refine ⟨mMeths x (blt_lt a1), mAtW_in a2, of_decide_eq_true a3, Nat.le_of_ble_eq_true a4, ?_⟩
    rcases a5 with a5 | a5
    · exact Or.inl (mAtW_in a5)
    · exact Or.inr ⟨_, mAtV_in a5⟩
  | invokevirtual j =>
    simp only [Bool.and_eq_true] at h3
    obtain ⟨⟨⟨⟨⟨⟨a1, a2⟩, a3⟩, a4⟩, a5⟩, a6⟩, a7⟩ := h3
    refine ⟨mMeths x (blt_lt a1), mAtW_in a2, of_decide_eq_true a3, Nat.le_of_ble_eq_true a4, mAtW_in a5, ?_, mAtW_in a6⟩
    split at a7
    · rename_i C T N hc
      have e := of_decide_eq_true a7
      subst e
      exact ⟨T, N, hc⟩
    · cases a7
  | invokespecial j =>
    dsimp only at h3
    cases hb : Nat.beq x 999 <;> rw [hb] at h3 <;> simp only [cond_true, cond_false, Bool.and_eq_true] at h3
    · obtain ⟨⟨⟨⟨⟨⟨⟨a1, a2⟩, a3⟩, a4⟩, a5⟩, a6⟩, a7⟩, a8⟩ := h3
      exact Or.inr ⟨(fun e => by rw [e] at hb; cases hb), mMeths x (blt_lt a1), of_decide_eq_true a2, of_decide_eq_true a3, mAtW_in a4, of_decide_eq_true a5, of_decide_eq_true a6, Nat.le_of_ble_eq_true a7, mAtW_in a8⟩
    · exact Or.inl ⟨Nat.eq_of_beq_eq_true hb, mAtW_in h3.1.1, mAtW_in h3.1.2, mAtW_in h3.2⟩
  | _ => trivial
theorem mLook1_mem {l : List (Nat × mI)} {pc : Nat} {i : mI} (h : mLook1 l pc = some i) : (pc, i) ∈ l := by
  induction l with
  | nil => cases h
  | cons a t ih =>
    obtain ⟨q, j⟩ := a
    simp only [mLook1] at h
    cases hb : Nat.beq q pc <;> rw [hb] at h <;> simp only [cond_true, cond_false] at h
    · exact List.mem_cons_of_mem _ (ih h)
    · cases h
      cases Nat.eq_of_beq_eq_true hb
      exact List.mem_cons_self
theorem mLook_mem {l : List (Nat × List (Nat × mI))} {pc : Nat} {i : mI} (h : mLook l pc = some i) : ∃ c ∈ l, (pc, i) ∈ c.2 := by
  induction l with
  | nil => cases h
  | cons a t ih =>
    obtain ⟨b, c⟩ := a
    simp only [mLook] at h
    cases hb : Nat.blt pc b <;> rw [hb] at h <;> simp only [cond_true, cond_false] at h
    · obtain ⟨c', h1, h2⟩ := ih h
      exact ⟨c', List.mem_cons_of_mem _ h1, h2⟩
    · exact ⟨(b, c), List.mem_cons_self, mLook1_mem h⟩
def mChkL (k : Nat) (l : List (Nat × List (Nat × mI))) : Bool := l.all fun c => c.2.all fun q => mChk k q.1 q.2.1 q.2.2.1 q.2.2.2.1 q.2.2.2.2
theorem mChkL_app {k : Nat} {a b : List (Nat × List (Nat × mI))} (h1 : mChkL k a = true) (h2 : mChkL k b = true) : mChkL k (a ++ b) = true := by
  simp only [mChkL, List.all_append, Bool.and_eq_true]
  exact ⟨h1, h2⟩
theorem mChkL_spec {k : Nat} {l : List (Nat × List (Nat × mI))} (h : mChkL k l = true) {pc nx x y : Nat} {i : Instr} (hl : mLook l pc = some (i, nx, x, y)) : mFact k pc i nx x y := by
  obtain ⟨c, hc, hq⟩ := mLook_mem hl
  unfold mChkL at h
  rw [List.all_eq_true] at h
  have h5 := h c hc
  rw [List.all_eq_true] at h5
  have h6 := h5 _ hq
  dsimp only at h6
  exact mChk_spec h6
end
section
set_option maxRecDepth 100000 in
theorem mck_0 : mChkL 0 mc_0 = true := by decide +kernel
set_option maxRecDepth 100000 in
theorem mck_1 : mChkL 1 mc_1 = true := by decide +kernel
set_option maxRecDepth 100000 in
theorem mck_2 : mChkL 2 mc_2 = true := by decide +kernel
set_option maxRecDepth 100000 in
theorem mck_3 : mChkL 3 mc_3 = true := by decide +kernel
set_option maxRecDepth 100000 in
theorem mck_4 : mChkL 4 mc_4 = true := by decide +kernel
set_option maxRecDepth 100000 in
theorem mck_5 : mChkL 5 mc_5 = true := by decide +kernel
set_option maxRecDepth 100000 in
theorem mck_6 : mChkL 6 mc_6 = true := by decide +kernel
set_option maxRecDepth 100000 in
theorem mck_7 : mChkL 7 mc_7 = true := by decide +kernel
set_option maxRecDepth 100000 in
theorem mck_8 : mChkL 8 mc_8 = true := by decide +kernel
set_option maxRecDepth 100000 in
theorem mck_9 : mChkL 9 mc_9 = true := by decide +kernel
set_option maxRecDepth 100000 in
theorem mck_10 : mChkL 10 mc_10 = true := by decide +kernel
set_option maxRecDepth 100000 in
theorem mck_11 : mChkL 11 mc_11 = true := by decide +kernel
set_option maxRecDepth 100000 in
theorem mck_12 : mChkL 12 mc_12 = true := by decide +kernel
set_option maxRecDepth 100000 in
theorem mck_13 : mChkL 13 mc_13 = true := by decide +kernel
set_option maxRecDepth 100000 in
theorem mck_14 : mChkL 14 mc_14 = true := by decide +kernel
end
section
set_option maxRecDepth 100000 in
theorem mck_15 : mChkL 15 mc_15 = true := by decide +kernel
set_option maxRecDepth 100000 in
theorem mck_16 : mChkL 16 mc_16 = true := by decide +kernel
set_option maxRecDepth 100000 in
theorem mck_17 : mChkL 17 mc_17 = true := by decide +kernel
set_option maxRecDepth 100000 in
theorem mck_18 : mChkL 18 mc_18 = true := by decide +kernel
set_option maxRecDepth 100000 in
theorem mck_19 : mChkL 19 mc_19 = true := by decide +kernel
set_option maxRecDepth 100000 in
theorem mck_20 : mChkL 20 mc_20 = true := by decide +kernel
set_option maxRecDepth 100000 in
theorem mck_21 : mChkL 21 mc_21 = true := by decide +kernel
set_option maxRecDepth 100000 in
theorem mck_22 : mChkL 22 mc_22 = true := by decide +kernel
set_option maxRecDepth 100000 in
theorem mck_23 : mChkL 23 mc_23 = true := by decide +kernel
end
section
set_option maxRecDepth 100000 in
theorem mck_24 : mChkL 24 mc_24 = true := by decide +kernel
set_option maxRecDepth 100000 in
theorem mck_25 : mChkL 25 mc_25 = true := by decide +kernel
set_option maxRecDepth 100000 in
theorem mck_26 : mChkL 26 mc_26 = true := by decide +kernel
set_option maxRecDepth 100000 in
theorem mck_27 : mChkL 27 mc_27 = true := by decide +kernel
set_option maxRecDepth 100000 in
theorem mck_28 : mChkL 28 mc_28 = true := by decide +kernel
set_option maxRecDepth 100000 in
theorem mck_29 : mChkL 29 mc_29 = true := by decide +kernel
set_option maxRecDepth 100000 in
theorem mck_30 : mChkL 30 mc_30 = true := by decide +kernel
set_option maxRecDepth 100000 in
theorem mck_31 : mChkL 31 mc_31 = true := by decide +kernel
set_option maxRecDepth 100000 in
theorem mck_32 : mChkL 32 mc_32 = true := by decide +kernel
end
section
set_option maxRecDepth 100000 in
theorem mck_33 : mChkL 33 mc_33 = true := by decide +kernel
set_option maxRecDepth 100000 in
theorem mck_34 : mChkL 34 mc_34 = true := by decide +kernel
set_option maxRecDepth 100000 in
theorem mck_35 : mChkL 35 mc_35 = true := by decide +kernel
set_option maxRecDepth 100000 in
theorem mck_36 : mChkL 36 mc_36 = true := by decide +kernel
set_option maxRecDepth 100000 in
theorem mck_37 : mChkL 37 mc_37 = true := by decide +kernel
set_option maxRecDepth 100000 in
theorem mck_38 : mChkL 38 mc_38 = true := by decide +kernel
set_option maxRecDepth 100000 in
theorem mck_39 : mChkL 39 mc_39 = true := by decide +kernel
set_option maxRecDepth 100000 in
theorem mck_40 : mChkL 40 mc_40 = true := by decide +kernel
set_option maxRecDepth 100000 in
theorem mck_41 : mChkL 41 mc_41 = true := by decide +kernel
set_option maxRecDepth 100000 in
theorem mck_42 : mChkL 42 mc_42 = true := by decide +kernel
set_option maxRecDepth 100000 in
theorem mck_43 : mChkL 43 mc_43 = true := by decide +kernel
set_option maxRecDepth 100000 in
theorem mck_44 : mChkL 44 mc_44 = true := by decide +kernel
set_option maxRecDepth 100000 in
theorem mck_45 : mChkL 45 mc_45 = true := by decide +kernel
end
section
set_option maxRecDepth 100000 in
theorem mck_46 : mChkL 46 mc_46 = true := by decide +kernel
set_option maxRecDepth 100000 in
theorem mck_47 : mChkL 47 mc_47 = true := by decide +kernel
set_option maxRecDepth 100000 in
theorem mck_48 : mChkL 48 mc_48 = true := by decide +kernel
set_option maxRecDepth 100000 in
theorem mck_49_0 : mChkL 49 mc_49_0 = true := by decide +kernel
set_option maxRecDepth 100000 in
theorem mck_49_1 : mChkL 49 mc_49_1 = true := by decide +kernel
set_option maxRecDepth 100000 in
theorem mck_49_2 : mChkL 49 mc_49_2 = true := by decide +kernel
set_option maxRecDepth 100000 in
theorem mck_49_3 : mChkL 49 mc_49_3 = true := by decide +kernel
end
section
theorem mck_49 : mChkL 49 mc_49 = true := (mChkL_app mck_49_0 (mChkL_app mck_49_1 (mChkL_app mck_49_2 mck_49_3)))
set_option maxRecDepth 100000 in
theorem mck_50 : mChkL 50 mc_50 = true := by decide +kernel
set_option maxRecDepth 100000 in
theorem mck_51_0 : mChkL 51 mc_51_0 = true := by decide +kernel
set_option maxRecDepth 100000 in
theorem mck_51_1 : mChkL 51 mc_51_1 = true := by decide +kernel
set_option maxRecDepth 100000 in
theorem mck_51_2 : mChkL 51 mc_51_2 = true := by decide +kernel
theorem mck_51 : mChkL 51 mc_51 = true := (mChkL_app mck_51_0 (mChkL_app mck_51_1 mck_51_2))
set_option maxRecDepth 100000 in
theorem mck_52 : mChkL 52 mc_52 = true := by decide +kernel
set_option maxRecDepth 100000 in
theorem mck_53 : mChkL 53 mc_53 = true := by decide +kernel
set_option maxRecDepth 100000 in
theorem mck_54 : mChkL 54 mc_54 = true := by decide +kernel
set_option maxRecDepth 100000 in
theorem mck_55 : mChkL 55 mc_55 = true := by decide +kernel
end
section
set_option maxRecDepth 100000 in
theorem mck_56 : mChkL 56 mc_56 = true := by decide +kernel
set_option maxRecDepth 100000 in
theorem mck_57 : mChkL 57 mc_57 = true := by decide +kernel
set_option maxRecDepth 100000 in
theorem mck_58 : mChkL 58 mc_58 = true := by decide +kernel
set_option maxRecDepth 100000 in
theorem mck_59 : mChkL 59 mc_59 = true := by decide +kernel
set_option maxRecDepth 100000 in
theorem mck_60 : mChkL 60 mc_60 = true := by decide +kernel
set_option maxRecDepth 100000 in
theorem mck_61 : mChkL 61 mc_61 = true := by decide +kernel
set_option maxRecDepth 100000 in
theorem mck_62 : mChkL 62 mc_62 = true := by decide +kernel
set_option maxRecDepth 100000 in
theorem mck_63 : mChkL 63 mc_63 = true := by decide +kernel
set_option maxRecDepth 100000 in
theorem mck_64 : mChkL 64 mc_64 = true := by decide +kernel
set_option maxRecDepth 100000 in
theorem mck_65 : mChkL 65 mc_65 = true := by decide +kernel
end
section
set_option maxRecDepth 100000 in
theorem mck_66 : mChkL 66 mc_66 = true := by decide +kernel
set_option maxRecDepth 100000 in
theorem mck_67 : mChkL 67 mc_67 = true := by decide +kernel
set_option maxRecDepth 100000 in
theorem mck_68 : mChkL 68 mc_68 = true := by decide +kernel
set_option maxRecDepth 100000 in
theorem mck_69 : mChkL 69 mc_69 = true := by decide +kernel
set_option maxRecDepth 100000 in
theorem mck_70_0 : mChkL 70 mc_70_0 = true := by decide +kernel
set_option maxRecDepth 100000 in
theorem mck_70_1 : mChkL 70 mc_70_1 = true := by decide +kernel
set_option maxRecDepth 100000 in
theorem mck_70_2 : mChkL 70 mc_70_2 = true := by decide +kernel
end
section
theorem mck_70 : mChkL 70 mc_70 = true := (mChkL_app mck_70_0 (mChkL_app mck_70_1 mck_70_2))
set_option maxRecDepth 100000 in
theorem mck_71 : mChkL 71 mc_71 = true := by decide +kernel
set_option maxRecDepth 100000 in
theorem mck_72 : mChkL 72 mc_72 = true := by decide +kernel
set_option maxRecDepth 100000 in
theorem mck_73 : mChkL 73 mc_73 = true := by decide +kernel
set_option maxRecDepth 100000 in
theorem mck_74 : mChkL 74 mc_74 = true := by decide +kernel
set_option maxRecDepth 100000 in
theorem mck_75 : mChkL 75 mc_75 = true := by decide +kernel
set_option maxRecDepth 100000 in
theorem mck_76_0 : mChkL 76 mc_76_0 = true := by decide +kernel
set_option maxRecDepth 100000 in
theorem mck_76_1 : mChkL 76 mc_76_1 = true := by decide +kernel
end
section
set_option maxRecDepth 100000 in
theorem mck_76_2 : mChkL 76 mc_76_2 = true := by decide +kernel
theorem mck_76 : mChkL 76 mc_76 = true := (mChkL_app mck_76_0 (mChkL_app mck_76_1 mck_76_2))
set_option maxRecDepth 100000 in
theorem mck_77 : mChkL 77 mc_77 = true := by decide +kernel
set_option maxRecDepth 100000 in
theorem mck_78 : mChkL 78 mc_78 = true := by decide +kernel
set_option maxRecDepth 100000 in
theorem mck_79 : mChkL 79 mc_79 = true := by decide +kernel
set_option maxRecDepth 100000 in
theorem mck_80 : mChkL 80 mc_80 = true := by decide +kernel
set_option maxRecDepth 100000 in
theorem mck_81 : mChkL 81 mc_81 = true := by decide +kernel
set_option maxRecDepth 100000 in
theorem mck_82 : mChkL 82 mc_82 = true := by decide +kernel
end
section
set_option maxRecDepth 100000 in
theorem mck_83 : mChkL 83 mc_83 = true := by decide +kernel
set_option maxRecDepth 100000 in
theorem mck_84 : mChkL 84 mc_84 = true := by decide +kernel
set_option maxRecDepth 100000 in
theorem mck_85 : mChkL 85 mc_85 = true := by decide +kernel
set_option maxRecDepth 100000 in
theorem mck_86 : mChkL 86 mc_86 = true := by decide +kernel
set_option maxRecDepth 100000 in
theorem mck_87 : mChkL 87 mc_87 = true := by decide +kernel
set_option maxRecDepth 100000 in
theorem mck_88 : mChkL 88 mc_88 = true := by decide +kernel
set_option maxRecDepth 100000 in
theorem mck_89 : mChkL 89 mc_89 = true := by decide +kernel
end
section
set_option maxRecDepth 100000 in
theorem mck_90 : mChkL 90 mc_90 = true := by decide +kernel
set_option maxRecDepth 100000 in
theorem mck_91 : mChkL 91 mc_91 = true := by decide +kernel
set_option maxRecDepth 100000 in
theorem mck_92 : mChkL 92 mc_92 = true := by decide +kernel
set_option maxRecDepth 100000 in
theorem mck_93 : mChkL 93 mc_93 = true := by decide +kernel
set_option maxRecDepth 100000 in
theorem mck_94 : mChkL 94 mc_94 = true := by decide +kernel
set_option maxRecDepth 100000 in
theorem mck_95 : mChkL 95 mc_95 = true := by decide +kernel
set_option maxRecDepth 100000 in
theorem mck_96 : mChkL 96 mc_96 = true := by decide +kernel
set_option maxRecDepth 100000 in
theorem mck_97 : mChkL 97 mc_97 = true := by decide +kernel
set_option maxRecDepth 100000 in
theorem mck_98 : mChkL 98 mc_98 = true := by decide +kernel
set_option maxRecDepth 100000 in
theorem mck_99_0 : mChkL 99 mc_99_0 = true := by decide +kernel
end
section
set_option maxRecDepth 100000 in
theorem mck_99_1 : mChkL 99 mc_99_1 = true := by decide +kernel
set_option maxRecDepth 100000 in
theorem mck_99_2 : mChkL 99 mc_99_2 = true := by decide +kernel
set_option maxRecDepth 100000 in
theorem mck_99_3 : mChkL 99 mc_99_3 = true := by decide +kernel
set_option maxRecDepth 100000 in
theorem mck_99_4 : mChkL 99 mc_99_4 = true := by decide +kernel
set_option maxRecDepth 100000 in
theorem mck_99_5 : mChkL 99 mc_99_5 = true := by decide +kernel
set_option maxRecDepth 100000 in
theorem mck_99_6 : mChkL 99 mc_99_6 = true := by decide +kernel
end
section
set_option maxRecDepth 100000 in
theorem mck_99_7 : mChkL 99 mc_99_7 = true := by decide +kernel
set_option maxRecDepth 100000 in
theorem mck_99_8 : mChkL 99 mc_99_8 = true := by decide +kernel
set_option maxRecDepth 100000 in
theorem mck_99_9 : mChkL 99 mc_99_9 = true := by decide +kernel
set_option maxRecDepth 100000 in
theorem mck_99_10 : mChkL 99 mc_99_10 = true := by decide +kernel
theorem mck_99 : mChkL 99 mc_99 = true := (mChkL_app mck_99_0 (mChkL_app mck_99_1 (mChkL_app mck_99_2 (mChkL_app mck_99_3 (mChkL_app mck_99_4 (mChkL_app mck_99_5 (mChkL_app mck_99_6 (mChkL_app mck_99_7 (mChkL_app mck_99_8 (mChkL_app mck_99_9 mck_99_10))))))))))
end
section
def mChkA (k : Nat) : Bool :=
  match mRec? k with
  | some r => mChkL k r.1
  | none => true
theorem mckA : ∀ k, k < 100 → mChkA k = true
  | 0, _ => mck_0
  | 1, _ => mck_1
  | 2, _ => mck_2
  | 3, _ => mck_3
  | 4, _ => mck_4
  | 5, _ => mck_5
  | 6, _ => mck_6
  | 7, _ => mck_7
  | 8, _ => mck_8
  | 9, _ => mck_9
  | 10, _ => mck_10
  | 11, _ => mck_11
  | 12, _ => mck_12
  | 13, _ => mck_13
  | 14, _ => mck_14
  | 15, _ => mck_15
  | 16, _ => mck_16
  | 17, _ => mck_17
  | 18, _ => mck_18
  | 19, _ => mck_19
  | 20, _ => mck_20
  | 21, _ => mck_21
  | 22, _ => mck_22
  | 23, _ => mck_23
  | 24, _ => mck_24
  | 25, _ => mck_25
  | 26, _ => mck_26
  | 27, _ => mck_27
  | 28, _ => mck_28
  | 29, _ => mck_29
  | 30, _ => mck_30
  | 31, _ => mck_31
  | 32, _ => mck_32
  | 33, _ => mck_33
  | 34, _ => mck_34
  | 35, _ => mck_35
  | 36, _ => mck_36
  | 37, _ => mck_37
  | 38, _ => mck_38
  | 39, _ => mck_39
  | 40, _ => mck_40
  | 41, _ => mck_41
  | 42, _ => mck_42
  | 43, _ => mck_43
  | 44, _ => mck_44
  | 45, _ => mck_45
  | 46, _ => mck_46
  | 47, _ => mck_47
  | 48, _ => mck_48
  | 49, _ => mck_49
  | 50, _ => mck_50
  | 51, _ => mck_51
  | 52, _ => mck_52
  | 53, _ => mck_53
  | 54, _ => mck_54
  | 55, _ => mck_55
  | 56, _ => mck_56
  | 57, _ => mck_57
  | 58, _ => mck_58
  | 59, _ => mck_59
  | 60, _ => mck_60
  | 61, _ => mck_61
  | 62, _ => mck_62
  | 63, _ => mck_63
  | 64, _ => mck_64
  | 65, _ => mck_65
  | 66, _ => mck_66
  | 67, _ => mck_67
  | 68, _ => mck_68
  | 69, _ => mck_69
  | 70, _ => mck_70
  | 71, _ => mck_71
  | 72, _ => mck_72
  | 73, _ => mck_73
  | 74, _ => mck_74
  | 75, _ => mck_75
  | 76, _ => mck_76
  | 77, _ => mck_77
  | 78, _ => mck_78
  | 79, _ => mck_79
  | 80, _ => mck_80
  | 81, _ => mck_81
  | 82, _ => mck_82
  | 83, _ => mck_83
  | 84, _ => mck_84
  | 85, _ => mck_85
  | 86, _ => mck_86
  | 87, _ => mck_87
  | 88, _ => mck_88
  | 89, _ => mck_89
  | 90, _ => mck_90
  | 91, _ => mck_91
  | 92, _ => mck_92
  | 93, _ => mck_93
  | 94, _ => mck_94
  | 95, _ => mck_95
  | 96, _ => mck_96
  | 97, _ => mck_97
  | 98, _ => mck_98
  | 99, _ => mck_99
  | k + 100, h => absurd h (by omega)
theorem mRec_none {k : Nat} (h : 100 ≤ k) : mRec? k = none := by
  have h1 : mRecs.length ≤ k / 10 := by
    have : mRecs.length = 10 := by decide +kernel
    omega
  unfold mRec?
  rw [List.getElem?_eq_none h1]
theorem mFacts {k pc nx x y : Nat} {i : Instr} (h : mCode k pc = some (i, nx, x, y)) : mFact k pc i nx x y := by
  unfold mCode at h
  cases hr : mRec? k with
  | none => rw [hr] at h; cases h
  | some r =>
    rw [hr] at h
    by_cases hk : k < 100
    · have := mckA k hk
      unfold mChkA at this
      rw [hr] at this
      exact mChkL_spec this h
    · rw [mRec_none (Nat.not_lt.mp hk)] at hr
      cases hr
end
section
/-! handlers -/
def mTk (own : String) (pc j qh : Nat) : List (Nat × Nat × Nat × Nat) → Prop
  | [] => False
  | (a, b, hp, ct) :: t => a ≤ pc ∧ pc < b ∧ ct ≠ 0 ∧ ∃ name : String, Jvm.Cond.classLink own ct name ∈ mWs ∧ ((name = mXn j ∧ Jvm.Cond.castable (mXn j) (mXn j) ∈ mVs ∧ hp = qh) ∨ (Jvm.Cond.not (.castable (mXn j) name) ∈ mVs ∧ mTk own pc j qh t))
def mCat2 (k pc j q i : Nat) : Prop := ∃ qh : Nat, ((decode (mBy k) qh = .ok (.astore i, 2) ∧ q = qh + 2) ∨ ∃ f : Fin 4, decode (mBy k) qh = .ok (.astore_n f, 1) ∧ f.val = i ∧ q = qh + 1) ∧ i < mNL k ∧ mTk (mY k).cls pc j qh (mHH k)
theorem mNc_in {w : Jvm.Cond} (h : w ∈ mNcs) : w ∈ mVs := List.mem_append_right _ h
set_option maxRecDepth 100000 in
theorem mct_88_0 {pc q i : Nat} (h : (bif Nat.blt pc 10 then some (15, 4) else none) = some (q, i)) : mCat2 88 pc 0 q i := by
  cases hb : Nat.blt pc 10 <;> rw [hb] at h <;> simp only [cond_true, cond_false] at h <;> cases h
  exact ⟨13, Or.inl ⟨by decide +kernel, rfl⟩, by decide, ⟨Nat.zero_le _, blt_lt hb, by decide, "java/lang/IllegalStateException", mWs_in (n := 257) rfl rfl, Or.inl ⟨rfl, mVs_in (n := 173) rfl rfl, rfl⟩⟩⟩
set_option maxRecDepth 100000 in
theorem mct_88_1 {pc q i : Nat} (h : (bif Nat.blt pc 10 then some (19, 4) else none) = some (q, i)) : mCat2 88 pc 1 q i := by
  cases hb : Nat.blt pc 10 <;> rw [hb] at h <;> simp only [cond_true, cond_false] at h <;> cases h
  exact ⟨17, Or.inl ⟨by decide +kernel, rfl⟩, by decide, ⟨Nat.zero_le _, blt_lt hb, by decide, "java/lang/IllegalStateException", mWs_in (n := 257) rfl rfl, Or.inr ⟨mNc_in (by decide +kernel), ⟨Nat.zero_le _, blt_lt hb, by decide, "java/lang/IllegalArgumentException", mWs_in (n := 258) rfl rfl, Or.inl ⟨rfl, mVs_in (n := 279) rfl rfl, rfl⟩⟩⟩⟩⟩
set_option maxRecDepth 100000 in
theorem mct_88_2 {pc q i : Nat} (h : (bif Nat.blt pc 10 then some (23, 4) else none) = some (q, i)) : mCat2 88 pc 2 q i := by
  cases hb : Nat.blt pc 10 <;> rw [hb] at h <;> simp only [cond_true, cond_false] at h <;> cases h
  exact ⟨21, Or.inl ⟨by decide +kernel, rfl⟩, by decide, ⟨Nat.zero_le _, blt_lt hb, by decide, "java/lang/IllegalStateException", mWs_in (n := 257) rfl rfl, Or.inr ⟨mNc_in (by decide +kernel), ⟨Nat.zero_le _, blt_lt hb, by decide, "java/lang/IllegalArgumentException", mWs_in (n := 258) rfl rfl, Or.inr ⟨mNc_in (by decide +kernel), ⟨Nat.zero_le _, blt_lt hb, by decide, "java/util/NoSuchElementException", mWs_in (n := 259) rfl rfl, Or.inl ⟨rfl, mVs_in (n := 304) rfl rfl, rfl⟩⟩⟩⟩⟩⟩⟩
set_option maxRecDepth 100000 in
theorem mct_88_3 {pc q i : Nat} (h : (bif Nat.blt pc 10 then some (27, 4) else none) = some (q, i)) : mCat2 88 pc 3 q i := by
  cases hb : Nat.blt pc 10 <;> rw [hb] at h <;> simp only [cond_true, cond_false] at h <;> cases h
  exact ⟨25, Or.inl ⟨by decide +kernel, rfl⟩, by decide, ⟨Nat.zero_le _, blt_lt hb, by decide, "java/lang/IllegalStateException", mWs_in (n := 257) rfl rfl, Or.inr ⟨mNc_in (by decide +kernel), ⟨Nat.zero_le _, blt_lt hb, by decide, "java/lang/IllegalArgumentException", mWs_in (n := 258) rfl rfl, Or.inr ⟨mNc_in (by decide +kernel), ⟨Nat.zero_le _, blt_lt hb, by decide, "java/util/NoSuchElementException", mWs_in (n := 259) rfl rfl, Or.inr ⟨mNc_in (by decide +kernel), ⟨Nat.zero_le _, blt_lt hb, by decide, "java/lang/UnsupportedOperationException", mWs_in (n := 260) rfl rfl, Or.inl ⟨rfl, mVs_in (n := 321) rfl rfl, rfl⟩⟩⟩⟩⟩⟩⟩⟩⟩
set_option maxRecDepth 100000 in
theorem mct_88_4 {pc q i : Nat} (h : (bif Nat.blt pc 10 then some (31, 4) else none) = some (q, i)) : mCat2 88 pc 4 q i := by
  cases hb : Nat.blt pc 10 <;> rw [hb] at h <;> simp only [cond_true, cond_false] at h <;> cases h
  exact ⟨29, Or.inl ⟨by decide +kernel, rfl⟩, by decide, ⟨Nat.zero_le _, blt_lt hb, by decide, "java/lang/IllegalStateException", mWs_in (n := 257) rfl rfl, Or.inr ⟨mNc_in (by decide +kernel), ⟨Nat.zero_le _, blt_lt hb, by decide, "java/lang/IllegalArgumentException", mWs_in (n := 258) rfl rfl, Or.inr ⟨mNc_in (by decide +kernel), ⟨Nat.zero_le _, blt_lt hb, by decide, "java/util/NoSuchElementException", mWs_in (n := 259) rfl rfl, Or.inr ⟨mNc_in (by decide +kernel), ⟨Nat.zero_le _, blt_lt hb, by decide, "java/lang/UnsupportedOperationException", mWs_in (n := 260) rfl rfl, Or.inr ⟨mNc_in (by decide +kernel), ⟨Nat.zero_le _, blt_lt hb, by decide, "java/lang/ArithmeticException", mWs_in (n := 261) rfl rfl, Or.inl ⟨rfl, mVs_in (n := 345) rfl rfl, rfl⟩⟩⟩⟩⟩⟩⟩⟩⟩⟩⟩
set_option maxRecDepth 100000 in
theorem mct_89_0 {pc q i : Nat} (h : (bif Nat.blt pc 9 then some (13, 3) else none) = some (q, i)) : mCat2 89 pc 0 q i := by
  cases hb : Nat.blt pc 9 <;> rw [hb] at h <;> simp only [cond_true, cond_false] at h <;> cases h
  exact ⟨12, Or.inr ⟨3, by decide +kernel, rfl, rfl⟩, by decide, ⟨Nat.zero_le _, blt_lt hb, by decide, "java/lang/IllegalStateException", mWs_in (n := 257) rfl rfl, Or.inl ⟨rfl, mVs_in (n := 173) rfl rfl, rfl⟩⟩⟩
set_option maxRecDepth 100000 in
theorem mct_89_1 {pc q i : Nat} (h : (bif Nat.blt pc 9 then some (16, 3) else none) = some (q, i)) : mCat2 89 pc 1 q i := by
  cases hb : Nat.blt pc 9 <;> rw [hb] at h <;> simp only [cond_true, cond_false] at h <;> cases h
  exact ⟨15, Or.inr ⟨3, by decide +kernel, rfl, rfl⟩, by decide, ⟨Nat.zero_le _, blt_lt hb, by decide, "java/lang/IllegalStateException", mWs_in (n := 257) rfl rfl, Or.inr ⟨mNc_in (by decide +kernel), ⟨Nat.zero_le _, blt_lt hb, by decide, "java/lang/IllegalArgumentException", mWs_in (n := 258) rfl rfl, Or.inl ⟨rfl, mVs_in (n := 279) rfl rfl, rfl⟩⟩⟩⟩⟩
set_option maxRecDepth 100000 in
theorem mct_89_2 {pc q i : Nat} (h : (bif Nat.blt pc 9 then some (19, 3) else none) = some (q, i)) : mCat2 89 pc 2 q i := by
  cases hb : Nat.blt pc 9 <;> rw [hb] at h <;> simp only [cond_true, cond_false] at h <;> cases h
  exact ⟨18, Or.inr ⟨3, by decide +kernel, rfl, rfl⟩, by decide, ⟨Nat.zero_le _, blt_lt hb, by decide, "java/lang/IllegalStateException", mWs_in (n := 257) rfl rfl, Or.inr ⟨mNc_in (by decide +kernel), ⟨Nat.zero_le _, blt_lt hb, by decide, "java/lang/IllegalArgumentException", mWs_in (n := 258) rfl rfl, Or.inr ⟨mNc_in (by decide +kernel), ⟨Nat.zero_le _, blt_lt hb, by decide, "java/util/NoSuchElementException", mWs_in (n := 259) rfl rfl, Or.inl ⟨rfl, mVs_in (n := 304) rfl rfl, rfl⟩⟩⟩⟩⟩⟩⟩
set_option maxRecDepth 100000 in
theorem mct_89_3 {pc q i : Nat} (h : (bif Nat.blt pc 9 then some (22, 3) else none) = some (q, i)) : mCat2 89 pc 3 q i := by
  cases hb : Nat.blt pc 9 <;> rw [hb] at h <;> simp only [cond_true, cond_false] at h <;> cases h
  exact ⟨21, Or.inr ⟨3, by decide +kernel, rfl, rfl⟩, by decide, ⟨Nat.zero_le _, blt_lt hb, by decide, "java/lang/IllegalStateException", mWs_in (n := 257) rfl rfl, Or.inr ⟨mNc_in (by decide +kernel), ⟨Nat.zero_le _, blt_lt hb, by decide, "java/lang/IllegalArgumentException", mWs_in (n := 258) rfl rfl, Or.inr ⟨mNc_in (by decide +kernel), ⟨Nat.zero_le _, blt_lt hb, by decide, "java/util/NoSuchElementException", mWs_in (n := 259) rfl rfl, Or.inr ⟨mNc_in (by decide +kernel), ⟨Nat.zero_le _, blt_lt hb, by decide, "java/lang/UnsupportedOperationException", mWs_in (n := 260) rfl rfl, Or.inl ⟨rfl, mVs_in (n := 321) rfl rfl, rfl⟩⟩⟩⟩⟩⟩⟩⟩⟩
set_option maxRecDepth 100000 in
theorem mct_90_0 {pc q i : Nat} (h : (bif Nat.blt pc 10 then some (15, 4) else none) = some (q, i)) : mCat2 90 pc 0 q i := by
  cases hb : Nat.blt pc 10 <;> rw [hb] at h <;> simp only [cond_true, cond_false] at h <;> cases h
  exact ⟨13, Or.inl ⟨by decide +kernel, rfl⟩, by decide, ⟨Nat.zero_le _, blt_lt hb, by decide, "java/lang/IllegalStateException", mWs_in (n := 257) rfl rfl, Or.inl ⟨rfl, mVs_in (n := 173) rfl rfl, rfl⟩⟩⟩
set_option maxRecDepth 100000 in
theorem mct_90_1 {pc q i : Nat} (h : (bif Nat.blt pc 10 then some (19, 4) else none) = some (q, i)) : mCat2 90 pc 1 q i := by
  cases hb : Nat.blt pc 10 <;> rw [hb] at h <;> simp only [cond_true, cond_false] at h <;> cases h
  exact ⟨17, Or.inl ⟨by decide +kernel, rfl⟩, by decide, ⟨Nat.zero_le _, blt_lt hb, by decide, "java/lang/IllegalStateException", mWs_in (n := 257) rfl rfl, Or.inr ⟨mNc_in (by decide +kernel), ⟨Nat.zero_le _, blt_lt hb, by decide, "java/lang/IllegalArgumentException", mWs_in (n := 258) rfl rfl, Or.inl ⟨rfl, mVs_in (n := 279) rfl rfl, rfl⟩⟩⟩⟩⟩
set_option maxRecDepth 100000 in
theorem mct_90_2 {pc q i : Nat} (h : (bif Nat.blt pc 10 then some (23, 4) else none) = some (q, i)) : mCat2 90 pc 2 q i := by
  cases hb : Nat.blt pc 10 <;> rw [hb] at h <;> simp only [cond_true, cond_false] at h <;> cases h
  exact ⟨21, Or.inl ⟨by decide +kernel, rfl⟩, by decide, ⟨Nat.zero_le _, blt_lt hb, by decide, "java/lang/IllegalStateException", mWs_in (n := 257) rfl rfl, Or.inr ⟨mNc_in (by decide +kernel), ⟨Nat.zero_le _, blt_lt hb, by decide, "java/lang/IllegalArgumentException", mWs_in (n := 258) rfl rfl, Or.inr ⟨mNc_in (by decide +kernel), ⟨Nat.zero_le _, blt_lt hb, by decide, "java/util/NoSuchElementException", mWs_in (n := 259) rfl rfl, Or.inl ⟨rfl, mVs_in (n := 304) rfl rfl, rfl⟩⟩⟩⟩⟩⟩⟩
set_option maxRecDepth 100000 in
theorem mct_90_3 {pc q i : Nat} (h : (bif Nat.blt pc 10 then some (27, 4) else none) = some (q, i)) : mCat2 90 pc 3 q i := by
  cases hb : Nat.blt pc 10 <;> rw [hb] at h <;> simp only [cond_true, cond_false] at h <;> cases h
  exact ⟨25, Or.inl ⟨by decide +kernel, rfl⟩, by decide, ⟨Nat.zero_le _, blt_lt hb, by decide, "java/lang/IllegalStateException", mWs_in (n := 257) rfl rfl, Or.inr ⟨mNc_in (by decide +kernel), ⟨Nat.zero_le _, blt_lt hb, by decide, "java/lang/IllegalArgumentException", mWs_in (n := 258) rfl rfl, Or.inr ⟨mNc_in (by decide +kernel), ⟨Nat.zero_le _, blt_lt hb, by decide, "java/util/NoSuchElementException", mWs_in (n := 259) rfl rfl, Or.inr ⟨mNc_in (by decide +kernel), ⟨Nat.zero_le _, blt_lt hb, by decide, "java/lang/UnsupportedOperationException", mWs_in (n := 260) rfl rfl, Or.inl ⟨rfl, mVs_in (n := 321) rfl rfl, rfl⟩⟩⟩⟩⟩⟩⟩⟩⟩
set_option maxRecDepth 100000 in
theorem mct_91_0 {pc q i : Nat} (h : (bif Nat.blt pc 10 then some (15, 4) else none) = some (q, i)) : mCat2 91 pc 0 q i := by
  cases hb : Nat.blt pc 10 <;> rw [hb] at h <;> simp only [cond_true, cond_false] at h <;> cases h
  exact ⟨13, Or.inl ⟨by decide +kernel, rfl⟩, by decide, ⟨Nat.zero_le _, blt_lt hb, by decide, "java/lang/IllegalStateException", mWs_in (n := 257) rfl rfl, Or.inl ⟨rfl, mVs_in (n := 173) rfl rfl, rfl⟩⟩⟩
set_option maxRecDepth 100000 in
theorem mct_91_1 {pc q i : Nat} (h : (bif Nat.blt pc 10 then some (19, 4) else none) = some (q, i)) : mCat2 91 pc 1 q i := by
  cases hb : Nat.blt pc 10 <;> rw [hb] at h <;> simp only [cond_true, cond_false] at h <;> cases h
  exact ⟨17, Or.inl ⟨by decide +kernel, rfl⟩, by decide, ⟨Nat.zero_le _, blt_lt hb, by decide, "java/lang/IllegalStateException", mWs_in (n := 257) rfl rfl, Or.inr ⟨mNc_in (by decide +kernel), ⟨Nat.zero_le _, blt_lt hb, by decide, "java/lang/IllegalArgumentException", mWs_in (n := 258) rfl rfl, Or.inl ⟨rfl, mVs_in (n := 279) rfl rfl, rfl⟩⟩⟩⟩⟩
set_option maxRecDepth 100000 in
theorem mct_91_2 {pc q i : Nat} (h : (bif Nat.blt pc 10 then some (23, 4) else none) = some (q, i)) : mCat2 91 pc 2 q i := by
  cases hb : Nat.blt pc 10 <;> rw [hb] at h <;> simp only [cond_true, cond_false] at h <;> cases h
  exact ⟨21, Or.inl ⟨by decide +kernel, rfl⟩, by decide, ⟨Nat.zero_le _, blt_lt hb, by decide, "java/lang/IllegalStateException", mWs_in (n := 257) rfl rfl, Or.inr ⟨mNc_in (by decide +kernel), ⟨Nat.zero_le _, blt_lt hb, by decide, "java/lang/IllegalArgumentException", mWs_in (n := 258) rfl rfl, Or.inr ⟨mNc_in (by decide +kernel), ⟨Nat.zero_le _, blt_lt hb, by decide, "java/util/NoSuchElementException", mWs_in (n := 259) rfl rfl, Or.inl ⟨rfl, mVs_in (n := 304) rfl rfl, rfl⟩⟩⟩⟩⟩⟩⟩
set_option maxRecDepth 100000 in
theorem mct_91_3 {pc q i : Nat} (h : (bif Nat.blt pc 10 then some (27, 4) else none) = some (q, i)) : mCat2 91 pc 3 q i := by
  cases hb : Nat.blt pc 10 <;> rw [hb] at h <;> simp only [cond_true, cond_false] at h <;> cases h
  exact ⟨25, Or.inl ⟨by decide +kernel, rfl⟩, by decide, ⟨Nat.zero_le _, blt_lt hb, by decide, "java/lang/IllegalStateException", mWs_in (n := 257) rfl rfl, Or.inr ⟨mNc_in (by decide +kernel), ⟨Nat.zero_le _, blt_lt hb, by decide, "java/lang/IllegalArgumentException", mWs_in (n := 258) rfl rfl, Or.inr ⟨mNc_in (by decide +kernel), ⟨Nat.zero_le _, blt_lt hb, by decide, "java/util/NoSuchElementException", mWs_in (n := 259) rfl rfl, Or.inr ⟨mNc_in (by decide +kernel), ⟨Nat.zero_le _, blt_lt hb, by decide, "java/lang/UnsupportedOperationException", mWs_in (n := 260) rfl rfl, Or.inl ⟨rfl, mVs_in (n := 321) rfl rfl, rfl⟩⟩⟩⟩⟩⟩⟩⟩⟩
set_option maxRecDepth 100000 in
theorem mct_91_4 {pc q i : Nat} (h : (bif Nat.blt pc 10 then some (31, 4) else none) = some (q, i)) : mCat2 91 pc 4 q i := by
  cases hb : Nat.blt pc 10 <;> rw [hb] at h <;> simp only [cond_true, cond_false] at h <;> cases h
  exact ⟨29, Or.inl ⟨by decide +kernel, rfl⟩, by decide, ⟨Nat.zero_le _, blt_lt hb, by decide, "java/lang/IllegalStateException", mWs_in (n := 257) rfl rfl, Or.inr ⟨mNc_in (by decide +kernel), ⟨Nat.zero_le _, blt_lt hb, by decide, "java/lang/IllegalArgumentException", mWs_in (n := 258) rfl rfl, Or.inr ⟨mNc_in (by decide +kernel), ⟨Nat.zero_le _, blt_lt hb, by decide, "java/util/NoSuchElementException", mWs_in (n := 259) rfl rfl, Or.inr ⟨mNc_in (by decide +kernel), ⟨Nat.zero_le _, blt_lt hb, by decide, "java/lang/UnsupportedOperationException", mWs_in (n := 260) rfl rfl, Or.inr ⟨mNc_in (by decide +kernel), ⟨Nat.zero_le _, blt_lt hb, by decide, "java/lang/ArithmeticException", mWs_in (n := 261) rfl rfl, Or.inl ⟨rfl, mVs_in (n := 345) rfl rfl, rfl⟩⟩⟩⟩⟩⟩⟩⟩⟩⟩⟩
set_option maxRecDepth 100000 in
theorem mct_92_0 {pc q i : Nat} (h : (bif Nat.blt pc 10 then some (15, 4) else none) = some (q, i)) : mCat2 92 pc 0 q i := by
  cases hb : Nat.blt pc 10 <;> rw [hb] at h <;> simp only [cond_true, cond_false] at h <;> cases h
  exact ⟨13, Or.inl ⟨by decide +kernel, rfl⟩, by decide, ⟨Nat.zero_le _, blt_lt hb, by decide, "java/lang/IllegalStateException", mWs_in (n := 257) rfl rfl, Or.inl ⟨rfl, mVs_in (n := 173) rfl rfl, rfl⟩⟩⟩
set_option maxRecDepth 100000 in
theorem mct_92_1 {pc q i : Nat} (h : (bif Nat.blt pc 10 then some (19, 4) else none) = some (q, i)) : mCat2 92 pc 1 q i := by
  cases hb : Nat.blt pc 10 <;> rw [hb] at h <;> simp only [cond_true, cond_false] at h <;> cases h
  exact ⟨17, Or.inl ⟨by decide +kernel, rfl⟩, by decide, ⟨Nat.zero_le _, blt_lt hb, by decide, "java/lang/IllegalStateException", mWs_in (n := 257) rfl rfl, Or.inr ⟨mNc_in (by decide +kernel), ⟨Nat.zero_le _, blt_lt hb, by decide, "java/lang/IllegalArgumentException", mWs_in (n := 258) rfl rfl, Or.inl ⟨rfl, mVs_in (n := 279) rfl rfl, rfl⟩⟩⟩⟩⟩
set_option maxRecDepth 100000 in
theorem mct_92_2 {pc q i : Nat} (h : (bif Nat.blt pc 10 then some (23, 4) else none) = some (q, i)) : mCat2 92 pc 2 q i := by
  cases hb : Nat.blt pc 10 <;> rw [hb] at h <;> simp only [cond_true, cond_false] at h <;> cases h
  exact ⟨21, Or.inl ⟨by decide +kernel, rfl⟩, by decide, ⟨Nat.zero_le _, blt_lt hb, by decide, "java/lang/IllegalStateException", mWs_in (n := 257) rfl rfl, Or.inr ⟨mNc_in (by decide +kernel), ⟨Nat.zero_le _, blt_lt hb, by decide, "java/lang/IllegalArgumentException", mWs_in (n := 258) rfl rfl, Or.inr ⟨mNc_in (by decide +kernel), ⟨Nat.zero_le _, blt_lt hb, by decide, "java/util/NoSuchElementException", mWs_in (n := 259) rfl rfl, Or.inl ⟨rfl, mVs_in (n := 304) rfl rfl, rfl⟩⟩⟩⟩⟩⟩⟩
set_option maxRecDepth 100000 in
theorem mct_92_3 {pc q i : Nat} (h : (bif Nat.blt pc 10 then some (27, 4) else none) = some (q, i)) : mCat2 92 pc 3 q i := by
  cases hb : Nat.blt pc 10 <;> rw [hb] at h <;> simp only [cond_true, cond_false] at h <;> cases h
  exact ⟨25, Or.inl ⟨by decide +kernel, rfl⟩, by decide, ⟨Nat.zero_le _, blt_lt hb, by decide, "java/lang/IllegalStateException", mWs_in (n := 257) rfl rfl, Or.inr ⟨mNc_in (by decide +kernel), ⟨Nat.zero_le _, blt_lt hb, by decide, "java/lang/IllegalArgumentException", mWs_in (n := 258) rfl rfl, Or.inr ⟨mNc_in (by decide +kernel), ⟨Nat.zero_le _, blt_lt hb, by decide, "java/util/NoSuchElementException", mWs_in (n := 259) rfl rfl, Or.inr ⟨mNc_in (by decide +kernel), ⟨Nat.zero_le _, blt_lt hb, by decide, "java/lang/UnsupportedOperationException", mWs_in (n := 260) rfl rfl, Or.inl ⟨rfl, mVs_in (n := 321) rfl rfl, rfl⟩⟩⟩⟩⟩⟩⟩⟩⟩
set_option maxRecDepth 100000 in
theorem mct_92_5 {pc q i : Nat} (h : (bif Nat.blt pc 10 then some (31, 4) else none) = some (q, i)) : mCat2 92 pc 5 q i := by
  cases hb : Nat.blt pc 10 <;> rw [hb] at h <;> simp only [cond_true, cond_false] at h <;> cases h
  exact ⟨29, Or.inl ⟨by decide +kernel, rfl⟩, by decide, ⟨Nat.zero_le _, blt_lt hb, by decide, "java/lang/IllegalStateException", mWs_in (n := 257) rfl rfl, Or.inr ⟨mNc_in (by decide +kernel), ⟨Nat.zero_le _, blt_lt hb, by decide, "java/lang/IllegalArgumentException", mWs_in (n := 258) rfl rfl, Or.inr ⟨mNc_in (by decide +kernel), ⟨Nat.zero_le _, blt_lt hb, by decide, "java/util/NoSuchElementException", mWs_in (n := 259) rfl rfl, Or.inr ⟨mNc_in (by decide +kernel), ⟨Nat.zero_le _, blt_lt hb, by decide, "java/lang/UnsupportedOperationException", mWs_in (n := 260) rfl rfl, Or.inr ⟨mNc_in (by decide +kernel), ⟨Nat.zero_le _, blt_lt hb, by decide, "java/lang/IndexOutOfBoundsException", mWs_in (n := 421) rfl rfl, Or.inl ⟨rfl, mVs_in (n := 432) rfl rfl, rfl⟩⟩⟩⟩⟩⟩⟩⟩⟩⟩⟩
set_option maxRecDepth 100000 in
theorem mct_93_0 {pc q i : Nat} (h : (bif Nat.blt pc 12 then some (17, 5) else none) = some (q, i)) : mCat2 93 pc 0 q i := by
  cases hb : Nat.blt pc 12 <;> rw [hb] at h <;> simp only [cond_true, cond_false] at h <;> cases h
  exact ⟨15, Or.inl ⟨by decide +kernel, rfl⟩, by decide, ⟨Nat.zero_le _, blt_lt hb, by decide, "java/lang/IllegalStateException", mWs_in (n := 257) rfl rfl, Or.inl ⟨rfl, mVs_in (n := 173) rfl rfl, rfl⟩⟩⟩
set_option maxRecDepth 100000 in
theorem mct_93_1 {pc q i : Nat} (h : (bif Nat.blt pc 12 then some (21, 5) else none) = some (q, i)) : mCat2 93 pc 1 q i := by
  cases hb : Nat.blt pc 12 <;> rw [hb] at h <;> simp only [cond_true, cond_false] at h <;> cases h
  exact ⟨19, Or.inl ⟨by decide +kernel, rfl⟩, by decide, ⟨Nat.zero_le _, blt_lt hb, by decide, "java/lang/IllegalStateException", mWs_in (n := 257) rfl rfl, Or.inr ⟨mNc_in (by decide +kernel), ⟨Nat.zero_le _, blt_lt hb, by decide, "java/lang/IllegalArgumentException", mWs_in (n := 258) rfl rfl, Or.inl ⟨rfl, mVs_in (n := 279) rfl rfl, rfl⟩⟩⟩⟩⟩
set_option maxRecDepth 100000 in
theorem mct_93_2 {pc q i : Nat} (h : (bif Nat.blt pc 12 then some (25, 5) else none) = some (q, i)) : mCat2 93 pc 2 q i := by
  cases hb : Nat.blt pc 12 <;> rw [hb] at h <;> simp only [cond_true, cond_false] at h <;> cases h
  exact ⟨23, Or.inl ⟨by decide +kernel, rfl⟩, by decide, ⟨Nat.zero_le _, blt_lt hb, by decide, "java/lang/IllegalStateException", mWs_in (n := 257) rfl rfl, Or.inr ⟨mNc_in (by decide +kernel), ⟨Nat.zero_le _, blt_lt hb, by decide, "java/lang/IllegalArgumentException", mWs_in (n := 258) rfl rfl, Or.inr ⟨mNc_in (by decide +kernel), ⟨Nat.zero_le _, blt_lt hb, by decide, "java/util/NoSuchElementException", mWs_in (n := 259) rfl rfl, Or.inl ⟨rfl, mVs_in (n := 304) rfl rfl, rfl⟩⟩⟩⟩⟩⟩⟩
set_option maxRecDepth 100000 in
theorem mct_93_3 {pc q i : Nat} (h : (bif Nat.blt pc 12 then some (29, 5) else none) = some (q, i)) : mCat2 93 pc 3 q i := by
  cases hb : Nat.blt pc 12 <;> rw [hb] at h <;> simp only [cond_true, cond_false] at h <;> cases h
  exact ⟨27, Or.inl ⟨by decide +kernel, rfl⟩, by decide, ⟨Nat.zero_le _, blt_lt hb, by decide, "java/lang/IllegalStateException", mWs_in (n := 257) rfl rfl, Or.inr ⟨mNc_in (by decide +kernel), ⟨Nat.zero_le _, blt_lt hb, by decide, "java/lang/IllegalArgumentException", mWs_in (n := 258) rfl rfl, Or.inr ⟨mNc_in (by decide +kernel), ⟨Nat.zero_le _, blt_lt hb, by decide, "java/util/NoSuchElementException", mWs_in (n := 259) rfl rfl, Or.inr ⟨mNc_in (by decide +kernel), ⟨Nat.zero_le _, blt_lt hb, by decide, "java/lang/UnsupportedOperationException", mWs_in (n := 260) rfl rfl, Or.inl ⟨rfl, mVs_in (n := 321) rfl rfl, rfl⟩⟩⟩⟩⟩⟩⟩⟩⟩
set_option maxRecDepth 100000 in
theorem mct_93_5 {pc q i : Nat} (h : (bif Nat.blt pc 12 then some (33, 5) else none) = some (q, i)) : mCat2 93 pc 5 q i := by
  cases hb : Nat.blt pc 12 <;> rw [hb] at h <;> simp only [cond_true, cond_false] at h <;> cases h
  exact ⟨31, Or.inl ⟨by decide +kernel, rfl⟩, by decide, ⟨Nat.zero_le _, blt_lt hb, by decide, "java/lang/IllegalStateException", mWs_in (n := 257) rfl rfl, Or.inr ⟨mNc_in (by decide +kernel), ⟨Nat.zero_le _, blt_lt hb, by decide, "java/lang/IllegalArgumentException", mWs_in (n := 258) rfl rfl, Or.inr ⟨mNc_in (by decide +kernel), ⟨Nat.zero_le _, blt_lt hb, by decide, "java/util/NoSuchElementException", mWs_in (n := 259) rfl rfl, Or.inr ⟨mNc_in (by decide +kernel), ⟨Nat.zero_le _, blt_lt hb, by decide, "java/lang/UnsupportedOperationException", mWs_in (n := 260) rfl rfl, Or.inr ⟨mNc_in (by decide +kernel), ⟨Nat.zero_le _, blt_lt hb, by decide, "java/lang/IndexOutOfBoundsException", mWs_in (n := 421) rfl rfl, Or.inl ⟨rfl, mVs_in (n := 432) rfl rfl, rfl⟩⟩⟩⟩⟩⟩⟩⟩⟩⟩⟩
set_option maxRecDepth 100000 in
theorem mct_94_0 {pc q i : Nat} (h : (bif Nat.blt pc 10 then some (15, 4) else none) = some (q, i)) : mCat2 94 pc 0 q i := by
  cases hb : Nat.blt pc 10 <;> rw [hb] at h <;> simp only [cond_true, cond_false] at h <;> cases h
  exact ⟨13, Or.inl ⟨by decide +kernel, rfl⟩, by decide, ⟨Nat.zero_le _, blt_lt hb, by decide, "java/lang/IllegalStateException", mWs_in (n := 257) rfl rfl, Or.inl ⟨rfl, mVs_in (n := 173) rfl rfl, rfl⟩⟩⟩
set_option maxRecDepth 100000 in
theorem mct_94_1 {pc q i : Nat} (h : (bif Nat.blt pc 10 then some (19, 4) else none) = some (q, i)) : mCat2 94 pc 1 q i := by
  cases hb : Nat.blt pc 10 <;> rw [hb] at h <;> simp only [cond_true, cond_false] at h <;> cases h
  exact ⟨17, Or.inl ⟨by decide +kernel, rfl⟩, by decide, ⟨Nat.zero_le _, blt_lt hb, by decide, "java/lang/IllegalStateException", mWs_in (n := 257) rfl rfl, Or.inr ⟨mNc_in (by decide +kernel), ⟨Nat.zero_le _, blt_lt hb, by decide, "java/lang/IllegalArgumentException", mWs_in (n := 258) rfl rfl, Or.inl ⟨rfl, mVs_in (n := 279) rfl rfl, rfl⟩⟩⟩⟩⟩
set_option maxRecDepth 100000 in
theorem mct_94_2 {pc q i : Nat} (h : (bif Nat.blt pc 10 then some (23, 4) else none) = some (q, i)) : mCat2 94 pc 2 q i := by
  cases hb : Nat.blt pc 10 <;> rw [hb] at h <;> simp only [cond_true, cond_false] at h <;> cases h
  exact ⟨21, Or.inl ⟨by decide +kernel, rfl⟩, by decide, ⟨Nat.zero_le _, blt_lt hb, by decide, "java/lang/IllegalStateException", mWs_in (n := 257) rfl rfl, Or.inr ⟨mNc_in (by decide +kernel), ⟨Nat.zero_le _, blt_lt hb, by decide, "java/lang/IllegalArgumentException", mWs_in (n := 258) rfl rfl, Or.inr ⟨mNc_in (by decide +kernel), ⟨Nat.zero_le _, blt_lt hb, by decide, "java/util/NoSuchElementException", mWs_in (n := 259) rfl rfl, Or.inl ⟨rfl, mVs_in (n := 304) rfl rfl, rfl⟩⟩⟩⟩⟩⟩⟩
set_option maxRecDepth 100000 in
theorem mct_94_3 {pc q i : Nat} (h : (bif Nat.blt pc 10 then some (27, 4) else none) = some (q, i)) : mCat2 94 pc 3 q i := by
  cases hb : Nat.blt pc 10 <;> rw [hb] at h <;> simp only [cond_true, cond_false] at h <;> cases h
  exact ⟨25, Or.inl ⟨by decide +kernel, rfl⟩, by decide, ⟨Nat.zero_le _, blt_lt hb, by decide, "java/lang/IllegalStateException", mWs_in (n := 257) rfl rfl, Or.inr ⟨mNc_in (by decide +kernel), ⟨Nat.zero_le _, blt_lt hb, by decide, "java/lang/IllegalArgumentException", mWs_in (n := 258) rfl rfl, Or.inr ⟨mNc_in (by decide +kernel), ⟨Nat.zero_le _, blt_lt hb, by decide, "java/util/NoSuchElementException", mWs_in (n := 259) rfl rfl, Or.inr ⟨mNc_in (by decide +kernel), ⟨Nat.zero_le _, blt_lt hb, by decide, "java/lang/UnsupportedOperationException", mWs_in (n := 260) rfl rfl, Or.inl ⟨rfl, mVs_in (n := 321) rfl rfl, rfl⟩⟩⟩⟩⟩⟩⟩⟩⟩
set_option maxRecDepth 100000 in
theorem mct_94_5 {pc q i : Nat} (h : (bif Nat.blt pc 10 then some (31, 4) else none) = some (q, i)) : mCat2 94 pc 5 q i := by
  cases hb : Nat.blt pc 10 <;> rw [hb] at h <;> simp only [cond_true, cond_false] at h <;> cases h
  exact ⟨29, Or.inl ⟨by decide +kernel, rfl⟩, by decide, ⟨Nat.zero_le _, blt_lt hb, by decide, "java/lang/IllegalStateException", mWs_in (n := 257) rfl rfl, Or.inr ⟨mNc_in (by decide +kernel), ⟨Nat.zero_le _, blt_lt hb, by decide, "java/lang/IllegalArgumentException", mWs_in (n := 258) rfl rfl, Or.inr ⟨mNc_in (by decide +kernel), ⟨Nat.zero_le _, blt_lt hb, by decide, "java/util/NoSuchElementException", mWs_in (n := 259) rfl rfl, Or.inr ⟨mNc_in (by decide +kernel), ⟨Nat.zero_le _, blt_lt hb, by decide, "java/lang/UnsupportedOperationException", mWs_in (n := 260) rfl rfl, Or.inr ⟨mNc_in (by decide +kernel), ⟨Nat.zero_le _, blt_lt hb, by decide, "java/lang/IndexOutOfBoundsException", mWs_in (n := 421) rfl rfl, Or.inl ⟨rfl, mVs_in (n := 432) rfl rfl, rfl⟩⟩⟩⟩⟩⟩⟩⟩⟩⟩⟩
set_option maxRecDepth 100000 in
theorem mct_95_0 {pc q i : Nat} (h : (bif Nat.blt pc 9 then some (13, 3) else none) = some (q, i)) : mCat2 95 pc 0 q i := by
  cases hb : Nat.blt pc 9 <;> rw [hb] at h <;> simp only [cond_true, cond_false] at h <;> cases h
  exact ⟨12, Or.inr ⟨3, by decide +kernel, rfl, rfl⟩, by decide, ⟨Nat.zero_le _, blt_lt hb, by decide, "java/lang/IllegalStateException", mWs_in (n := 257) rfl rfl, Or.inl ⟨rfl, mVs_in (n := 173) rfl rfl, rfl⟩⟩⟩
set_option maxRecDepth 100000 in
theorem mct_95_1 {pc q i : Nat} (h : (bif Nat.blt pc 9 then some (16, 3) else none) = some (q, i)) : mCat2 95 pc 1 q i := by
  cases hb : Nat.blt pc 9 <;> rw [hb] at h <;> simp only [cond_true, cond_false] at h <;> cases h
  exact ⟨15, Or.inr ⟨3, by decide +kernel, rfl, rfl⟩, by decide, ⟨Nat.zero_le _, blt_lt hb, by decide, "java/lang/IllegalStateException", mWs_in (n := 257) rfl rfl, Or.inr ⟨mNc_in (by decide +kernel), ⟨Nat.zero_le _, blt_lt hb, by decide, "java/lang/IllegalArgumentException", mWs_in (n := 258) rfl rfl, Or.inl ⟨rfl, mVs_in (n := 279) rfl rfl, rfl⟩⟩⟩⟩⟩
set_option maxRecDepth 100000 in
theorem mct_95_2 {pc q i : Nat} (h : (bif Nat.blt pc 9 then some (19, 3) else none) = some (q, i)) : mCat2 95 pc 2 q i := by
  cases hb : Nat.blt pc 9 <;> rw [hb] at h <;> simp only [cond_true, cond_false] at h <;> cases h
  exact ⟨18, Or.inr ⟨3, by decide +kernel, rfl, rfl⟩, by decide, ⟨Nat.zero_le _, blt_lt hb, by decide, "java/lang/IllegalStateException", mWs_in (n := 257) rfl rfl, Or.inr ⟨mNc_in (by decide +kernel), ⟨Nat.zero_le _, blt_lt hb, by decide, "java/lang/IllegalArgumentException", mWs_in (n := 258) rfl rfl, Or.inr ⟨mNc_in (by decide +kernel), ⟨Nat.zero_le _, blt_lt hb, by decide, "java/util/NoSuchElementException", mWs_in (n := 259) rfl rfl, Or.inl ⟨rfl, mVs_in (n := 304) rfl rfl, rfl⟩⟩⟩⟩⟩⟩⟩
set_option maxRecDepth 100000 in
theorem mct_96_0 {pc q i : Nat} (h : (bif Nat.blt pc 9 then some (13, 3) else none) = some (q, i)) : mCat2 96 pc 0 q i := by
  cases hb : Nat.blt pc 9 <;> rw [hb] at h <;> simp only [cond_true, cond_false] at h <;> cases h
  exact ⟨12, Or.inr ⟨3, by decide +kernel, rfl, rfl⟩, by decide, ⟨Nat.zero_le _, blt_lt hb, by decide, "java/lang/IllegalStateException", mWs_in (n := 257) rfl rfl, Or.inl ⟨rfl, mVs_in (n := 173) rfl rfl, rfl⟩⟩⟩
set_option maxRecDepth 100000 in
theorem mct_96_1 {pc q i : Nat} (h : (bif Nat.blt pc 9 then some (16, 3) else none) = some (q, i)) : mCat2 96 pc 1 q i := by
  cases hb : Nat.blt pc 9 <;> rw [hb] at h <;> simp only [cond_true, cond_false] at h <;> cases h
  exact ⟨15, Or.inr ⟨3, by decide +kernel, rfl, rfl⟩, by decide, ⟨Nat.zero_le _, blt_lt hb, by decide, "java/lang/IllegalStateException", mWs_in (n := 257) rfl rfl, Or.inr ⟨mNc_in (by decide +kernel), ⟨Nat.zero_le _, blt_lt hb, by decide, "java/lang/IllegalArgumentException", mWs_in (n := 258) rfl rfl, Or.inl ⟨rfl, mVs_in (n := 279) rfl rfl, rfl⟩⟩⟩⟩⟩
set_option maxRecDepth 100000 in
theorem mct_96_2 {pc q i : Nat} (h : (bif Nat.blt pc 9 then some (19, 3) else none) = some (q, i)) : mCat2 96 pc 2 q i := by
  cases hb : Nat.blt pc 9 <;> rw [hb] at h <;> simp only [cond_true, cond_false] at h <;> cases h
  exact ⟨18, Or.inr ⟨3, by decide +kernel, rfl, rfl⟩, by decide, ⟨Nat.zero_le _, blt_lt hb, by decide, "java/lang/IllegalStateException", mWs_in (n := 257) rfl rfl, Or.inr ⟨mNc_in (by decide +kernel), ⟨Nat.zero_le _, blt_lt hb, by decide, "java/lang/IllegalArgumentException", mWs_in (n := 258) rfl rfl, Or.inr ⟨mNc_in (by decide +kernel), ⟨Nat.zero_le _, blt_lt hb, by decide, "java/util/NoSuchElementException", mWs_in (n := 259) rfl rfl, Or.inl ⟨rfl, mVs_in (n := 304) rfl rfl, rfl⟩⟩⟩⟩⟩⟩⟩
set_option maxRecDepth 100000 in
theorem mct_96_3 {pc q i : Nat} (h : (bif Nat.blt pc 9 then some (22, 3) else none) = some (q, i)) : mCat2 96 pc 3 q i := by
  cases hb : Nat.blt pc 9 <;> rw [hb] at h <;> simp only [cond_true, cond_false] at h <;> cases h
  exact ⟨21, Or.inr ⟨3, by decide +kernel, rfl, rfl⟩, by decide, ⟨Nat.zero_le _, blt_lt hb, by decide, "java/lang/IllegalStateException", mWs_in (n := 257) rfl rfl, Or.inr ⟨mNc_in (by decide +kernel), ⟨Nat.zero_le _, blt_lt hb, by decide, "java/lang/IllegalArgumentException", mWs_in (n := 258) rfl rfl, Or.inr ⟨mNc_in (by decide +kernel), ⟨Nat.zero_le _, blt_lt hb, by decide, "java/util/NoSuchElementException", mWs_in (n := 259) rfl rfl, Or.inr ⟨mNc_in (by decide +kernel), ⟨Nat.zero_le _, blt_lt hb, by decide, "java/lang/UnsupportedOperationException", mWs_in (n := 260) rfl rfl, Or.inl ⟨rfl, mVs_in (n := 321) rfl rfl, rfl⟩⟩⟩⟩⟩⟩⟩⟩⟩
set_option maxRecDepth 100000 in
theorem mct_97_0 {pc q i : Nat} (h : (bif Nat.blt pc 8 then some (12, 2) else none) = some (q, i)) : mCat2 97 pc 0 q i := by
  cases hb : Nat.blt pc 8 <;> rw [hb] at h <;> simp only [cond_true, cond_false] at h <;> cases h
  exact ⟨11, Or.inr ⟨2, by decide +kernel, rfl, rfl⟩, by decide, ⟨Nat.zero_le _, blt_lt hb, by decide, "java/lang/IllegalStateException", mWs_in (n := 257) rfl rfl, Or.inl ⟨rfl, mVs_in (n := 173) rfl rfl, rfl⟩⟩⟩
theorem mCatch {k pc j q i : Nat} (h : mHn k pc j = some (q, i)) : mCat2 k pc j q i := by
  unfold mHn at h
  split at h
  · split at h
    · exact mct_88_0 h
    · exact mct_88_1 h
    · exact mct_88_2 h
    · exact mct_88_3 h
    · exact mct_88_4 h
    · cases h
  · split at h
    · exact mct_89_0 h
    · exact mct_89_1 h
    · exact mct_89_2 h
    · exact mct_89_3 h
    · cases h
  · split at h
    · exact mct_90_0 h
    · exact mct_90_1 h
    · exact mct_90_2 h
    · exact mct_90_3 h
    · cases h
  · split at h
    · exact mct_91_0 h
    · exact mct_91_1 h
    · exact mct_91_2 h
    · exact mct_91_3 h
    · exact mct_91_4 h
    · cases h
  · split at h
    · exact mct_92_0 h
    · exact mct_92_1 h
    · exact mct_92_2 h
    · exact mct_92_3 h
    · exact mct_92_5 h
    · cases h
  · split at h
    · exact mct_93_0 h
    · exact mct_93_1 h
    · exact mct_93_2 h
    · exact mct_93_3 h
    · exact mct_93_5 h
    · cases h
  · split at h
    · exact mct_94_0 h
    · exact mct_94_1 h
    · exact mct_94_2 h
    · exact mct_94_3 h
    · exact mct_94_5 h
    · cases h
  · split at h
    · exact mct_95_0 h
    · exact mct_95_1 h
    · exact mct_95_2 h
    · cases h
  · split at h
    · exact mct_96_0 h
    · exact mct_96_1 h
    · exact mct_96_2 h
    · exact mct_96_3 h
    · cases h
  · split at h
    · exact mct_97_0 h
    · cases h
  · cases h
theorem mTk_takes {e : Env} {s : State} {args : Array Value} {d : ClassId} {own : String} (hpl : e.platform.magicAccessors = ({} : Platform).magicAccessors) (hown : s.vm.findClass own = some d) (hts : ∀ w ∈ mWs, w.before args s = true) (hvs : ∀ w ∈ mVs, w.before args s = true) {pc j qh : Nat} {kc : ClassId} (hk : s.vm.findClass (mXn j) = some kc) :
    ∀ (rows : List ExceptionTableEntry), mTk own pc j qh (rows.map (fun h => (h.startPc, h.endPc, h.handlerPc, h.catchType))) → xTakes e s d pc kc qh rows := by
  intro rows
  induction rows with
  | nil => intro h; exact h
  | cons r t ih =>
    intro h
    obtain ⟨h1, h2, h3, name, h4, h5⟩ := h
    refine Or.inr ⟨by simp [covers, h1, h2], h3, ?_⟩
    obtain ⟨c', hc', hcl⟩ := Cond.classLink_spec hown (hts _ h4) e.platform hpl
    refine ⟨c', hcl, ?_⟩
    rcases h5 with ⟨rfl, h6, h7⟩ | ⟨h6, h7⟩
    · obtain ⟨c3, c4, e3, e4, e5⟩ := Cond.castable_spec (hvs _ h6)
      cases Option.some.inj (e3.symm.trans hk)
      cases Option.some.inj (e4.symm.trans hc')
      exact Or.inl ⟨e5, h7⟩
    · obtain ⟨c3, c4, e3, e4, e5⟩ := va_Nc.of (hvs _ h6)
      cases Option.some.inj (e3.symm.trans hk)
      cases Option.some.inj (e4.symm.trans hc')
      exact Or.inr ⟨e5, ih h7⟩
end
section
section SNS
variable {p : Program} {l : Launch} {e : Env} {R : Room} {s : State} {m : MethodId} {args : Array Value} {below : List Frame} {meth : Method} {c : Code} {H : Heap} {locs : List Loc} {cells slots : Nat} {Q : State → Prop}
variable {D : va_G} {dA : Nat → ClassId} {b Ls : Nat} {xs : Nat → Int32} {A : Nat → Prop} {ρ : Nat → Nat} {k : Nat}
/-- what is owed behind an instruction, by its kind -/
def Kt (p : Program) (l : Launch) (e : Env) (R : Room) (s : State) (m : MethodId) (args : Array Value) (below : List Frame) (meth : Method) (c : Code) (H : Heap) (locs : List Loc) (cells slots : Nat) (Q : State → Prop) (D : va_G) (dA : Nat → ClassId) (b : Nat) (A : Nat → Prop) (ρ : Nat → Nat) (k : Nat) (pc : Nat) (ls : Array Slot) (S : List Value) (n0 : Nat) : mX → Prop
  | .inl (pc', L', S', h') => h'.length = n0 → ∀ (H' : Heap) (locs' : List Loc) (ls' : Array Slot), Wp D dA b A s ρ h' H' locs' → LR ρ ls' (mNL k) L' → W p l e R s m args below meth c H' locs' cells slots Q (F0 m pc' ls' (S'.map (trV ρ)))
  | .inr (.inl (cnd, (pc', L', S', h'), o)) => (cnd = true → h'.length = n0 → ∀ (H' : Heap) (locs' : List Loc) (ls' : Array Slot), Wp D dA b A s ρ h' H' locs' → LR ρ ls' (mNL k) L' → W p l e R s m args below meth c H' locs' cells slots Q (F0 m pc' ls' (S'.map (trV ρ)))) ∧
    (cnd = false → match o with
      | some (pc2, L2, S2, h2) => h2.length = n0 → ∀ (H' : Heap) (locs' : List Loc) (ls' : Array Slot), Wp D dA b A s ρ h2 H' locs' → LR ρ ls' (mNL k) L2 → W p l e R s m args below meth c H' locs' cells slots Q (F0 m pc2 ls' (S2.map (trV ρ)))
      | none => False)
  | .inr (.inr (.inl (f, .inl v, h'))) => f = true ∧ ((∀ w, v = some w → ∃ z : Int32, w = .int z) → h'.length = n0 → ∀ t : State, t.status = .running → Ended t below (.returned v) → t.heap = H → s.WarmedH t.vm → (∃ L, s.sameButNew ({ t with vm := s.vm } : State) L cells slots ∧ ∀ q ∈ L, A q.base) → Wp D dA b A s ρ h' H locs → Q t)
  | .inr (.inr (.inl (f, .inr j, h'))) => f = true ∧ cells + 1 ≤ R.cells ∧ slots + 6 ≤ R.slots ∧ (h'.length = n0 → ∀ (t : State) (a : Addr) (cell : Cell), t.status = .running → Ended t below (.threw a) → t.heap[a]? = some cell → cell.vm = .none → s.vm.findClass (mXn j) = some cell.cls → s.WarmedH t.vm → (∃ L, s.sameButNew ({ t with vm := s.vm } : State) L (cells + 1) (slots + 6) ∧ ∀ q ∈ L, A q.base) → Wp D dA b A s ρ h' t.heap locs → Q t)
  | .inr (.inr (.inr (.inr ((pc', L', S', h'), z)))) => cells + 1 ≤ R.cells ∧ slots + z ≤ R.slots ∧ (h'.length = n0 + 1 → ∀ (ρ' : Nat → Nat) (H' : Heap) (locs' : List Loc) (ls' : Array Slot), (∀ i, i < n0 → ρ' i = ρ i) → Wp D dA b A s ρ' h' H' locs' → LR ρ' ls' (mNL k) L' → W p l e R s m args below meth c H' locs' (cells + 1) (slots + z) Q (F0 m pc' ls' (S'.map (trV ρ'))))
  | .inr (.inr (.inr (.inl (k', av, (pc', L', S', h'))))) =>
    (∀ T : State, T.heap = H → Stand p l e R s m args below meth c T locs cells slots → xGo p l e R s m args below meth c T locs cells slots (F0 m pc ls (S.map (trV ρ))) (S'.map (trV ρ)) (mY k') (av.map (trV ρ)).toArray) →
    Wp D dA b A s ρ h' H locs → LR ρ ls (mNL k) L' → h'.length = n0 → mMeth k' → av.length ≤ mNL k' → mOne av = true → mOkL h'.length L' = true → mOkS h'.length S' = true → mCat S' ≤ 8 → mFr k' + 1 ≤ mFr k → 8 + (mNL k' + 11) + mLo k' ≤ mLo k → pc' = pc + 3 → (∃ ig, decode (mBy k) pc = .ok (ig, 3)) →
    W p l e R s m args below meth c H locs cells slots Q (F0 m pc ls (S.map (trV ρ)))
set_option maxHeartbeats 4000000 in
theorem sStep (hst : l.stackTraces = false) {i : Instr} {nx x y pc : Nat} {L : List (Option Value)} {S : List Value} {h : mH} {ls : Array Slot} {r : mX} (hF : mFact k pc i nx x y) (hC : Cx D dA b Ls xs A p s m args meth c k) (hs : mEx Ls xs k i nx x y pc L S h = some r)
    (hR : mFr k ≤ R.frames ∧ mLo k ≤ R.locals) (hw : Wp D dA b A s ρ h H locs) (hl : LR ρ ls (mNL k) L)
    (hk : Kt p l e R s m args below meth c H locs cells slots Q D dA b A ρ k pc ls S h.length r) :
    W p l e R s m args below meth c H locs cells slots Q (F0 m pc ls (S.map (trV ρ))) := by
  obtain ⟨hd, hnx, hf⟩ := hF
  obtain ⟨hx, hb, hml, hown, hts, hvs, hK, hX, hbl, hbA, hA, hr, hlk, hnm, hexc, hZ, hAs⟩ := hC
  subst hnx
  cases i with
  | iconst n => cases hs; exact lv_iconst hx hb hd hf (hk rfl _ _ _ hw hl)
  | bipush n => cases hs; exact lv_bipush hx hb hd hf (hk rfl _ _ _ hw hl)
  | sipush n => cases hs; exact lv_sipush hx hb hd hf (hk rfl _ _ _ hw hl)
  | ldc j => cases hs; exact lv_ldc hx hb hown (hts _ hf) hd (hk rfl _ _ _ hw hl)
  | ldc_w j => cases hs; exact lv_ldcw hx hb hown (hts _ hf) hd (hk rfl _ _ _ hw hl)
  | iload_n j => obtain ⟨v, hv, rfl⟩ := mLdI_inv hs; exact lv_iload_n hx hb hd rfl (hl.at hv) (hk rfl _ _ _ hw hl)
  | iload j => obtain ⟨v, hv, rfl⟩ := mLdI_inv hs; exact lv_iload hx hb hd (hl.at hv) (hk rfl _ _ _ hw hl)
  | aload_n j => obtain ⟨v, hv, rfl⟩ := mLdA_inv hs; exact lv_aload_n hx hb hd rfl (hl.at hv) (hk rfl _ _ _ hw hl)
  | aload j => obtain ⟨v, hv, rfl⟩ := mLdA_inv hs; exact lv_aload hx hb hd (hl.at hv) (hk rfl _ _ _ hw hl)
  | istore_n j => obtain ⟨v, S0, rfl, hj, rfl⟩ := mStI_inv hs; exact lv_istore_n hx hb hd rfl hl.1 (by rw [← hl.2.1]; exact hj) rfl (fun ls' h' => hk rfl _ _ ls' hw (hl.put rfl hj h'))
  | istore j => obtain ⟨v, S0, rfl, hj, rfl⟩ := mStI_inv hs; exact lv_istore hx hb hd hl.1 (by rw [← hl.2.1]; exact hj) rfl (fun ls' h' => hk rfl _ _ ls' hw (hl.put rfl hj h'))
  | astore_n j => obtain ⟨v, S0, rfl, hj, rfl⟩ := mStA_inv hs; exact lv_astore_n hx hb hd rfl hl.1 (by rw [← hl.2.1]; exact hj) rfl (fun ls' h' => hk rfl _ _ ls' hw (hl.put (v := .ref v) rfl hj h'))
  | astore j => obtain ⟨v, S0, rfl, hj, rfl⟩ := mStA_inv hs; exact lv_astore hx hb hd hl.1 (by rw [← hl.2.1]; exact hj) rfl (fun ls' h' => hk rfl _ _ ls' hw (hl.put (v := .ref v) rfl hj h'))
  | iinc j n =>
    simp only [mEx] at hs
    split at hs
    · rename_i v hv
      cases hs
      have hj : j < L.length := (List.getElem?_eq_some_iff.mp hv).1
      obtain ⟨q, hq⟩ := List.getElem?_of_mem (lpm_mem.mpr ⟨.int v, hv, rfl⟩ : ((j, trV ρ (.int v)) : Nat × Value) ∈ lpm ρ L)
      exact lv_iinc hx hb hd hl.1 hq (by rw [hf]) (by rw [← hl.2.1]; exact hj) rfl (fun ls' h' => hk rfl _ _ ls' hw (hl.put rfl hj h'))
    · cases hs
  | iadd => obtain ⟨a1, a2, S0, rfl, rfl⟩ := mBin_inv hs; exact lv_iadd hx hb hd (hk rfl _ _ _ hw hl)
  | isub => obtain ⟨a1, a2, S0, rfl, rfl⟩ := mBin_inv hs; exact lv_isub hx hb hd (hk rfl _ _ _ hw hl)
  | imul => obtain ⟨a1, a2, S0, rfl, rfl⟩ := mBin_inv hs; exact lv_imul hx hb hd (hk rfl _ _ _ hw hl)
  | iand => obtain ⟨a1, a2, S0, rfl, rfl⟩ := mBin_inv hs; exact lv_iand hx hb hd (hk rfl _ _ _ hw hl)
  | ior => obtain ⟨a1, a2, S0, rfl, rfl⟩ := mBin_inv hs; exact lv_ior hx hb hd (hk rfl _ _ _ hw hl)
  | ishl => obtain ⟨a1, a2, S0, rfl, rfl⟩ := mBin_inv hs; exact lv_ishl hx hb hd (hk rfl _ _ _ hw hl)
  | ishr => obtain ⟨a1, a2, S0, rfl, rfl⟩ := mBin_inv hs; exact lv_ishr hx hb hd (hk rfl _ _ _ hw hl)
  | iushr => obtain ⟨a1, a2, S0, rfl, rfl⟩ := mBin_inv hs; exact lv_iushr hx hb hd rfl (hk rfl _ _ _ hw hl)
  | idiv =>
    simp only [mEx] at hs
    split at hs
    · rename_i a2 a1 S0
      by_cases hz : a2 = 0
      · simp [hz] at hs
      · simp only [hz, decide_false, cond_false] at hs
        cases hs
        exact lv_idiv hx hb hd hz (hk rfl _ _ _ hw hl)
    · cases hs
  | irem =>
    simp only [mEx] at hs
    split at hs
    · rename_i a2 a1 S0
      by_cases hz : a2 = 0
      · simp [hz] at hs
      · simp only [hz, decide_false, cond_false] at hs
        cases hs
        exact lv_irem hx hb hd hz (hk rfl _ _ _ hw hl)
    · cases hs
  | i2l =>
    simp only [mEx] at hs
    split at hs
    · cases hs; exact lv_i2l hx hb hd rfl (hk rfl _ _ _ hw hl)
    · cases hs
  | lcmp =>
    simp only [mEx] at hs
    split at hs
    · cases hs; exact W.lcmp hx hb hd (hk rfl _ _ _ hw hl)
    · cases hs
  | dup =>
    simp only [mEx] at hs
    split at hs
    · cases hs; exact lv_dup hx hb hd rfl (hk rfl _ _ _ hw hl)
    · cases hs; exact lv_dup hx hb hd rfl (hk rfl _ _ _ hw hl)
    · cases hs
  | goto off => cases hs; exact lv_goto hx hb hd hf (hk rfl _ _ _ hw hl)
  | tableswitch d lo hi offs =>
    simp only [mEx] at hs
    split at hs
    · rename_i v S0
      obtain ⟨f1, f2, f3, f4⟩ := hf
      cases hs
      have hK := hk rfl _ _ _ hw hl
      by_cases hv : v.toInt < lo ∨ hi < v.toInt
      · refine lv_tableOut hx hb hd hv (tgt := ((pc : Int) + d).toNat) (by omega) ?_
        have e1 : mSw pc lo hi d offs.toList v.toInt = ((pc : Int) + d).toNat := by
          rcases hv with hv | hv <;> simp [mSw, hv]
        rw [← e1]
        exact hK
      · have h1 : ¬ v.toInt < lo := fun q => hv (Or.inl q)
        have h2 : ¬ hi < v.toInt := fun q => hv (Or.inr q)
        have hlt : (v.toInt - lo).toNat < offs.size := by omega
        have ho : offs[(v.toInt - lo).toNat]? = some offs[(v.toInt - lo).toNat] := Array.getElem?_eq_getElem hlt
        have hm : offs[(v.toInt - lo).toNat] ∈ offs.toList := by simp
        have hp := f4 _ hm
        refine lv_tableIn hx hb hd h1 h2 ho (tgt := ((pc : Int) + offs[(v.toInt - lo).toNat]).toNat) (by omega) ?_
        have e1 : mSw pc lo hi d offs.toList v.toInt = ((pc : Int) + offs[(v.toInt - lo).toNat]).toNat := by
          simp [mSw, h1, h2, List.getD_eq_getElem?_getD, ho]
        rw [← e1]
        exact hK
    · cases hs
  | getfield j =>
    simp only [mEx] at hs
    split at hs
    · rename_i a S0
      split at hs
      · rename_i ci fs hc
        obtain ⟨C, T, N, f1, f2, f3⟩ := hf
        cases hb1 : Nat.beq ci x <;> rw [hb1] at hs <;> simp only [cond_true, cond_false] at hs
        · cases hs
        · have e1 : ci = x := Nat.eq_of_beq_eq_true hb1
          subst e1
          split at hs
          · rename_i v hv
            cases hs
            exact va_get (D := D) (Ts := mWs) hx hb hts (mLay f1) hown hK hw.1 a (trH_get hc) f1 y f2 (hts _ f3) (fun _ h9 => h9) (v := trV ρ v) (by simp [hv]) hd (hk rfl _ _ _ hw hl)
          · cases hs
      · cases hs
    · cases hs
  | putfield j =>
    simp only [mEx] at hs
    split at hs
    · rename_i v a S0
      split at hs
      · rename_i ci fs hc
        obtain ⟨C, T, N, f1, f2, f3, f4⟩ := hf
        cases hb1 : (Nat.beq ci x && Nat.blt y fs.length && mPutOk (mFT x y) v) <;> rw [hb1] at hs <;> simp only [cond_true, cond_false] at hs
        · cases hs
        · simp only [Bool.and_eq_true] at hb1
          obtain ⟨⟨b1, b2⟩, b3⟩ := hb1
          have e1 : ci = x := Nat.eq_of_beq_eq_true b1
          subst e1
          have hyl : y < (fs.map (trV ρ)).length := by simpa using blt_lt b2
          cases hs
          have hput : narrow (mFT ci y) (trV ρ v) = trV ρ v ∧ fits (mFT ci y) (trV ρ v) = true := mPutOk_spec b3
          have hpd : parseFieldDescriptor (T y).2.2.1 = some (mFT ci y) := mFTy f1 y f2
          have kk2 : ∀ (H1 : Heap) (locs1 : List Loc), va_P D mCls ((trH ρ dA h).set a (ρ a, .inr (ci, (fs.map (trV ρ)).set y (trV ρ v)))) H1 → va_D A ((trH ρ dA h).set a (ρ a, .inr (ci, (fs.map (trV ρ)).set y (trV ρ v)))) → va_S A s.heap H1 locs1 → W p l e R s m args below meth c H1 locs1 cells slots Q (F0 m (pc + 3) ls (S0.map (trV ρ))) := by
            intro H1 locs1 p1 p2 p3
            have e2 : (trH ρ dA h).set a (ρ a, .inr (ci, (fs.map (trV ρ)).set y (trV ρ v))) = trH ρ dA (h.set a (.inr (ci, fs.set y v))) := by
              rw [← trH_set]; simp [trC, List.map_set]
            rw [e2] at p1 p2
            exact hk (by simp) _ _ _ ⟨p1, p2, p3, hw.2.2.2⟩ hl
          rcases f4 with f4 | ⟨f4, f5, f6⟩
          · exact va_put (D := D) (Ts := mWs) hx hb hts (mLay f1) (mFT ci) (mFTy f1) (mNd f1) hown hK hw.1 hw.2.1 hw.2.2.1 a (trH_get hc) f1 y f2 (hts _ f3) (fun _ h9 => h9) f4 hpd hput.1 hput.2 hyl hd kk2
          · exact va_putF (D := D) (Ts := mWs) hx hb hts (mLay f1) (mFT ci) (mFTy f1) (mNd f1) hown hK hw.1 hw.2.1 hw.2.2.1 a (trH_get hc) f1 y f2 (hts _ f3) (fun _ h9 => h9) f4 (hnm.trans f5) f6 hpd hput.1 hput.2 hyl hd kk2
      · cases hs
    · cases hs
  | arraylength =>
    simp only [mEx] at hs
    split at hs
    · rename_i a S0
      cases hb1 : Nat.beq a mSC <;> rw [hb1] at hs <;> simp only [cond_true, cond_false] at hs
      · cases hs
      · cases hs
        have e1 : a = mSC := Nat.eq_of_beq_eq_true hb1
        subst e1
        have e2 : trV ρ (.ref mSC) = .ref b := by simp [trV, hw.2.2.2]
        rw [List.map_cons, e2]
        exact va_slen hx hb hX hbl hbA hw.2.2.1 hd (hk rfl _ _ _ hw hl)
    · cases hs
  | invokespecial j =>
    simp only [mEx] at hs
    split at hs
    · rename_i a S0
      cases hb1 : Nat.beq x 999 <;> rw [hb1] at hs <;> simp only [cond_true, cond_false] at hs
      · rcases hf with ⟨f0, -⟩ | ⟨f0, f1, f2, f3, f4, f5, f6, f7, f8⟩
        · subst f0; cases hb1
        · cases hb2 : (mOkL h.length L && mOkS h.length (.ref a :: S0) && Nat.ble (mCat S0) 8 && Nat.ble (mFr x + 1) (mFr k) && Nat.ble (8 + (mNL x + 11) + mLo x) (mLo k)) <;> rw [hb2] at hs <;> simp only [cond_true, cond_false] at hs
          · cases hs
          · simp only [Bool.and_eq_true, mOkS] at hb2
            obtain ⟨⟨⟨⟨b1, b2⟩, b3⟩, b4⟩, b5⟩ := hb2
            cases hs
            have hcode : (Jvm.Cond.code (mY x) (mBy x) (mNL x) none).before args s = true := by
              rcases f1.1 with ⟨-, w⟩ | ⟨w, -⟩
              · rw [f3] at w; exact hts _ w
              · exact absurd f2 w
            refine hk (fun T hT X => xGoI X hx hown f5 (hts _ f8) (hts _ f4) hcode ⟨f1.2.2.1, f1.2.2.2.1⟩ (g := F0 m pc ls ((.ref a :: S0).map (trV ρ))) rfl (a := ρ a) (argsL := []) (rest := S0.map (trV ρ)) (fun sig h9 => ?_) rfl (by rw [hb]; exact hd)) hw hl rfl f1 f7 rfl b1 b2.2 (Nat.le_of_ble_eq_true b3) (Nat.le_of_ble_eq_true b4) (Nat.le_of_ble_eq_true b5) rfl ⟨_, hd⟩
            rw [h9] at f6
            exact (Option.some.inj f6).symm
      · rcases hf with ⟨f0, f1, f2, f3⟩ | ⟨f0, -⟩
        · cases hb2 : (Nat.ble (mCat S0 + 12) (mLo k) && Nat.ble 1 (mFr k)) <;> rw [hb2] at hs <;> simp only [cond_true, cond_false] at hs
          · cases hs
          · simp only [Bool.and_eq_true] at hb2
            have g1 : mCat S0 + 12 ≤ mLo k := Nat.le_of_ble_eq_true hb2.1
            have g2 : 1 ≤ mFr k := Nat.le_of_ble_eq_true hb2.2
            cases hs
            refine W.objInit hx hb hown (hts _ f1) (hts _ f2) (hts _ f3) (g := F0 m pc ls (.ref (ρ a) :: S0.map (trV ρ))) rfl (by rw [hml]; exact hl.1.1) rfl hd (by omega) ?_ (hk rfl _ _ _ hw hl)
            show 2 * 0 + _ + 12 ≤ _
            rw [mCat_tr]
            omega
        · exact absurd (Nat.eq_of_beq_eq_true hb1) f0
    · cases hs
  | ifCond c1 off =>
    simp only [mEx] at hs
    split at hs
    · rename_i a S0
      cases hs
      have k1 := fun q => hk.1 q rfl H locs ls hw hl
      have k2 := fun q => hk.2 q rfl H locs ls hw hl
      cases c1
      · exact lv_if_eq hx hb hd hf (fun q => k1 (decide_eq_true q)) (fun q => k2 (decide_eq_false q))
      · exact lv_if_ne hx hb hd hf (fun q => k1 (decide_eq_true q)) (fun q => k2 (decide_eq_false (fun z => z q)))
      · exact lv_if_lt hx hb hd hf (fun q => k1 (decide_eq_true q)) (fun q => k2 (decide_eq_false q))
      · exact lv_if_ge hx hb hd hf (fun q => k1 (decide_eq_true q)) (fun q => k2 (decide_eq_false q))
      · exact lv_if_gt hx hb hd hf (fun q => k1 (decide_eq_true q)) (fun q => k2 (decide_eq_false q))
      · exact lv_if_le hx hb hd hf (fun q => k1 (decide_eq_true q)) (fun q => k2 (decide_eq_false q))
    · cases hs
  | if_icmp c1 off =>
    simp only [mEx] at hs
    split at hs
    · rename_i a2 a1 S0
      cases hs
      have k1 := fun q => hk.1 q rfl H locs ls hw hl
      have k2 := fun q => hk.2 q rfl H locs ls hw hl
      cases c1
      · exact lv_icmp_eq hx hb hd hf (fun q => k1 (decide_eq_true q)) (fun q => k2 (decide_eq_false q))
      · exact lv_icmp_ne hx hb hd hf (fun q => k1 (decide_eq_true q)) (fun q => k2 (decide_eq_false (fun z => z q)))
      · exact lv_icmp_lt hx hb hd hf (fun q => k1 (decide_eq_true q)) (fun q => k2 (decide_eq_false q))
      · exact lv_icmp_ge hx hb hd hf (fun q => k1 (decide_eq_true q)) (fun q => k2 (decide_eq_false q))
      · exact lv_icmp_gt hx hb hd hf (fun q => k1 (decide_eq_true q)) (fun q => k2 (decide_eq_false q))
      · exact lv_icmp_le hx hb hd hf (fun q => k1 (decide_eq_true q)) (fun q => k2 (decide_eq_false q))
    · cases hs
  | iaload =>
    simp only [mEx] at hs
    split at hs
    · rename_i j a S0
      cases hb1 : Nat.beq a mSC <;> rw [hb1] at hs <;> simp only [cond_true, cond_false] at hs
      · split at hs
        · rename_i n f hc
          cases hs
          exact va_iald (D := D) hx hb hK hw.1 a 0 (trH_get hc) rfl (mInb_spec (mT hk.2)) hd (hk.1 (mT hk.2) rfl H locs ls hw hl)
        · cases hs
      · cases hs
        have e1 : a = mSC := Nat.eq_of_beq_eq_true hb1
        subst e1
        have e2 : trV ρ (.ref mSC) = .ref b := by simp [trV, hw.2.2.2]
        rw [List.map_cons, List.map_cons, e2]
        exact va_sld hx hb hX hbl hbA hw.2.2.1 (mInb_spec (mT hk.2)) hd (hk.1 (mT hk.2) rfl H locs ls hw hl)
    · cases hs
  | iastore =>
    simp only [mEx] at hs
    split at hs
    · rename_i v j a S0
      split at hs
      · rename_i n f hc
        cases hs
        refine va_iast (D := D) hx hb hK hw.1 hw.2.1 hw.2.2.1 a 0 (trH_get hc) rfl (mInb_spec (mT hk.2)) hd (fun H1 locs1 p1 p2 p3 => hk.1 (mT hk.2) (by simp) H1 locs1 ls ⟨?_, ?_, p3, hw.2.2.2⟩ hl)
        · rw [← trH_set]; exact p1
        · rw [← trH_set]; exact p2
      · cases hs
    · cases hs
  | baload =>
    simp only [mEx] at hs
    split at hs
    · rename_i j a S0
      split at hs
      · rename_i n f hc
        cases hs
        exact va_zald (D := D) hx hb hK hw.1 a 1 (trH_get hc) rfl (mInb_spec (mT hk.2)) hd (hk.1 (mT hk.2) rfl H locs ls hw hl)
      · cases hs
    · cases hs
  | bastore =>
    simp only [mEx] at hs
    split at hs
    · rename_i v j a S0
      split at hs
      · rename_i n f hc
        cases hs
        refine va_zast (D := D) hx hb hK hw.1 hw.2.1 hw.2.2.1 a 1 (trH_get hc) rfl (mInb_spec (mT hk.2)) hd (fun H1 locs1 p1 p2 p3 => hk.1 (mT hk.2) (by simp) H1 locs1 ls ⟨?_, ?_, p3, hw.2.2.2⟩ hl)
        · rw [← trH_set]; exact p1
        · rw [← trH_set]; exact p2
      · cases hs
    · cases hs
  | laload =>
    simp only [mEx] at hs
    split at hs
    · rename_i j a S0
      split at hs
      · rename_i n f hc
        cases hs
        exact va_lald (D := D) hx hb hK hw.1 a 2 (trH_get hc) rfl (mInb_spec (mT hk.2)) hd (hk.1 (mT hk.2) rfl H locs ls hw hl)
      · cases hs
    · cases hs
  | lastore =>
    simp only [mEx] at hs
    split at hs
    · rename_i v j a S0
      split at hs
      · rename_i n f hc
        cases hs
        refine va_last (D := D) hx hb hK hw.1 hw.2.1 hw.2.2.1 a 2 (trH_get hc) rfl (mInb_spec (mT hk.2)) hd (fun H1 locs1 p1 p2 p3 => hk.1 (mT hk.2) (by simp) H1 locs1 ls ⟨?_, ?_, p3, hw.2.2.2⟩ hl)
        · rw [← trH_set]; exact p1
        · rw [← trH_set]; exact p2
      · cases hs
    · cases hs
  | invokestatic j =>
    obtain ⟨f1, f2, f3, f4, f5⟩ := hf
    have hs : (bif Nat.ble y S.length && mOne (S.take y) && mOkL h.length L && mOkS h.length S && Nat.ble (mCat (S.drop y)) 8 && Nat.ble (mFr x + 1) (mFr k) && Nat.ble (8 + (mNL x + 11) + mLo x) (mLo k) then some (.inr (.inr (.inr (.inl (x, (S.take y).reverse, (pc + 3, L, S.drop y, h)))))) else none) = some r := hs
    cases hb2 : (Nat.ble y S.length && mOne (S.take y) && mOkL h.length L && mOkS h.length S && Nat.ble (mCat (S.drop y)) 8 && Nat.ble (mFr x + 1) (mFr k) && Nat.ble (8 + (mNL x + 11) + mLo x) (mLo k)) <;> rw [hb2] at hs <;> simp only [cond_true, cond_false] at hs
    · cases hs
    · simp only [Bool.and_eq_true] at hb2
      obtain ⟨⟨⟨⟨⟨⟨b0, b1⟩, b2⟩, b3⟩, b4⟩, b5⟩, b6⟩ := hb2
      have hy : y ≤ S.length := Nat.le_of_ble_eq_true b0
      cases hs
      have hst : S.map (trV ρ) = (((S.take y).reverse.map (trV ρ)).reverse) ++ (S.drop y).map (trV ρ) := by
        rw [List.map_reverse, List.reverse_reverse, ← List.map_append, List.take_append_drop]
      have hln : ∀ sig, parseMethodDescriptor (mY x).desc = some sig → ((S.take y).reverse.map (trV ρ)).length = sig.parameters.length := by
        intro sig h9
        rw [h9] at f3
        have h7 : sig.parameters.length = y := Option.some.inj f3
        simp only [List.length_map, List.length_reverse, List.length_take]
        omega
      refine hk (fun T hT X => ?_) hw hl rfl f1 (by simp only [List.length_reverse, List.length_take]; omega) (mOne_rev b1) b2 (mOkS_drop b3 y) (Nat.le_of_ble_eq_true b4) (Nat.le_of_ble_eq_true b5) (Nat.le_of_ble_eq_true b6) rfl ⟨_, hd⟩
      rcases f5 with f5 | ⟨host, f5⟩
      · exact xGoS X hx hown (hts _ f5) (hts _ f2) (hts _ f1.2.1) (mMeth_has hts f1) ⟨f1.2.2.1, f1.2.2.2.1⟩ rfl hln hst (by rw [hb]; exact hd)
      · exact xGoSN X hx hown (hvs _ f5) (hts _ f2) (hts _ f1.2.1) (mMeth_has hts f1) ⟨f1.2.2.1, f1.2.2.2.1⟩ rfl hln hst (by rw [hb]; exact hd)
  | invokevirtual j =>
    obtain ⟨f1, f2, f3, f4, f5, ⟨T0, N0, f6⟩, f7⟩ := hf
    simp only [mEx] at hs
    split at hs
    · rename_i a ha
      split at hs
      · rename_i ci fs hc
        cases hb2 : (Nat.beq ci (mCl x) && mOne (S.take (y + 1)) && mOkL h.length L && mOkS h.length S && Nat.ble (mCat (S.drop (y + 1))) 8 && Nat.ble (mFr x + 1) (mFr k) && Nat.ble (8 + (mNL x + 11) + mLo x) (mLo k)) <;> rw [hb2] at hs <;> simp only [cond_true, cond_false] at hs
        · cases hs
        · simp only [Bool.and_eq_true] at hb2
          obtain ⟨⟨⟨⟨⟨⟨b0, b1⟩, b2⟩, b3⟩, b4⟩, b5⟩, b6⟩ := hb2
          have e0 : ci = mCl x := Nat.eq_of_beq_eq_true b0
          subst e0
          have hy : y < S.length := (List.getElem?_eq_some_iff.mp ha).1
          cases hs
          have hS : S.take (y + 1) = S.take y ++ [.ref a] := by
            rw [List.take_succ, ha]; rfl
          have hS2 : S = S.take y ++ .ref a :: S.drop (y + 1) := by
            have := List.take_append_drop (y + 1) S
            rw [hS, List.append_assoc] at this
            exact this.symm
          have hav : ((S.take (y + 1)).reverse.map (trV ρ)).toArray = (Value.ref (ρ a) :: (S.take y).reverse.map (trV ρ)).toArray := by
            rw [hS]; simp [trV]
          have hst : S.map (trV ρ) = (((S.take y).reverse.map (trV ρ)).reverse) ++ .ref (ρ a) :: (S.drop (y + 1)).map (trV ρ) := by
            rw [List.map_reverse, List.reverse_reverse]
            conv => lhs; rw [hS2]
            simp [trV]
          have hln : ∀ sig, parseMethodDescriptor (mY x).desc = some sig → ((S.take y).reverse.map (trV ρ)).length = sig.parameters.length := by
            intro sig h9
            rw [h9] at f3
            have h7 : sig.parameters.length = y := Option.some.inj f3
            simp only [List.length_map, List.length_reverse, List.length_take]
            omega
          obtain ⟨cell, g1, g2, g3⟩ := va_recv hK hw.1 f6 (trH_get hc)
          refine hk (fun T hT X => ?_) hw hl rfl f1 (by simp only [List.length_reverse, List.length_take]; omega) (mOne_rev b1) b2 (mOkS_drop b3 (y + 1)) (Nat.le_of_ble_eq_true b4) (Nat.le_of_ble_eq_true b5) (Nat.le_of_ble_eq_true b6) rfl ⟨_, hd⟩
          rw [hav]
          exact xGoV X hx hown (hts _ f5) (hts _ f2) (hts _ f7) (mMeth_has hts f1) ⟨f1.2.2.1, f1.2.2.2.1⟩ (by rw [hT]; exact g1) g2 g3 rfl hln hst (by rw [hb]; exact hd)
      · cases hs
    · cases hs
  | ireturn =>
    simp only [mEx] at hs
    split at hs
    · rename_i v
      split at hs
      · rename_i hr1
        cases hs
        intro T hT X
        obtain ⟨t, a1, o, b1, b2, ⟨rfl, b4, b5⟩, L1, ⟨-, b7, b8⟩, b9⟩ := W.iret (Qc := fun _ _ o t => o = .returned (some (.int v)) ∧ t.heap = H ∧ s.WarmedH t.vm) (free := A) hx hb (hr.trans hr1) (fun t h1 h2 => ⟨rfl, h1, h2⟩) hw.2.2.1.2.2 hd hlk T hT X
        exact ⟨t, a1, hk.2 (by rintro w ⟨⟩ <;> exact ⟨_, rfl⟩) rfl t b1 b2 b4 b5 ⟨L1, b8, b9⟩ hw⟩
      · rename_i hr1
        cases hs
        have hv : v &&& 1 = v := of_decide_eq_true hk.1
        intro T hT X
        obtain ⟨t, a1, o, b1, b2, ⟨rfl, b4, b5⟩, L1, ⟨-, b7, b8⟩, b9⟩ := W.zret (Qc := fun _ _ o t => o = .returned (some (.int v)) ∧ t.heap = H ∧ s.WarmedH t.vm) (free := A) hx hb (hr.trans hr1) (by simp [narrow, hv]) (fun t h1 h2 => ⟨rfl, h1, h2⟩) hw.2.2.1.2.2 hd hlk T hT X
        exact ⟨t, a1, hk.2 (by rintro w ⟨⟩ <;> exact ⟨_, rfl⟩) rfl t b1 b2 b4 b5 ⟨L1, b8, b9⟩ hw⟩
      · cases hs
    · cases hs
  | return_ =>
    simp only [mEx] at hs
    split at hs
    · split at hs
      · rename_i hr1
        cases hs
        intro T hT X
        obtain ⟨t, a1, o, b1, b2, ⟨rfl, b4, b5⟩, L1, ⟨-, b7, b8⟩, b9⟩ := W.vret (Qc := fun _ _ o t => o = .returned none ∧ t.heap = H ∧ s.WarmedH t.vm) (free := A) hx hb (hr.trans hr1) (fun t h1 h2 => ⟨rfl, h1, h2⟩) hw.2.2.1.2.2 hd hlk T hT X
        exact ⟨t, a1, hk.2 (by rintro w ⟨⟩ <;> exact ⟨_, rfl⟩) rfl t b1 b2 b4 b5 ⟨L1, b8, b9⟩ hw⟩
      · cases hs
    · cases hs
  | newarray t =>
    simp only [mEx] at hs
    split at hs
    · rename_i n S0
      cases hb2 : (decide (¬ n < 0) && Nat.ble n.toNatClampNeg 1000 && mOkL h.length L && mOkS h.length S0 && mOkH h.length h && Nat.blt h.length 1000) <;> rw [hb2] at hs <;> simp only [cond_true, cond_false] at hs
      · cases hs
      · simp only [Bool.and_eq_true] at hb2
        obtain ⟨⟨⟨⟨⟨b0, b1⟩, b2⟩, b3⟩, b4⟩, b5⟩ := hb2
        have hn : ¬ n < 0 := of_decide_eq_true b0
        have hN : n.toNatClampNeg ≤ 1000 := Nat.le_of_ble_eq_true b1
        have hlt : h.length < 1000 := blt_lt b5
        have hext : ∀ q : Nat, (∀ i, i < h.length → (fun i => if i = h.length then q else ρ i) i = ρ i) ∧ (fun i => if i = h.length then q else ρ i) mSC = ρ mSC := by
          intro q
          refine ⟨fun i hi => ?_, ?_⟩
          · have : ¬ i = h.length := by omega
            simp [this]
          · have : ¬ mSC = h.length := by unfold mSC; omega
            simp [this]
        cases t with
        | int =>
          cases hs
          refine va_newa (D := D) hx hb (hts _ hf) rfl hK hw.1 hw.2.1 hw.2.2.1 hA (a0 := (n.toNatClampNeg, .inl fun _ => 0)) (fun cA => vp_cell_i cA _ _) hn rfl (by show _ * 4 ≤ _; omega) hk.1 hk.2.1 hd (fun q cA H1 k1 p1 p2 p3 => ?_)
          have ec : cA = dA 0 := Option.some.inj ((k1.2 3 _ rfl).2.symm.trans (hK.2 0 _ rfl).2)
          subst ec
          obtain ⟨x1, x2⟩ := hext q
          have eh : trH (fun i => if i = h.length then q else ρ i) dA (h ++ [.inl (0, n.toNatClampNeg, .inl fun _ => 0)]) = trH ρ dA h ++ [(q, .inl (dA 0, n.toNatClampNeg, .inl fun _ => 0))] := by
            rw [trH_push, trH_ext x1 x2 (Nat.le_refl _) b4]; simp [trC]
          have hk3 := hk.2.2 (by simp) (fun i => if i = h.length then q else ρ i) H1 locs ls x1 ⟨by rw [eh]; exact p1, by rw [eh]; exact p2, p3, by rw [x2]; exact hw.2.2.2⟩ (hl.ext b2 x1 x2)
          rw [List.map_cons, mOkS_tr b3 x1 x2] at hk3
          simpa [trV, mLen] using hk3
        | boolean =>
          cases hs
          refine va_newa (D := D) hx hb (hts _ hf) rfl hK hw.1 hw.2.1 hw.2.2.1 hA (a0 := (n.toNatClampNeg, .inl fun _ => 0)) (fun cA => vp_cell_i cA _ _) hn rfl (by show _ * 1 ≤ _; omega) hk.1 hk.2.1 hd (fun q cA H1 k1 p1 p2 p3 => ?_)
          have ec : cA = dA 1 := Option.some.inj ((k1.2 3 _ rfl).2.symm.trans (hK.2 1 _ rfl).2)
          subst ec
          obtain ⟨x1, x2⟩ := hext q
          have eh : trH (fun i => if i = h.length then q else ρ i) dA (h ++ [.inl (1, n.toNatClampNeg, .inl fun _ => 0)]) = trH ρ dA h ++ [(q, .inl (dA 1, n.toNatClampNeg, .inl fun _ => 0))] := by
            rw [trH_push, trH_ext x1 x2 (Nat.le_refl _) b4]; simp [trC]
          have hk3 := hk.2.2 (by simp) (fun i => if i = h.length then q else ρ i) H1 locs ls x1 ⟨by rw [eh]; exact p1, by rw [eh]; exact p2, p3, by rw [x2]; exact hw.2.2.2⟩ (hl.ext b2 x1 x2)
          rw [List.map_cons, mOkS_tr b3 x1 x2] at hk3
          simpa [trV, mLen] using hk3
        | long =>
          cases hs
          refine va_newa (D := D) hx hb (hts _ hf) rfl hK hw.1 hw.2.1 hw.2.2.1 hA (a0 := (n.toNatClampNeg, .inr (.inl fun _ => 0))) (fun cA => vp_cell_l cA _ _) hn rfl (by show _ * 8 ≤ _; omega) hk.1 hk.2.1 hd (fun q cA H1 k1 p1 p2 p3 => ?_)
          have ec : cA = dA 2 := Option.some.inj ((k1.2 3 _ rfl).2.symm.trans (hK.2 2 _ rfl).2)
          subst ec
          obtain ⟨x1, x2⟩ := hext q
          have eh : trH (fun i => if i = h.length then q else ρ i) dA (h ++ [.inl (2, n.toNatClampNeg, .inr (.inl fun _ => 0))]) = trH ρ dA h ++ [(q, .inl (dA 2, n.toNatClampNeg, .inr (.inl fun _ => 0)))] := by
            rw [trH_push, trH_ext x1 x2 (Nat.le_refl _) b4]; simp [trC]
          have hk3 := hk.2.2 (by simp) (fun i => if i = h.length then q else ρ i) H1 locs ls x1 ⟨by rw [eh]; exact p1, by rw [eh]; exact p2, p3, by rw [x2]; exact hw.2.2.2⟩ (hl.ext b2 x1 x2)
          rw [List.map_cons, mOkS_tr b3 x1 x2] at hk3
          simpa [trV, mLen] using hk3
        | _ => cases hs
    · cases hs
  | new j =>
    cases y with
    | zero =>
      obtain ⟨C, T0, N, f1, f2, f3, f4, f5, f6⟩ := hf
      have hs : (bif mOkL h.length L && mOkS h.length S && mOkH h.length h && Nat.blt h.length 1000 then some (.inr (.inr (.inr (.inr ((pc + 3, L, .ref h.length :: S, h ++ [.inr (x, mDef x)]), (mDef x).length))))) else none) = some r := hs
      cases hb2 : (mOkL h.length L && mOkS h.length S && mOkH h.length h && Nat.blt h.length 1000) <;> rw [hb2] at hs <;> simp only [cond_true, cond_false] at hs
      · cases hs
      · simp only [Bool.and_eq_true] at hb2
        obtain ⟨⟨⟨b2, b3⟩, b4⟩, b5⟩ := hb2
        have hlt : h.length < 1000 := blt_lt b5
        cases hs
        have hk1 := hk.1
        have hk2 := hk.2.1
        rw [f2] at hk2
        refine va_new (D := D) (Ts := mWs) hx hb hts (mLay f1) (mFT x) (mFTy f1) hown (hts _ f3) (hts _ f4) (hts _ f5) hK hw.1 hw.2.1 hw.2.2.1 hA f1 f6 hk1 hk2 hd (fun q H1 p1 p2 p3 => ?_)
        have x1 : ∀ i, i < h.length → (fun i => if i = h.length then q else ρ i) i = ρ i := fun i hi => by
          have : ¬ i = h.length := by omega
          simp [this]
        have x2 : (fun i => if i = h.length then q else ρ i) mSC = ρ mSC := by
          have : ¬ mSC = h.length := by unfold mSC; omega
          simp [this]
        have eh : trH (fun i => if i = h.length then q else ρ i) dA (h ++ [.inr (x, mDef x)]) = trH ρ dA h ++ [(q, .inr (x, mDef x))] := by
          rw [trH_push, trH_ext x1 x2 (Nat.le_refl _) b4]; simp [trC, mDef_tr]
        have hk3 := hk.2.2 (by simp) (fun i => if i = h.length then q else ρ i) H1 locs ls x1 ⟨by rw [eh]; exact p1, by rw [eh]; exact p2, p3, by rw [x2]; exact hw.2.2.2⟩ (hl.ext b2 x1 x2)
        rw [List.map_cons, mOkS_tr b3 x1 x2, f2] at hk3
        simpa [trV, mLen] using hk3
    | succ y =>
      have hs : (bif mNoH k && Nat.ble (mCat S) 6 && Nat.ble 6 (mFr k) && Nat.ble 100 (mLo k) then some (.inr (.inr (.inl (true, .inr x, h)))) else none) = some r := hs
      cases hb2 : (mNoH k && Nat.ble (mCat S) 6 && Nat.ble 6 (mFr k) && Nat.ble 100 (mLo k)) <;> rw [hb2] at hs <;> simp only [cond_true, cond_false] at hs
      · cases hs
      · cases hs
        simp only [Bool.and_eq_true] at hb2
        obtain ⟨⟨⟨b0, b1⟩, b2⟩, b3⟩ := hb2
        have g1 : mCat S ≤ 6 := Nat.le_of_ble_eq_true b1
        have g2 : 6 ≤ mFr k := Nat.le_of_ble_eq_true b2
        have g3 : 100 ≤ mLo k := Nat.le_of_ble_eq_true b3
        obtain ⟨is, ic, text, ix, rx, d3, d4, d6, d9, f1, f2, f3, f4, r0, r1, r2, r5, f5⟩ := hf
        obtain ⟨-, k1, k2, k3⟩ := hk
        have hout : ∀ z ∈ c.exceptionTable.toList, covers z (pc + 9) = false := by
          have h0 : mHH k = [] := by simpa [mNoH] using b0
          rw [h0] at hexc
          have : c.exceptionTable.toList = [] := List.map_eq_nil_iff.mp hexc
          rw [this]; intro z hz; cases hz
        have hall : ∀ w ∈ xAll (mY k).cls ic (mXn x) ix rx, w.before args s = true := fun w hw9 => (f5 w hw9).elim (hts w) (hvs w)
        have hins : (Jvm.Cond.instantiable (mXn x) 6).before args s = true := hall _ (by simp [xAll])
        refine W.newc hx hb hown (hts _ f2) hins (hts _ f3) (g := F0 m pc ls (S.map (trV ρ))) rfl hd k1 k2 (fun cC kC q1 q2 q3 q4 => ?_)
        refine lv_dup (pc := pc + 3) hx hb d3 rfl ?_
        intro T hT X
        obtain ⟨-, -, -, sa, -, -, -, -, -, hev⟩ := Cond.stringRef_spec hown (hvs _ f1)
        have st1 := X.ldcString hx hown (hvs _ f1) hev (g := F0 m (pc + 3 + 1) ls (.ref H.size :: .ref H.size :: S.map (trV ρ))) rfl (by rw [hb]; exact d4)
        have hsz : s.heap.size ≤ H.size := hw.2.2.1.1
        obtain ⟨U, ce, w1, w2, w3, w4, w5, w6, w7, w8⟩ := xThrow X hx hst hown f4 r0 r1 r2 r5 hall hZ (fun z hz cell hc9 => hAs z.base cell (hw.2.2.1.2.2 z hz) hc9) (a := H.size) q1 q2 (by rw [hT]; simp) hsz (msg := .ref sa) rfl (g := F0 m (pc + 6) ls (.ref sa :: .ref H.size :: .ref H.size :: S.map (trV ρ))) rfl (by rw [hml]; exact hl.1.1) rfl rfl rfl (by rw [hb]; exact d6) (by rw [hb]; exact d9) hout (by omega) (by
          show 2 * 0 + (1 + ((S.map (trV ρ)).map fun v => v.category).sum) + 81 ≤ _
          rw [mCat_tr]; omega) hlk
        have hU : ∀ q : Nat, q < H.size → U.heap[q]? = H[q]? := by
          intro q hq
          have hne : ¬ H.size = q := by omega
          rw [w6, hT, Array.getElem?_setIfInBounds_ne hne, Array.getElem?_push, if_neg (fun z => hne z.symm)]
        have hUa : U.heap[H.size]? = some ce := by
          rw [w6, hT]; simp
        refine ⟨U, st1 _ w1, k3 rfl U H.size ce w2 w3 hUa w7 w8 w4 ⟨locs, w5, hw.2.2.1.2.2⟩ ⟨hw.1.kept (fun k q hq => hU _ (hw.1 k q hq).lt), hw.2.1, ⟨?_, fun q z1 z2 => ?_, hw.2.2.1.2.2⟩, hw.2.2.2⟩⟩
        · rw [w6, hT]; simp; omega
        · rw [hU q (by omega)]; exact hw.2.2.1.2.1 q z1 z2
  | _ => cases hs
end SNS
end
section
theorem va_at_plain {D : va_G} {cl : List vw_C} {q : Nat × va_E} {H : Heap} {cell : Cell} (h : va_at D cl q H) (hc : H[q.1]? = some cell) : cell.vm.isStatics = false := by
  obtain ⟨a, e⟩ := q
  cases e with
  | inl x =>
    obtain ⟨cA, n, f | f | f | f | f⟩ := x <;>
    · have h' : H[a]? = some (vp_cell _ _) := h
      rw [h'] at hc
      cases hc
      rfl
  | inr o =>
    obtain ⟨r, -, c9, g1, g2, g3, -⟩ := h
    rw [g1] at hc
    cases hc
    rw [g3]; rfl
section SMN
variable {D : va_G} {dA : Nat → ClassId} {b Ls : Nat} {xs : Nat → Int32}
/-- how a run of the small machine and the end of a call of the machine belong together -/
def Oc (r : mO) (vm : Vm) (o : Outcome) (t : State) : Prop :=
  match r with
  | .inl v => o = .returned v ∧ ∀ w, v = some w → ∃ z : Int32, w = .int z
  | .inr j => ∃ a cell, o = .threw a ∧ t.heap[a]? = some cell ∧ cell.vm = .none ∧ vm.findClass (mXn j) = some cell.cls
def mA (ρ : Nat → Nat) (n : Nat) (sz : Nat) : Nat → Prop := fun q => (∃ i, i < n ∧ q = ρ i) ∨ sz ≤ q
def Pcc (D : va_G) (dA : Nat → ClassId) (b Ls : Nat) (xs : Nat → Int32) (ρ : Nat → Nat) (av : List Value) (h : mH) : Array Value → State → Prop := fun v U =>
  v = (av.map (trV ρ)).toArray ∧ va_P D mCls (trH ρ dA h) U.heap ∧ va_K D mCls (mTys dA) U ∧ va_D (fun q => q ≠ b) (trH ρ dA h) ∧ ρ mSC = b ∧ va_X b Ls xs U U.heap ∧ xZ U ∧ ∀ w ∈ mVs, w.before #[] U = true
def Qcc (D : va_G) (dA : Nat → ClassId) (b : Nat) (ρ : Nat → Nat) (h : mH) (r : mR) : Array Value → State → Outcome → State → Prop := fun _ st o t =>
  Oc r.1 st.vm o t ∧ (∃ ρ', (∀ i, i < h.length → ρ' i = ρ i) ∧ h.length ≤ r.2.1.length ∧ va_P D mCls (trH ρ' dA r.2.1) t.heap ∧ va_D (mA ρ h.length st.heap.size) (trH ρ' dA r.2.1) ∧ ρ' mSC = b) ∧ va_F (mA ρ h.length st.heap.size) st t
/-- what a walk from a point owes -/
def Sd (l : Launch) (D : va_G) (dA : Nat → ClassId) (b Ls : Nat) (xs : Nat → Int32) (k : Nat) (st : mS) (r : mR) : Prop :=
  ∀ (p : Program) (e : Env) (R : Room) (s : State) (m : MethodId) (args : Array Value) (below : List Frame) (meth : Method) (c : Code) (H : Heap) (locs : List Loc) (cells slots : Nat) (Q : State → Prop) (A : Nat → Prop) (ρ : Nat → Nat) (ls : Array Slot),
    Cx D dA b Ls xs A p s m args meth c k → mFr k ≤ R.frames ∧ mLo k ≤ R.locals → cells + r.2.2.1 ≤ R.cells ∧ slots + r.2.2.2 ≤ R.slots → Wp D dA b A s ρ st.2.2.2 H locs → LR ρ ls (mNL k) st.2.1 →
    (∀ (t : State) (o : Outcome) (ρ' : Nat → Nat) (locs' : List Loc), t.status = .running → Ended t below o → Oc r.1 s.vm o t → s.WarmedH t.vm → (∃ L, s.sameButNew ({ t with vm := s.vm } : State) L (cells + r.2.2.1) (slots + r.2.2.2) ∧ ∀ q ∈ L, A q.base) → (∀ i, i < st.2.2.2.length → ρ' i = ρ i) → st.2.2.2.length ≤ r.2.1.length → Wp D dA b A s ρ' r.2.1 t.heap locs' → Q t) →
    W p l e R s m args below meth c H locs cells slots Q (F0 m st.1 ls (st.2.2.1.map (trV ρ)))
set_option maxHeartbeats 4000000 in
/-- a method's contract out of its body's walk -/
theorem Sd.met {l : Launch} {k : Nat} {av : List Value} {h : mH} {r : mR} (hd : Sd l D dA b Ls xs k (mEnt k av h) r) (hk : mMeth k) (hn : av.length ≤ mNL k) (h1 : mOne av = true) (ρ : Nat → Nat) :
    xMet l (mY k) mWs { frames := mFr k, cells := r.2.2.1, slots := r.2.2.2, locals := mLo k } (Pcc D dA b Ls xs ρ av h) (Qcc D dA b ρ h r) (fun st => mA ρ h.length st.heap.size) := by
  refine MetFree.of_bodyS (code := mBy k) (maxLocals := mNL k) (ret := mRet k) hk.2.2.2.2 ?_ ?_
  · intro args s m hp hn
    obtain ⟨mk, methM, cM, h0, h1, h2, h3, h4, -, h5, h6, -⟩ := mMeth_has (atoms_spec (ws := mWs) hp) hk
    cases hn.symm.trans h0
    exact ⟨methM, cM, h1, h2, h3, h4, h5, h6⟩
  · intro p e s m args below meth c s₁ B hml hP _
    obtain ⟨rfl, hP, hK, hD, hb, hX, hZ, hV⟩ := hP
    have hts := atoms_spec (ws := mWs) B.pre
    obtain ⟨mk, methM, cM, g0, g1, g2, g3, g4, g5, g6, g7, -⟩ := mMeth_has hts hk
    cases B.named.symm.trans g0
    cases B.method.symm.trans g1
    have X := Stand.of_body B
    cases X.code.symm.trans g2
    obtain ⟨scr, hscr, hscr2⟩ := id hX
    have hbl : b < s.heap.size := (Array.getElem?_eq_some_iff.mp hscr).1
    have hρ : ∀ i, i < h.length → ρ i ≠ b := by
      intro i hi
      exact hD.2 i _ (trH_get (List.getElem?_eq_getElem hi))
    have hnA : ¬ mA ρ h.length s.heap.size b := by
      rintro (⟨i, hi, e⟩ | h9)
      · exact hρ i hi e.symm
      · omega
    have hAs : ∀ (q : Nat) (cell : Cell), mA ρ h.length s.heap.size q → s.heap[q]? = some cell → cell.vm.isStatics = false := by
      rintro q cell (⟨i, hi, rfl⟩ | h9) hc
      · exact va_at_plain (hP i _ (trH_get (List.getElem?_eq_getElem hi))) hc
      · exact absurd (Array.getElem?_eq_some_iff.mp hc).1 (by omega)
    have hC : Cx D dA b Ls xs (mA ρ h.length s.heap.size) p s m _ meth c k := ⟨B.exec, B.bytes, hml, findClass_of_methodNamed B.named, hts, fun w hw => mV_move (mVs_k w hw) (State.WarmedH.refl s) (hV w hw), hK, hX, hbl, hnA, fun q hq => Or.inr hq, B.returns, B.notSynchronized, (name_of_methodNamed B.named B.method).1, g5, hZ, hAs⟩
    have hW : Wp D dA b (mA ρ h.length s.heap.size) s ρ h s.heap [] := ⟨hP, ⟨hD.1, fun i q hq => by
      obtain ⟨c0, h9, rfl⟩ := trH_inv hq
      exact Or.inl ⟨i, (List.getElem?_eq_some_iff.mp h9).1, rfl⟩⟩, va_S.rf, hb⟩
    have hh0 : s₁.heap = s.heap := by rw [B.state]; rfl
    have key := hd p e (headSpec mWs { frames := mFr k, cells := r.2.2.1, slots := r.2.2.2, locals := mLo k }).room s m _ below meth c s.heap [] 0 0 (fun t => ∃ o, t.status = .running ∧ Ended t below o ∧ xQ (Qcc D dA b ρ h r) r.2.2.1 r.2.2.2 (fun st => mA ρ h.length st.heap.size) (av.map (trV ρ)).toArray s o t) (mA ρ h.length s.heap.size) ρ _ hC ⟨Nat.le_refl _, Nat.le_refl _⟩ ⟨by rw [Nat.zero_add]; exact Nat.le_refl _, by rw [Nat.zero_add]; exact Nat.le_refl _⟩ hW (LR.entry hn h1) (fun t o ρ' locs' a1 a2 a3 a4 a5 a6 a7 a8 => by
      rw [Nat.zero_add, Nat.zero_add] at a5
      exact ⟨o, a1, a2, ⟨a3, ⟨ρ', a6, a7, a8.1, a8.2.1, a8.2.2.2⟩, a8.2.2.1.1, a8.2.2.1.2.1⟩, a4, a5⟩)
    rw [lg_entry_eq]
    obtain ⟨t, a1, o, b1, b2, b3⟩ := key s₁ hh0 X
    exact ⟨t, o, a1, b1, b2, b3⟩
set_option maxHeartbeats 8000000 in
theorem sMain {l : Launch} (hst : l.stackTraces = false) : ∀ (n k : Nat) (st : mS) (r : mR), mGo Ls xs n k st = some r → Sd l D dA b Ls xs k st r := by
  intro n
  induction n with
  | zero => intro k st r h; simp [mGo] at h
  | succ n ih =>
    intro k st r hgo
    obtain ⟨pc, L, S, h⟩ := st
    intro p e R s m args below meth c H locs cells slots Q A ρ ls hC hR hcs hw hlr hE
    dsimp only at hw hlr hE ⊢
    rw [mGo] at hgo
    cases hx0 : mStep Ls xs k (pc, L, S, h) with
    | none => rw [hx0] at hgo; cases hgo
    | some x0 =>
      rw [hx0] at hgo
      obtain ⟨i, nx, x, y, hcode, hex⟩ : ∃ i nx x y, mCode k pc = some (i, nx, x, y) ∧ mEx Ls xs k i nx x y pc L S h = some x0 := by
        cases hcd : mCode k pc with
        | none => simp only [mStep, hcd] at hx0; cases hx0
        | some q =>
          obtain ⟨i, nx, x, y⟩ := q
          simp only [mStep, hcd] at hx0
          exact ⟨i, nx, x, y, rfl, hx0⟩
      refine sStep hst (mFacts hcode) hC hex hR hw hlr ?_
      rcases x0 with ⟨pc', L', S', h'⟩ | ⟨cnd, ⟨pc', L', S', h'⟩, o⟩ | ⟨f, o, h'⟩ | ⟨k', av, pc', L', S', h'⟩ | ⟨⟨pc', L', S', h'⟩, z⟩
      · intro hlen H' locs' ls' hw' hlr'
        exact ih k _ r hgo p e R s m args below meth c H' locs' cells slots Q A ρ ls' hC hR hcs hw' hlr' (fun t o ρ' locs2 a1 a2 a3 a4 a5 a6 a7 a8 => hE t o ρ' locs2 a1 a2 a3 a4 a5 (fun i hi => a6 i (by dsimp only; omega)) (by dsimp only at a7; omega) a8)
      · refine ⟨fun hc hlen H' locs' ls' hw' hlr' => ?_, fun hc => ?_⟩
        · subst hc
          exact ih k _ r hgo p e R s m args below meth c H' locs' cells slots Q A ρ ls' hC hR hcs hw' hlr' (fun t o ρ' locs2 a1 a2 a3 a4 a5 a6 a7 a8 => hE t o ρ' locs2 a1 a2 a3 a4 a5 (fun i hi => a6 i (by dsimp only; omega)) (by dsimp only at a7; omega) a8)
        · subst hc
          cases o with
          | none => cases hgo
          | some q =>
            obtain ⟨pc2, L2, S2, h2⟩ := q
            intro hlen H' locs' ls' hw' hlr'
            exact ih k _ r hgo p e R s m args below meth c H' locs' cells slots Q A ρ ls' hC hR hcs hw' hlr' (fun t o ρ' locs2 a1 a2 a3 a4 a5 a6 a7 a8 => hE t o ρ' locs2 a1 a2 a3 a4 a5 (fun i hi => a6 i (by dsimp only; omega)) (by dsimp only at a7; omega) a8)
      · cases f with
        | false => rcases o with v | j <;> cases hgo
        | true =>
          rcases o with v | j
          · cases hgo
            exact ⟨rfl, fun hv hlen t a1 a2 a3 a4 a5 a6 => hE t _ ρ locs a1 a2 ⟨rfl, hv⟩ a4 a5 (fun _ _ => rfl) (by dsimp only; omega) (by rw [a3]; exact a6)⟩
          · cases hgo
            exact ⟨rfl, hcs.1, hcs.2, fun hlen t a cell a1 a2 a3 a4 a5 a6 a7 a8 => hE t _ ρ locs a1 a2 ⟨a, cell, rfl, a3, a4, a5⟩ a6 a7 (fun _ _ => rfl) (by dsimp only; omega) a8⟩
      · intro hgoT hwc hlc hlen hM hnl hone hokL hokS hcat hfr hlo hpc hdec
        obtain ⟨ig, hdec⟩ := hdec
        obtain ⟨hx, hbb, hml, hown, hts, hvs, hK, hX, hbl, hbA, hA, hr, hlk, hnm, hexc, hZ, hAs⟩ := id hC
        subst hpc
        dsimp only at hgo
        cases hg : mGo Ls xs n k' (mEnt k' av h') with
        | none => rw [hg] at hgo; cases hgo
        | some q =>
          rw [hg] at hgo
          obtain ⟨o', h2, c2, s2⟩ := q
          have hmet := (ih k' _ _ hg).met hM hnl hone ρ
          have hcnt : cells + c2 ≤ R.cells ∧ slots + s2 ≤ R.slots := by
            cases o' with
            | inl v =>
              obtain ⟨r0, hr0, rfl⟩ := Option.map_eq_some_iff.mp hgo
              simp only [mAdd] at hcs
              exact ⟨by omega, by omega⟩
            | inr j =>
              dsimp only at hgo
              split at hgo
              · cases hgo; exact hcs
              · split at hgo
                · obtain ⟨r0, hr0, rfl⟩ := Option.map_eq_some_iff.mp hgo
                  simp only [mAdd] at hcs
                  exact ⟨by omega, by omega⟩
                · cases hgo
          intro T hT X
          obtain ⟨mk, vm1, hnamed, X1, hsteps⟩ := hgoT T hT X
          have hW1 : s.WarmedH (T.setVm vm1).vm := X1.warmed
          have hnU : (T.setVm vm1).methodNamed? (mY k') = some mk := X1.named hnamed
          have hall : ∀ w ∈ mWs, ∀ a, w.before a (T.setVm vm1) = true := fun w hw9 a => word_at hW1 (mGood w hw9) (hts w hw9)
          have hPc : Pcc D dA b Ls xs ρ av h' (av.map (trV ρ)).toArray ((T.setVm vm1).calling { F0 m pc ls (S.map (trV ρ)) with stack := S'.map (trV ρ) } mk (av.map (trV ρ)).toArray) := by
            refine ⟨rfl, ?_, va_K.moved hW1.alike hK, ⟨hwc.2.1.1, fun i q hq h9 => hbA (h9 ▸ hwc.2.1.2 i q hq)⟩, hwc.2.2.2, ?_, ?_, fun w hw9 => mV_move (mVs_k w hw9) hW1 (hvs w hw9)⟩
            · show va_P D mCls (trH ρ dA h') T.heap
              rw [hT]; exact hwc.1
            · show va_X b Ls xs _ T.heap
              rw [hT]
              exact va_X.moved hW1.alike (hX.kept (hwc.2.2.1.2.1 b hbl hbA))
            · refine hZ.move hW1.alike (fun q cell hq hs9 => ?_)
              show T.heap[q]? = some cell
              rw [hT, hwc.2.2.1.2.1 q (Array.getElem?_eq_some_iff.mp hq).1 (fun z => by have := hAs q cell z hq; rw [hs9] at this; cases this)]
              exact hq
          obtain ⟨o3, t, U', L3, X3, hL3, e1, e2, hq, st3⟩ := xCall X1 hmet (g := { F0 m pc ls (S.map (trV ρ)) with stack := S'.map (trV ρ) }) rfl (by rw [hml]; exact hlr.1.1) (by rw [hbb]; exact hdec) (mMeth_has (fun w hw9 => hall w hw9 #[]) hM) hnU (a := (av.map (trV ρ)).toArray) (hall _ hM.2.1 _) (by show mFr k' + 1 ≤ R.frames; omega) (by show 2 * 0 + _ + (mNL k' + 11) + mLo k' ≤ R.locals; rw [mCat_tr]; omega) hcnt.1 hcnt.2 (atoms_intro fun w hw9 => hall w hw9 _) hPc
          obtain ⟨q1, ⟨ρ', r1, r2, r3, r4, r5⟩, hF1, hF2⟩ := hq
          have hUh : ((T.setVm vm1).calling { F0 m pc ls (S.map (trV ρ)) with stack := S'.map (trV ρ) } mk (av.map (trV ρ)).toArray).heap = H := hT
          rw [hUh] at r4 hF1 hF2
          have hsz : s.heap.size ≤ H.size := hwc.2.2.1.1
          have hmA : ∀ q, mA ρ h'.length H.size q → A q := by
            rintro q (⟨i, hi, rfl⟩ | h9)
            · exact hwc.2.1.2 i _ (trH_get (List.getElem?_eq_getElem hi))
            · exact hA q (by omega)
          have hL4 : ∀ q ∈ L3, A q.base := fun q hq9 => hmA _ (by have := hL3 q hq9; dsimp only at this; rwa [hUh] at this)
          have hS3 : va_S A s.heap U'.heap (locs ++ L3) := by
            refine ⟨by rw [e1]; omega, fun q g1 g2 => ?_, fun q hq9 => ?_⟩
            · rw [e1, hF2 q (by omega) (fun z => g2 (hmA q z))]
              exact hwc.2.2.1.2.1 q g1 g2
            · rcases List.mem_append.mp hq9 with h9 | h9
              · exact hwc.2.2.1.2.2 q h9
              · exact hL4 q h9
          have hw3 : Wp D dA b A s ρ' h2 U'.heap (locs ++ L3) := ⟨by rw [e1]; exact r3, ⟨r4.1, fun i q hq9 => hmA _ (r4.2 i q hq9)⟩, hS3, r5⟩
          have hsc : ρ' mSC = ρ mSC := by rw [r5, hwc.2.2.2]
          cases o' with
          | inl v =>
            obtain ⟨rfl, hv⟩ := q1
            obtain ⟨r0, hr0, rfl⟩ := Option.map_eq_some_iff.mp hgo
            simp only [mAdd] at hcs hE
            have hvm : (v.toList ++ S').map (trV ρ') = v.toList ++ S'.map (trV ρ) := by
              rw [List.map_append, mOkS_tr hokS r1 hsc]
              congr 1
              cases v with
              | none => rfl
              | some w => obtain ⟨z, rfl⟩ := hv w rfl; rfl
            have key := ih k _ r0 hr0 p e R s m args below meth c U'.heap (locs ++ L3) (cells + c2) (slots + s2) Q A ρ' ls hC hR ⟨by omega, by omega⟩ hw3 (hlc.ext hokL r1 hsc) (fun t o ρ2 locs2 a1 a2 a3 a4 a5 a6 a7 a8 => hE t o ρ2 locs2 a1 a2 a3 a4 (by rw [← Nat.add_assoc, ← Nat.add_assoc]; exact a5) (fun i hi => (a6 i (by dsimp only at r2 ⊢; omega)).trans (r1 i (by omega))) (by dsimp only at a7 r2 ⊢; omega) a8)
            dsimp only at key
            rw [hvm] at key
            obtain ⟨t9, w1, w2⟩ := key U' rfl X3
            exact ⟨t9, hsteps _ (st3.trans w1), w2⟩
          | inr j =>
            obtain ⟨a, cell, rfl, c1, c3, c4⟩ := q1
            have st4 : Steps p.tables e below _ ((U'.setTop { F0 m pc ls (S.map (trV ρ)) with stack := S'.map (trV ρ) }).pushFrame (.throwing a)) := st3
            have c4' : s.vm.findClass (mXn j) = some cell.cls := by rw [← hW1.alike.findClass]; exact c4
            dsimp only at hgo
            split at hgo
            · rename_i hhh
              cases hgo
              have hout : ∀ x ∈ c.exceptionTable.toList, covers x pc = false := by
                rw [hhh] at hexc
                have : c.exceptionTable.toList = [] := List.map_eq_nil_iff.mp hexc
                rw [this]; intro x hx9; cases hx9
              obtain ⟨y1, y2, y3, y4, y5⟩ := X3.leaveThrown a (g := { F0 m pc ls (S.map (trV ρ)) with stack := S'.map (trV ρ) }) rfl rfl rfl hout hlk
              refine ⟨_, hsteps _ (st4.trans y1), hE _ (.threw a) ρ' (locs ++ L3) y2 y3 ⟨a, cell, rfl, by show U'.heap[a]? = _; rw [e1]; exact c1, c3, c4'⟩ y4 ⟨locs ++ L3, y5, hS3.2.2⟩ (fun i hi => r1 i (by omega)) (by dsimp only at r2 ⊢; omega) hw3⟩
            · split at hgo
              · rename_i q i hhn
                obtain ⟨r0, hr0, rfl⟩ := Option.map_eq_some_iff.mp hgo
                simp only [mAdd] at hcs hE
                rw [Nat.add_sub_cancel] at hhn
                obtain ⟨qh, hst2, hil, htk⟩ := mCatch hhn
                have hpl : e.platform.magicAccessors = ({} : Platform).magicAccessors := by rw [X.admits.platform]
                have htk2 : xTakes e s m.cls pc cell.cls qh c.exceptionTable.toList := mTk_takes hpl hown hts hvs c4' _ (by rw [hexc]; exact htk)
                obtain ⟨k9, hk9, -⟩ := Vm.findClass_spec c4'
                obtain ⟨vm3, X4, hcatch⟩ := xCatch X3 (a := a) (g := { F0 m pc ls (S.map (trV ρ)) with stack := S'.map (trV ρ) }) rfl (by rw [e1]; exact c1) (by rw [c3]; rfl) hk9 htk2
                have hlr3 := hlc.ext hokL r1 hsc
                have fin : ∀ ls' : Array Slot, lv_has ls' (mNL k) ((i, Value.ref a) :: (lpm ρ' L').filter (fun q => !(q.1 == i) && !(q.1 + 1 == i && q.2.category == 2))) → W p l e R s m args below meth c U'.heap (locs ++ L3) (cells + c2) (slots + s2) Q (F0 m q ls' []) := by
                  intro ls' h'
                  exact ih k _ r0 hr0 p e R s m args below meth c U'.heap (locs ++ L3) (cells + c2) (slots + s2) Q A ρ' ls' hC hR ⟨by omega, by omega⟩ hw3 (hlr3.drop h') (fun t o ρ2 locs2 a1 a2 a3 a4 a5 a6 a7 a8 => hE t o ρ2 locs2 a1 a2 a3 a4 (by rw [← Nat.add_assoc, ← Nat.add_assoc]; exact a5) (fun i hi => (a6 i (by dsimp only at r2 ⊢; omega)).trans (r1 i (by omega))) (by dsimp only at a7 r2 ⊢; omega) a8)
                have key : W p l e R s m args below meth c U'.heap (locs ++ L3) (cells + c2) (slots + s2) Q (F0 m qh ls [.ref a]) := by
                  rcases hst2 with ⟨hd2, rfl⟩ | ⟨f, hd2, hfi, rfl⟩
                  · exact lv_astore hx hbb hd2 hlr3.1 hil rfl fin
                  · exact lv_astore_n hx hbb hd2 hfi hlr3.1 hil rfl fin
                obtain ⟨t9, w1, w2⟩ := key (U'.setVm vm3) rfl X4
                exact ⟨t9, hsteps _ (st4.trans (hcatch _ w1)), w2⟩
              · cases hgo
      · obtain ⟨r0, hr0, rfl⟩ := Option.map_eq_some_iff.mp hgo
        simp only [mAdd] at hcs hE
        refine ⟨by omega, by omega, fun hlen ρ' H' locs' ls' hρ hw' hlr' => ?_⟩
        refine ih k _ r0 hr0 p e R s m args below meth c H' locs' (cells + 1) (slots + z) Q A ρ' ls' hC hR ⟨by omega, by omega⟩ hw' hlr' (fun t o ρ2 locs2 a1 a2 a3 a4 a5 a6 a7 a8 => hE t o ρ2 locs2 a1 a2 a3 a4 ?_ (fun i hi => (a6 i (by dsimp only; omega)).trans (hρ i hi)) (by dsimp only at a7; omega) a8)
        rw [← Nat.add_assoc, ← Nat.add_assoc]
        exact a5
end SMN
end
section
/-! the law's start -/
def mLawOk : Prop := ∀ (L : Nat) (xs : Nat → Int32), L ≤ 2048 → ∃ (h : mH) (kc ks : Nat), mEv L xs 99 (mEnt 99 [.ref mSC] []) (.inl (some (.int 1)), h, kc, ks) ∧ kc ≤ 647313 ∧ ks ≤ 7154165
def R_law : String := "ClusterVolumeLaw"
def lw_P (b : Addr) (xs : List Int32) (args : Array Value) (s : State) : Prop := args = #[.ref b] ∧ s.IntsAt b xs ∧ xs.length ≤ 2048 ∧ (Jvm.Cond.and given_1 narrow_1).before args s = true
def lw_Q (_ : Array Value) (s : State) (o : Outcome) (t : State) : Prop := o = .returned (some (.int 1)) ∧ Framed s o t [] 647313 7154165
def lw_Z (below : List Frame) (a : Array Value) (s : State) : State → Prop := fun t => ∃ o, t.status = .running ∧ Ended t below o ∧ lw_Q a s o t
def lw_At (p : Program) (s : State) (m : MethodId) (meth : Method) (c : Code) (b L : Nat) (xs : Nat → Int32) : Prop :=
  p.tables.exec = Jvm.exec ∧ c.code = code ∧ meth.sig.returnType = ret ∧ c.maxLocals = 7 ∧ s.vm.findClass R_law = some m.cls ∧ (∀ w ∈ lw_tbl, w.before #[Value.ref b] s = true) ∧ va_X b L xs s s.heap ∧ b < s.heap.size ∧ meth.locks = false ∧ (Jvm.Cond.and given_1 narrow_1).before #[Value.ref b] s = true
theorem mNcs_flat : ∀ w ∈ mNcs, w ∈ flatC (Jvm.Cond.and given_1 narrow_1) := by decide +kernel
theorem xS3_flat : xS3 ∈ flatC (Jvm.Cond.and given_1 narrow_1) := by decide +kernel
theorem xS4_flat : xS4 ∈ flatC (Jvm.Cond.and given_1 narrow_1) := by decide +kernel
theorem xS1_tbl : xS1 ∈ lw_tbl := by decide +kernel
theorem xS2_tbl : xS2 ∈ lw_tbl := by decide +kernel
theorem mArr {args : Array Value} {s : State} {ty : FieldType} (h : (Jvm.Cond.arrayClass ty).before args s = true) (hp : ty = .int ∨ ty = .boolean ∨ ty = .long) : ∃ cA : ClassId, ArrOfT s cA ty ∧ va_RA s cA ty := by
  obtain ⟨c, k, comp, h1, h2, h3⟩ := Cond.arrayClass_spec h
  refine ⟨c, fun n z => ⟨fun k h => (by cases h), k, h2, comp, h3⟩, ?_⟩
  rcases hp with rfl | rfl | rfl <;> exact h1
set_option maxRecDepth 100000 in
set_option maxHeartbeats 4000000 in
theorem start_of (hm : mLawOk) {p : Program} {e : Env} {s : State} {m : MethodId} {below : List Frame} {meth : Method} {c : Code} (l : Launch) (hst : l.stackTraces = false) (hnm : meth.name = "law") (hexc : c.exceptionTable.toList = []) {b L : Nat} {xs : Nat → Int32} (hL : L ≤ 2048) (C0 : lw_At p s m meth c b L xs) : W p l e room_1 s m #[Value.ref b] below meth c s.heap [] 0 0 (lw_Z below #[Value.ref b] s) (entryFrame m ([Value.ref b] : List Value).toArray 7) := by
  obtain ⟨hx, hb, hr, hml, hown, hts, hX, hbl, hlk, hgv⟩ := C0
  have hfl := flat_of_before _ hgv
  obtain ⟨h', kc, ks, ⟨n, hn⟩, hkc, hks⟩ := hm L xs hL
  have hW0 : ∀ w ∈ mWs, w.before #[Value.ref b] s = true := fun w hw => hts w (List.mem_filter.mp hw).1
  have hV0 : ∀ w ∈ mVs, w.before #[Value.ref b] s = true := by
    intro w hw
    rcases List.mem_append.mp hw with h | h
    · exact hts w (List.mem_filter.mp h).1
    · exact hfl w (mNcs_flat w h)
  obtain ⟨c0, i0, K0⟩ := u_known hW0 mLay0 (hW0 (.instantiable "ClusterVolume" 4) (by decide +kernel))
  obtain ⟨c1, i1, K1⟩ := u_known hW0 mLay1 (hW0 (.instantiable "ClusterVolume$Disk" 4) (by decide +kernel))
  obtain ⟨c2, i2, K2⟩ := u_known hW0 mLay2 (hW0 (.instantiable "ClusterVolumeModel" 9) (by decide +kernel))
  obtain ⟨a0, A0, B0⟩ := mArr (hW0 (.arrayClass .int) (by decide +kernel)) (Or.inl rfl)
  obtain ⟨a1, A1, B1⟩ := mArr (hW0 (.arrayClass .boolean) (by decide +kernel)) (Or.inr (Or.inl rfl))
  obtain ⟨a2, A2, B2⟩ := mArr (hW0 (.arrayClass .long) (by decide +kernel)) (Or.inr (Or.inr rfl))
  have hK : va_K ((fun i => match i with | 0 => c0 | 1 => c1 | _ => c2), (fun i => match i with | 0 => i0 | 1 => i1 | _ => i2)) mCls (mTys (fun i => match i with | 0 => a0 | 1 => a1 | _ => a2)) s := by
    refine ⟨fun i q hq => ?_, fun i q hq => ?_⟩
    · match i, hq with
      | 0, hq => cases hq; exact K0
      | 1, hq => cases hq; exact K1
      | 2, hq => cases hq; exact K2
      | i + 3, hq => cases hq
    · match i, hq with
      | 0, hq => cases hq; exact ⟨A0, B0⟩
      | 1, hq => cases hq; exact ⟨A1, B1⟩
      | 2, hq => cases hq; exact ⟨A2, B2⟩
      | i + 3, hq => cases hq
  have hZ : xZ s := by
    have z1 := xS_move (a' := #[]) (hts _ xS1_tbl) (hfl _ xS3_flat) (Vm.Alike.refl s.vm) (fun _ _ q _ => q)
    have z2 := xS_move (a' := #[]) (hts _ xS2_tbl) (hfl _ xS4_flat) (Vm.Alike.refl s.vm) (fun _ _ q _ => q)
    exact ⟨z1, z2⟩
  have hC : Cx ((fun i => match i with | 0 => c0 | 1 => c1 | _ => c2), (fun i => match i with | 0 => i0 | 1 => i1 | _ => i2)) (fun i => match i with | 0 => a0 | 1 => a1 | _ => a2) b L xs (fun q => s.heap.size ≤ q) p s m #[Value.ref b] meth c 99 :=
    ⟨hx, hb, hml, hown, hW0, hV0, hK, hX, hbl, Nat.not_le.mpr hbl, fun q hq => hq, hr, hlk, hnm, by rw [hexc]; rfl, hZ, fun q cell hq hc => absurd (Array.getElem?_eq_some_iff.mp hc).1 (Nat.not_lt.mpr hq)⟩
  have key := sMain hst n 99 _ _ hn p e room_1 s m #[Value.ref b] below meth c s.heap [] 0 0 (lw_Z below #[Value.ref b] s) (fun q => s.heap.size ≤ q) (fun _ => b) _ hC ⟨by decide, by decide⟩ ⟨by show 0 + kc ≤ 647313; omega, by show 0 + ks ≤ 7154165; omega⟩
    ⟨fun i q hq => by simp [trH, mEnt] at hq, ⟨fun i j q q' hq => by simp [trH, mEnt] at hq, fun i q hq => by simp [trH, mEnt] at hq⟩, va_S.rf, rfl⟩ (LR.entry (n := mNL 99) (av := [.ref mSC]) (by decide) rfl) (fun t o ρ' locs' a1 a2 a3 a4 a5 a6 a7 a8 => by
      obtain ⟨rfl, -⟩ := a3
      obtain ⟨L2, s1, s2⟩ := a5
      exact ⟨_, a1, a2, rfl, ⟨_, rfl⟩, a4, s1.weaken (fun y hy hlt => absurd (s2 y hy) (Nat.not_le.mpr hlt)) (by show 0 + kc ≤ _; omega) (by show 0 + ks ≤ _; omega)⟩)
  rw [lg_entry_eq]
  exact key
end
section
set_option maxHeartbeats 4000000 in
theorem lw_walk (hm : mLawOk) (l : Launch) (hst : l.stackTraces = false) (b : Addr) (xs : List Int32) : MetFree l x (headSpec (Jvm.Cond.code x code maxLocals ret :: tables_1) room_1) (lw_P b xs) (fun _ _ _ _ _ => True) lw_Q := by
  refine MetFree.of_bodyS (code := code) (maxLocals := maxLocals) (ret := ret) (by decide) ?_ ?_
  · intro args s m h hn
    obtain ⟨meth, c, h1, h2, h3, h4, h5, h6, -, -⟩ := Cond.code_spec hn (atoms_spec (ws := Jvm.Cond.code x code maxLocals ret :: tables_1) h _ List.mem_cons_self)
    exact ⟨meth, c, h1, h2, h3, h4, h5, h6⟩
  · intro p e s m args below meth c s₁ B hml0 hP _
    obtain ⟨rfl, hx, hbd, hgv⟩ := hP
    obtain ⟨scr, harrAt, hlist, hof, hsmall⟩ := hx
    obtain ⟨hcb, hkn, -, -⟩ := State.arrayAt?_spec harrAt
    have hown : s.vm.findClass R_law = some m.cls := findClass_of_methodNamed B.named
    have hts0 : ∀ c ∈ (Jvm.Cond.code x code maxLocals ret :: tables_1), c.before #[Value.ref b] s = true := atoms_spec (ws := Jvm.Cond.code x code maxLocals ret :: tables_1) B.pre
    have hts : ∀ w ∈ lw_tbl, w.before #[Value.ref b] s = true := k2_hts_sels lw_privs (fun w hw => hts0 w (List.mem_cons_of_mem _ hw)) lw_privs_ok
    have hml : c.maxLocals = 7 := B.maxLocals_eq (hts0 _ List.mem_cons_self)
    have hexc : c.exceptionTable.toList = [] := by
      have h7 := B.noHandlers (hts0 _ List.mem_cons_self)
      have h0 : c.exceptionTable.size = 0 := by simpa [Array.isEmpty] using h7
      exact List.eq_nil_of_length_eq_zero (by simpa using h0)
    have X₀ : Stand p l e room_1 s m #[Value.ref b] below meth c s₁ [] 0 0 := Stand.of_body B
    have hh0 : s₁.heap = s.heap := by rw [B.state]; rfl
    have hsz : scr.slots.size = xs.length := by rw [← Array.length_toList, hlist, List.length_map]
    have hval : ∀ j : Nat, j < xs.length → scr.slots[j]? = some (.int (xs.getD j 0)) := fun j hj => by
      rw [← Array.getElem?_toList, hlist]
      simp [hj]
    have hbl : b < s.heap.size := (Array.getElem?_eq_some_iff.mp hcb).1
    have hX : va_X b xs.length (fun j => xs.getD j 0) s s.heap := ⟨scr, hcb, hof, hkn, hsz, hval⟩
    have K : W p l e room_1 s m #[Value.ref b] below meth c s₁.heap [] 0 0 (lw_Z below #[Value.ref b] s) (entryFrame m ([Value.ref b] : List Value).toArray 7) := by
      rw [hh0]
      exact start_of hm l hst (name_of_methodNamed B.named B.method).1 hexc hbd ⟨B.exec, B.bytes, B.returns, hml, hown, hts, hX, hbl, B.notSynchronized, hgv⟩
    obtain ⟨t, a1, o, b1, b2, b3⟩ := K s₁ rfl X₀
    exact ⟨t, o, a1, b1, b2, b3⟩
theorem lw_pre_spec {args : Array Value} {s : State} (h : (Jvm.Cond.and given_1 narrow_1).before args s = true) (hr : rest_1_c.before args s = true) : ∃ (b : Addr) (xs : List Int32), lw_P b xs args s := by
  have hs := flat_of_before _ h
  have hq := flat_of_before _ hr
  have hc : (Cond.count 1).before args s = true := hs _ (by decide +kernel)
  have harr : (Cond.arrayOf (.arg 0) .int).before args s = true := hs _ (by decide +kernel)
  have hle : (Cond.le (.length (.arg 0)) (.int 2048)).before args s = true := hs _ (by decide +kernel)
  have hlen : (Cond.isInt (.length (.arg 0))).before args s = true := hq _ (by decide +kernel)
  have hall : (Cond.all (.arg 0) (.isInt (.elem (.arg 0) (.index 0)))).before args s = true := hq _ (by decide +kernel)
  obtain ⟨b, xs, hb, hx⟩ := State.ints_of_pre rfl harr hlen hall
  have hsm : xs.length < 2 ^ 31 := hx.choose_spec.2.2.2
  have hev : (Term.length (.arg 0)).eval args s none [] s = some (.int xs.length.toInt32) := hx.length_eval hb
  have hv := Cond.le_ints hev (show (Term.int 2048).eval args s none [] s = some (.int 2048) from rfl)
  have hd : xs.length.toInt32 ≤ 2048 := by
    simpa [Cond.before, Cond.holds, hv] using hle
  have hN : xs.length ≤ 2048 := (Int32.ofNat_le_ofNat hsm (by decide)).mp (show Int32.ofNat xs.length ≤ Int32.ofNat 2048 from hd)
  exact ⟨b, xs, Cond.one_arg hc (show args[0]? = some (.ref b) from hb), hx, hN, h⟩
theorem lw_comes (hm : mLawOk) (l : Launch) (hst : l.stackTraces = false) : Comes l x (Jvm.Cond.code x code maxLocals ret :: tables_1) room_1 (fun tb e args s => Calls_1 tb e args s ∧ rest_1 tb e args s ∧ Pre_1 tb e args s)
    (fun _ _ args s o t => lw_Q args s o t) := by
  intro p e ha hc hk s m args below hf hfit hheap happ hpre
  obtain ⟨b, xs, hP⟩ := lw_pre_spec hpre.2.2 hpre.2.1
  obtain ⟨k, o, h1, h2, h3, hQ⟩ := lw_walk hm l hst b xs p e ha hc hk s m args below hf ((Spec.applies_iff_loose hf).mp happ).1 hP trivial
  exact ⟨k, o, h1, h2, h3, hQ⟩
theorem lw_frame {s t : State} {o : Outcome} {args : Array Value} (h : Framed s o t [] 647313 7154165) :
    Framed s o t (fieldLocs frame_1_writes args s ++ arrayLocs frame_1_arrays args s ++ staticLocs frame_1_statics s) 647313 7154165 := h
theorem lw_limb (hm : mLawOk) (L : Cond) (hL : ∀ (args : Array Value) (s t : State), L.after args s (.returned (some (.int 1))) t = true) :
    ArmFor flags0 classFile x code maxLocals ret World_1 tables_1 room_1 Calls_1 rest_1 Pre_1
      (fun tb e a s o t => postC L tb e a s o t ∧ Framed s o t (fieldLocs frame_1_writes a s ++ arrayLocs frame_1_arrays a s ++ staticLocs frame_1_statics s) 647313 7154165) := by
  intro l hfl _ _ p e ha hc hk s m args below hf hfit hheap happ hpre
  obtain ⟨k, o, h1, h2, h3, rfl, hF⟩ := lw_comes hm l (by unfold Launch.stackTraces; rw [hfl]; decide +kernel) p e ha hc hk s m args below hf hfit hheap happ hpre
  exact ⟨k, _, h1, h2, h3, hL args s _, lw_frame hF⟩
theorem i_vc_of (hm : mLawOk) : Claimed_1_1 ∧ Claimed_1_2 := ⟨lw_limb hm limb_1_1 (fun args s t => by simp [limb_1_1, Cond.after, Cond.holds, Cond.value]), lw_limb hm limb_1_2 (fun args s t => Cond.after_iff.mpr (by
  first | (rw [show limb_1_2 = Cond.eq .result (.int 1) from rfl, Cond.eq_ints (x := 1) (y := 1) rfl rfl]; simp; done) | (simp [limb_1_2, Cond.value, Term.eval]; done)))⟩
end
section
/-! each instruction as a small function -/
section MFX
variable (Ls : Nat) (xs : Nat → Int32)
def mx_iinc (nx : Nat) (j : Nat) (n : Int) (L : List (Option Value)) (S : List Value) (h : mH) : Option mX :=
  match L[j]? with
  | some (some (.int v)) => some (.inl (nx, L.set j (some (.int (v + mK n))), S, h))
  | _ => none
def mx_idiv (nx : Nat) (L : List (Option Value)) (S : List Value) (h : mH) : Option mX :=
  match S with
  | .int b :: .int a :: S' => bif decide (b = 0) then none else some (.inl (nx, L, .int (a / b) :: S', h))
  | _ => none
def mx_irem (nx : Nat) (L : List (Option Value)) (S : List Value) (h : mH) : Option mX :=
  match S with
  | .int b :: .int a :: S' => bif decide (b = 0) then none else some (.inl (nx, L, .int (a - a / b * b) :: S', h))
  | _ => none
def mx_i2l (nx : Nat) (L : List (Option Value)) (S : List Value) (h : mH) : Option mX :=
  match S with
  | .int a :: S' => some (.inl (nx, L, .long a.toInt64 :: S', h))
  | _ => none
def mx_lcmp (nx : Nat) (L : List (Option Value)) (S : List Value) (h : mH) : Option mX :=
  match S with
  | .long b :: .long a :: S' => some (.inl (nx, L, .int (lg_cmp a b) :: S', h))
  | _ => none
def mx_dup (nx : Nat) (L : List (Option Value)) (S : List Value) (h : mH) : Option mX :=
  match S with
  | .int a :: S' => some (.inl (nx, L, .int a :: .int a :: S', h))
  | .ref a :: S' => some (.inl (nx, L, .ref a :: .ref a :: S', h))
  | _ => none
def mx_ifCond (nx : Nat) (x : Nat) (c : Jvm.ClassFile.Cond) (L : List (Option Value)) (S : List Value) (h : mH) : Option mX :=
  match S with
  | .int a :: S' => some (.inr (.inl (mCmp0 c a, (x, L, S', h), some (nx, L, S', h))))
  | _ => none
def mx_if_icmp (nx : Nat) (x : Nat) (c : Jvm.ClassFile.Cond) (L : List (Option Value)) (S : List Value) (h : mH) : Option mX :=
  match S with
  | .int b :: .int a :: S' => some (.inr (.inl (mCmp c a b, (x, L, S', h), some (nx, L, S', h))))
  | _ => none
def mx_tableswitch (pc : Nat) (d : Int) (lo : Int) (hi : Int) (offs : Array Int) (L : List (Option Value)) (S : List Value) (h : mH) : Option mX :=
  match S with
  | .int v :: S' => some (.inl (mSw pc lo hi d offs.toList v.toInt, L, S', h))
  | _ => none
def mx_getfield (nx : Nat) (x : Nat) (y : Nat) (L : List (Option Value)) (S : List Value) (h : mH) : Option mX :=
  match S with
  | .ref a :: S' =>
    match h[a]? with
    | some (.inr (ci, fs)) =>
      bif Nat.beq ci x then
        match fs[y]? with
        | some v => some (.inl (nx, L, v :: S', h))
        | none => none
      else none
    | _ => none
  | _ => none
def mx_putfield (nx : Nat) (x : Nat) (y : Nat) (L : List (Option Value)) (S : List Value) (h : mH) : Option mX :=
  match S with
  | v :: .ref a :: S' =>
    match h[a]? with
    | some (.inr (ci, fs)) =>
      bif Nat.beq ci x && Nat.blt y fs.length && mPutOk (mFT x y) v then some (.inl (nx, L, S', h.set a (.inr (ci, fs.set y v))))
      else none
    | _ => none
  | _ => none
def mx_iaload (nx : Nat) (L : List (Option Value)) (S : List Value) (h : mH) : Option mX :=
  match S with
  | .int j :: .ref a :: S' =>
    bif Nat.beq a mSC then some (.inr (.inl (mInb j Ls, (nx, L, .int (xs j.toNatClampNeg) :: S', h), none)))
    else
      match h[a]? with
      | some (.inl (0, n, .inl f)) => some (.inr (.inl (mInb j n, (nx, L, .int (f j.toNatClampNeg) :: S', h), none)))
      | _ => none
  | _ => none
def mx_iastore (nx : Nat) (L : List (Option Value)) (S : List Value) (h : mH) : Option mX :=
  match S with
  | .int v :: .int j :: .ref a :: S' =>
    match h[a]? with
    | some (.inl (0, n, .inl f)) => some (.inr (.inl (mInb j n, (nx, L, S', h.set a (.inl (0, n, .inl (upd f j.toNatClampNeg v)))  ), none)))
    | _ => none
  | _ => none
def mx_baload (nx : Nat) (L : List (Option Value)) (S : List Value) (h : mH) : Option mX :=
  match S with
  | .int j :: .ref a :: S' =>
    match h[a]? with
    | some (.inl (1, n, .inl f)) => some (.inr (.inl (mInb j n, (nx, L, .int (f j.toNatClampNeg) :: S', h), none)))
    | _ => none
  | _ => none
def mx_bastore (nx : Nat) (L : List (Option Value)) (S : List Value) (h : mH) : Option mX :=
  match S with
  | .int v :: .int j :: .ref a :: S' =>
    match h[a]? with
    | some (.inl (1, n, .inl f)) => some (.inr (.inl (mInb j n, (nx, L, S', h.set a (.inl (1, n, .inl (upd f j.toNatClampNeg (vp_nar .boolean v))))  ), none)))
    | _ => none
  | _ => none
def mx_laload (nx : Nat) (L : List (Option Value)) (S : List Value) (h : mH) : Option mX :=
  match S with
  | .int j :: .ref a :: S' =>
    match h[a]? with
    | some (.inl (2, n, .inr (.inl f))) => some (.inr (.inl (mInb j n, (nx, L, .long (f j.toNatClampNeg) :: S', h), none)))
    | _ => none
  | _ => none
def mx_lastore (nx : Nat) (L : List (Option Value)) (S : List Value) (h : mH) : Option mX :=
  match S with
  | .long v :: .int j :: .ref a :: S' =>
    match h[a]? with
    | some (.inl (2, n, .inr (.inl f))) => some (.inr (.inl (mInb j n, (nx, L, S', h.set a (.inl (2, n, .inr (.inl (vp_updL f j.toNatClampNeg v))))  ), none)))
    | _ => none
  | _ => none
def mx_arraylength (nx : Nat) (L : List (Option Value)) (S : List Value) (h : mH) : Option mX :=
  match S with
  | .ref a :: S' => bif Nat.beq a mSC then some (.inl (nx, L, .int (Int32.ofNat Ls) :: S', h)) else none
  | _ => none
def mx_newarray (nx : Nat) (t : ArrayType) (L : List (Option Value)) (S : List Value) (h : mH) : Option mX :=
  match S with
  | .int n :: S' =>
    bif decide (¬ n < 0) && Nat.ble n.toNatClampNeg 1000 && mOkL h.length L && mOkS h.length S' && mOkH h.length h && Nat.blt h.length 1000 then
      match t with
      | .int => some (.inr (.inr (.inr (.inr ((nx, L, .ref h.length :: S', h ++ [.inl (0, n.toNatClampNeg, .inl fun _ => 0)]), n.toNatClampNeg)))))
      | .boolean => some (.inr (.inr (.inr (.inr ((nx, L, .ref h.length :: S', h ++ [.inl (1, n.toNatClampNeg, .inl fun _ => 0)]), n.toNatClampNeg)))))
      | .long => some (.inr (.inr (.inr (.inr ((nx, L, .ref h.length :: S', h ++ [.inl (2, n.toNatClampNeg, .inr (.inl fun _ => 0))]), n.toNatClampNeg)))))
      | _ => none
    else none
  | _ => none
def mx_new (k : Nat) (nx : Nat) (x : Nat) (y : Nat) (L : List (Option Value)) (S : List Value) (h : mH) : Option mX :=
  match y with
  | 0 => bif mOkL h.length L && mOkS h.length S && mOkH h.length h && Nat.blt h.length 1000 then some (.inr (.inr (.inr (.inr ((nx, L, .ref h.length :: S, h ++ [.inr (x, mDef x)]), (mDef x).length))))) else none
  | _ => bif mNoH k && Nat.ble (mCat S) 6 && Nat.ble 6 (mFr k) && Nat.ble 100 (mLo k) then some (.inr (.inr (.inl (true, .inr x, h)))) else none
def mx_invokestatic (k : Nat) (nx : Nat) (x : Nat) (y : Nat) (L : List (Option Value)) (S : List Value) (h : mH) : Option mX :=
  bif Nat.ble y S.length && mOne (S.take y) && mOkL h.length L && mOkS h.length S && Nat.ble (mCat (S.drop y)) 8 && Nat.ble (mFr x + 1) (mFr k) && Nat.ble (8 + (mNL x + 11) + mLo x) (mLo k) then
    some (.inr (.inr (.inr (.inl (x, (S.take y).reverse, (nx, L, S.drop y, h))))))
  else none
def mx_invokevirtual (k : Nat) (nx : Nat) (x : Nat) (y : Nat) (L : List (Option Value)) (S : List Value) (h : mH) : Option mX :=
  match S[y]? with
  | some (.ref a) =>
    match h[a]? with
    | some (.inr (ci, _)) =>
      bif Nat.beq ci (mCl x) && mOne (S.take (y + 1)) && mOkL h.length L && mOkS h.length S && Nat.ble (mCat (S.drop (y + 1))) 8 && Nat.ble (mFr x + 1) (mFr k) && Nat.ble (8 + (mNL x + 11) + mLo x) (mLo k) then
        some (.inr (.inr (.inr (.inl (x, (S.take (y + 1)).reverse, (nx, L, S.drop (y + 1), h))))))
      else none
    | _ => none
  | _ => none
def mx_invokespecial (k : Nat) (nx : Nat) (x : Nat) (L : List (Option Value)) (S : List Value) (h : mH) : Option mX :=
  match S with
  | .ref a :: S' =>
    bif Nat.beq x 999 then bif Nat.ble (mCat S' + 12) (mLo k) && Nat.ble 1 (mFr k) then some (.inl (nx, L, S', h)) else none
    else
      bif mOkL h.length L && mOkS h.length S && Nat.ble (mCat S') 8 && Nat.ble (mFr x + 1) (mFr k) && Nat.ble (8 + (mNL x + 11) + mLo x) (mLo k) then
        some (.inr (.inr (.inr (.inl (x, [.ref a], (nx, L, S', h))))))
      else none
  | _ => none
def mx_ireturn (k : Nat) (L : List (Option Value)) (S : List Value) (h : mH) : Option mX :=
  match S with
  | [.int v] =>
    match mRet k with
    | some .int => some (.inr (.inr (.inl (true, .inl (some (.int v)), h))))
    | some .boolean => some (.inr (.inr (.inl (decide (v &&& 1 = v), .inl (some (.int v)), h))))
    | _ => none
  | _ => none
def mx_return_ (k : Nat) (L : List (Option Value)) (S : List Value) (h : mH) : Option mX :=
  match S with
  | [] =>
    match mRet k with
    | none => some (.inr (.inr (.inl (true, .inl none, h))))
    | _ => none
  | _ => none
def mx_const (v : Int32) (nx : Nat) (L : List (Option Value)) (S : List Value) (h : mH) : Option mX := some (.inl (nx, L, .int v :: S, h))
def mx_goto (x : Nat) (L : List (Option Value)) (S : List Value) (h : mH) : Option mX := some (.inl (x, L, S, h))
end MFX
abbrev mF : Type := List (Option Value) → List Value → mH → Option mX
def fLook1 : List (Nat × mF) → Nat → Option mF
  | [], _ => none
  | (q, i) :: t, pc => bif Nat.beq q pc then some i else fLook1 t pc
def fLook : List (Nat × List (Nat × mF)) → Nat → Option mF
  | [], _ => none
  | (b, l) :: t, pc => bif Nat.blt pc b then fLook1 l pc else fLook t pc
def fMap1 (Ls : Nat) (xs : Nat → Int32) (k : Nat) : List (Nat × mI) → List (Nat × mF)
  | [] => []
  | (pc, i, nx, x, y) :: t => (pc, mEx Ls xs k i nx x y pc) :: fMap1 Ls xs k t
def fMap (Ls : Nat) (xs : Nat → Int32) (k : Nat) : List (Nat × List (Nat × mI)) → List (Nat × List (Nat × mF))
  | [] => []
  | (b, l) :: t => (b, fMap1 Ls xs k l) :: fMap Ls xs k t
theorem fLook1_map {Ls : Nat} {xs : Nat → Int32} {k pc : Nat} : ∀ l : List (Nat × mI), fLook1 (fMap1 Ls xs k l) pc = (mLook1 l pc).map (fun q => mEx Ls xs k q.1 q.2.1 q.2.2.1 q.2.2.2 pc) := by
  intro l
  induction l with
  | nil => rfl
  | cons a t ih =>
    obtain ⟨q, i, nx, x, y⟩ := a
    simp only [fMap1, fLook1, mLook1]
    cases hb : Nat.beq q pc
    · simp only [cond_false]; exact ih
    · simp only [cond_true]
      cases Nat.eq_of_beq_eq_true hb
      rfl
theorem fLook_map {Ls : Nat} {xs : Nat → Int32} {k pc : Nat} : ∀ l : List (Nat × List (Nat × mI)), fLook (fMap Ls xs k l) pc = (mLook l pc).map (fun q => mEx Ls xs k q.1 q.2.1 q.2.2.1 q.2.2.2 pc) := by
  intro l
  induction l with
  | nil => rfl
  | cons a t ih =>
    obtain ⟨b, c⟩ := a
    simp only [fMap, fLook, mLook]
    cases hb : Nat.blt pc b
    · simp only [cond_false]; exact ih
    · simp only [cond_true]; exact fLook1_map c
theorem fMap_app {Ls : Nat} {xs : Nat → Int32} {k : Nat} : ∀ a b : List (Nat × List (Nat × mI)), fMap Ls xs k (a ++ b) = fMap Ls xs k a ++ fMap Ls xs k b := by
  intro a b
  induction a with
  | nil => rfl
  | cons x t ih =>
    obtain ⟨q, l⟩ := x
    simp only [List.cons_append, fMap, ih]
end
section
def fl_0 (Ls : Nat) (xs : Nat → Int32) : List (Nat × List (Nat × mF)) := [(16, [(0, mLdA 0 1), (1, mx_invokespecial 0 4 999), (4, mLdA 0 5), (5, mx_new 0 8 1 0), (8, mx_dup 9), (9, mx_invokespecial 0 12 39), (12, mx_putfield 15 0 0), (15, mLdA 0 16)]), (32, [(16, mx_const (nI 32) 18), (18, mx_newarray 20 .boolean), (20, mx_putfield 23 0 1), (23, mLdA 0 24), (24, mx_const (nI 32) 26), (26, mx_newarray 28 .int), (28, mx_putfield 31 0 2), (31, mLdA 0 32)]), (37, [(32, mx_const (nI 0) 33), (33, mx_putfield 36 0 3), (36, mx_return_ 0)])]
set_option maxRecDepth 100000 in
theorem fle_0 (Ls : Nat) (xs : Nat → Int32) : fl_0 Ls xs = fMap Ls xs 0 mc_0 := rfl
def fl_1 (Ls : Nat) (xs : Nat → Int32) : List (Nat × List (Nat × mF)) := [(9, [(0, mLdA 0 1), (1, mx_getfield 4 0 0), (4, mLdI 1 5), (5, mx_invokevirtual 1 8 40 1), (8, mx_return_ 1)])]
set_option maxRecDepth 100000 in
theorem fle_1 (Ls : Nat) (xs : Nat → Int32) : fl_1 Ls xs = fMap Ls xs 1 mc_1 := rfl
def fl_2 (Ls : Nat) (xs : Nat → Int32) : List (Nat × List (Nat × mF)) := [(8, [(0, mLdA 0 1), (1, mx_getfield 4 0 0), (4, mx_invokevirtual 2 7 41 0), (7, mx_ireturn 2)])]
set_option maxRecDepth 100000 in
theorem fle_2 (Ls : Nat) (xs : Nat → Int32) : fl_2 Ls xs = fMap Ls xs 2 mc_2 := rfl
def fl_3 (Ls : Nat) (xs : Nat → Int32) : List (Nat × List (Nat × mF)) := [(16, [(0, mLdA 0 1), (1, mx_getfield 4 0 0), (4, mx_invokevirtual 3 7 42 0), (7, mLdA 0 8), (8, mx_invokevirtual 3 11 4 0), (11, mLdA 0 12), (12, mx_invokevirtual 3 15 12 0), (15, mx_ireturn 3)])]
set_option maxRecDepth 100000 in
theorem fle_3 (Ls : Nat) (xs : Nat → Int32) : fl_3 Ls xs = fMap Ls xs 3 mc_3 := rfl
def fl_4 (Ls : Nat) (xs : Nat → Int32) : List (Nat × List (Nat × mF)) := [(13, [(0, mx_const (nI 0) 1), (1, mStI 1 2), (2, mLdI 1 3), (3, mx_const (nI 32) 5), (5, mx_if_icmp 8 21 .ge), (8, mLdA 0 9), (9, mx_getfield 12 0 1), (12, mLdI 1 13)]), (27, [(13, mx_const (nI 0) 14), (14, mx_bastore 15), (15, mx_iinc 18 1 1), (18, mx_goto 2), (21, mLdA 0 22), (22, mx_const (nI 0) 23), (23, mx_putfield 26 0 3), (26, mLdA 0 27)]), (40, [(27, mx_const (nI 0) 28), (28, mx_const (nI 1) 29), (29, mx_invokevirtual 4 32 5 2), (32, mx_const (nI 0) 33), (33, mStI 1 34), (34, mLdI 1 35), (35, mx_const (nI 32) 37), (37, mx_if_icmp 40 101 .ge)]), (54, [(40, mLdI 1 41), (41, mLdA 0 42), (42, mx_getfield 45 0 3), (45, mx_if_icmp 48 101 .ge), (48, mLdA 0 49), (49, mx_getfield 52 0 2), (52, mLdI 1 53), (53, mx_iaload Ls xs 54)]), (70, [(54, mStI 2 55), (55, mLdA 0 56), (56, mx_getfield 59 0 0), (59, mLdI 2 60), (60, mx_const (nI 0) 61), (61, mx_invokevirtual 4 64 44 2), (64, mx_ifCond 67 70 .ne), (67, mx_goto 95)]), (82, [(70, mLdA 0 71), (71, mLdI 2 72), (72, mx_invokevirtual 4 75 7 1), (75, mStI 3 76), (76, mLdI 3 77), (77, mx_ifCond 80 85 .ne), (80, mLdA 0 81), (81, mLdI 2 82)]), (98, [(82, mx_invokevirtual 4 85 8 1), (85, mLdA 0 86), (86, mLdA 0 87), (87, mLdI 2 88), (88, mx_invokevirtual 4 91 11 1), (91, mLdI 3 92), (92, mx_invokevirtual 4 95 5 2), (95, mx_iinc 98 1 1)]), (102, [(98, mx_goto 34), (101, mx_return_ 4)])]
set_option maxRecDepth 100000 in
theorem fle_4 (Ls : Nat) (xs : Nat → Int32) : fl_4 Ls xs = fMap Ls xs 4 mc_4 := rfl
def fl_5 (Ls : Nat) (xs : Nat → Int32) : List (Nat × List (Nat × mF)) := [(13, [(0, mLdI 1 1), (1, mStI 3 2), (2, mx_const (nI 0) 3), (3, mStI 4 5), (5, mLdI 4 7), (7, mx_const (nI 32) 9), (9, mx_if_icmp 12 74 .ge), (12, mLdI 3 13)]), (27, [(13, mx_invokestatic 5 16 6 1), (16, mx_ifCond 19 74 .eq), (19, mLdA 0 20), (20, mx_getfield 23 0 1), (23, mLdI 3 24), (24, mx_const (nI 1) 25), (25, mx_bastore 26), (26, mLdI 2 27)]), (44, [(27, mx_ifCond 30 59 .eq), (30, mLdA 0 31), (31, mx_getfield 34 0 3), (34, mx_const (nI 32) 36), (36, mx_if_icmp 39 59 .ge), (39, mLdA 0 40), (40, mx_getfield 43 0 2), (43, mLdA 0 44)]), (56, [(44, mx_getfield 47 0 3), (47, mLdI 3 48), (48, mx_iastore 49), (49, mLdA 0 50), (50, mx_dup 51), (51, mx_getfield 54 0 3), (54, mx_const (nI 1) 55), (55, mBin (fun a b => a + b) 56)]), (74, [(56, mx_putfield 59 0 3), (59, mLdA 0 60), (60, mx_getfield 63 0 0), (63, mLdI 3 64), (64, mx_invokevirtual 5 67 43 1), (67, mStI 3 68), (68, mx_iinc 71 4 1), (71, mx_goto 5)]), (75, [(74, mx_return_ 5)])]
set_option maxRecDepth 100000 in
theorem fle_5 (Ls : Nat) (xs : Nat → Int32) : fl_5 Ls xs = fMap Ls xs 5 mc_5 := rfl
def fl_6 (Ls : Nat) (xs : Nat → Int32) : List (Nat × List (Nat × mF)) := [(15, [(0, mLdI 0 1), (1, mx_ifCond 4 14 .lt), (4, mLdI 0 5), (5, mx_const (nI 32) 7), (7, mx_if_icmp 10 14 .ge), (10, mx_const (nI 1) 11), (11, mx_goto 15), (14, mx_const (nI 0) 15)]), (16, [(15, mx_ireturn 6)])]
set_option maxRecDepth 100000 in
theorem fle_6 (Ls : Nat) (xs : Nat → Int32) : fl_6 Ls xs = fMap Ls xs 6 mc_6 := rfl
def fl_7 (Ls : Nat) (xs : Nat → Int32) : List (Nat × List (Nat × mF)) := [(15, [(0, mLdI 1 1), (1, mx_const ((-3)) 3), (3, mx_if_icmp 6 19 .eq), (6, mLdA 0 7), (7, mx_getfield 10 0 0), (10, mLdI 1 11), (11, mx_const (nI 1) 12), (12, mx_invokevirtual 7 15 44 2)]), (25, [(15, mx_const (nI 2) 16), (16, mx_if_icmp 19 23 .ne), (19, mx_const (nI 1) 20), (20, mx_goto 24), (23, mx_const (nI 0) 24), (24, mx_ireturn 7)])]
set_option maxRecDepth 100000 in
theorem fle_7 (Ls : Nat) (xs : Nat → Int32) : fl_7 Ls xs = fMap Ls xs 7 mc_7 := rfl
def fl_8 (Ls : Nat) (xs : Nat → Int32) : List (Nat × List (Nat × mF)) := [(14, [(0, mLdA 0 1), (1, mLdI 1 2), (2, mx_invokevirtual 8 5 9 1), (5, mStI 2 6), (6, mLdI 2 7), (7, mx_ifCond 10 26 .le), (10, mLdA 0 11), (11, mx_getfield 14 0 0)]), (26, [(14, mLdA 0 15), (15, mLdI 1 16), (16, mLdI 2 17), (17, mx_const (nI 1) 18), (18, mBin (fun a b => a - b) 19), (19, mx_invokevirtual 8 22 10 2), (22, mx_const ((-1)) 23), (23, mx_invokevirtual 8 26 45 2)]), (27, [(26, mx_return_ 8)])]
set_option maxRecDepth 100000 in
theorem fle_8 (Ls : Nat) (xs : Nat → Int32) : fl_8 Ls xs = fMap Ls xs 8 mc_8 := rfl
def fl_9 (Ls : Nat) (xs : Nat → Int32) : List (Nat × List (Nat × mF)) := [(10, [(0, mLdA 0 1), (1, mx_getfield 4 0 0), (4, mLdI 1 5), (5, mx_const (nI 3) 6), (6, mx_invokevirtual 9 9 44 2), (9, mx_ireturn 9)])]
set_option maxRecDepth 100000 in
theorem fle_9 (Ls : Nat) (xs : Nat → Int32) : fl_9 Ls xs = fMap Ls xs 9 mc_9 := rfl
def fl_10 (Ls : Nat) (xs : Nat → Int32) : List (Nat × List (Nat × mF)) := [(11, [(0, mLdA 0 1), (1, mLdI 1 2), (2, mx_invokevirtual 10 5 11 1), (5, mStI 3 6), (6, mLdI 2 7), (7, mx_const (nI 4) 8), (8, mx_idiv 9), (9, mStI 4 11)]), (28, [(11, mLdI 4 13), (13, mx_ifCond 16 31 .le), (16, mLdA 0 17), (17, mx_getfield 20 0 0), (20, mLdI 3 21), (21, mx_invokevirtual 10 24 43 1), (24, mStI 3 25), (25, mx_iinc 28 4 (-1))]), (33, [(28, mx_goto 11), (31, mLdI 3 32), (32, mx_ireturn 10)])]
set_option maxRecDepth 100000 in
theorem fle_10 (Ls : Nat) (xs : Nat → Int32) : fl_10 Ls xs = fMap Ls xs 10 mc_10 := rfl
def fl_11 (Ls : Nat) (xs : Nat → Int32) : List (Nat × List (Nat × mF)) := [(15, [(0, mLdI 1 1), (1, mx_const ((-3)) 3), (3, mx_if_icmp 6 10 .ne), (6, mx_const (nI 0) 7), (7, mx_goto 19), (10, mLdA 0 11), (11, mx_getfield 14 0 0), (14, mLdI 1 15)]), (20, [(15, mx_const (nI 2) 16), (16, mx_invokevirtual 11 19 44 2), (19, mx_ireturn 11)])]
set_option maxRecDepth 100000 in
theorem fle_11 (Ls : Nat) (xs : Nat → Int32) : fl_11 Ls xs = fMap Ls xs 11 mc_11 := rfl
def fl_12 (Ls : Nat) (xs : Nat → Int32) : List (Nat × List (Nat × mF)) := [(11, [(0, mx_const (nI 0) 1), (1, mStI 1 2), (2, mx_const (nI 0) 3), (3, mStI 2 4), (4, mLdI 2 5), (5, mx_const (nI 32) 7), (7, mx_if_icmp 10 51 .ge), (10, mLdA 0 11)]), (27, [(11, mx_getfield 14 0 1), (14, mLdI 2 15), (15, mx_baload 16), (16, mx_ifCond 19 45 .ne), (19, mLdA 0 20), (20, mx_getfield 23 0 0), (23, mLdI 2 24), (24, mx_invokevirtual 12 27 43 1)]), (45, [(27, mx_const ((-2)) 29), (29, mx_if_icmp 32 45 .eq), (32, mLdA 0 33), (33, mx_getfield 36 0 0), (36, mLdI 2 37), (37, mx_const ((-2)) 39), (39, mx_invokevirtual 12 42 45 2), (42, mx_iinc 45 1 1)]), (53, [(45, mx_iinc 48 2 1), (48, mx_goto 4), (51, mLdI 1 52), (52, mx_ireturn 12)])]
set_option maxRecDepth 100000 in
theorem fle_12 (Ls : Nat) (xs : Nat → Int32) : fl_12 Ls xs = fMap Ls xs 12 mc_12 := rfl
def fl_13 (Ls : Nat) (xs : Nat → Int32) : List (Nat × List (Nat × mF)) := [(10, [(0, mLdA 0 1), (1, mx_getfield 4 0 0), (4, mLdI 1 5), (5, mLdI 2 6), (6, mx_invokevirtual 13 9 44 2), (9, mx_ireturn 13)])]
set_option maxRecDepth 100000 in
theorem fle_13 (Ls : Nat) (xs : Nat → Int32) : fl_13 Ls xs = fMap Ls xs 13 mc_13 := rfl
def fl_14 (Ls : Nat) (xs : Nat → Int32) : List (Nat × List (Nat × mF)) := [(18, [(0, mLdI 1 1), (1, mx_invokestatic 14 4 6 1), (4, mx_ifCond 7 18 .eq), (7, mLdA 0 8), (8, mx_getfield 11 0 0), (11, mLdI 1 12), (12, mx_invokevirtual 14 15 43 1), (15, mx_goto 19)]), (20, [(18, mx_const (nI 0) 19), (19, mx_ireturn 14)])]
set_option maxRecDepth 100000 in
theorem fle_14 (Ls : Nat) (xs : Nat → Int32) : fl_14 Ls xs = fMap Ls xs 14 mc_14 := rfl
def fl_15 (Ls : Nat) (xs : Nat → Int32) : List (Nat × List (Nat × mF)) := [(12, [(0, mLdA 0 1), (1, mx_invokevirtual 15 4 16 0), (4, mLdI 1 5), (5, mx_invokestatic 15 8 17 1), (8, mLdA 0 9), (9, mLdI 1 10), (10, mx_const (nI 4) 11), (11, mBin (fun a b => a >>> (b &&& 31)) 12)]), (35, [(12, mx_invokevirtual 15 15 18 1), (15, mStI 3 16), (16, mLdA 0 17), (17, mLdI 3 18), (18, mx_invokevirtual 15 21 7 1), (21, mx_ifCond 24 34 .ne), (24, mx_new 15 27 2 1), (34, mLdI 1 35)]), (48, [(35, mx_const (nI 15) 37), (37, mBin (fun a b => a &&& b) 38), (38, mStI 4 40), (40, mLdI 1 41), (41, mx_ifCond 44 55 .eq), (44, mLdA 0 45), (45, mLdI 3 46), (46, mLdI 4 48)]), (73, [(48, mx_invokevirtual 15 51 19 2), (51, mx_const ((-1)) 52), (52, mx_if_icmp 55 65 .eq), (55, mx_new 15 58 3 1), (65, mLdI 2 66), (66, mx_ifCond 69 73 .eq), (69, mx_const (nI 2) 70), (70, mx_goto 74)]), (86, [(73, mx_const (nI 1) 74), (74, mStI 5 76), (76, mLdA 0 77), (77, mLdI 3 78), (78, mx_const (nI 0) 79), (79, mx_invokevirtual 15 82 19 2), (82, mStI 6 84), (84, mLdI 6 86)]), (101, [(86, mx_const ((-1)) 87), (87, mx_if_icmp 90 108 .eq), (90, mLdA 0 91), (91, mx_getfield 94 0 0), (94, mLdI 6 96), (96, mLdI 4 98), (98, mLdI 5 100), (100, mx_const ((-1)) 101)]), (115, [(101, mx_const (nI 0) 102), (102, mx_invokevirtual 15 105 47 5), (105, mLdI 6 107), (107, mx_ireturn 15), (108, mLdA 0 109), (109, mx_invokevirtual 15 112 20 0), (112, mStI 7 114), (114, mLdA 0 115)]), (130, [(115, mx_getfield 118 0 0), (118, mLdI 7 120), (120, mLdI 4 122), (122, mLdI 5 124), (124, mx_const ((-1)) 125), (125, mx_const (nI 0) 126), (126, mx_invokevirtual 15 129 47 5), (129, mLdA 0 130)]), (146, [(130, mx_getfield 133 0 0), (133, mLdI 7 135), (135, mx_const ((-1)) 136), (136, mx_invokevirtual 15 139 45 2), (139, mLdA 0 140), (140, mLdI 3 141), (141, mLdI 7 143), (143, mx_invokevirtual 15 146 21 2)]), (149, [(146, mLdI 7 148), (148, mx_ireturn 15)])]
set_option maxRecDepth 100000 in
theorem fle_15 (Ls : Nat) (xs : Nat → Int32) : fl_15 Ls xs = fMap Ls xs 15 mc_15 := rfl
def fl_16 (Ls : Nat) (xs : Nat → Int32) : List (Nat × List (Nat × mF)) := [(21, [(0, mLdA 0 1), (1, mx_getfield 4 0 0), (4, mx_invokevirtual 16 7 41 0), (7, mx_ifCond 10 20 .eq), (10, mx_new 16 13 0 1), (20, mx_return_ 16)])]
set_option maxRecDepth 100000 in
theorem fle_16 (Ls : Nat) (xs : Nat → Int32) : fl_16 Ls xs = fMap Ls xs 16 mc_16 := rfl
def fl_17 (Ls : Nat) (xs : Nat → Int32) : List (Nat × List (Nat × mF)) := [(22, [(0, mLdI 0 1), (1, mx_ifCond 4 10 .lt), (4, mLdI 0 5), (5, mx_const (nI 65535) 7), (7, mx_if_icmp 10 20 .le), (10, mx_new 17 13 1 1), (20, mx_const (nI 0) 21), (21, mStI 1 22)]), (34, [(22, mx_const (nI 12) 24), (24, mStI 2 25), (25, mLdI 2 26), (26, mx_ifCond 29 74 .lt), (29, mLdI 0 30), (30, mLdI 2 31), (31, mBin (fun a b => a >>> (b &&& 31)) 32), (32, mx_const (nI 15) 34)]), (55, [(34, mBin (fun a b => a &&& b) 35), (35, mStI 3 36), (36, mLdI 1 37), (37, mx_ifCond 40 54 .eq), (40, mLdI 3 41), (41, mx_ifCond 44 54 .ne), (44, mx_new 17 47 1 1), (54, mLdI 1 55)]), (71, [(55, mx_ifCond 58 62 .ne), (58, mLdI 3 59), (59, mx_ifCond 62 66 .eq), (62, mx_const (nI 1) 63), (63, mx_goto 67), (66, mx_const (nI 0) 67), (67, mStI 1 68), (68, mx_iinc 71 2 (-4))]), (75, [(71, mx_goto 25), (74, mx_return_ 17)])]
set_option maxRecDepth 100000 in
theorem fle_17 (Ls : Nat) (xs : Nat → Int32) : fl_17 Ls xs = fMap Ls xs 17 mc_17 := rfl
def fl_18 (Ls : Nat) (xs : Nat → Int32) : List (Nat × List (Nat × mF)) := [(12, [(0, mx_const ((-3)) 2), (2, mStI 2 3), (3, mx_const (nI 12) 5), (5, mStI 3 6), (6, mLdI 3 7), (7, mx_ifCond 10 52 .lt), (10, mLdI 1 11), (11, mLdI 3 12)]), (25, [(12, mBin (fun a b => a >>> (b &&& 31)) 13), (13, mx_const (nI 15) 15), (15, mBin (fun a b => a &&& b) 16), (16, mStI 4 18), (18, mLdI 4 20), (20, mx_ifCond 23 31 .eq), (23, mLdA 0 24), (24, mLdI 2 25)]), (49, [(25, mLdI 4 27), (27, mx_invokevirtual 18 30 19 2), (30, mStI 2 31), (31, mLdI 2 32), (32, mx_const ((-1)) 33), (33, mx_if_icmp 36 46 .ne), (36, mx_new 18 39 2 1), (46, mx_iinc 49 3 (-4))]), (54, [(49, mx_goto 6), (52, mLdI 2 53), (53, mx_ireturn 18)])]
set_option maxRecDepth 100000 in
theorem fle_18 (Ls : Nat) (xs : Nat → Int32) : fl_18 Ls xs = fMap Ls xs 18 mc_18 := rfl
def fl_19 (Ls : Nat) (xs : Nat → Int32) : List (Nat × List (Nat × mF)) := [(16, [(0, mLdA 0 1), (1, mLdI 1 2), (2, mx_invokevirtual 19 5 7 1), (5, mx_ifCond 8 16 .eq), (8, mLdA 0 9), (9, mLdI 1 10), (10, mx_invokevirtual 19 13 11 1), (13, mx_goto 17)]), (29, [(16, mx_const ((-1)) 17), (17, mStI 3 18), (18, mx_const (nI 0) 19), (19, mStI 4 21), (21, mLdI 4 23), (23, mx_const (nI 32) 25), (25, mx_if_icmp 28 65 .ge), (28, mLdI 3 29)]), (45, [(29, mx_invokestatic 19 32 6 1), (32, mx_ifCond 35 65 .eq), (35, mLdA 0 36), (36, mx_getfield 39 0 0), (39, mLdI 3 40), (40, mx_const (nI 0) 41), (41, mx_invokevirtual 19 44 44 2), (44, mLdI 2 45)]), (59, [(45, mx_if_icmp 48 50 .ne), (48, mLdI 3 49), (49, mx_ireturn 19), (50, mLdA 0 51), (51, mx_getfield 54 0 0), (54, mLdI 3 55), (55, mx_invokevirtual 19 58 43 1), (58, mStI 3 59)]), (67, [(59, mx_iinc 62 4 1), (62, mx_goto 21), (65, mx_const ((-1)) 66), (66, mx_ireturn 19)])]
set_option maxRecDepth 100000 in
theorem fle_19 (Ls : Nat) (xs : Nat → Int32) : fl_19 Ls xs = fMap Ls xs 19 mc_19 := rfl
end
section
def fl_20 (Ls : Nat) (xs : Nat → Int32) : List (Nat × List (Nat × mF)) := [(13, [(0, mx_const (nI 0) 1), (1, mStI 1 2), (2, mLdI 1 3), (3, mx_const (nI 32) 5), (5, mx_if_icmp 8 29 .ge), (8, mLdA 0 9), (9, mx_getfield 12 0 0), (12, mLdI 1 13)]), (39, [(13, mx_invokevirtual 20 16 43 1), (16, mx_const ((-2)) 18), (18, mx_if_icmp 21 23 .ne), (21, mLdI 1 22), (22, mx_ireturn 20), (23, mx_iinc 26 1 1), (26, mx_goto 2), (29, mx_new 20 32 4 1)])]
set_option maxRecDepth 100000 in
theorem fle_20 (Ls : Nat) (xs : Nat → Int32) : fl_20 Ls xs = fMap Ls xs 20 mc_20 := rfl
def fl_21 (Ls : Nat) (xs : Nat → Int32) : List (Nat × List (Nat × mF)) := [(12, [(0, mLdA 0 1), (1, mLdI 1 2), (2, mx_invokevirtual 21 5 11 1), (5, mStI 3 6), (6, mLdI 3 7), (7, mx_const ((-1)) 8), (8, mx_if_icmp 11 24 .ne), (11, mLdA 0 12)]), (28, [(12, mx_getfield 15 0 0), (15, mLdI 1 16), (16, mx_const (nI 2) 17), (17, mLdI 2 18), (18, mx_invokevirtual 21 21 48 3), (21, mx_goto 37), (24, mLdA 0 25), (25, mx_getfield 28 0 0)]), (38, [(28, mLdA 0 29), (29, mLdI 3 30), (30, mx_invokevirtual 21 33 22 1), (33, mLdI 2 34), (34, mx_invokevirtual 21 37 45 2), (37, mx_return_ 21)])]
set_option maxRecDepth 100000 in
theorem fle_21 (Ls : Nat) (xs : Nat → Int32) : fl_21 Ls xs = fMap Ls xs 21 mc_21 := rfl
def fl_22 (Ls : Nat) (xs : Nat → Int32) : List (Nat × List (Nat × mF)) := [(11, [(0, mLdI 1 1), (1, mStI 2 2), (2, mx_const (nI 0) 3), (3, mStI 3 4), (4, mLdI 3 5), (5, mx_const (nI 32) 7), (7, mx_if_icmp 10 39 .ge), (10, mLdA 0 11)]), (29, [(11, mx_getfield 14 0 0), (14, mLdI 2 15), (15, mx_invokevirtual 22 18 43 1), (18, mx_invokestatic 22 21 6 1), (21, mx_ifCond 24 39 .eq), (24, mLdA 0 25), (25, mx_getfield 28 0 0), (28, mLdI 2 29)]), (41, [(29, mx_invokevirtual 22 32 43 1), (32, mStI 2 33), (33, mx_iinc 36 3 1), (36, mx_goto 4), (39, mLdI 2 40), (40, mx_ireturn 22)])]
set_option maxRecDepth 100000 in
theorem fle_22 (Ls : Nat) (xs : Nat → Int32) : fl_22 Ls xs = fMap Ls xs 22 mc_22 := rfl
def fl_23 (Ls : Nat) (xs : Nat → Int32) : List (Nat × List (Nat × mF)) := [(14, [(0, mLdA 0 1), (1, mx_invokevirtual 23 4 16 0), (4, mLdI 1 5), (5, mx_invokestatic 23 8 17 1), (8, mLdA 0 9), (9, mLdI 1 10), (10, mx_invokevirtual 23 13 18 1), (13, mStI 2 14)]), (38, [(14, mLdI 2 15), (15, mx_const ((-3)) 17), (17, mx_if_icmp 20 30 .ne), (20, mx_new 23 23 3 1), (30, mLdA 0 31), (31, mLdI 2 32), (32, mx_invokevirtual 23 35 7 1), (35, mx_ifCond 38 56 .eq)]), (61, [(38, mLdA 0 39), (39, mLdI 2 40), (40, mx_invokevirtual 23 43 24 1), (43, mx_ifCond 46 56 .eq), (46, mx_new 23 49 3 1), (56, mLdA 0 57), (57, mLdI 2 58), (58, mx_invokevirtual 23 61 11 1)]), (71, [(61, mStI 3 62), (62, mLdA 0 63), (63, mx_getfield 66 0 0), (66, mLdI 2 67), (67, mx_const (nI 0) 68), (68, mx_const (nI 0) 69), (69, mx_const (nI 0) 70), (70, mx_const (nI 0) 71)]), (80, [(71, mx_invokevirtual 23 74 47 5), (74, mLdA 0 75), (75, mLdI 3 76), (76, mx_invokevirtual 23 79 25 1), (79, mx_ireturn 23)])]
set_option maxRecDepth 100000 in
theorem fle_23 (Ls : Nat) (xs : Nat → Int32) : fl_23 Ls xs = fMap Ls xs 23 mc_23 := rfl
def fl_24 (Ls : Nat) (xs : Nat → Int32) : List (Nat × List (Nat × mF)) := [(11, [(0, mx_const (nI 0) 1), (1, mStI 2 2), (2, mLdA 0 3), (3, mLdI 1 4), (4, mx_invokevirtual 24 7 11 1), (7, mStI 3 8), (8, mx_const (nI 0) 9), (9, mStI 4 11)]), (27, [(11, mLdI 4 13), (13, mx_const (nI 32) 15), (15, mx_if_icmp 18 54 .ge), (18, mLdI 3 19), (19, mx_invokestatic 24 22 6 1), (22, mx_ifCond 25 54 .eq), (25, mLdI 2 26), (26, mx_const (nI 1) 27)]), (39, [(27, mLdA 0 28), (28, mx_getfield 31 0 0), (31, mLdI 3 32), (32, mx_const (nI 0) 33), (33, mx_invokevirtual 24 36 44 2), (36, mBin (fun a b => a <<< (b &&& 31)) 37), (37, mBin (fun a b => a ||| b) 38), (38, mStI 2 39)]), (55, [(39, mLdA 0 40), (40, mx_getfield 43 0 0), (43, mLdI 3 44), (44, mx_invokevirtual 24 47 43 1), (47, mStI 3 48), (48, mx_iinc 51 4 1), (51, mx_goto 11), (54, mLdI 2 55)]), (59, [(55, mx_const ((-2)) 57), (57, mBin (fun a b => a &&& b) 58), (58, mx_ireturn 24)])]
set_option maxRecDepth 100000 in
theorem fle_24 (Ls : Nat) (xs : Nat → Int32) : fl_24 Ls xs = fMap Ls xs 24 mc_24 := rfl
def fl_25 (Ls : Nat) (xs : Nat → Int32) : List (Nat × List (Nat × mF)) := [(11, [(0, mx_const (nI 0) 1), (1, mStI 2 2), (2, mLdI 1 3), (3, mStI 3 4), (4, mLdI 2 5), (5, mx_const (nI 32) 7), (7, mx_if_icmp 10 46 .ge), (10, mLdI 3 11)]), (28, [(11, mx_invokestatic 25 14 6 1), (14, mx_ifCond 17 46 .eq), (17, mLdA 0 18), (18, mx_getfield 21 0 0), (21, mLdI 3 22), (22, mx_invokevirtual 25 25 43 1), (25, mStI 4 27), (27, mLdA 0 28)]), (46, [(28, mx_getfield 31 0 0), (31, mLdI 3 32), (32, mx_const ((-2)) 34), (34, mx_invokevirtual 25 37 45 2), (37, mLdI 4 39), (39, mStI 3 40), (40, mx_iinc 43 2 1), (43, mx_goto 4)]), (48, [(46, mLdI 2 47), (47, mx_ireturn 25)])]
set_option maxRecDepth 100000 in
theorem fle_25 (Ls : Nat) (xs : Nat → Int32) : fl_25 Ls xs = fMap Ls xs 25 mc_25 := rfl
def fl_26 (Ls : Nat) (xs : Nat → Int32) : List (Nat × List (Nat × mF)) := [(14, [(0, mLdA 0 1), (1, mx_invokevirtual 26 4 16 0), (4, mLdI 1 5), (5, mx_invokestatic 26 8 17 1), (8, mLdI 2 9), (9, mx_const (nI 1) 10), (10, mx_if_icmp 13 19 .lt), (13, mLdI 2 14)]), (36, [(14, mx_const (nI 15) 16), (16, mx_if_icmp 19 29 .le), (19, mx_new 26 22 1 1), (29, mLdA 0 30), (30, mLdI 1 31), (31, mx_invokevirtual 26 34 18 1), (34, mStI 3 35), (35, mLdI 3 36)]), (57, [(36, mx_const ((-3)) 38), (38, mx_if_icmp 41 51 .ne), (41, mx_new 26 44 3 1), (51, mLdI 1 52), (52, mx_const (nI 4) 53), (53, mBin (fun a b => a >>> (b &&& 31)) 54), (54, mStI 4 56), (56, mLdA 0 57)]), (81, [(57, mLdA 0 58), (58, mLdI 4 60), (60, mx_invokevirtual 26 63 18 1), (63, mLdI 2 64), (64, mx_invokevirtual 26 67 19 2), (67, mx_const ((-1)) 68), (68, mx_if_icmp 71 81 .eq), (71, mx_new 26 74 3 1)]), (94, [(81, mLdA 0 82), (82, mx_getfield 85 0 0), (85, mLdI 3 86), (86, mx_const (nI 0) 87), (87, mLdI 2 88), (88, mx_invokevirtual 26 91 48 3), (91, mLdI 4 93), (93, mx_const (nI 4) 94)]), (98, [(94, mBin (fun a b => a <<< (b &&& 31)) 95), (95, mLdI 2 96), (96, mBin (fun a b => a ||| b) 97), (97, mx_ireturn 26)])]
set_option maxRecDepth 100000 in
theorem fle_26 (Ls : Nat) (xs : Nat → Int32) : fl_26 Ls xs = fMap Ls xs 26 mc_26 := rfl
def fl_27 (Ls : Nat) (xs : Nat → Int32) : List (Nat × List (Nat × mF)) := [(14, [(0, mLdA 0 1), (1, mx_invokevirtual 27 4 16 0), (4, mLdI 1 5), (5, mx_invokestatic 27 8 17 1), (8, mLdA 0 9), (9, mLdI 1 10), (10, mx_invokevirtual 27 13 28 1), (13, mStI 3 14)]), (27, [(14, mLdA 0 15), (15, mLdI 3 16), (16, mx_invokevirtual 27 19 9 1), (19, mStI 4 21), (21, mLdI 4 23), (23, mx_const (nI 4) 24), (24, mx_irem 25), (25, mStI 5 27)]), (42, [(27, mLdI 5 29), (29, mx_ifCond 32 41 .ne), (32, mLdA 0 33), (33, mLdI 3 34), (34, mLdI 2 35), (35, mx_invokevirtual 27 38 29 2), (38, mx_goto 73), (41, mLdA 0 42)]), (57, [(42, mx_getfield 45 0 0), (45, mLdA 0 46), (46, mLdA 0 47), (47, mLdI 3 48), (48, mx_invokevirtual 27 51 11 1), (51, mx_invokevirtual 27 54 22 1), (54, mLdI 5 56), (56, mLdI 2 57)]), (70, [(57, mx_invokevirtual 27 60 48 3), (60, mLdA 0 61), (61, mx_getfield 64 0 0), (64, mLdI 3 65), (65, mx_const (nI 3) 66), (66, mLdI 4 68), (68, mx_const (nI 1) 69), (69, mBin (fun a b => a + b) 70)]), (78, [(70, mx_invokevirtual 27 73 48 3), (73, mLdI 4 75), (75, mx_const (nI 1) 76), (76, mBin (fun a b => a + b) 77), (77, mx_ireturn 27)])]
set_option maxRecDepth 100000 in
theorem fle_27 (Ls : Nat) (xs : Nat → Int32) : fl_27 Ls xs = fMap Ls xs 27 mc_27 := rfl
def fl_28 (Ls : Nat) (xs : Nat → Int32) : List (Nat × List (Nat × mF)) := [(14, [(0, mLdA 0 1), (1, mLdI 1 2), (2, mx_invokevirtual 28 5 18 1), (5, mStI 2 6), (6, mLdA 0 7), (7, mLdI 2 8), (8, mx_invokevirtual 28 11 7 1), (11, mx_ifCond 14 24 .eq)]), (26, [(14, mx_new 28 17 3 1), (24, mLdI 2 25), (25, mx_ireturn 28)])]
set_option maxRecDepth 100000 in
theorem fle_28 (Ls : Nat) (xs : Nat → Int32) : fl_28 Ls xs = fMap Ls xs 28 mc_28 := rfl
def fl_29 (Ls : Nat) (xs : Nat → Int32) : List (Nat × List (Nat × mF)) := [(13, [(0, mLdA 0 1), (1, mLdI 1 2), (2, mx_invokevirtual 29 5 9 1), (5, mStI 3 6), (6, mLdA 0 7), (7, mLdI 1 8), (8, mx_invokevirtual 29 11 11 1), (11, mStI 4 13)]), (27, [(13, mLdA 0 14), (14, mx_invokevirtual 29 17 20 0), (17, mStI 5 19), (19, mLdA 0 20), (20, mx_getfield 23 0 0), (23, mLdI 5 25), (25, mLdI 2 26), (26, mx_const (nI 0) 27)]), (42, [(27, mx_const (nI 0) 28), (28, mx_const (nI 0) 29), (29, mx_invokevirtual 29 32 47 5), (32, mLdA 0 33), (33, mx_getfield 36 0 0), (36, mLdI 5 38), (38, mx_const ((-1)) 39), (39, mx_invokevirtual 29 42 45 2)]), (57, [(42, mLdI 3 43), (43, mx_ifCond 46 57 .ne), (46, mLdA 0 47), (47, mLdI 1 48), (48, mLdI 5 50), (50, mx_const (nI 1) 51), (51, mx_invokevirtual 29 54 30 3), (54, mx_goto 82)]), (73, [(57, mLdA 0 58), (58, mx_getfield 61 0 0), (61, mLdA 0 62), (62, mLdI 4 64), (64, mx_invokevirtual 29 67 22 1), (67, mLdI 5 69), (69, mx_invokevirtual 29 72 45 2), (72, mLdA 0 73)]), (83, [(73, mLdI 1 74), (74, mLdI 4 76), (76, mLdI 3 77), (77, mx_const (nI 1) 78), (78, mBin (fun a b => a + b) 79), (79, mx_invokevirtual 29 82 30 3), (82, mx_return_ 29)])]
set_option maxRecDepth 100000 in
theorem fle_29 (Ls : Nat) (xs : Nat → Int32) : fl_29 Ls xs = fMap Ls xs 29 mc_29 := rfl
def fl_30 (Ls : Nat) (xs : Nat → Int32) : List (Nat × List (Nat × mF)) := [(14, [(0, mLdA 0 1), (1, mx_getfield 4 0 0), (4, mLdI 1 5), (5, mLdA 0 6), (6, mx_getfield 9 0 0), (9, mLdI 1 10), (10, mx_const (nI 0) 11), (11, mx_invokevirtual 30 14 44 2)]), (28, [(14, mLdA 0 15), (15, mx_getfield 18 0 0), (18, mLdI 1 19), (19, mx_const (nI 1) 20), (20, mx_invokevirtual 30 23 44 2), (23, mLdI 2 24), (24, mLdI 3 25), (25, mx_invokevirtual 30 28 47 5)]), (29, [(28, mx_return_ 30)])]
set_option maxRecDepth 100000 in
theorem fle_30 (Ls : Nat) (xs : Nat → Int32) : fl_30 Ls xs = fMap Ls xs 30 mc_30 := rfl
def fl_31 (Ls : Nat) (xs : Nat → Int32) : List (Nat × List (Nat × mF)) := [(14, [(0, mLdA 0 1), (1, mx_invokevirtual 31 4 16 0), (4, mLdI 1 5), (5, mx_invokestatic 31 8 17 1), (8, mLdA 0 9), (9, mLdI 1 10), (10, mx_invokevirtual 31 13 28 1), (13, mStI 3 14)]), (26, [(14, mLdA 0 15), (15, mLdI 3 16), (16, mLdI 2 17), (17, mx_invokevirtual 31 20 32 2), (20, mLdA 0 21), (21, mx_getfield 24 0 0), (24, mLdA 0 25), (25, mLdI 3 26)]), (37, [(26, mLdI 2 27), (27, mx_invokevirtual 31 30 10 2), (30, mLdI 2 31), (31, mx_const (nI 4) 32), (32, mx_irem 33), (33, mx_invokevirtual 31 36 44 2), (36, mx_ireturn 31)])]
set_option maxRecDepth 100000 in
theorem fle_31 (Ls : Nat) (xs : Nat → Int32) : fl_31 Ls xs = fMap Ls xs 31 mc_31 := rfl
def fl_32 (Ls : Nat) (xs : Nat → Int32) : List (Nat × List (Nat × mF)) := [(23, [(0, mLdI 2 1), (1, mx_ifCond 4 13 .lt), (4, mLdI 2 5), (5, mLdA 0 6), (6, mLdI 1 7), (7, mx_invokevirtual 32 10 9 1), (10, mx_if_icmp 13 23 .lt), (13, mx_new 32 16 5 1)]), (24, [(23, mx_return_ 32)])]
set_option maxRecDepth 100000 in
theorem fle_32 (Ls : Nat) (xs : Nat → Int32) : fl_32 Ls xs = fMap Ls xs 32 mc_32 := rfl
def fl_33 (Ls : Nat) (xs : Nat → Int32) : List (Nat × List (Nat × mF)) := [(15, [(0, mLdA 0 1), (1, mx_invokevirtual 33 4 16 0), (4, mLdI 1 5), (5, mx_invokestatic 33 8 17 1), (8, mLdA 0 9), (9, mLdI 1 10), (10, mx_invokevirtual 33 13 28 1), (13, mStI 4 15)]), (29, [(15, mLdA 0 16), (16, mLdI 4 18), (18, mLdI 2 19), (19, mx_invokevirtual 33 22 32 2), (22, mLdA 0 23), (23, mLdI 4 25), (25, mLdI 2 26), (26, mx_invokevirtual 33 29 10 2)]), (43, [(29, mStI 5 31), (31, mLdA 0 32), (32, mx_getfield 35 0 0), (35, mLdI 5 37), (37, mLdI 2 38), (38, mx_const (nI 4) 39), (39, mx_irem 40), (40, mx_invokevirtual 33 43 44 2)]), (55, [(43, mStI 6 45), (45, mLdA 0 46), (46, mx_getfield 49 0 0), (49, mLdI 5 51), (51, mLdI 2 52), (52, mx_const (nI 4) 53), (53, mx_irem 54), (54, mLdI 3 55)]), (61, [(55, mx_invokevirtual 33 58 48 3), (58, mLdI 6 60), (60, mx_ireturn 33)])]
set_option maxRecDepth 100000 in
theorem fle_33 (Ls : Nat) (xs : Nat → Int32) : fl_33 Ls xs = fMap Ls xs 33 mc_33 := rfl
def fl_34 (Ls : Nat) (xs : Nat → Int32) : List (Nat × List (Nat × mF)) := [(14, [(0, mLdA 0 1), (1, mx_invokevirtual 34 4 16 0), (4, mLdI 1 5), (5, mx_invokestatic 34 8 17 1), (8, mLdA 0 9), (9, mLdI 1 10), (10, mx_invokevirtual 34 13 28 1), (13, mStI 3 14)]), (37, [(14, mLdI 2 15), (15, mx_ifCond 18 27 .lt), (18, mLdI 2 19), (19, mLdA 0 20), (20, mLdI 3 21), (21, mx_invokevirtual 34 24 9 1), (24, mx_if_icmp 27 37 .le), (27, mx_new 34 30 5 1)]), (49, [(37, mLdI 2 38), (38, mLdA 0 39), (39, mLdI 3 40), (40, mx_invokevirtual 34 43 9 1), (43, mx_if_icmp 46 48 .ne), (46, mx_const (nI 0) 47), (47, mx_ireturn 34), (48, mLdA 0 49)]), (62, [(49, mLdI 3 50), (50, mx_invokevirtual 34 53 11 1), (53, mStI 4 55), (55, mLdI 2 56), (56, mx_ifCond 59 73 .ne), (59, mLdA 0 60), (60, mLdI 3 61), (61, mx_const ((-1)) 62)]), (75, [(62, mx_const (nI 0) 63), (63, mx_invokevirtual 34 66 30 3), (66, mLdA 0 67), (67, mLdI 4 69), (69, mx_invokevirtual 34 72 25 1), (72, mx_ireturn 34), (73, mLdA 0 74), (74, mLdI 3 75)]), (87, [(75, mLdI 2 76), (76, mx_const (nI 1) 77), (77, mBin (fun a b => a - b) 78), (78, mx_invokevirtual 34 81 10 2), (81, mStI 5 83), (83, mLdA 0 84), (84, mLdI 3 85), (85, mLdI 4 87)]), (98, [(87, mLdI 2 88), (88, mx_invokevirtual 34 91 30 3), (91, mLdA 0 92), (92, mLdI 5 94), (94, mx_invokevirtual 34 97 35 1), (97, mx_ireturn 34)])]
set_option maxRecDepth 100000 in
theorem fle_34 (Ls : Nat) (xs : Nat → Int32) : fl_34 Ls xs = fMap Ls xs 34 mc_34 := rfl
end
section
def fl_35 (Ls : Nat) (xs : Nat → Int32) : List (Nat × List (Nat × mF)) := [(16, [(0, mLdA 0 1), (1, mx_getfield 4 0 0), (4, mLdI 1 5), (5, mx_invokevirtual 35 8 43 1), (8, mStI 2 9), (9, mLdI 2 10), (10, mx_invokestatic 35 13 6 1), (13, mx_ifCond 16 18 .ne)]), (28, [(16, mx_const (nI 0) 17), (17, mx_ireturn 35), (18, mLdA 0 19), (19, mx_getfield 22 0 0), (22, mLdI 1 23), (23, mx_const ((-1)) 24), (24, mx_invokevirtual 35 27 45 2), (27, mLdA 0 28)]), (33, [(28, mLdI 2 29), (29, mx_invokevirtual 35 32 25 1), (32, mx_ireturn 35)])]
set_option maxRecDepth 100000 in
theorem fle_35 (Ls : Nat) (xs : Nat → Int32) : fl_35 Ls xs = fMap Ls xs 35 mc_35 := rfl
def fl_36 (Ls : Nat) (xs : Nat → Int32) : List (Nat × List (Nat × mF)) := [(14, [(0, mLdA 0 1), (1, mx_invokevirtual 36 4 16 0), (4, mLdI 1 5), (5, mx_invokestatic 36 8 17 1), (8, mLdA 0 9), (9, mLdI 1 10), (10, mx_invokevirtual 36 13 18 1), (13, mStI 2 14)]), (28, [(14, mLdA 0 15), (15, mLdI 2 16), (16, mx_invokevirtual 36 19 7 1), (19, mx_ifCond 22 35 .eq), (22, mx_const ((-1)) 23), (23, mLdA 0 24), (24, mLdI 2 25), (25, mx_invokevirtual 36 28 24 1)]), (41, [(28, mx_invokestatic 36 31 98 1), (31, mBin (fun a b => a - b) 32), (32, mx_goto 40), (35, mLdA 0 36), (36, mLdI 2 37), (37, mx_invokevirtual 36 40 9 1), (40, mx_ireturn 36)])]
set_option maxRecDepth 100000 in
theorem fle_36 (Ls : Nat) (xs : Nat → Int32) : fl_36 Ls xs = fMap Ls xs 36 mc_36 := rfl
def fl_37 (Ls : Nat) (xs : Nat → Int32) : List (Nat × List (Nat × mF)) := [(14, [(0, mLdA 0 1), (1, mx_invokevirtual 37 4 16 0), (4, mLdI 1 5), (5, mx_invokestatic 37 8 17 1), (8, mLdA 0 9), (9, mLdI 1 10), (10, mx_invokevirtual 37 13 18 1), (13, mStI 2 14)]), (37, [(14, mLdA 0 15), (15, mLdI 2 16), (16, mx_invokevirtual 37 19 7 1), (19, mx_ifCond 22 32 .ne), (22, mx_new 37 25 3 1), (32, mLdA 0 33), (33, mLdI 2 34), (34, mx_invokevirtual 37 37 24 1)]), (38, [(37, mx_ireturn 37)])]
set_option maxRecDepth 100000 in
theorem fle_37 (Ls : Nat) (xs : Nat → Int32) : fl_37 Ls xs = fMap Ls xs 37 mc_37 := rfl
def fl_38 (Ls : Nat) (xs : Nat → Int32) : List (Nat × List (Nat × mF)) := [(11, [(0, mLdA 0 1), (1, mx_invokevirtual 38 4 16 0), (4, mx_const (nI 0) 5), (5, mStI 1 6), (6, mx_const (nI 0) 7), (7, mStI 2 8), (8, mLdI 2 9), (9, mx_const (nI 32) 11)]), (30, [(11, mx_if_icmp 14 36 .ge), (14, mLdA 0 15), (15, mx_getfield 18 0 0), (18, mLdI 2 19), (19, mx_invokevirtual 38 22 43 1), (22, mx_const ((-2)) 24), (24, mx_if_icmp 27 30 .ne), (27, mx_iinc 30 1 1)]), (38, [(30, mx_iinc 33 2 1), (33, mx_goto 8), (36, mLdI 1 37), (37, mx_ireturn 38)])]
set_option maxRecDepth 100000 in
theorem fle_38 (Ls : Nat) (xs : Nat → Int32) : fl_38 Ls xs = fMap Ls xs 38 mc_38 := rfl
def fl_39 (Ls : Nat) (xs : Nat → Int32) : List (Nat × List (Nat × mF)) := [(16, [(0, mLdA 0 1), (1, mx_invokespecial 39 4 999), (4, mLdA 0 5), (5, mx_const (nI 128) 8), (8, mx_newarray 10 .int), (10, mx_putfield 13 1 0), (13, mLdA 0 14), (14, mx_const (nI 32) 16)]), (30, [(16, mx_newarray 18 .int), (18, mx_putfield 21 1 1), (21, mx_const (nI 0) 22), (22, mStI 1 23), (23, mLdI 1 24), (24, mx_const (nI 32) 26), (26, mx_if_icmp 29 51 .ge), (29, mLdA 0 30)]), (45, [(30, mx_getfield 33 1 1), (33, mLdI 1 34), (34, mLdI 1 35), (35, mx_ifCond 38 42 .ne), (38, mx_const ((-1)) 39), (39, mx_goto 44), (42, mx_const ((-2)) 44), (44, mx_iastore 45)]), (61, [(45, mx_iinc 48 1 1), (48, mx_goto 23), (51, mLdA 0 52), (52, mx_const ((-1)) 53), (53, mx_putfield 56 1 2), (56, mLdA 0 57), (57, mx_const (nI 0) 58), (58, mx_putfield 61 1 3)]), (62, [(61, mx_return_ 39)])]
set_option maxRecDepth 100000 in
theorem fle_39 (Ls : Nat) (xs : Nat → Int32) : fl_39 Ls xs = fMap Ls xs 39 mc_39 := rfl
def fl_40 (Ls : Nat) (xs : Nat → Int32) : List (Nat × List (Nat × mF)) := [(14, [(0, mLdA 0 1), (1, mLdI 1 2), (2, mx_ifCond 5 9 .ge), (5, mx_const ((-1)) 6), (6, mx_goto 10), (9, mLdI 1 10), (10, mx_putfield 13 1 2), (13, mx_return_ 40)])]
set_option maxRecDepth 100000 in
theorem fle_40 (Ls : Nat) (xs : Nat → Int32) : fl_40 Ls xs = fMap Ls xs 40 mc_40 := rfl
def fl_41 (Ls : Nat) (xs : Nat → Int32) : List (Nat × List (Nat × mF)) := [(5, [(0, mLdA 0 1), (1, mx_getfield 4 1 3), (4, mx_ireturn 41)])]
set_option maxRecDepth 100000 in
theorem fle_41 (Ls : Nat) (xs : Nat → Int32) : fl_41 Ls xs = fMap Ls xs 41 mc_41 := rfl
def fl_42 (Ls : Nat) (xs : Nat → Int32) : List (Nat × List (Nat × mF)) := [(11, [(0, mLdA 0 1), (1, mx_const (nI 0) 2), (2, mx_putfield 5 1 3), (5, mLdA 0 6), (6, mx_const ((-1)) 7), (7, mx_putfield 10 1 2), (10, mx_return_ 42)])]
set_option maxRecDepth 100000 in
theorem fle_42 (Ls : Nat) (xs : Nat → Int32) : fl_42 Ls xs = fMap Ls xs 42 mc_42 := rfl
def fl_43 (Ls : Nat) (xs : Nat → Int32) : List (Nat × List (Nat × mF)) := [(16, [(0, mLdI 1 1), (1, mx_invokestatic 43 4 6 1), (4, mx_ifCond 7 16 .eq), (7, mLdA 0 8), (8, mx_getfield 11 1 1), (11, mLdI 1 12), (12, mx_iaload Ls xs 13), (13, mx_goto 17)]), (18, [(16, mx_const ((-1)) 17), (17, mx_ireturn 43)])]
set_option maxRecDepth 100000 in
theorem fle_43 (Ls : Nat) (xs : Nat → Int32) : fl_43 Ls xs = fMap Ls xs 43 mc_43 := rfl
def fl_44 (Ls : Nat) (xs : Nat → Int32) : List (Nat × List (Nat × mF)) := [(16, [(0, mLdI 1 1), (1, mx_invokestatic 44 4 6 1), (4, mx_ifCond 7 29 .eq), (7, mLdI 2 8), (8, mx_ifCond 11 29 .lt), (11, mLdI 2 12), (12, mx_const (nI 4) 13), (13, mx_if_icmp 16 29 .ge)]), (26, [(16, mLdA 0 17), (17, mx_getfield 20 1 0), (20, mLdI 1 21), (21, mx_const (nI 4) 22), (22, mBin (fun a b => a * b) 23), (23, mLdI 2 24), (24, mBin (fun a b => a + b) 25), (25, mx_iaload Ls xs 26)]), (31, [(26, mx_goto 30), (29, mx_const (nI 0) 30), (30, mx_ireturn 44)])]
set_option maxRecDepth 100000 in
theorem fle_44 (Ls : Nat) (xs : Nat → Int32) : fl_44 Ls xs = fMap Ls xs 44 mc_44 := rfl
def fl_45 (Ls : Nat) (xs : Nat → Int32) : List (Nat × List (Nat × mF)) := [(16, [(0, mLdA 0 1), (1, mx_invokevirtual 45 4 46 0), (4, mLdI 1 5), (5, mx_invokestatic 45 8 6 1), (8, mx_ifCond 11 18 .eq), (11, mLdA 0 12), (12, mx_getfield 15 1 1), (15, mLdI 1 16)]), (19, [(16, mLdI 2 17), (17, mx_iastore 18), (18, mx_return_ 45)])]
set_option maxRecDepth 100000 in
theorem fle_45 (Ls : Nat) (xs : Nat → Int32) : fl_45 Ls xs = fMap Ls xs 45 mc_45 := rfl
def fl_46 (Ls : Nat) (xs : Nat → Int32) : List (Nat × List (Nat × mF)) := [(23, [(0, mLdA 0 1), (1, mx_getfield 4 1 2), (4, mx_ifCond 7 22 .ne), (7, mLdA 0 8), (8, mx_const (nI 1) 9), (9, mx_putfield 12 1 3), (12, mx_new 46 15 0 1), (22, mLdA 0 23)]), (39, [(23, mx_getfield 26 1 2), (26, mx_ifCond 29 39 .le), (29, mLdA 0 30), (30, mx_dup 31), (31, mx_getfield 34 1 2), (34, mx_const (nI 1) 35), (35, mBin (fun a b => a - b) 36), (36, mx_putfield 39 1 2)]), (40, [(39, mx_return_ 46)])]
set_option maxRecDepth 100000 in
theorem fle_46 (Ls : Nat) (xs : Nat → Int32) : fl_46 Ls xs = fMap Ls xs 46 mc_46 := rfl
def fl_47 (Ls : Nat) (xs : Nat → Int32) : List (Nat × List (Nat × mF)) := [(14, [(0, mLdA 0 1), (1, mx_invokevirtual 47 4 46 0), (4, mLdI 1 5), (5, mx_invokestatic 47 8 6 1), (8, mx_ifCond 11 56 .eq), (11, mLdI 1 12), (12, mx_const (nI 4) 13), (13, mBin (fun a b => a * b) 14)]), (28, [(14, mStI 6 16), (16, mLdA 0 17), (17, mx_getfield 20 1 0), (20, mLdI 6 22), (22, mLdI 2 23), (23, mx_iastore 24), (24, mLdA 0 25), (25, mx_getfield 28 1 0)]), (40, [(28, mLdI 6 30), (30, mx_const (nI 1) 31), (31, mBin (fun a b => a + b) 32), (32, mLdI 3 33), (33, mx_iastore 34), (34, mLdA 0 35), (35, mx_getfield 38 1 0), (38, mLdI 6 40)]), (52, [(40, mx_const (nI 2) 41), (41, mBin (fun a b => a + b) 42), (42, mLdI 4 44), (44, mx_iastore 45), (45, mLdA 0 46), (46, mx_getfield 49 1 0), (49, mLdI 6 51), (51, mx_const (nI 3) 52)]), (57, [(52, mBin (fun a b => a + b) 53), (53, mLdI 5 55), (55, mx_iastore 56), (56, mx_return_ 47)])]
set_option maxRecDepth 100000 in
theorem fle_47 (Ls : Nat) (xs : Nat → Int32) : fl_47 Ls xs = fMap Ls xs 47 mc_47 := rfl
def fl_48 (Ls : Nat) (xs : Nat → Int32) : List (Nat × List (Nat × mF)) := [(16, [(0, mLdA 0 1), (1, mx_invokevirtual 48 4 46 0), (4, mLdI 1 5), (5, mx_invokestatic 48 8 6 1), (8, mx_ifCond 11 31 .eq), (11, mLdI 2 12), (12, mx_ifCond 15 31 .lt), (15, mLdI 2 16)]), (28, [(16, mx_const (nI 4) 17), (17, mx_if_icmp 20 31 .ge), (20, mLdA 0 21), (21, mx_getfield 24 1 0), (24, mLdI 1 25), (25, mx_const (nI 4) 26), (26, mBin (fun a b => a * b) 27), (27, mLdI 2 28)]), (32, [(28, mBin (fun a b => a + b) 29), (29, mLdI 3 30), (30, mx_iastore 31), (31, mx_return_ 48)])]
set_option maxRecDepth 100000 in
theorem fle_48 (Ls : Nat) (xs : Nat → Int32) : fl_48 Ls xs = fMap Ls xs 48 mc_48 := rfl
def fl_49_0 (Ls : Nat) (xs : Nat → Int32) : List (Nat × List (Nat × mF)) := [(12, [(0, mLdA 0 1), (1, mx_invokespecial 49 4 999), (4, mLdA 0 5), (5, mx_const (nI 32) 7), (7, mx_newarray 9 .int), (9, mx_dup 10), (10, mx_const (nI 0) 11), (11, mx_const ((-1)) 12)]), (22, [(12, mx_iastore 13), (13, mx_dup 14), (14, mx_const (nI 1) 15), (15, mx_const ((-2)) 17), (17, mx_iastore 18), (18, mx_dup 19), (19, mx_const (nI 2) 20), (20, mx_const ((-2)) 22)]), (32, [(22, mx_iastore 23), (23, mx_dup 24), (24, mx_const (nI 3) 25), (25, mx_const ((-2)) 27), (27, mx_iastore 28), (28, mx_dup 29), (29, mx_const (nI 4) 30), (30, mx_const ((-2)) 32)]), (43, [(32, mx_iastore 33), (33, mx_dup 34), (34, mx_const (nI 5) 35), (35, mx_const ((-2)) 37), (37, mx_iastore 38), (38, mx_dup 39), (39, mx_const (nI 6) 41), (41, mx_const ((-2)) 43)]), (55, [(43, mx_iastore 44), (44, mx_dup 45), (45, mx_const (nI 7) 47), (47, mx_const ((-2)) 49), (49, mx_iastore 50), (50, mx_dup 51), (51, mx_const (nI 8) 53), (53, mx_const ((-2)) 55)]), (67, [(55, mx_iastore 56), (56, mx_dup 57), (57, mx_const (nI 9) 59), (59, mx_const ((-2)) 61), (61, mx_iastore 62), (62, mx_dup 63), (63, mx_const (nI 10) 65), (65, mx_const ((-2)) 67)])]
set_option maxRecDepth 100000 in
theorem fle_49_0 (Ls : Nat) (xs : Nat → Int32) : fl_49_0 Ls xs = fMap Ls xs 49 mc_49_0 := rfl
def fl_49_1 (Ls : Nat) (xs : Nat → Int32) : List (Nat × List (Nat × mF)) := [(79, [(67, mx_iastore 68), (68, mx_dup 69), (69, mx_const (nI 11) 71), (71, mx_const ((-2)) 73), (73, mx_iastore 74), (74, mx_dup 75), (75, mx_const (nI 12) 77), (77, mx_const ((-2)) 79)]), (91, [(79, mx_iastore 80), (80, mx_dup 81), (81, mx_const (nI 13) 83), (83, mx_const ((-2)) 85), (85, mx_iastore 86), (86, mx_dup 87), (87, mx_const (nI 14) 89), (89, mx_const ((-2)) 91)]), (103, [(91, mx_iastore 92), (92, mx_dup 93), (93, mx_const (nI 15) 95), (95, mx_const ((-2)) 97), (97, mx_iastore 98), (98, mx_dup 99), (99, mx_const (nI 16) 101), (101, mx_const ((-2)) 103)]), (115, [(103, mx_iastore 104), (104, mx_dup 105), (105, mx_const (nI 17) 107), (107, mx_const ((-2)) 109), (109, mx_iastore 110), (110, mx_dup 111), (111, mx_const (nI 18) 113), (113, mx_const ((-2)) 115)]), (127, [(115, mx_iastore 116), (116, mx_dup 117), (117, mx_const (nI 19) 119), (119, mx_const ((-2)) 121), (121, mx_iastore 122), (122, mx_dup 123), (123, mx_const (nI 20) 125), (125, mx_const ((-2)) 127)]), (139, [(127, mx_iastore 128), (128, mx_dup 129), (129, mx_const (nI 21) 131), (131, mx_const ((-2)) 133), (133, mx_iastore 134), (134, mx_dup 135), (135, mx_const (nI 22) 137), (137, mx_const ((-2)) 139)])]
set_option maxRecDepth 100000 in
theorem fle_49_1 (Ls : Nat) (xs : Nat → Int32) : fl_49_1 Ls xs = fMap Ls xs 49 mc_49_1 := rfl
def fl_49_2 (Ls : Nat) (xs : Nat → Int32) : List (Nat × List (Nat × mF)) := [(151, [(139, mx_iastore 140), (140, mx_dup 141), (141, mx_const (nI 23) 143), (143, mx_const ((-2)) 145), (145, mx_iastore 146), (146, mx_dup 147), (147, mx_const (nI 24) 149), (149, mx_const ((-2)) 151)]), (163, [(151, mx_iastore 152), (152, mx_dup 153), (153, mx_const (nI 25) 155), (155, mx_const ((-2)) 157), (157, mx_iastore 158), (158, mx_dup 159), (159, mx_const (nI 26) 161), (161, mx_const ((-2)) 163)]), (175, [(163, mx_iastore 164), (164, mx_dup 165), (165, mx_const (nI 27) 167), (167, mx_const ((-2)) 169), (169, mx_iastore 170), (170, mx_dup 171), (171, mx_const (nI 28) 173), (173, mx_const ((-2)) 175)]), (187, [(175, mx_iastore 176), (176, mx_dup 177), (177, mx_const (nI 29) 179), (179, mx_const ((-2)) 181), (181, mx_iastore 182), (182, mx_dup 183), (183, mx_const (nI 30) 185), (185, mx_const ((-2)) 187)]), (201, [(187, mx_iastore 188), (188, mx_dup 189), (189, mx_const (nI 31) 191), (191, mx_const ((-2)) 193), (193, mx_iastore 194), (194, mx_putfield 197 2 1), (197, mLdA 0 198), (198, mx_const (nI 128) 201)]), (216, [(201, mx_newarray 203 .int), (203, mx_putfield 206 2 2), (206, mLdA 0 207), (207, mx_const ((-1)) 208), (208, mx_putfield 211 2 4), (211, mLdA 0 212), (212, mx_const (nI 32) 214), (214, mx_newarray 216 .boolean)])]
set_option maxRecDepth 100000 in
theorem fle_49_2 (Ls : Nat) (xs : Nat → Int32) : fl_49_2 Ls xs = fMap Ls xs 49 mc_49_2 := rfl
def fl_49_3 (Ls : Nat) (xs : Nat → Int32) : List (Nat × List (Nat × mF)) := [(220, [(216, mx_putfield 219 2 5), (219, mx_return_ 49)])]
set_option maxRecDepth 100000 in
theorem fle_49_3 (Ls : Nat) (xs : Nat → Int32) : fl_49_3 Ls xs = fMap Ls xs 49 mc_49_3 := rfl
end
section
def fl_49 (Ls : Nat) (xs : Nat → Int32) : List (Nat × List (Nat × mF)) := fl_49_0 Ls xs ++ (fl_49_1 Ls xs ++ (fl_49_2 Ls xs ++ (fl_49_3 Ls xs)))
theorem fle_49 (Ls : Nat) (xs : Nat → Int32) : fl_49 Ls xs = fMap Ls xs 49 mc_49 := by
  simp only [fl_49, mc_49, fMap_app, fle_49_0, fle_49_1, fle_49_2, fle_49_3]
def fl_50 (Ls : Nat) (xs : Nat → Int32) : List (Nat × List (Nat × mF)) := [(5, [(0, mLdA 0 1), (1, mx_getfield 4 2 0), (4, mx_ireturn 50)])]
set_option maxRecDepth 100000 in
theorem fle_50 (Ls : Nat) (xs : Nat → Int32) : fl_50 Ls xs = fMap Ls xs 50 mc_50 := rfl
def fl_51_0 (Ls : Nat) (xs : Nat → Int32) : List (Nat × List (Nat × mF)) := [(16, [(0, mLdA 0 1), (1, mLdA 0 2), (2, mx_getfield 5 2 3), (5, mx_ifCond 8 12 .eq), (8, mx_const (nI 1) 9), (9, mx_goto 59), (12, mLdI 1 13), (13, mx_invokestatic 51 16 52 1)]), (32, [(16, mx_ifCond 19 23 .ne), (19, mx_const (nI 2) 20), (20, mx_goto 59), (23, mLdA 0 24), (24, mLdI 1 25), (25, mx_invokevirtual 51 28 54 1), (28, mx_ifCond 31 35 .ne), (31, mx_const (nI 3) 32)]), (47, [(32, mx_goto 59), (35, mLdI 1 36), (36, mx_ifCond 39 54 .eq), (39, mLdA 0 40), (40, mLdA 0 41), (41, mx_getfield 44 2 6), (44, mLdI 1 45), (45, mx_const (nI 15) 47)]), (63, [(47, mBin (fun a b => a &&& b) 48), (48, mx_invokevirtual 51 51 55 2), (51, mx_ifCond 54 58 .lt), (54, mx_const (nI 4) 55), (55, mx_goto 59), (58, mx_const (nI 0) 59), (59, mx_putfield 62 2 0), (62, mLdA 0 63)]), (79, [(63, mx_getfield 66 2 0), (66, mx_ifCond 69 71 .le), (69, mx_const (nI 0) 70), (70, mx_ireturn 51), (71, mLdI 2 72), (72, mx_ifCond 75 79 .eq), (75, mx_const (nI 2) 76), (76, mx_goto 80)]), (92, [(79, mx_const (nI 1) 80), (80, mStI 3 81), (81, mLdA 0 82), (82, mLdA 0 83), (83, mx_getfield 86 2 6), (86, mx_const (nI 0) 87), (87, mx_invokevirtual 51 90 55 2), (90, mStI 4 92)])]
set_option maxRecDepth 100000 in
theorem fle_51_0 (Ls : Nat) (xs : Nat → Int32) : fl_51_0 Ls xs = fMap Ls xs 51 mc_51_0 := rfl
def fl_51_1 (Ls : Nat) (xs : Nat → Int32) : List (Nat × List (Nat × mF)) := [(110, [(92, mLdI 4 94), (94, mx_ifCond 97 102 .lt), (97, mLdI 4 99), (99, mx_goto 106), (102, mLdA 0 103), (103, mx_invokevirtual 51 106 57 0), (106, mStI 5 108), (108, mLdI 5 110)]), (123, [(110, mx_ifCond 113 120 .ge), (113, mLdA 0 114), (114, mx_const (nI 5) 115), (115, mx_putfield 118 2 0), (118, mx_const (nI 0) 119), (119, mx_ireturn 51), (120, mLdA 0 121), (121, mLdI 5 123)]), (135, [(123, mLdI 1 124), (124, mx_const (nI 15) 126), (126, mBin (fun a b => a &&& b) 127), (127, mLdI 3 128), (128, mx_const ((-1)) 129), (129, mx_const (nI 0) 130), (130, mx_invokevirtual 51 133 58 5), (133, mLdI 4 135)]), (152, [(135, mx_ifCond 138 184 .ge), (138, mLdA 0 139), (139, mLdI 5 141), (141, mx_const ((-1)) 142), (142, mx_invokevirtual 51 145 60 2), (145, mLdA 0 146), (146, mx_getfield 149 2 6), (149, mx_ifCond 152 173 .lt)]), (167, [(152, mLdA 0 153), (153, mLdA 0 154), (154, mx_getfield 157 2 6), (157, mx_invokevirtual 51 160 61 1), (160, mStI 6 162), (162, mLdA 0 163), (163, mLdI 6 165), (165, mLdI 5 167)]), (184, [(167, mx_invokevirtual 51 170 60 2), (170, mx_goto 184), (173, mLdA 0 174), (174, mLdA 0 175), (175, mx_getfield 178 2 7), (178, mLdI 5 180), (180, mx_const (nI 0) 181), (181, mx_invokevirtual 51 184 62 3)])]
set_option maxRecDepth 100000 in
theorem fle_51_1 (Ls : Nat) (xs : Nat → Int32) : fl_51_1 Ls xs = fMap Ls xs 51 mc_51_1 := rfl
def fl_51_2 (Ls : Nat) (xs : Nat → Int32) : List (Nat × List (Nat × mF)) := [(200, [(184, mLdA 0 185), (185, mLdA 0 186), (186, mx_getfield 189 2 3), (189, mx_ifCond 192 196 .eq), (192, mx_const (nI 1) 193), (193, mx_goto 197), (196, mx_const (nI 0) 197), (197, mx_putfield 200 2 0)]), (214, [(200, mLdA 0 201), (201, mx_getfield 204 2 3), (204, mx_ifCond 207 211 .eq), (207, mx_const (nI 0) 208), (208, mx_goto 213), (211, mLdI 5 213), (213, mx_ireturn 51)])]
set_option maxRecDepth 100000 in
theorem fle_51_2 (Ls : Nat) (xs : Nat → Int32) : fl_51_2 Ls xs = fMap Ls xs 51 mc_51_2 := rfl
def fl_51 (Ls : Nat) (xs : Nat → Int32) : List (Nat × List (Nat × mF)) := fl_51_0 Ls xs ++ (fl_51_1 Ls xs ++ (fl_51_2 Ls xs))
theorem fle_51 (Ls : Nat) (xs : Nat → Int32) : fl_51 Ls xs = fMap Ls xs 51 mc_51 := by
  simp only [fl_51, mc_51, fMap_app, fle_51_0, fle_51_1, fle_51_2]
def fl_52 (Ls : Nat) (xs : Nat → Int32) : List (Nat × List (Nat × mF)) := [(11, [(0, mLdI 0 1), (1, mx_const (nI 0) 2), (2, mx_const (nI 65535) 4), (4, mx_invokestatic 52 7 53 3), (7, mStI 1 8), (8, mLdI 0 9), (9, mStI 2 10), (10, mLdI 2 11)]), (26, [(11, mx_ifCond 14 38 .le), (14, mLdI 1 15), (15, mx_ifCond 18 38 .eq), (18, mLdI 2 19), (19, mx_const (nI 15) 21), (21, mBin (fun a b => a &&& b) 22), (22, mx_ifCond 25 29 .eq), (25, mx_const (nI 1) 26)]), (38, [(26, mx_goto 30), (29, mx_const (nI 0) 30), (30, mStI 1 31), (31, mLdI 2 32), (32, mx_const (nI 4) 33), (33, mBin (fun a b => a >>> (b &&& 31)) 34), (34, mStI 2 35), (35, mx_goto 10)]), (40, [(38, mLdI 1 39), (39, mx_ireturn 52)])]
set_option maxRecDepth 100000 in
theorem fle_52 (Ls : Nat) (xs : Nat → Int32) : fl_52 Ls xs = fMap Ls xs 52 mc_52 := rfl
def fl_53 (Ls : Nat) (xs : Nat → Int32) : List (Nat × List (Nat × mF)) := [(14, [(0, mLdI 0 1), (1, mLdI 1 2), (2, mx_if_icmp 5 14 .lt), (5, mLdI 0 6), (6, mLdI 2 7), (7, mx_if_icmp 10 14 .gt), (10, mx_const (nI 1) 11), (11, mx_goto 15)]), (16, [(14, mx_const (nI 0) 15), (15, mx_ireturn 53)])]
set_option maxRecDepth 100000 in
theorem fle_53 (Ls : Nat) (xs : Nat → Int32) : fl_53 Ls xs = fMap Ls xs 53 mc_53 := rfl
def fl_54 (Ls : Nat) (xs : Nat → Int32) : List (Nat × List (Nat × mF)) := [(12, [(0, mLdA 0 1), (1, mx_const (nI 0) 2), (2, mx_putfield 5 2 6), (5, mLdA 0 6), (6, mx_const ((-1)) 7), (7, mx_putfield 10 2 7), (10, mx_const (nI 1) 11), (11, mStI 2 12)]), (25, [(12, mx_const (nI 12) 14), (14, mStI 3 15), (15, mLdI 3 16), (16, mx_ifCond 19 103 .le), (19, mLdI 2 20), (20, mx_ifCond 23 103 .eq), (23, mLdI 1 24), (24, mLdI 3 25)]), (38, [(25, mBin (fun a b => a >>> (b &&& 31)) 26), (26, mx_const (nI 15) 28), (28, mBin (fun a b => a &&& b) 29), (29, mStI 4 31), (31, mLdI 4 33), (33, mx_ifCond 36 97 .le), (36, mLdA 0 37), (37, mLdA 0 38)]), (56, [(38, mx_getfield 41 2 6), (41, mLdI 4 43), (43, mx_invokevirtual 54 46 55 2), (46, mStI 5 48), (48, mLdI 5 50), (50, mx_ifCond 53 66 .lt), (53, mLdA 0 54), (54, mLdI 5 56)]), (71, [(56, mx_invokevirtual 54 59 56 1), (59, mx_ifCond 62 66 .eq), (62, mx_const (nI 1) 63), (63, mx_goto 67), (66, mx_const (nI 0) 67), (67, mStI 2 68), (68, mLdA 0 69), (69, mLdI 5 71)]), (86, [(71, mx_putfield 74 2 7), (74, mLdA 0 75), (75, mLdI 2 76), (76, mx_ifCond 79 93 .eq), (79, mLdA 0 80), (80, mx_getfield 83 2 2), (83, mx_const (nI 4) 84), (84, mLdI 5 86)]), (100, [(86, mBin (fun a b => a * b) 87), (87, mx_const (nI 2) 88), (88, mBin (fun a b => a + b) 89), (89, mx_iaload Ls xs 90), (90, mx_goto 94), (93, mx_const (nI 0) 94), (94, mx_putfield 97 2 6), (97, mx_iinc 100 3 (-4))]), (105, [(100, mx_goto 15), (103, mLdI 2 104), (104, mx_ireturn 54)])]
set_option maxRecDepth 100000 in
theorem fle_54 (Ls : Nat) (xs : Nat → Int32) : fl_54 Ls xs = fMap Ls xs 54 mc_54 := rfl
def fl_55 (Ls : Nat) (xs : Nat → Int32) : List (Nat × List (Nat × mF)) := [(12, [(0, mLdI 1 1), (1, mStI 3 2), (2, mLdI 3 3), (3, mx_ifCond 6 28 .lt), (6, mLdA 0 7), (7, mx_getfield 10 2 2), (10, mx_const (nI 4) 11), (11, mLdI 3 12)]), (24, [(12, mBin (fun a b => a * b) 13), (13, mx_iaload Ls xs 14), (14, mLdI 2 15), (15, mx_if_icmp 18 28 .eq), (18, mLdA 0 19), (19, mx_getfield 22 2 1), (22, mLdI 3 23), (23, mx_iaload Ls xs 24)]), (38, [(24, mStI 3 25), (25, mx_goto 2), (28, mLdI 3 29), (29, mx_ifCond 32 36 .ge), (32, mx_const ((-1)) 33), (33, mx_goto 37), (36, mLdI 3 37), (37, mx_ireturn 55)])]
set_option maxRecDepth 100000 in
theorem fle_55 (Ls : Nat) (xs : Nat → Int32) : fl_55 Ls xs = fMap Ls xs 55 mc_55 := rfl
def fl_56 (Ls : Nat) (xs : Nat → Int32) : List (Nat × List (Nat × mF)) := [(12, [(0, mLdI 1 1), (1, mx_const ((-1)) 2), (2, mx_if_icmp 5 19 .eq), (5, mLdA 0 6), (6, mx_getfield 9 2 2), (9, mx_const (nI 4) 10), (10, mLdI 1 11), (11, mBin (fun a b => a * b) 12)]), (24, [(12, mx_const (nI 1) 13), (13, mBin (fun a b => a + b) 14), (14, mx_iaload Ls xs 15), (15, mx_const (nI 2) 16), (16, mx_if_icmp 19 23 .ne), (19, mx_const (nI 1) 20), (20, mx_goto 24), (23, mx_const (nI 0) 24)]), (25, [(24, mx_ireturn 56)])]
set_option maxRecDepth 100000 in
theorem fle_56 (Ls : Nat) (xs : Nat → Int32) : fl_56 Ls xs = fMap Ls xs 56 mc_56 := rfl
def fl_57 (Ls : Nat) (xs : Nat → Int32) : List (Nat × List (Nat × mF)) := [(13, [(0, mx_const (nI 0) 1), (1, mStI 1 2), (2, mLdI 1 3), (3, mx_const (nI 32) 5), (5, mx_if_icmp 8 25 .ge), (8, mLdA 0 9), (9, mx_getfield 12 2 1), (12, mLdI 1 13)]), (31, [(13, mx_iaload Ls xs 14), (14, mx_const ((-2)) 16), (16, mx_if_icmp 19 25 .eq), (19, mx_iinc 22 1 1), (22, mx_goto 2), (25, mLdI 1 26), (26, mx_const (nI 32) 28), (28, mx_if_icmp 31 35 .ne)]), (37, [(31, mx_const ((-1)) 32), (32, mx_goto 36), (35, mLdI 1 36), (36, mx_ireturn 57)])]
set_option maxRecDepth 100000 in
theorem fle_57 (Ls : Nat) (xs : Nat → Int32) : fl_57 Ls xs = fMap Ls xs 57 mc_57 := rfl
def fl_58 (Ls : Nat) (xs : Nat → Int32) : List (Nat × List (Nat × mF)) := [(14, [(0, mLdA 0 1), (1, mx_invokevirtual 58 4 59 0), (4, mx_ifCond 7 51 .eq), (7, mLdA 0 8), (8, mx_getfield 11 2 2), (11, mx_const (nI 4) 12), (12, mLdI 1 13), (13, mBin (fun a b => a * b) 14)]), (24, [(14, mLdI 2 15), (15, mx_iastore 16), (16, mLdA 0 17), (17, mx_getfield 20 2 2), (20, mx_const (nI 4) 21), (21, mLdI 1 22), (22, mBin (fun a b => a * b) 23), (23, mx_const (nI 1) 24)]), (34, [(24, mBin (fun a b => a + b) 25), (25, mLdI 3 26), (26, mx_iastore 27), (27, mLdA 0 28), (28, mx_getfield 31 2 2), (31, mx_const (nI 4) 32), (32, mLdI 1 33), (33, mBin (fun a b => a * b) 34)]), (45, [(34, mx_const (nI 2) 35), (35, mBin (fun a b => a + b) 36), (36, mLdI 4 38), (38, mx_iastore 39), (39, mLdA 0 40), (40, mx_getfield 43 2 2), (43, mx_const (nI 4) 44), (44, mLdI 1 45)]), (52, [(45, mBin (fun a b => a * b) 46), (46, mx_const (nI 3) 47), (47, mBin (fun a b => a + b) 48), (48, mLdI 5 50), (50, mx_iastore 51), (51, mx_return_ 58)])]
set_option maxRecDepth 100000 in
theorem fle_58 (Ls : Nat) (xs : Nat → Int32) : fl_58 Ls xs = fMap Ls xs 58 mc_58 := rfl
def fl_59 (Ls : Nat) (xs : Nat → Int32) : List (Nat × List (Nat × mF)) := [(16, [(0, mLdA 0 1), (1, mx_getfield 4 2 3), (4, mx_ifCond 7 9 .eq), (7, mx_const (nI 0) 8), (8, mx_ireturn 59), (9, mLdA 0 10), (10, mx_getfield 13 2 4), (13, mx_ifCond 16 23 .ne)]), (28, [(16, mLdA 0 17), (17, mx_const (nI 1) 18), (18, mx_putfield 21 2 3), (21, mx_const (nI 0) 22), (22, mx_ireturn 59), (23, mLdA 0 24), (24, mLdA 0 25), (25, mx_getfield 28 2 4)]), (44, [(28, mx_ifCond 31 40 .le), (31, mLdA 0 32), (32, mx_getfield 35 2 4), (35, mx_const (nI 1) 36), (36, mBin (fun a b => a - b) 37), (37, mx_goto 44), (40, mLdA 0 41), (41, mx_getfield 44 2 4)]), (49, [(44, mx_putfield 47 2 4), (47, mx_const (nI 1) 48), (48, mx_ireturn 59)])]
set_option maxRecDepth 100000 in
theorem fle_59 (Ls : Nat) (xs : Nat → Int32) : fl_59 Ls xs = fMap Ls xs 59 mc_59 := rfl
def fl_60 (Ls : Nat) (xs : Nat → Int32) : List (Nat × List (Nat × mF)) := [(14, [(0, mLdA 0 1), (1, mx_invokevirtual 60 4 59 0), (4, mx_ifCond 7 14 .eq), (7, mLdA 0 8), (8, mx_getfield 11 2 1), (11, mLdI 1 12), (12, mLdI 2 13), (13, mx_iastore 14)]), (15, [(14, mx_return_ 60)])]
set_option maxRecDepth 100000 in
theorem fle_60 (Ls : Nat) (xs : Nat → Int32) : fl_60 Ls xs = fMap Ls xs 60 mc_60 := rfl
def fl_61 (Ls : Nat) (xs : Nat → Int32) : List (Nat × List (Nat × mF)) := [(12, [(0, mLdI 1 1), (1, mStI 2 2), (2, mLdI 2 3), (3, mx_ifCond 6 25 .lt), (6, mLdA 0 7), (7, mx_getfield 10 2 1), (10, mLdI 2 11), (11, mx_iaload Ls xs 12)]), (26, [(12, mx_ifCond 15 25 .lt), (15, mLdA 0 16), (16, mx_getfield 19 2 1), (19, mLdI 2 20), (20, mx_iaload Ls xs 21), (21, mStI 2 22), (22, mx_goto 2), (25, mLdI 2 26)]), (27, [(26, mx_ireturn 61)])]
set_option maxRecDepth 100000 in
theorem fle_61 (Ls : Nat) (xs : Nat → Int32) : fl_61 Ls xs = fMap Ls xs 61 mc_61 := rfl
def fl_62 (Ls : Nat) (xs : Nat → Int32) : List (Nat × List (Nat × mF)) := [(10, [(0, mLdA 0 1), (1, mLdI 1 2), (2, mLdA 0 3), (3, mx_getfield 6 2 2), (6, mx_const (nI 4) 7), (7, mLdI 1 8), (8, mBin (fun a b => a * b) 9), (9, mx_iaload Ls xs 10)]), (20, [(10, mLdA 0 11), (11, mx_getfield 14 2 2), (14, mx_const (nI 4) 15), (15, mLdI 1 16), (16, mBin (fun a b => a * b) 17), (17, mx_const (nI 1) 18), (18, mBin (fun a b => a + b) 19), (19, mx_iaload Ls xs 20)]), (26, [(20, mLdI 2 21), (21, mLdI 3 22), (22, mx_invokevirtual 62 25 58 5), (25, mx_return_ 62)])]
set_option maxRecDepth 100000 in
theorem fle_62 (Ls : Nat) (xs : Nat → Int32) : fl_62 Ls xs = fMap Ls xs 62 mc_62 := rfl
end
section
def fl_63 (Ls : Nat) (xs : Nat → Int32) : List (Nat × List (Nat × mF)) := [(16, [(0, mLdA 0 1), (1, mLdA 0 2), (2, mLdI 1 3), (3, mx_invokevirtual 63 6 64 1), (6, mx_putfield 9 2 0), (9, mLdA 0 10), (10, mx_getfield 13 2 0), (13, mx_ifCond 16 18 .le)]), (28, [(16, mx_const (nI 0) 17), (17, mx_ireturn 63), (18, mLdI 1 19), (19, mx_ifCond 22 26 .ne), (22, mx_const ((-1)) 23), (23, mx_goto 31), (26, mLdA 0 27), (27, mLdI 1 28)]), (42, [(28, mx_invokevirtual 63 31 65 1), (31, mStI 2 32), (32, mLdA 0 33), (33, mLdI 1 34), (34, mx_ifCond 37 62 .eq), (37, mLdA 0 38), (38, mLdI 2 39), (39, mx_invokevirtual 63 42 56 1)]), (54, [(42, mx_ifCond 45 66 .eq), (45, mLdA 0 46), (46, mLdA 0 47), (47, mx_getfield 50 2 2), (50, mx_const (nI 4) 51), (51, mLdI 2 52), (52, mBin (fun a b => a * b) 53), (53, mx_const (nI 2) 54)]), (70, [(54, mBin (fun a b => a + b) 55), (55, mx_iaload Ls xs 56), (56, mx_invokevirtual 63 59 66 1), (59, mx_ifCond 62 66 .le), (62, mx_const (nI 4) 63), (63, mx_goto 67), (66, mx_const (nI 0) 67), (67, mx_putfield 70 2 0)]), (84, [(70, mLdA 0 71), (71, mx_getfield 74 2 0), (74, mx_ifCond 77 79 .le), (77, mx_const (nI 0) 78), (78, mx_ireturn 63), (79, mLdA 0 80), (80, mx_getfield 83 2 2), (83, mx_const (nI 4) 84)]), (92, [(84, mLdI 2 85), (85, mBin (fun a b => a * b) 86), (86, mx_const (nI 2) 87), (87, mBin (fun a b => a + b) 88), (88, mx_iaload Ls xs 89), (89, mStI 3 90), (90, mLdA 0 91), (91, mLdI 2 92)]), (104, [(92, mx_const (nI 0) 93), (93, mx_const (nI 0) 94), (94, mx_const (nI 0) 95), (95, mx_const (nI 0) 96), (96, mx_invokevirtual 63 99 58 5), (99, mLdA 0 100), (100, mLdI 3 101), (101, mx_invokevirtual 63 104 67 1)]), (120, [(104, mLdA 0 105), (105, mLdA 0 106), (106, mx_getfield 109 2 3), (109, mx_ifCond 112 116 .eq), (112, mx_const (nI 1) 113), (113, mx_goto 117), (116, mx_const (nI 0) 117), (117, mx_putfield 120 2 0)]), (136, [(120, mLdA 0 121), (121, mx_getfield 124 2 3), (124, mx_ifCond 127 131 .eq), (127, mx_const (nI 0) 128), (128, mx_goto 135), (131, mLdA 0 132), (132, mx_getfield 135 2 8), (135, mx_ireturn 63)])]
set_option maxRecDepth 100000 in
theorem fle_63 (Ls : Nat) (xs : Nat → Int32) : fl_63 Ls xs = fMap Ls xs 63 mc_63 := rfl
def fl_64 (Ls : Nat) (xs : Nat → Int32) : List (Nat × List (Nat × mF)) := [(18, [(0, mLdA 0 1), (1, mx_getfield 4 2 3), (4, mx_ifCond 7 11 .eq), (7, mx_const (nI 1) 8), (8, mx_goto 39), (11, mLdI 1 12), (12, mx_invokestatic 64 15 52 1), (15, mx_ifCond 18 22 .ne)]), (34, [(18, mx_const (nI 2) 19), (19, mx_goto 39), (22, mLdI 1 23), (23, mx_ifCond 26 38 .eq), (26, mLdA 0 27), (27, mLdI 1 28), (28, mx_invokevirtual 64 31 65 1), (31, mx_ifCond 34 38 .ge)]), (40, [(34, mx_const (nI 3) 35), (35, mx_goto 39), (38, mx_const (nI 0) 39), (39, mx_ireturn 64)])]
set_option maxRecDepth 100000 in
theorem fle_64 (Ls : Nat) (xs : Nat → Int32) : fl_64 Ls xs = fMap Ls xs 64 mc_64 := rfl
def fl_65 (Ls : Nat) (xs : Nat → Int32) : List (Nat × List (Nat × mF)) := [(14, [(0, mLdA 0 1), (1, mLdI 1 2), (2, mx_invokevirtual 65 5 54 1), (5, mx_ifCond 8 23 .eq), (8, mLdA 0 9), (9, mLdA 0 10), (10, mx_getfield 13 2 6), (13, mLdI 1 14)]), (25, [(14, mx_const (nI 15) 16), (16, mBin (fun a b => a &&& b) 17), (17, mx_invokevirtual 65 20 55 2), (20, mx_goto 24), (23, mx_const ((-1)) 24), (24, mx_ireturn 65)])]
set_option maxRecDepth 100000 in
theorem fle_65 (Ls : Nat) (xs : Nat → Int32) : fl_65 Ls xs = fMap Ls xs 65 mc_65 := rfl
def fl_66 (Ls : Nat) (xs : Nat → Int32) : List (Nat × List (Nat × mF)) := [(12, [(0, mx_const (nI 0) 1), (1, mStI 2 2), (2, mLdI 1 3), (3, mStI 3 4), (4, mLdI 3 5), (5, mx_ifCond 8 46 .lt), (8, mLdA 0 9), (9, mx_getfield 12 2 2)]), (22, [(12, mx_const (nI 4) 13), (13, mLdI 3 14), (14, mBin (fun a b => a * b) 15), (15, mx_iaload Ls xs 16), (16, mx_ifCond 19 34 .le), (19, mLdI 2 20), (20, mx_const (nI 1) 21), (21, mLdA 0 22)]), (34, [(22, mx_getfield 25 2 2), (25, mx_const (nI 4) 26), (26, mLdI 3 27), (27, mBin (fun a b => a * b) 28), (28, mx_iaload Ls xs 29), (29, mBin (fun a b => a <<< (b &&& 31)) 30), (30, mBin (fun a b => a + b) 31), (31, mx_goto 35)]), (46, [(34, mLdI 2 35), (35, mStI 2 36), (36, mLdA 0 37), (37, mx_getfield 40 2 1), (40, mLdI 3 41), (41, mx_iaload Ls xs 42), (42, mStI 3 43), (43, mx_goto 4)]), (48, [(46, mLdI 2 47), (47, mx_ireturn 66)])]
set_option maxRecDepth 100000 in
theorem fle_66 (Ls : Nat) (xs : Nat → Int32) : fl_66 Ls xs = fMap Ls xs 66 mc_66 := rfl
def fl_67 (Ls : Nat) (xs : Nat → Int32) : List (Nat × List (Nat × mF)) := [(12, [(0, mLdA 0 1), (1, mx_const (nI 0) 2), (2, mx_putfield 5 2 8), (5, mLdI 1 6), (6, mStI 2 7), (7, mLdI 2 8), (8, mx_ifCond 11 40 .lt), (11, mLdA 0 12)]), (25, [(12, mx_getfield 15 2 1), (15, mLdI 2 16), (16, mx_iaload Ls xs 17), (17, mStI 3 18), (18, mLdA 0 19), (19, mLdI 2 20), (20, mx_const ((-2)) 22), (22, mx_invokevirtual 67 25 60 2)]), (37, [(25, mLdA 0 26), (26, mx_dup 27), (27, mx_getfield 30 2 8), (30, mx_const (nI 1) 31), (31, mBin (fun a b => a + b) 32), (32, mx_putfield 35 2 8), (35, mLdI 3 36), (36, mStI 2 37)]), (41, [(37, mx_goto 7), (40, mx_return_ 67)])]
set_option maxRecDepth 100000 in
theorem fle_67 (Ls : Nat) (xs : Nat → Int32) : fl_67 Ls xs = fMap Ls xs 67 mc_67 := rfl
def fl_68 (Ls : Nat) (xs : Nat → Int32) : List (Nat × List (Nat × mF)) := [(16, [(0, mLdA 0 1), (1, mLdA 0 2), (2, mx_getfield 5 2 3), (5, mx_ifCond 8 12 .eq), (8, mx_const (nI 1) 9), (9, mx_goto 38), (12, mLdI 1 13), (13, mx_invokestatic 68 16 52 1)]), (33, [(16, mx_ifCond 19 29 .eq), (19, mLdI 2 20), (20, mx_const (nI 1) 21), (21, mx_const (nI 15) 23), (23, mx_invokestatic 68 26 53 3), (26, mx_ifCond 29 33 .ne), (29, mx_const (nI 2) 30), (30, mx_goto 38)]), (49, [(33, mLdA 0 34), (34, mLdI 1 35), (35, mx_invokevirtual 68 38 64 1), (38, mx_putfield 41 2 0), (41, mLdA 0 42), (42, mx_getfield 45 2 0), (45, mx_ifCond 48 50 .le), (48, mx_const (nI 0) 49)]), (63, [(49, mx_ireturn 68), (50, mLdI 1 51), (51, mx_ifCond 54 58 .ne), (54, mx_const ((-1)) 55), (55, mx_goto 63), (58, mLdA 0 59), (59, mLdI 1 60), (60, mx_invokevirtual 68 63 65 1)]), (75, [(63, mStI 3 64), (64, mLdA 0 65), (65, mLdI 1 66), (66, mx_ifCond 69 81 .eq), (69, mLdA 0 70), (70, mLdA 0 71), (71, mx_getfield 74 2 6), (74, mLdI 2 75)]), (93, [(75, mx_invokevirtual 68 78 55 2), (78, mx_ifCond 81 85 .lt), (81, mx_const (nI 4) 82), (82, mx_goto 86), (85, mx_const (nI 0) 86), (86, mx_putfield 89 2 0), (89, mLdA 0 90), (90, mx_getfield 93 2 0)]), (105, [(93, mx_ifCond 96 98 .le), (96, mx_const (nI 0) 97), (97, mx_ireturn 68), (98, mLdA 0 99), (99, mLdI 3 100), (100, mx_const (nI 0) 101), (101, mLdI 2 102), (102, mx_invokevirtual 68 105 69 3)]), (121, [(105, mLdA 0 106), (106, mLdA 0 107), (107, mx_getfield 110 2 3), (110, mx_ifCond 113 117 .eq), (113, mx_const (nI 1) 114), (114, mx_goto 118), (117, mx_const (nI 0) 118), (118, mx_putfield 121 2 0)]), (136, [(121, mLdA 0 122), (122, mx_getfield 125 2 3), (125, mx_ifCond 128 132 .eq), (128, mx_const (nI 0) 129), (129, mx_goto 140), (132, mLdI 1 133), (133, mLdI 1 134), (134, mx_const (nI 15) 136)]), (141, [(136, mBin (fun a b => a &&& b) 137), (137, mBin (fun a b => a - b) 138), (138, mLdI 2 139), (139, mBin (fun a b => a + b) 140), (140, mx_ireturn 68)])]
set_option maxRecDepth 100000 in
theorem fle_68 (Ls : Nat) (xs : Nat → Int32) : fl_68 Ls xs = fMap Ls xs 68 mc_68 := rfl
def fl_69 (Ls : Nat) (xs : Nat → Int32) : List (Nat × List (Nat × mF)) := [(14, [(0, mLdA 0 1), (1, mx_invokevirtual 69 4 59 0), (4, mx_ifCond 7 18 .eq), (7, mLdA 0 8), (8, mx_getfield 11 2 2), (11, mx_const (nI 4) 12), (12, mLdI 1 13), (13, mBin (fun a b => a * b) 14)]), (19, [(14, mLdI 2 15), (15, mBin (fun a b => a + b) 16), (16, mLdI 3 17), (17, mx_iastore 18), (18, mx_return_ 69)])]
set_option maxRecDepth 100000 in
theorem fle_69 (Ls : Nat) (xs : Nat → Int32) : fl_69 Ls xs = fMap Ls xs 69 mc_69 := rfl
def fl_70_0 (Ls : Nat) (xs : Nat → Int32) : List (Nat × List (Nat × mF)) := [(16, [(0, mLdA 0 1), (1, mLdA 0 2), (2, mLdI 1 3), (3, mx_invokevirtual 70 6 71 1), (6, mx_putfield 9 2 0), (9, mLdA 0 10), (10, mx_getfield 13 2 0), (13, mx_ifCond 16 18 .le)]), (28, [(16, mx_const (nI 0) 17), (17, mx_ireturn 70), (18, mLdA 0 19), (19, mLdI 1 20), (20, mx_invokevirtual 70 23 65 1), (23, mStI 3 24), (24, mLdA 0 25), (25, mx_getfield 28 2 2)]), (37, [(28, mx_const (nI 4) 29), (29, mLdI 3 30), (30, mBin (fun a b => a * b) 31), (31, mx_const (nI 2) 32), (32, mBin (fun a b => a + b) 33), (33, mx_iaload Ls xs 34), (34, mStI 4 36), (36, mLdA 0 37)]), (48, [(37, mx_getfield 40 2 2), (40, mx_const (nI 4) 41), (41, mLdI 3 42), (42, mBin (fun a b => a * b) 43), (43, mx_const (nI 3) 44), (44, mBin (fun a b => a + b) 45), (45, mx_iaload Ls xs 46), (46, mStI 5 48)]), (63, [(48, mLdA 0 49), (49, mLdI 4 51), (51, mx_invokevirtual 70 54 61 1), (54, mStI 6 56), (56, mLdI 5 58), (58, mx_const (nI 4) 59), (59, mx_irem 60), (60, mx_ifCond 63 88 .eq)]), (75, [(63, mLdA 0 64), (64, mLdI 6 66), (66, mLdI 5 68), (68, mx_const (nI 4) 69), (69, mx_irem 70), (70, mLdI 2 71), (71, mx_invokevirtual 70 74 69 3), (74, mLdA 0 75)])]
set_option maxRecDepth 100000 in
theorem fle_70_0 (Ls : Nat) (xs : Nat → Int32) : fl_70_0 Ls xs = fMap Ls xs 70 mc_70_0 := rfl
def fl_70_1 (Ls : Nat) (xs : Nat → Int32) : List (Nat × List (Nat × mF)) := [(89, [(75, mLdI 3 76), (76, mLdI 4 78), (78, mLdI 5 80), (80, mx_const (nI 1) 81), (81, mBin (fun a b => a + b) 82), (82, mx_invokevirtual 70 85 62 3), (85, mx_goto 157), (88, mLdA 0 89)]), (105, [(89, mx_invokevirtual 70 92 57 0), (92, mStI 7 94), (94, mLdI 7 96), (96, mx_ifCond 99 106 .ge), (99, mLdA 0 100), (100, mx_const (nI 5) 101), (101, mx_putfield 104 2 0), (104, mx_const (nI 0) 105)]), (116, [(105, mx_ireturn 70), (106, mLdA 0 107), (107, mLdI 7 109), (109, mLdI 2 110), (110, mx_const (nI 0) 111), (111, mx_const (nI 0) 112), (112, mx_const (nI 0) 113), (113, mx_invokevirtual 70 116 58 5)]), (131, [(116, mLdA 0 117), (117, mLdI 7 119), (119, mx_const ((-1)) 120), (120, mx_invokevirtual 70 123 60 2), (123, mLdI 5 125), (125, mx_ifCond 128 136 .eq), (128, mLdA 0 129), (129, mLdI 6 131)]), (148, [(131, mLdI 7 133), (133, mx_invokevirtual 70 136 60 2), (136, mLdA 0 137), (137, mLdI 3 138), (138, mLdI 5 140), (140, mx_ifCond 143 148 .ne), (143, mLdI 7 145), (145, mx_goto 150)]), (162, [(148, mLdI 4 150), (150, mLdI 5 152), (152, mx_const (nI 1) 153), (153, mBin (fun a b => a + b) 154), (154, mx_invokevirtual 70 157 62 3), (157, mLdA 0 158), (158, mLdA 0 159), (159, mx_getfield 162 2 3)])]
set_option maxRecDepth 100000 in
theorem fle_70_1 (Ls : Nat) (xs : Nat → Int32) : fl_70_1 Ls xs = fMap Ls xs 70 mc_70_1 := rfl
def fl_70_2 (Ls : Nat) (xs : Nat → Int32) : List (Nat × List (Nat × mF)) := [(180, [(162, mx_ifCond 165 169 .eq), (165, mx_const (nI 1) 166), (166, mx_goto 170), (169, mx_const (nI 0) 170), (170, mx_putfield 173 2 0), (173, mLdA 0 174), (174, mx_getfield 177 2 3), (177, mx_ifCond 180 184 .eq)]), (189, [(180, mx_const (nI 0) 181), (181, mx_goto 188), (184, mLdI 5 186), (186, mx_const (nI 1) 187), (187, mBin (fun a b => a + b) 188), (188, mx_ireturn 70)])]
set_option maxRecDepth 100000 in
theorem fle_70_2 (Ls : Nat) (xs : Nat → Int32) : fl_70_2 Ls xs = fMap Ls xs 70 mc_70_2 := rfl
end
section
def fl_70 (Ls : Nat) (xs : Nat → Int32) : List (Nat × List (Nat × mF)) := fl_70_0 Ls xs ++ (fl_70_1 Ls xs ++ (fl_70_2 Ls xs))
theorem fle_70 (Ls : Nat) (xs : Nat → Int32) : fl_70 Ls xs = fMap Ls xs 70 mc_70 := by
  simp only [fl_70, mc_70, fMap_app, fle_70_0, fle_70_1, fle_70_2]
def fl_71 (Ls : Nat) (xs : Nat → Int32) : List (Nat × List (Nat × mF)) := [(14, [(0, mLdA 0 1), (1, mLdI 1 2), (2, mx_invokevirtual 71 5 64 1), (5, mStI 2 6), (6, mLdI 2 7), (7, mx_ifCond 10 14 .le), (10, mLdI 2 11), (11, mx_goto 35)]), (30, [(14, mLdI 1 15), (15, mx_ifCond 18 30 .eq), (18, mLdA 0 19), (19, mLdA 0 20), (20, mLdI 1 21), (21, mx_invokevirtual 71 24 65 1), (24, mx_invokevirtual 71 27 56 1), (27, mx_ifCond 30 34 .eq)]), (36, [(30, mx_const (nI 4) 31), (31, mx_goto 35), (34, mx_const (nI 0) 35), (35, mx_ireturn 71)])]
set_option maxRecDepth 100000 in
theorem fle_71 (Ls : Nat) (xs : Nat → Int32) : fl_71 Ls xs = fMap Ls xs 71 mc_71 := rfl
def fl_72 (Ls : Nat) (xs : Nat → Int32) : List (Nat × List (Nat × mF)) := [(14, [(0, mLdA 0 1), (1, mLdA 0 2), (2, mLdI 1 3), (3, mLdI 2 4), (4, mx_invokevirtual 72 7 73 2), (7, mx_putfield 10 2 0), (10, mLdA 0 11), (11, mx_getfield 14 2 0)]), (26, [(14, mx_ifCond 17 19 .le), (17, mx_const (nI 0) 18), (18, mx_ireturn 72), (19, mLdA 0 20), (20, mLdA 0 21), (21, mx_getfield 24 2 2), (24, mx_const (nI 4) 25), (25, mLdA 0 26)]), (36, [(26, mLdI 1 27), (27, mx_invokevirtual 72 30 65 1), (30, mBin (fun a b => a * b) 31), (31, mx_const (nI 2) 32), (32, mBin (fun a b => a + b) 33), (33, mx_iaload Ls xs 34), (34, mLdI 2 35), (35, mx_const (nI 4) 36)]), (48, [(36, mx_idiv 37), (37, mx_invokevirtual 72 40 74 2), (40, mStI 3 41), (41, mLdA 0 42), (42, mx_getfield 45 2 2), (45, mx_const (nI 4) 46), (46, mLdI 3 47), (47, mBin (fun a b => a * b) 48)]), (54, [(48, mLdI 2 49), (49, mx_const (nI 4) 50), (50, mx_irem 51), (51, mBin (fun a b => a + b) 52), (52, mx_iaload Ls xs 53), (53, mx_ireturn 72)])]
set_option maxRecDepth 100000 in
theorem fle_72 (Ls : Nat) (xs : Nat → Int32) : fl_72 Ls xs = fMap Ls xs 72 mc_72 := rfl
def fl_73 (Ls : Nat) (xs : Nat → Int32) : List (Nat × List (Nat × mF)) := [(14, [(0, mLdA 0 1), (1, mLdI 1 2), (2, mx_invokevirtual 73 5 71 1), (5, mStI 3 6), (6, mLdI 3 7), (7, mx_ifCond 10 14 .le), (10, mLdI 3 11), (11, mx_goto 43)]), (26, [(14, mLdI 2 15), (15, mx_const (nI 0) 16), (16, mLdA 0 17), (17, mx_getfield 20 2 2), (20, mx_const (nI 4) 21), (21, mLdA 0 22), (22, mLdI 1 23), (23, mx_invokevirtual 73 26 65 1)]), (38, [(26, mBin (fun a b => a * b) 27), (27, mx_const (nI 3) 28), (28, mBin (fun a b => a + b) 29), (29, mx_iaload Ls xs 30), (30, mx_const (nI 1) 31), (31, mBin (fun a b => a - b) 32), (32, mx_invokestatic 73 35 53 3), (35, mx_ifCond 38 42 .eq)]), (44, [(38, mx_const (nI 0) 39), (39, mx_goto 43), (42, mx_const (nI 5) 43), (43, mx_ireturn 73)])]
set_option maxRecDepth 100000 in
theorem fle_73 (Ls : Nat) (xs : Nat → Int32) : fl_73 Ls xs = fMap Ls xs 73 mc_73 := rfl
def fl_74 (Ls : Nat) (xs : Nat → Int32) : List (Nat × List (Nat × mF)) := [(12, [(0, mLdI 1 1), (1, mStI 3 2), (2, mx_const (nI 0) 3), (3, mStI 4 5), (5, mLdI 4 7), (7, mLdI 2 8), (8, mx_if_icmp 11 24 .ge), (11, mLdA 0 12)]), (26, [(12, mx_getfield 15 2 1), (15, mLdI 3 16), (16, mx_iaload Ls xs 17), (17, mStI 3 18), (18, mx_iinc 21 4 1), (21, mx_goto 5), (24, mLdI 3 25), (25, mx_ireturn 74)])]
set_option maxRecDepth 100000 in
theorem fle_74 (Ls : Nat) (xs : Nat → Int32) : fl_74 Ls xs = fMap Ls xs 74 mc_74 := rfl
def fl_75 (Ls : Nat) (xs : Nat → Int32) : List (Nat × List (Nat × mF)) := [(14, [(0, mLdA 0 1), (1, mLdA 0 2), (2, mLdI 1 3), (3, mLdI 2 4), (4, mx_invokevirtual 75 7 73 2), (7, mx_putfield 10 2 0), (10, mLdA 0 11), (11, mx_getfield 14 2 0)]), (26, [(14, mx_ifCond 17 19 .le), (17, mx_const (nI 0) 18), (18, mx_ireturn 75), (19, mLdA 0 20), (20, mLdA 0 21), (21, mx_getfield 24 2 2), (24, mx_const (nI 4) 25), (25, mLdA 0 26)]), (36, [(26, mLdI 1 27), (27, mx_invokevirtual 75 30 65 1), (30, mBin (fun a b => a * b) 31), (31, mx_const (nI 2) 32), (32, mBin (fun a b => a + b) 33), (33, mx_iaload Ls xs 34), (34, mLdI 2 35), (35, mx_const (nI 4) 36)]), (50, [(36, mx_idiv 37), (37, mx_invokevirtual 75 40 74 2), (40, mStI 4 42), (42, mLdA 0 43), (43, mx_getfield 46 2 2), (46, mx_const (nI 4) 47), (47, mLdI 4 49), (49, mBin (fun a b => a * b) 50)]), (60, [(50, mLdI 2 51), (51, mx_const (nI 4) 52), (52, mx_irem 53), (53, mBin (fun a b => a + b) 54), (54, mx_iaload Ls xs 55), (55, mStI 5 57), (57, mLdA 0 58), (58, mLdI 4 60)]), (72, [(60, mLdI 2 61), (61, mx_const (nI 4) 62), (62, mx_irem 63), (63, mLdI 3 64), (64, mx_invokevirtual 75 67 69 3), (67, mLdA 0 68), (68, mLdA 0 69), (69, mx_getfield 72 2 3)]), (90, [(72, mx_ifCond 75 79 .eq), (75, mx_const (nI 1) 76), (76, mx_goto 80), (79, mx_const (nI 0) 80), (80, mx_putfield 83 2 0), (83, mLdA 0 84), (84, mx_getfield 87 2 3), (87, mx_ifCond 90 94 .eq)]), (97, [(90, mx_const (nI 0) 91), (91, mx_goto 96), (94, mLdI 5 96), (96, mx_ireturn 75)])]
set_option maxRecDepth 100000 in
theorem fle_75 (Ls : Nat) (xs : Nat → Int32) : fl_75 Ls xs = fMap Ls xs 75 mc_75 := rfl
def fl_76_0 (Ls : Nat) (xs : Nat → Int32) : List (Nat × List (Nat × mF)) := [(16, [(0, mLdA 0 1), (1, mLdA 0 2), (2, mLdI 1 3), (3, mx_invokevirtual 76 6 71 1), (6, mx_putfield 9 2 0), (9, mLdA 0 10), (10, mx_getfield 13 2 0), (13, mx_ifCond 16 18 .le)]), (28, [(16, mx_const (nI 0) 17), (17, mx_ireturn 76), (18, mLdA 0 19), (19, mLdI 1 20), (20, mx_invokevirtual 76 23 65 1), (23, mStI 3 24), (24, mLdA 0 25), (25, mx_getfield 28 2 2)]), (37, [(28, mx_const (nI 4) 29), (29, mLdI 3 30), (30, mBin (fun a b => a * b) 31), (31, mx_const (nI 3) 32), (32, mBin (fun a b => a + b) 33), (33, mx_iaload Ls xs 34), (34, mStI 4 36), (36, mLdA 0 37)]), (52, [(37, mLdI 2 38), (38, mx_const (nI 0) 39), (39, mLdI 4 41), (41, mx_invokestatic 76 44 53 3), (44, mx_ifCond 47 51 .eq), (47, mx_const (nI 0) 48), (48, mx_goto 52), (51, mx_const (nI 5) 52)]), (69, [(52, mx_putfield 55 2 0), (55, mLdA 0 56), (56, mx_getfield 59 2 0), (59, mx_ifCond 62 68 .gt), (62, mLdI 2 63), (63, mLdI 4 65), (65, mx_if_icmp 68 70 .ne), (68, mx_const (nI 0) 69)]), (79, [(69, mx_ireturn 76), (70, mLdA 0 71), (71, mx_getfield 74 2 2), (74, mx_const (nI 4) 75), (75, mLdI 3 76), (76, mBin (fun a b => a * b) 77), (77, mx_const (nI 2) 78), (78, mBin (fun a b => a + b) 79)])]
set_option maxRecDepth 100000 in
theorem fle_76_0 (Ls : Nat) (xs : Nat → Int32) : fl_76_0 Ls xs = fMap Ls xs 76 mc_76_0 := rfl
def fl_76_1 (Ls : Nat) (xs : Nat → Int32) : List (Nat × List (Nat × mF)) := [(89, [(79, mx_iaload Ls xs 80), (80, mStI 5 82), (82, mLdI 2 83), (83, mx_const (nI 3) 84), (84, mBin (fun a b => a + b) 85), (85, mx_const (nI 4) 86), (86, mx_idiv 87), (87, mStI 6 89)]), (101, [(89, mLdI 4 91), (91, mx_const (nI 3) 92), (92, mBin (fun a b => a + b) 93), (93, mx_const (nI 4) 94), (94, mx_idiv 95), (95, mStI 7 97), (97, mLdI 6 99), (99, mLdI 7 101)]), (118, [(101, mx_if_icmp 104 115 .ge), (104, mLdA 0 105), (105, mLdI 5 107), (107, mLdI 6 109), (109, mx_invokevirtual 76 112 74 2), (112, mx_goto 116), (115, mx_const ((-1)) 116), (116, mStI 8 118)]), (133, [(118, mLdI 6 120), (120, mx_ifCond 123 136 .le), (123, mLdA 0 124), (124, mLdI 5 126), (126, mLdI 6 128), (128, mx_const (nI 1) 129), (129, mBin (fun a b => a - b) 130), (130, mx_invokevirtual 76 133 74 2)]), (146, [(133, mx_goto 137), (136, mx_const ((-1)) 137), (137, mStI 9 139), (139, mLdA 0 140), (140, mLdI 3 141), (141, mLdI 2 142), (142, mx_ifCond 145 149 .ne), (145, mx_const ((-1)) 146)]), (164, [(146, mx_goto 151), (149, mLdI 5 151), (151, mLdI 2 152), (152, mx_invokevirtual 76 155 62 3), (155, mLdI 8 157), (157, mx_ifCond 160 171 .lt), (160, mLdI 2 161), (161, mx_ifCond 164 171 .eq)])]
set_option maxRecDepth 100000 in
theorem fle_76_1 (Ls : Nat) (xs : Nat → Int32) : fl_76_1 Ls xs = fMap Ls xs 76 mc_76_1 := rfl
def fl_76_2 (Ls : Nat) (xs : Nat → Int32) : List (Nat × List (Nat × mF)) := [(178, [(164, mLdA 0 165), (165, mLdI 9 167), (167, mx_const ((-1)) 168), (168, mx_invokevirtual 76 171 60 2), (171, mLdA 0 172), (172, mLdI 8 174), (174, mx_invokevirtual 76 177 67 1), (177, mLdA 0 178)]), (194, [(178, mLdA 0 179), (179, mx_getfield 182 2 3), (182, mx_ifCond 185 189 .eq), (185, mx_const (nI 1) 186), (186, mx_goto 190), (189, mx_const (nI 0) 190), (190, mx_putfield 193 2 0), (193, mLdA 0 194)]), (209, [(194, mx_getfield 197 2 3), (197, mx_ifCond 200 204 .eq), (200, mx_const (nI 0) 201), (201, mx_goto 208), (204, mLdA 0 205), (205, mx_getfield 208 2 8), (208, mx_ireturn 76)])]
set_option maxRecDepth 100000 in
theorem fle_76_2 (Ls : Nat) (xs : Nat → Int32) : fl_76_2 Ls xs = fMap Ls xs 76 mc_76_2 := rfl
def fl_76 (Ls : Nat) (xs : Nat → Int32) : List (Nat × List (Nat × mF)) := fl_76_0 Ls xs ++ (fl_76_1 Ls xs ++ (fl_76_2 Ls xs))
theorem fle_76 (Ls : Nat) (xs : Nat → Int32) : fl_76 Ls xs = fMap Ls xs 76 mc_76 := by
  simp only [fl_76, mc_76, fMap_app, fle_76_0, fle_76_1, fle_76_2]
def fl_77 (Ls : Nat) (xs : Nat → Int32) : List (Nat × List (Nat × mF)) := [(16, [(0, mLdA 0 1), (1, mLdA 0 2), (2, mLdI 1 3), (3, mx_invokevirtual 77 6 64 1), (6, mx_putfield 9 2 0), (9, mLdA 0 10), (10, mx_getfield 13 2 0), (13, mx_ifCond 16 18 .le)]), (28, [(16, mx_const (nI 0) 17), (17, mx_ireturn 77), (18, mLdI 1 19), (19, mx_ifCond 22 26 .ne), (22, mx_const ((-1)) 23), (23, mx_goto 31), (26, mLdA 0 27), (27, mLdI 1 28)]), (44, [(28, mx_invokevirtual 77 31 65 1), (31, mStI 2 32), (32, mLdA 0 33), (33, mLdI 2 34), (34, mx_invokevirtual 77 37 56 1), (37, mx_ifCond 40 51 .ne), (40, mLdA 0 41), (41, mx_getfield 44 2 2)]), (52, [(44, mx_const (nI 4) 45), (45, mLdI 2 46), (46, mBin (fun a b => a * b) 47), (47, mx_const (nI 3) 48), (48, mBin (fun a b => a + b) 49), (49, mx_iaload Ls xs 50), (50, mx_ireturn 77), (51, mx_const (nI 0) 52)]), (66, [(52, mStI 3 53), (53, mLdI 2 54), (54, mx_ifCond 57 61 .ge), (57, mx_const (nI 0) 58), (58, mx_goto 71), (61, mLdA 0 62), (62, mx_getfield 65 2 2), (65, mx_const (nI 4) 66)]), (78, [(66, mLdI 2 67), (67, mBin (fun a b => a * b) 68), (68, mx_const (nI 2) 69), (69, mBin (fun a b => a + b) 70), (70, mx_iaload Ls xs 71), (71, mStI 4 73), (73, mLdI 4 75), (75, mx_ifCond 78 110 .lt)]), (91, [(78, mLdA 0 79), (79, mx_getfield 82 2 2), (82, mx_const (nI 4) 83), (83, mLdI 4 85), (85, mBin (fun a b => a * b) 86), (86, mx_iaload Ls xs 87), (87, mx_ifCond 90 96 .le), (90, mLdI 3 91)]), (104, [(91, mx_const (nI 1) 92), (92, mBin (fun a b => a + b) 93), (93, mx_goto 97), (96, mLdI 3 97), (97, mStI 3 98), (98, mLdA 0 99), (99, mx_getfield 102 2 1), (102, mLdI 4 104)]), (114, [(104, mx_iaload Ls xs 105), (105, mStI 4 107), (107, mx_goto 73), (110, mx_const ((-1)) 111), (111, mLdI 3 112), (112, mBin (fun a b => a - b) 113), (113, mx_ireturn 77)])]
set_option maxRecDepth 100000 in
theorem fle_77 (Ls : Nat) (xs : Nat → Int32) : fl_77 Ls xs = fMap Ls xs 77 mc_77 := rfl
def fl_78 (Ls : Nat) (xs : Nat → Int32) : List (Nat × List (Nat × mF)) := [(16, [(0, mLdA 0 1), (1, mLdA 0 2), (2, mLdI 1 3), (3, mx_invokevirtual 78 6 64 1), (6, mx_putfield 9 2 0), (9, mLdA 0 10), (10, mx_getfield 13 2 0), (13, mx_ifCond 16 18 .le)]), (28, [(16, mx_const (nI 0) 17), (17, mx_ireturn 78), (18, mLdI 1 19), (19, mx_ifCond 22 26 .ne), (22, mx_const ((-1)) 23), (23, mx_goto 31), (26, mLdA 0 27), (27, mLdI 1 28)]), (42, [(28, mx_invokevirtual 78 31 65 1), (31, mStI 2 32), (32, mLdA 0 33), (33, mLdA 0 34), (34, mLdI 2 35), (35, mx_invokevirtual 78 38 56 1), (38, mx_ifCond 41 45 .eq), (41, mx_const (nI 0) 42)]), (60, [(42, mx_goto 46), (45, mx_const (nI 4) 46), (46, mx_putfield 49 2 0), (49, mLdA 0 50), (50, mx_getfield 53 2 0), (53, mx_ifCond 56 60 .le), (56, mx_const (nI 0) 57), (57, mx_goto 82)]), (74, [(60, mLdA 0 61), (61, mLdI 2 62), (62, mx_ifCond 65 69 .ge), (65, mx_const (nI 0) 66), (66, mx_goto 79), (69, mLdA 0 70), (70, mx_getfield 73 2 2), (73, mx_const (nI 4) 74)]), (83, [(74, mLdI 2 75), (75, mBin (fun a b => a * b) 76), (76, mx_const (nI 2) 77), (77, mBin (fun a b => a + b) 78), (78, mx_iaload Ls xs 79), (79, mx_invokevirtual 78 82 66 1), (82, mx_ireturn 78)])]
set_option maxRecDepth 100000 in
theorem fle_78 (Ls : Nat) (xs : Nat → Int32) : fl_78 Ls xs = fMap Ls xs 78 mc_78 := rfl
end
section
def fl_79 (Ls : Nat) (xs : Nat → Int32) : List (Nat × List (Nat × mF)) := [(16, [(0, mLdA 0 1), (1, mLdA 0 2), (2, mx_getfield 5 2 3), (5, mx_ifCond 8 12 .eq), (8, mx_const (nI 1) 9), (9, mx_goto 13), (12, mx_const (nI 0) 13), (13, mx_putfield 16 2 0)]), (27, [(16, mx_const (nI 0) 17), (17, mStI 1 18), (18, mx_const (nI 0) 19), (19, mStI 2 20), (20, mLdI 2 21), (21, mx_const (nI 32) 23), (23, mx_if_icmp 26 51 .ge), (26, mLdA 0 27)]), (40, [(27, mx_getfield 30 2 1), (30, mLdI 2 31), (31, mx_iaload Ls xs 32), (32, mx_const ((-2)) 34), (34, mx_if_icmp 37 43 .ne), (37, mLdI 1 38), (38, mx_const (nI 1) 39), (39, mBin (fun a b => a + b) 40)]), (58, [(40, mx_goto 44), (43, mLdI 1 44), (44, mStI 1 45), (45, mx_iinc 48 2 1), (48, mx_goto 20), (51, mLdA 0 52), (52, mx_getfield 55 2 3), (55, mx_ifCond 58 62 .eq)]), (64, [(58, mx_const (nI 0) 59), (59, mx_goto 63), (62, mLdI 1 63), (63, mx_ireturn 79)])]
set_option maxRecDepth 100000 in
theorem fle_79 (Ls : Nat) (xs : Nat → Int32) : fl_79 Ls xs = fMap Ls xs 79 mc_79 := rfl
def fl_80 (Ls : Nat) (xs : Nat → Int32) : List (Nat × List (Nat × mF)) := [(14, [(0, mLdA 0 1), (1, mx_const (nI 0) 2), (2, mx_putfield 5 2 0), (5, mLdA 0 6), (6, mLdI 1 7), (7, mx_ifCond 10 14 .ge), (10, mx_const ((-1)) 11), (11, mx_goto 15)]), (19, [(14, mLdI 1 15), (15, mx_putfield 18 2 4), (18, mx_return_ 80)])]
set_option maxRecDepth 100000 in
theorem fle_80 (Ls : Nat) (xs : Nat → Int32) : fl_80 Ls xs = fMap Ls xs 80 mc_80 := rfl
def fl_81 (Ls : Nat) (xs : Nat → Int32) : List (Nat × List (Nat × mF)) := [(10, [(0, mLdA 0 1), (1, mx_const (nI 0) 2), (2, mx_putfield 5 2 0), (5, mLdA 0 6), (6, mx_getfield 9 2 3), (9, mx_ireturn 81)])]
set_option maxRecDepth 100000 in
theorem fle_81 (Ls : Nat) (xs : Nat → Int32) : fl_81 Ls xs = fMap Ls xs 81 mc_81 := rfl
def fl_82 (Ls : Nat) (xs : Nat → Int32) : List (Nat × List (Nat × mF)) := [(12, [(0, mLdA 0 1), (1, mx_const (nI 0) 2), (2, mx_putfield 5 2 0), (5, mLdA 0 6), (6, mx_const (nI 0) 7), (7, mx_putfield 10 2 3), (10, mLdA 0 11), (11, mx_const ((-1)) 12)]), (24, [(12, mx_putfield 15 2 4), (15, mLdA 0 16), (16, mx_invokevirtual 82 19 83 0), (19, mx_const (nI 0) 20), (20, mStI 1 21), (21, mx_const (nI 0) 22), (22, mStI 2 23), (23, mLdI 2 24)]), (39, [(24, mx_const (nI 32) 26), (26, mx_if_icmp 29 66 .ge), (29, mLdA 0 30), (30, mx_getfield 33 2 5), (33, mLdI 2 34), (34, mx_baload 35), (35, mx_ifCond 38 60 .ne), (38, mLdA 0 39)]), (54, [(39, mx_getfield 42 2 1), (42, mLdI 2 43), (43, mx_iaload Ls xs 44), (44, mx_const ((-2)) 46), (46, mx_if_icmp 49 60 .eq), (49, mLdA 0 50), (50, mx_getfield 53 2 1), (53, mLdI 2 54)]), (68, [(54, mx_const ((-2)) 56), (56, mx_iastore 57), (57, mx_iinc 60 1 1), (60, mx_iinc 63 2 1), (63, mx_goto 23), (66, mLdI 1 67), (67, mx_ireturn 82)])]
set_option maxRecDepth 100000 in
theorem fle_82 (Ls : Nat) (xs : Nat → Int32) : fl_82 Ls xs = fMap Ls xs 82 mc_82 := rfl
def fl_83 (Ls : Nat) (xs : Nat → Int32) : List (Nat × List (Nat × mF)) := [(13, [(0, mx_const (nI 0) 1), (1, mStI 1 2), (2, mLdI 1 3), (3, mx_const (nI 32) 5), (5, mx_if_icmp 8 21 .ge), (8, mLdA 0 9), (9, mx_getfield 12 2 5), (12, mLdI 1 13)]), (27, [(13, mx_const (nI 0) 14), (14, mx_bastore 15), (15, mx_iinc 18 1 1), (18, mx_goto 2), (21, mx_const (nI 0) 22), (22, mStI 1 23), (23, mLdI 1 24), (24, mx_ifCond 27 122 .lt)]), (39, [(27, mLdA 0 28), (28, mLdI 1 29), (29, mx_invokevirtual 83 32 84 1), (32, mLdA 0 33), (33, mLdI 1 34), (34, mx_invokevirtual 83 37 85 1), (37, mStI 2 38), (38, mLdI 2 39)]), (53, [(39, mx_ifCond 42 112 .lt), (42, mLdA 0 43), (43, mLdI 2 44), (44, mx_invokevirtual 83 47 84 1), (47, mLdA 0 48), (48, mLdI 2 49), (49, mx_invokevirtual 83 52 85 1), (52, mStI 3 53)]), (67, [(53, mLdI 3 54), (54, mx_ifCond 57 102 .lt), (57, mLdA 0 58), (58, mLdI 3 59), (59, mx_invokevirtual 83 62 84 1), (62, mLdA 0 63), (63, mLdI 3 64), (64, mx_invokevirtual 83 67 85 1)]), (84, [(67, mStI 4 69), (69, mLdI 4 71), (71, mx_ifCond 74 92 .lt), (74, mLdA 0 75), (75, mLdI 4 77), (77, mx_invokevirtual 83 80 84 1), (80, mLdA 0 81), (81, mx_getfield 84 2 1)]), (98, [(84, mLdI 4 86), (86, mx_iaload Ls xs 87), (87, mStI 4 89), (89, mx_goto 69), (92, mLdA 0 93), (93, mx_getfield 96 2 1), (96, mLdI 3 97), (97, mx_iaload Ls xs 98)]), (112, [(98, mStI 3 99), (99, mx_goto 53), (102, mLdA 0 103), (103, mx_getfield 106 2 1), (106, mLdI 2 107), (107, mx_iaload Ls xs 108), (108, mStI 2 109), (109, mx_goto 38)]), (123, [(112, mLdA 0 113), (113, mx_getfield 116 2 1), (116, mLdI 1 117), (117, mx_iaload Ls xs 118), (118, mStI 1 119), (119, mx_goto 23), (122, mx_return_ 83)])]
set_option maxRecDepth 100000 in
theorem fle_83 (Ls : Nat) (xs : Nat → Int32) : fl_83 Ls xs = fMap Ls xs 83 mc_83 := rfl
def fl_84 (Ls : Nat) (xs : Nat → Int32) : List (Nat × List (Nat × mF)) := [(12, [(0, mLdA 0 1), (1, mx_getfield 4 2 5), (4, mLdI 1 5), (5, mx_const (nI 1) 6), (6, mx_bastore 7), (7, mLdA 0 8), (8, mx_getfield 11 2 2), (11, mx_const (nI 4) 12)]), (24, [(12, mLdI 1 13), (13, mBin (fun a b => a * b) 14), (14, mx_iaload Ls xs 15), (15, mx_ifCond 18 36 .le), (18, mLdA 0 19), (19, mx_getfield 22 2 2), (22, mx_const (nI 4) 23), (23, mLdI 1 24)]), (36, [(24, mBin (fun a b => a * b) 25), (25, mx_const (nI 1) 26), (26, mBin (fun a b => a + b) 27), (27, mx_iaload Ls xs 28), (28, mx_const (nI 1) 29), (29, mx_if_icmp 32 36 .ne), (32, mx_const (nI 1) 33), (33, mx_goto 37)]), (48, [(36, mx_const (nI 0) 37), (37, mStI 2 38), (38, mLdI 2 39), (39, mx_ifCond 42 59 .eq), (42, mLdA 0 43), (43, mx_getfield 46 2 2), (46, mx_const (nI 4) 47), (47, mLdI 1 48)]), (56, [(48, mBin (fun a b => a * b) 49), (49, mx_const (nI 3) 50), (50, mBin (fun a b => a + b) 51), (51, mx_iaload Ls xs 52), (52, mx_const (nI 3) 53), (53, mBin (fun a b => a + b) 54), (54, mx_const (nI 4) 55), (55, mx_idiv 56)]), (68, [(56, mx_goto 60), (59, mx_const (nI 0) 60), (60, mStI 3 61), (61, mLdA 0 62), (62, mx_getfield 65 2 2), (65, mx_const (nI 4) 66), (66, mLdI 1 67), (67, mBin (fun a b => a * b) 68)]), (79, [(68, mx_const (nI 2) 69), (69, mBin (fun a b => a + b) 70), (70, mx_iaload Ls xs 71), (71, mStI 4 73), (73, mx_const (nI 0) 74), (74, mStI 5 76), (76, mLdI 5 78), (78, mLdI 3 79)]), (94, [(79, mx_if_icmp 82 130 .ge), (82, mLdA 0 83), (83, mx_getfield 86 2 5), (86, mLdI 4 88), (88, mx_const (nI 1) 89), (89, mx_bastore 90), (90, mLdA 0 91), (91, mx_getfield 94 2 1)]), (108, [(94, mLdI 4 96), (96, mx_iaload Ls xs 97), (97, mStI 6 99), (99, mLdA 0 100), (100, mx_getfield 103 2 1), (103, mLdI 4 105), (105, mLdI 5 107), (107, mLdI 3 108)]), (122, [(108, mx_const (nI 1) 109), (109, mBin (fun a b => a - b) 110), (110, mx_if_icmp 113 117 .ne), (113, mx_const ((-1)) 114), (114, mx_goto 119), (117, mLdI 6 119), (119, mx_iastore 120), (120, mLdI 6 122)]), (131, [(122, mStI 4 124), (124, mx_iinc 127 5 1), (127, mx_goto 76), (130, mx_return_ 84)])]
set_option maxRecDepth 100000 in
theorem fle_84 (Ls : Nat) (xs : Nat → Int32) : fl_84 Ls xs = fMap Ls xs 84 mc_84 := rfl
def fl_85 (Ls : Nat) (xs : Nat → Int32) : List (Nat × List (Nat × mF)) := [(12, [(0, mLdA 0 1), (1, mx_getfield 4 2 2), (4, mx_const (nI 4) 5), (5, mLdI 1 6), (6, mBin (fun a b => a * b) 7), (7, mx_iaload Ls xs 8), (8, mx_ifCond 11 38 .le), (11, mLdA 0 12)]), (22, [(12, mx_getfield 15 2 2), (15, mx_const (nI 4) 16), (16, mLdI 1 17), (17, mBin (fun a b => a * b) 18), (18, mx_const (nI 1) 19), (19, mBin (fun a b => a + b) 20), (20, mx_iaload Ls xs 21), (21, mx_const (nI 2) 22)]), (34, [(22, mx_if_icmp 25 38 .ne), (25, mLdA 0 26), (26, mx_getfield 29 2 2), (29, mx_const (nI 4) 30), (30, mLdI 1 31), (31, mBin (fun a b => a * b) 32), (32, mx_const (nI 2) 33), (33, mBin (fun a b => a + b) 34)]), (40, [(34, mx_iaload Ls xs 35), (35, mx_goto 39), (38, mx_const ((-1)) 39), (39, mx_ireturn 85)])]
set_option maxRecDepth 100000 in
theorem fle_85 (Ls : Nat) (xs : Nat → Int32) : fl_85 Ls xs = fMap Ls xs 85 mc_85 := rfl
def fl_86 (Ls : Nat) (xs : Nat → Int32) : List (Nat × List (Nat × mF)) := [(15, [(0, mLdA 0 1), (1, mx_const (nI 0) 2), (2, mx_putfield 5 2 0), (5, mLdI 1 6), (6, mx_const (nI 0) 7), (7, mx_const (nI 31) 9), (9, mx_invokestatic 86 12 53 3), (12, mx_ifCond 15 37 .eq)]), (29, [(15, mLdI 2 16), (16, mx_const (nI 0) 17), (17, mx_const (nI 3) 18), (18, mx_invokestatic 86 21 53 3), (21, mx_ifCond 24 37 .eq), (24, mLdA 0 25), (25, mx_getfield 28 2 2), (28, mx_const (nI 4) 29)]), (39, [(29, mLdI 1 30), (30, mBin (fun a b => a * b) 31), (31, mLdI 2 32), (32, mBin (fun a b => a + b) 33), (33, mx_iaload Ls xs 34), (34, mx_goto 38), (37, mx_const (nI 0) 38), (38, mx_ireturn 86)])]
set_option maxRecDepth 100000 in
theorem fle_86 (Ls : Nat) (xs : Nat → Int32) : fl_86 Ls xs = fMap Ls xs 86 mc_86 := rfl
def fl_87 (Ls : Nat) (xs : Nat → Int32) : List (Nat × List (Nat × mF)) := [(15, [(0, mLdA 0 1), (1, mx_const (nI 0) 2), (2, mx_putfield 5 2 0), (5, mLdI 1 6), (6, mx_const (nI 0) 7), (7, mx_const (nI 31) 9), (9, mx_invokestatic 87 12 53 3), (12, mx_ifCond 15 24 .eq)]), (26, [(15, mLdA 0 16), (16, mx_getfield 19 2 1), (19, mLdI 1 20), (20, mx_iaload Ls xs 21), (21, mx_goto 25), (24, mx_const (nI 0) 25), (25, mx_ireturn 87)])]
set_option maxRecDepth 100000 in
theorem fle_87 (Ls : Nat) (xs : Nat → Int32) : fl_87 Ls xs = fMap Ls xs 87 mc_87 := rfl
def fl_88 (Ls : Nat) (xs : Nat → Int32) : List (Nat × List (Nat × mF)) := [(10, [(0, mLdA 3 1), (1, mx_const (nI 0) 2), (2, mLdA 0 3), (3, mLdI 1 4), (4, mLdI 2 5), (5, mx_invokevirtual 88 8 15 2), (8, mx_i2l 9), (9, mx_lastore 10)]), (23, [(10, mx_goto 33), (13, mStA 4 15), (15, mx_const (nI 1) 16), (16, mx_ireturn 88), (17, mStA 4 19), (19, mx_const (nI 2) 20), (20, mx_ireturn 88), (21, mStA 4 23)]), (33, [(23, mx_const (nI 3) 24), (24, mx_ireturn 88), (25, mStA 4 27), (27, mx_const (nI 4) 28), (28, mx_ireturn 88), (29, mStA 4 31), (31, mx_const (nI 5) 32), (32, mx_ireturn 88)]), (35, [(33, mx_const (nI 0) 34), (34, mx_ireturn 88)])]
set_option maxRecDepth 100000 in
theorem fle_88 (Ls : Nat) (xs : Nat → Int32) : fl_88 Ls xs = fMap Ls xs 88 mc_88 := rfl
def fl_89 (Ls : Nat) (xs : Nat → Int32) : List (Nat × List (Nat × mF)) := [(12, [(0, mLdA 2 1), (1, mx_const (nI 0) 2), (2, mLdA 0 3), (3, mLdI 1 4), (4, mx_invokevirtual 89 7 23 1), (7, mx_i2l 8), (8, mx_lastore 9), (9, mx_goto 24)]), (20, [(12, mStA 3 13), (13, mx_const (nI 1) 14), (14, mx_ireturn 89), (15, mStA 3 16), (16, mx_const (nI 2) 17), (17, mx_ireturn 89), (18, mStA 3 19), (19, mx_const (nI 3) 20)]), (26, [(20, mx_ireturn 89), (21, mStA 3 22), (22, mx_const (nI 4) 23), (23, mx_ireturn 89), (24, mx_const (nI 0) 25), (25, mx_ireturn 89)])]
set_option maxRecDepth 100000 in
theorem fle_89 (Ls : Nat) (xs : Nat → Int32) : fl_89 Ls xs = fMap Ls xs 89 mc_89 := rfl
def fl_90 (Ls : Nat) (xs : Nat → Int32) : List (Nat × List (Nat × mF)) := [(10, [(0, mLdA 3 1), (1, mx_const (nI 0) 2), (2, mLdA 0 3), (3, mLdI 1 4), (4, mLdI 2 5), (5, mx_invokevirtual 90 8 26 2), (8, mx_i2l 9), (9, mx_lastore 10)]), (23, [(10, mx_goto 29), (13, mStA 4 15), (15, mx_const (nI 1) 16), (16, mx_ireturn 90), (17, mStA 4 19), (19, mx_const (nI 2) 20), (20, mx_ireturn 90), (21, mStA 4 23)]), (31, [(23, mx_const (nI 3) 24), (24, mx_ireturn 90), (25, mStA 4 27), (27, mx_const (nI 4) 28), (28, mx_ireturn 90), (29, mx_const (nI 0) 30), (30, mx_ireturn 90)])]
set_option maxRecDepth 100000 in
theorem fle_90 (Ls : Nat) (xs : Nat → Int32) : fl_90 Ls xs = fMap Ls xs 90 mc_90 := rfl
def fl_91 (Ls : Nat) (xs : Nat → Int32) : List (Nat × List (Nat × mF)) := [(10, [(0, mLdA 3 1), (1, mx_const (nI 0) 2), (2, mLdA 0 3), (3, mLdI 1 4), (4, mLdI 2 5), (5, mx_invokevirtual 91 8 27 2), (8, mx_i2l 9), (9, mx_lastore 10)]), (23, [(10, mx_goto 33), (13, mStA 4 15), (15, mx_const (nI 1) 16), (16, mx_ireturn 91), (17, mStA 4 19), (19, mx_const (nI 2) 20), (20, mx_ireturn 91), (21, mStA 4 23)]), (33, [(23, mx_const (nI 3) 24), (24, mx_ireturn 91), (25, mStA 4 27), (27, mx_const (nI 4) 28), (28, mx_ireturn 91), (29, mStA 4 31), (31, mx_const (nI 5) 32), (32, mx_ireturn 91)]), (35, [(33, mx_const (nI 0) 34), (34, mx_ireturn 91)])]
set_option maxRecDepth 100000 in
theorem fle_91 (Ls : Nat) (xs : Nat → Int32) : fl_91 Ls xs = fMap Ls xs 91 mc_91 := rfl
end
section
def fl_92 (Ls : Nat) (xs : Nat → Int32) : List (Nat × List (Nat × mF)) := [(10, [(0, mLdA 3 1), (1, mx_const (nI 0) 2), (2, mLdA 0 3), (3, mLdI 1 4), (4, mLdI 2 5), (5, mx_invokevirtual 92 8 31 2), (8, mx_i2l 9), (9, mx_lastore 10)]), (23, [(10, mx_goto 33), (13, mStA 4 15), (15, mx_const (nI 1) 16), (16, mx_ireturn 92), (17, mStA 4 19), (19, mx_const (nI 2) 20), (20, mx_ireturn 92), (21, mStA 4 23)]), (33, [(23, mx_const (nI 3) 24), (24, mx_ireturn 92), (25, mStA 4 27), (27, mx_const (nI 4) 28), (28, mx_ireturn 92), (29, mStA 4 31), (31, mx_const (nI 5) 32), (32, mx_ireturn 92)]), (35, [(33, mx_const (nI 0) 34), (34, mx_ireturn 92)])]
set_option maxRecDepth 100000 in
theorem fle_92 (Ls : Nat) (xs : Nat → Int32) : fl_92 Ls xs = fMap Ls xs 92 mc_92 := rfl
def fl_93 (Ls : Nat) (xs : Nat → Int32) : List (Nat × List (Nat × mF)) := [(11, [(0, mLdA 4 2), (2, mx_const (nI 0) 3), (3, mLdA 0 4), (4, mLdI 1 5), (5, mLdI 2 6), (6, mLdI 3 7), (7, mx_invokevirtual 93 10 33 3), (10, mx_i2l 11)]), (23, [(11, mx_lastore 12), (12, mx_goto 35), (15, mStA 5 17), (17, mx_const (nI 1) 18), (18, mx_ireturn 93), (19, mStA 5 21), (21, mx_const (nI 2) 22), (22, mx_ireturn 93)]), (34, [(23, mStA 5 25), (25, mx_const (nI 3) 26), (26, mx_ireturn 93), (27, mStA 5 29), (29, mx_const (nI 4) 30), (30, mx_ireturn 93), (31, mStA 5 33), (33, mx_const (nI 5) 34)]), (37, [(34, mx_ireturn 93), (35, mx_const (nI 0) 36), (36, mx_ireturn 93)])]
set_option maxRecDepth 100000 in
theorem fle_93 (Ls : Nat) (xs : Nat → Int32) : fl_93 Ls xs = fMap Ls xs 93 mc_93 := rfl
def fl_94 (Ls : Nat) (xs : Nat → Int32) : List (Nat × List (Nat × mF)) := [(10, [(0, mLdA 3 1), (1, mx_const (nI 0) 2), (2, mLdA 0 3), (3, mLdI 1 4), (4, mLdI 2 5), (5, mx_invokevirtual 94 8 34 2), (8, mx_i2l 9), (9, mx_lastore 10)]), (23, [(10, mx_goto 33), (13, mStA 4 15), (15, mx_const (nI 1) 16), (16, mx_ireturn 94), (17, mStA 4 19), (19, mx_const (nI 2) 20), (20, mx_ireturn 94), (21, mStA 4 23)]), (33, [(23, mx_const (nI 3) 24), (24, mx_ireturn 94), (25, mStA 4 27), (27, mx_const (nI 4) 28), (28, mx_ireturn 94), (29, mStA 4 31), (31, mx_const (nI 5) 32), (32, mx_ireturn 94)]), (35, [(33, mx_const (nI 0) 34), (34, mx_ireturn 94)])]
set_option maxRecDepth 100000 in
theorem fle_94 (Ls : Nat) (xs : Nat → Int32) : fl_94 Ls xs = fMap Ls xs 94 mc_94 := rfl
def fl_95 (Ls : Nat) (xs : Nat → Int32) : List (Nat × List (Nat × mF)) := [(12, [(0, mLdA 2 1), (1, mx_const (nI 0) 2), (2, mLdA 0 3), (3, mLdI 1 4), (4, mx_invokevirtual 95 7 36 1), (7, mx_i2l 8), (8, mx_lastore 9), (9, mx_goto 21)]), (20, [(12, mStA 3 13), (13, mx_const (nI 1) 14), (14, mx_ireturn 95), (15, mStA 3 16), (16, mx_const (nI 2) 17), (17, mx_ireturn 95), (18, mStA 3 19), (19, mx_const (nI 3) 20)]), (23, [(20, mx_ireturn 95), (21, mx_const (nI 0) 22), (22, mx_ireturn 95)])]
set_option maxRecDepth 100000 in
theorem fle_95 (Ls : Nat) (xs : Nat → Int32) : fl_95 Ls xs = fMap Ls xs 95 mc_95 := rfl
def fl_96 (Ls : Nat) (xs : Nat → Int32) : List (Nat × List (Nat × mF)) := [(12, [(0, mLdA 2 1), (1, mx_const (nI 0) 2), (2, mLdA 0 3), (3, mLdI 1 4), (4, mx_invokevirtual 96 7 37 1), (7, mx_i2l 8), (8, mx_lastore 9), (9, mx_goto 24)]), (20, [(12, mStA 3 13), (13, mx_const (nI 1) 14), (14, mx_ireturn 96), (15, mStA 3 16), (16, mx_const (nI 2) 17), (17, mx_ireturn 96), (18, mStA 3 19), (19, mx_const (nI 3) 20)]), (26, [(20, mx_ireturn 96), (21, mStA 3 22), (22, mx_const (nI 4) 23), (23, mx_ireturn 96), (24, mx_const (nI 0) 25), (25, mx_ireturn 96)])]
set_option maxRecDepth 100000 in
theorem fle_96 (Ls : Nat) (xs : Nat → Int32) : fl_96 Ls xs = fMap Ls xs 96 mc_96 := rfl
def fl_97 (Ls : Nat) (xs : Nat → Int32) : List (Nat × List (Nat × mF)) := [(12, [(0, mLdA 1 1), (1, mx_const (nI 0) 2), (2, mLdA 0 3), (3, mx_invokevirtual 97 6 38 0), (6, mx_i2l 7), (7, mx_lastore 8), (8, mx_goto 14), (11, mStA 2 12)]), (16, [(12, mx_const (nI 1) 13), (13, mx_ireturn 97), (14, mx_const (nI 0) 15), (15, mx_ireturn 97)])]
set_option maxRecDepth 100000 in
theorem fle_97 (Ls : Nat) (xs : Nat → Int32) : fl_97 Ls xs = fMap Ls xs 97 mc_97 := rfl
def fl_98 (Ls : Nat) (xs : Nat → Int32) : List (Nat × List (Nat × mF)) := [(10, [(0, mLdI 0 1), (1, mLdI 0 2), (2, mx_const (nI 1) 3), (3, mBin (fun a b => (a.toUInt32 >>> (b.toUInt32 &&& Int32.toUInt32 31)).toInt32) 4), (4, mx_const (nI 1431655765) 7), (7, mBin (fun a b => a &&& b) 8), (8, mBin (fun a b => a - b) 9), (9, mStI 0 10)]), (22, [(10, mLdI 0 11), (11, mx_const (nI 858993459) 14), (14, mBin (fun a b => a &&& b) 15), (15, mLdI 0 16), (16, mx_const (nI 2) 17), (17, mBin (fun a b => (a.toUInt32 >>> (b.toUInt32 &&& Int32.toUInt32 31)).toInt32) 18), (18, mx_const (nI 858993459) 21), (21, mBin (fun a b => a &&& b) 22)]), (32, [(22, mBin (fun a b => a + b) 23), (23, mStI 0 24), (24, mLdI 0 25), (25, mLdI 0 26), (26, mx_const (nI 4) 27), (27, mBin (fun a b => (a.toUInt32 >>> (b.toUInt32 &&& Int32.toUInt32 31)).toInt32) 28), (28, mBin (fun a b => a + b) 29), (29, mx_const (nI 252645135) 32)]), (41, [(32, mBin (fun a b => a &&& b) 33), (33, mStI 0 34), (34, mLdI 0 35), (35, mLdI 0 36), (36, mx_const (nI 8) 38), (38, mBin (fun a b => (a.toUInt32 >>> (b.toUInt32 &&& Int32.toUInt32 31)).toInt32) 39), (39, mBin (fun a b => a + b) 40), (40, mStI 0 41)]), (51, [(41, mLdI 0 42), (42, mLdI 0 43), (43, mx_const (nI 16) 45), (45, mBin (fun a b => (a.toUInt32 >>> (b.toUInt32 &&& Int32.toUInt32 31)).toInt32) 46), (46, mBin (fun a b => a + b) 47), (47, mStI 0 48), (48, mLdI 0 49), (49, mx_const (nI 63) 51)]), (53, [(51, mBin (fun a b => a &&& b) 52), (52, mx_ireturn 98)])]
set_option maxRecDepth 100000 in
theorem fle_98 (Ls : Nat) (xs : Nat → Int32) : fl_98 Ls xs = fMap Ls xs 98 mc_98 := rfl
def fl_99_0 (Ls : Nat) (xs : Nat → Int32) : List (Nat × List (Nat × mF)) := [(16, [(0, mx_new 99 3 0 0), (3, mx_dup 4), (4, mx_invokespecial 99 7 0), (7, mStA 1 8), (8, mx_new 99 11 2 0), (11, mx_dup 12), (12, mx_invokespecial 99 15 49), (15, mStA 2 16)]), (27, [(16, mx_const (nI 1) 17), (17, mx_newarray 19 .long), (19, mStA 3 20), (20, mx_const (nI 0) 21), (21, mStI 4 23), (23, mLdI 4 25), (25, mLdA 0 26), (26, mx_arraylength Ls 27)]), (39, [(27, mx_const (nI 4) 28), (28, mBin (fun a b => a - b) 29), (29, mx_if_icmp 32 877 .gt), (32, mLdA 0 33), (33, mLdI 4 35), (35, mx_iaload Ls xs 36), (36, mx_const (nI 15) 38), (38, mBin (fun a b => a &&& b) 39)]), (120, [(39, mx_tableswitch 39 832 0 14 #[73, 157, 213, 281, 349, 417, 497, 565, 621, 677, 721, 744, 757, 770, 807]), (112, mLdA 1 113), (113, mLdA 0 114), (114, mLdI 4 116), (116, mx_const (nI 1) 117), (117, mBin (fun a b => a + b) 118), (118, mx_iaload Ls xs 119), (119, mLdA 0 120)]), (133, [(120, mLdI 4 122), (122, mx_const (nI 2) 123), (123, mBin (fun a b => a + b) 124), (124, mx_iaload Ls xs 125), (125, mx_ifCond 128 132 .eq), (128, mx_const (nI 1) 129), (129, mx_goto 133), (132, mx_const (nI 0) 133)]), (145, [(133, mLdA 3 134), (134, mx_invokestatic 99 137 88 4), (137, mStI 5 139), (139, mLdA 2 140), (140, mLdA 0 141), (141, mLdI 4 143), (143, mx_const (nI 1) 144), (144, mBin (fun a b => a + b) 145)])]
set_option maxRecDepth 100000 in
theorem fle_99_0 (Ls : Nat) (xs : Nat → Int32) : fl_99_0 Ls xs = fMap Ls xs 99 mc_99_0 := rfl
def fl_99_1 (Ls : Nat) (xs : Nat → Int32) : List (Nat × List (Nat × mF)) := [(156, [(145, mx_iaload Ls xs 146), (146, mLdA 0 147), (147, mLdI 4 149), (149, mx_const (nI 2) 150), (150, mBin (fun a b => a + b) 151), (151, mx_iaload Ls xs 152), (152, mx_ifCond 155 159 .eq), (155, mx_const (nI 1) 156)]), (174, [(156, mx_goto 160), (159, mx_const (nI 0) 160), (160, mx_invokevirtual 99 163 51 2), (163, mStI 6 165), (165, mLdA 2 166), (166, mx_invokevirtual 99 169 50 0), (169, mLdI 5 171), (171, mx_if_icmp 174 176 .eq)]), (186, [(174, mx_const (nI 0) 175), (175, mx_ireturn 99), (176, mLdI 5 178), (178, mx_ifCond 181 193 .ne), (181, mLdA 3 182), (182, mx_const (nI 0) 183), (183, mx_laload 184), (184, mLdI 6 186)]), (198, [(186, mx_i2l 187), (187, mx_lcmp 188), (188, mx_ifCond 191 193 .eq), (191, mx_const (nI 0) 192), (192, mx_ireturn 99), (193, mx_goto 871), (196, mLdA 1 197), (197, mLdA 0 198)]), (210, [(198, mLdI 4 200), (200, mx_const (nI 1) 201), (201, mBin (fun a b => a + b) 202), (202, mx_iaload Ls xs 203), (203, mLdA 3 204), (204, mx_invokestatic 99 207 89 3), (207, mStI 5 209), (209, mLdA 2 210)]), (222, [(210, mLdA 0 211), (211, mLdI 4 213), (213, mx_const (nI 1) 214), (214, mBin (fun a b => a + b) 215), (215, mx_iaload Ls xs 216), (216, mx_invokevirtual 99 219 63 1), (219, mStI 6 221), (221, mLdA 2 222)])]
set_option maxRecDepth 100000 in
theorem fle_99_1 (Ls : Nat) (xs : Nat → Int32) : fl_99_1 Ls xs = fMap Ls xs 99 mc_99_1 := rfl
def fl_99_2 (Ls : Nat) (xs : Nat → Int32) : List (Nat × List (Nat × mF)) := [(238, [(222, mx_invokevirtual 99 225 50 0), (225, mLdI 5 227), (227, mx_if_icmp 230 232 .eq), (230, mx_const (nI 0) 231), (231, mx_ireturn 99), (232, mLdI 5 234), (234, mx_ifCond 237 249 .ne), (237, mLdA 3 238)]), (249, [(238, mx_const (nI 0) 239), (239, mx_laload 240), (240, mLdI 6 242), (242, mx_i2l 243), (243, mx_lcmp 244), (244, mx_ifCond 247 249 .eq), (247, mx_const (nI 0) 248), (248, mx_ireturn 99)]), (260, [(249, mx_goto 871), (252, mLdA 1 253), (253, mLdA 0 254), (254, mLdI 4 256), (256, mx_const (nI 1) 257), (257, mBin (fun a b => a + b) 258), (258, mx_iaload Ls xs 259), (259, mLdA 0 260)]), (272, [(260, mLdI 4 262), (262, mx_const (nI 2) 263), (263, mBin (fun a b => a + b) 264), (264, mx_iaload Ls xs 265), (265, mLdA 3 266), (266, mx_invokestatic 99 269 90 4), (269, mStI 5 271), (271, mLdA 2 272)]), (282, [(272, mLdA 0 273), (273, mLdI 4 275), (275, mx_const (nI 1) 276), (276, mBin (fun a b => a + b) 277), (277, mx_iaload Ls xs 278), (278, mLdA 0 279), (279, mLdI 4 281), (281, mx_const (nI 2) 282)]), (298, [(282, mBin (fun a b => a + b) 283), (283, mx_iaload Ls xs 284), (284, mx_invokevirtual 99 287 68 2), (287, mStI 6 289), (289, mLdA 2 290), (290, mx_invokevirtual 99 293 50 0), (293, mLdI 5 295), (295, mx_if_icmp 298 300 .eq)])]
set_option maxRecDepth 100000 in
theorem fle_99_2 (Ls : Nat) (xs : Nat → Int32) : fl_99_2 Ls xs = fMap Ls xs 99 mc_99_2 := rfl
def fl_99_3 (Ls : Nat) (xs : Nat → Int32) : List (Nat × List (Nat × mF)) := [(310, [(298, mx_const (nI 0) 299), (299, mx_ireturn 99), (300, mLdI 5 302), (302, mx_ifCond 305 317 .ne), (305, mLdA 3 306), (306, mx_const (nI 0) 307), (307, mx_laload 308), (308, mLdI 6 310)]), (322, [(310, mx_i2l 311), (311, mx_lcmp 312), (312, mx_ifCond 315 317 .eq), (315, mx_const (nI 0) 316), (316, mx_ireturn 99), (317, mx_goto 871), (320, mLdA 1 321), (321, mLdA 0 322)]), (332, [(322, mLdI 4 324), (324, mx_const (nI 1) 325), (325, mBin (fun a b => a + b) 326), (326, mx_iaload Ls xs 327), (327, mLdA 0 328), (328, mLdI 4 330), (330, mx_const (nI 2) 331), (331, mBin (fun a b => a + b) 332)]), (344, [(332, mx_iaload Ls xs 333), (333, mLdA 3 334), (334, mx_invokestatic 99 337 91 4), (337, mStI 5 339), (339, mLdA 2 340), (340, mLdA 0 341), (341, mLdI 4 343), (343, mx_const (nI 1) 344)]), (355, [(344, mBin (fun a b => a + b) 345), (345, mx_iaload Ls xs 346), (346, mLdA 0 347), (347, mLdI 4 349), (349, mx_const (nI 2) 350), (350, mBin (fun a b => a + b) 351), (351, mx_iaload Ls xs 352), (352, mx_invokevirtual 99 355 70 2)]), (370, [(355, mStI 6 357), (357, mLdA 2 358), (358, mx_invokevirtual 99 361 50 0), (361, mLdI 5 363), (363, mx_if_icmp 366 368 .eq), (366, mx_const (nI 0) 367), (367, mx_ireturn 99), (368, mLdI 5 370)])]
set_option maxRecDepth 100000 in
theorem fle_99_3 (Ls : Nat) (xs : Nat → Int32) : fl_99_3 Ls xs = fMap Ls xs 99 mc_99_3 := rfl
def fl_99_4 (Ls : Nat) (xs : Nat → Int32) : List (Nat × List (Nat × mF)) := [(383, [(370, mx_ifCond 373 385 .ne), (373, mLdA 3 374), (374, mx_const (nI 0) 375), (375, mx_laload 376), (376, mLdI 6 378), (378, mx_i2l 379), (379, mx_lcmp 380), (380, mx_ifCond 383 385 .eq)]), (394, [(383, mx_const (nI 0) 384), (384, mx_ireturn 99), (385, mx_goto 871), (388, mLdA 1 389), (389, mLdA 0 390), (390, mLdI 4 392), (392, mx_const (nI 1) 393), (393, mBin (fun a b => a + b) 394)]), (405, [(394, mx_iaload Ls xs 395), (395, mLdA 0 396), (396, mLdI 4 398), (398, mx_const (nI 2) 399), (399, mBin (fun a b => a + b) 400), (400, mx_iaload Ls xs 401), (401, mLdA 3 402), (402, mx_invokestatic 99 405 92 4)]), (415, [(405, mStI 5 407), (407, mLdA 2 408), (408, mLdA 0 409), (409, mLdI 4 411), (411, mx_const (nI 1) 412), (412, mBin (fun a b => a + b) 413), (413, mx_iaload Ls xs 414), (414, mLdA 0 415)]), (429, [(415, mLdI 4 417), (417, mx_const (nI 2) 418), (418, mBin (fun a b => a + b) 419), (419, mx_iaload Ls xs 420), (420, mx_invokevirtual 99 423 72 2), (423, mStI 6 425), (425, mLdA 2 426), (426, mx_invokevirtual 99 429 50 0)]), (443, [(429, mLdI 5 431), (431, mx_if_icmp 434 436 .eq), (434, mx_const (nI 0) 435), (435, mx_ireturn 99), (436, mLdI 5 438), (438, mx_ifCond 441 453 .ne), (441, mLdA 3 442), (442, mx_const (nI 0) 443)])]
set_option maxRecDepth 100000 in
theorem fle_99_4 (Ls : Nat) (xs : Nat → Int32) : fl_99_4 Ls xs = fMap Ls xs 99 mc_99_4 := rfl
end
section
def fl_99_5 (Ls : Nat) (xs : Nat → Int32) : List (Nat × List (Nat × mF)) := [(456, [(443, mx_laload 444), (444, mLdI 6 446), (446, mx_i2l 447), (447, mx_lcmp 448), (448, mx_ifCond 451 453 .eq), (451, mx_const (nI 0) 452), (452, mx_ireturn 99), (453, mx_goto 871)]), (466, [(456, mLdA 1 457), (457, mLdA 0 458), (458, mLdI 4 460), (460, mx_const (nI 1) 461), (461, mBin (fun a b => a + b) 462), (462, mx_iaload Ls xs 463), (463, mLdA 0 464), (464, mLdI 4 466)]), (475, [(466, mx_const (nI 2) 467), (467, mBin (fun a b => a + b) 468), (468, mx_iaload Ls xs 469), (469, mLdA 0 470), (470, mLdI 4 472), (472, mx_const (nI 3) 473), (473, mBin (fun a b => a + b) 474), (474, mx_iaload Ls xs 475)]), (487, [(475, mLdA 3 476), (476, mx_invokestatic 99 479 93 5), (479, mStI 5 481), (481, mLdA 2 482), (482, mLdA 0 483), (483, mLdI 4 485), (485, mx_const (nI 1) 486), (486, mBin (fun a b => a + b) 487)]), (497, [(487, mx_iaload Ls xs 488), (488, mLdA 0 489), (489, mLdI 4 491), (491, mx_const (nI 2) 492), (492, mBin (fun a b => a + b) 493), (493, mx_iaload Ls xs 494), (494, mLdA 0 495), (495, mLdI 4 497)]), (511, [(497, mx_const (nI 3) 498), (498, mBin (fun a b => a + b) 499), (499, mx_iaload Ls xs 500), (500, mx_invokevirtual 99 503 75 3), (503, mStI 6 505), (505, mLdA 2 506), (506, mx_invokevirtual 99 509 50 0), (509, mLdI 5 511)])]
set_option maxRecDepth 100000 in
theorem fle_99_5 (Ls : Nat) (xs : Nat → Int32) : fl_99_5 Ls xs = fMap Ls xs 99 mc_99_5 := rfl
def fl_99_6 (Ls : Nat) (xs : Nat → Int32) : List (Nat × List (Nat × mF)) := [(524, [(511, mx_if_icmp 514 516 .eq), (514, mx_const (nI 0) 515), (515, mx_ireturn 99), (516, mLdI 5 518), (518, mx_ifCond 521 533 .ne), (521, mLdA 3 522), (522, mx_const (nI 0) 523), (523, mx_laload 524)]), (537, [(524, mLdI 6 526), (526, mx_i2l 527), (527, mx_lcmp 528), (528, mx_ifCond 531 533 .eq), (531, mx_const (nI 0) 532), (532, mx_ireturn 99), (533, mx_goto 871), (536, mLdA 1 537)]), (547, [(537, mLdA 0 538), (538, mLdI 4 540), (540, mx_const (nI 1) 541), (541, mBin (fun a b => a + b) 542), (542, mx_iaload Ls xs 543), (543, mLdA 0 544), (544, mLdI 4 546), (546, mx_const (nI 2) 547)]), (559, [(547, mBin (fun a b => a + b) 548), (548, mx_iaload Ls xs 549), (549, mLdA 3 550), (550, mx_invokestatic 99 553 94 4), (553, mStI 5 555), (555, mLdA 2 556), (556, mLdA 0 557), (557, mLdI 4 559)]), (568, [(559, mx_const (nI 1) 560), (560, mBin (fun a b => a + b) 561), (561, mx_iaload Ls xs 562), (562, mLdA 0 563), (563, mLdI 4 565), (565, mx_const (nI 2) 566), (566, mBin (fun a b => a + b) 567), (567, mx_iaload Ls xs 568)]), (584, [(568, mx_invokevirtual 99 571 76 2), (571, mStI 6 573), (573, mLdA 2 574), (574, mx_invokevirtual 99 577 50 0), (577, mLdI 5 579), (579, mx_if_icmp 582 584 .eq), (582, mx_const (nI 0) 583), (583, mx_ireturn 99)])]
set_option maxRecDepth 100000 in
theorem fle_99_6 (Ls : Nat) (xs : Nat → Int32) : fl_99_6 Ls xs = fMap Ls xs 99 mc_99_6 := rfl
def fl_99_7 (Ls : Nat) (xs : Nat → Int32) : List (Nat × List (Nat × mF)) := [(596, [(584, mLdI 5 586), (586, mx_ifCond 589 601 .ne), (589, mLdA 3 590), (590, mx_const (nI 0) 591), (591, mx_laload 592), (592, mLdI 6 594), (594, mx_i2l 595), (595, mx_lcmp 596)]), (609, [(596, mx_ifCond 599 601 .eq), (599, mx_const (nI 0) 600), (600, mx_ireturn 99), (601, mx_goto 871), (604, mLdA 1 605), (605, mLdA 0 606), (606, mLdI 4 608), (608, mx_const (nI 1) 609)]), (621, [(609, mBin (fun a b => a + b) 610), (610, mx_iaload Ls xs 611), (611, mLdA 3 612), (612, mx_invokestatic 99 615 95 3), (615, mStI 5 617), (617, mLdA 2 618), (618, mLdA 0 619), (619, mLdI 4 621)]), (635, [(621, mx_const (nI 1) 622), (622, mBin (fun a b => a + b) 623), (623, mx_iaload Ls xs 624), (624, mx_invokevirtual 99 627 77 1), (627, mStI 6 629), (629, mLdA 2 630), (630, mx_invokevirtual 99 633 50 0), (633, mLdI 5 635)]), (648, [(635, mx_if_icmp 638 640 .eq), (638, mx_const (nI 0) 639), (639, mx_ireturn 99), (640, mLdI 5 642), (642, mx_ifCond 645 657 .ne), (645, mLdA 3 646), (646, mx_const (nI 0) 647), (647, mx_laload 648)]), (661, [(648, mLdI 6 650), (650, mx_i2l 651), (651, mx_lcmp 652), (652, mx_ifCond 655 657 .eq), (655, mx_const (nI 0) 656), (656, mx_ireturn 99), (657, mx_goto 871), (660, mLdA 1 661)])]
set_option maxRecDepth 100000 in
theorem fle_99_7 (Ls : Nat) (xs : Nat → Int32) : fl_99_7 Ls xs = fMap Ls xs 99 mc_99_7 := rfl
def fl_99_8 (Ls : Nat) (xs : Nat → Int32) : List (Nat × List (Nat × mF)) := [(673, [(661, mLdA 0 662), (662, mLdI 4 664), (664, mx_const (nI 1) 665), (665, mBin (fun a b => a + b) 666), (666, mx_iaload Ls xs 667), (667, mLdA 3 668), (668, mx_invokestatic 99 671 96 3), (671, mStI 5 673)]), (685, [(673, mLdA 2 674), (674, mLdA 0 675), (675, mLdI 4 677), (677, mx_const (nI 1) 678), (678, mBin (fun a b => a + b) 679), (679, mx_iaload Ls xs 680), (680, mx_invokevirtual 99 683 78 1), (683, mStI 6 685)]), (701, [(685, mLdA 2 686), (686, mx_invokevirtual 99 689 50 0), (689, mLdI 5 691), (691, mx_if_icmp 694 696 .eq), (694, mx_const (nI 0) 695), (695, mx_ireturn 99), (696, mLdI 5 698), (698, mx_ifCond 701 713 .ne)]), (712, [(701, mLdA 3 702), (702, mx_const (nI 0) 703), (703, mx_laload 704), (704, mLdI 6 706), (706, mx_i2l 707), (707, mx_lcmp 708), (708, mx_ifCond 711 713 .eq), (711, mx_const (nI 0) 712)]), (727, [(712, mx_ireturn 99), (713, mx_goto 871), (716, mLdA 1 717), (717, mLdA 3 718), (718, mx_invokestatic 99 721 97 2), (721, mStI 5 723), (723, mLdA 2 724), (724, mx_invokevirtual 99 727 79 0)]), (742, [(727, mStI 6 729), (729, mLdA 2 730), (730, mx_invokevirtual 99 733 50 0), (733, mLdI 5 735), (735, mx_if_icmp 738 740 .eq), (738, mx_const (nI 0) 739), (739, mx_ireturn 99), (740, mLdI 5 742)])]
set_option maxRecDepth 100000 in
theorem fle_99_8 (Ls : Nat) (xs : Nat → Int32) : fl_99_8 Ls xs = fMap Ls xs 99 mc_99_8 := rfl
def fl_99_9 (Ls : Nat) (xs : Nat → Int32) : List (Nat × List (Nat × mF)) := [(755, [(742, mx_ifCond 745 757 .ne), (745, mLdA 3 746), (746, mx_const (nI 0) 747), (747, mx_laload 748), (748, mLdI 6 750), (750, mx_i2l 751), (751, mx_lcmp 752), (752, mx_ifCond 755 757 .eq)]), (766, [(755, mx_const (nI 0) 756), (756, mx_ireturn 99), (757, mx_goto 871), (760, mLdA 1 761), (761, mLdA 0 762), (762, mLdI 4 764), (764, mx_const (nI 1) 765), (765, mBin (fun a b => a + b) 766)]), (777, [(766, mx_iaload Ls xs 767), (767, mx_invokevirtual 99 770 1 1), (770, mLdA 2 771), (771, mLdA 0 772), (772, mLdI 4 774), (774, mx_const (nI 1) 775), (775, mBin (fun a b => a + b) 776), (776, mx_iaload Ls xs 777)]), (795, [(777, mx_invokevirtual 99 780 80 1), (780, mx_goto 871), (783, mLdA 1 784), (784, mx_invokevirtual 99 787 2 0), (787, mLdA 2 788), (788, mx_invokevirtual 99 791 81 0), (791, mx_if_icmp 794 871 .eq), (794, mx_const (nI 0) 795)]), (809, [(795, mx_ireturn 99), (796, mLdA 1 797), (797, mx_invokevirtual 99 800 3 0), (800, mLdA 2 801), (801, mx_invokevirtual 99 804 82 0), (804, mx_if_icmp 807 871 .eq), (807, mx_const (nI 0) 808), (808, mx_ireturn 99)]), (819, [(809, mLdA 1 810), (810, mLdA 0 811), (811, mLdI 4 813), (813, mx_const (nI 1) 814), (814, mBin (fun a b => a + b) 815), (815, mx_iaload Ls xs 816), (816, mLdA 0 817), (817, mLdI 4 819)])]
set_option maxRecDepth 100000 in
theorem fle_99_9 (Ls : Nat) (xs : Nat → Int32) : fl_99_9 Ls xs = fMap Ls xs 99 mc_99_9 := rfl
def fl_99_10 (Ls : Nat) (xs : Nat → Int32) : List (Nat × List (Nat × mF)) := [(830, [(819, mx_const (nI 2) 820), (820, mBin (fun a b => a + b) 821), (821, mx_iaload Ls xs 822), (822, mx_invokevirtual 99 825 13 2), (825, mLdA 2 826), (826, mLdA 0 827), (827, mLdI 4 829), (829, mx_const (nI 1) 830)]), (841, [(830, mBin (fun a b => a + b) 831), (831, mx_iaload Ls xs 832), (832, mLdA 0 833), (833, mLdI 4 835), (835, mx_const (nI 2) 836), (836, mBin (fun a b => a + b) 837), (837, mx_iaload Ls xs 838), (838, mx_invokevirtual 99 841 86 2)]), (852, [(841, mx_if_icmp 844 871 .eq), (844, mx_const (nI 0) 845), (845, mx_ireturn 99), (846, mLdA 1 847), (847, mLdA 0 848), (848, mLdI 4 850), (850, mx_const (nI 1) 851), (851, mBin (fun a b => a + b) 852)]), (863, [(852, mx_iaload Ls xs 853), (853, mx_invokevirtual 99 856 14 1), (856, mLdA 2 857), (857, mLdA 0 858), (858, mLdI 4 860), (860, mx_const (nI 1) 861), (861, mBin (fun a b => a + b) 862), (862, mx_iaload Ls xs 863)]), (879, [(863, mx_invokevirtual 99 866 87 1), (866, mx_if_icmp 869 871 .eq), (869, mx_const (nI 0) 870), (870, mx_ireturn 99), (871, mx_iinc 874 4 4), (874, mx_goto 23), (877, mx_const (nI 1) 878), (878, mx_ireturn 99)])]
set_option maxRecDepth 100000 in
theorem fle_99_10 (Ls : Nat) (xs : Nat → Int32) : fl_99_10 Ls xs = fMap Ls xs 99 mc_99_10 := rfl
def fl_99 (Ls : Nat) (xs : Nat → Int32) : List (Nat × List (Nat × mF)) := fl_99_0 Ls xs ++ (fl_99_1 Ls xs ++ (fl_99_2 Ls xs ++ (fl_99_3 Ls xs ++ (fl_99_4 Ls xs ++ (fl_99_5 Ls xs ++ (fl_99_6 Ls xs ++ (fl_99_7 Ls xs ++ (fl_99_8 Ls xs ++ (fl_99_9 Ls xs ++ (fl_99_10 Ls xs))))))))))
theorem fle_99 (Ls : Nat) (xs : Nat → Int32) : fl_99 Ls xs = fMap Ls xs 99 mc_99 := by
  simp only [fl_99, mc_99, fMap_app, fle_99_0, fle_99_1, fle_99_2, fle_99_3, fle_99_4, fle_99_5, fle_99_6, fle_99_7, fle_99_8, fle_99_9, fle_99_10]
end
section
def fls (Ls : Nat) (xs : Nat → Int32) : List (List (List (Nat × List (Nat × mF)))) := [[fl_0 Ls xs, fl_1 Ls xs, fl_2 Ls xs, fl_3 Ls xs, fl_4 Ls xs, fl_5 Ls xs, fl_6 Ls xs, fl_7 Ls xs, fl_8 Ls xs, fl_9 Ls xs], [fl_10 Ls xs, fl_11 Ls xs, fl_12 Ls xs, fl_13 Ls xs, fl_14 Ls xs, fl_15 Ls xs, fl_16 Ls xs, fl_17 Ls xs, fl_18 Ls xs, fl_19 Ls xs], [fl_20 Ls xs, fl_21 Ls xs, fl_22 Ls xs, fl_23 Ls xs, fl_24 Ls xs, fl_25 Ls xs, fl_26 Ls xs, fl_27 Ls xs, fl_28 Ls xs, fl_29 Ls xs], [fl_30 Ls xs, fl_31 Ls xs, fl_32 Ls xs, fl_33 Ls xs, fl_34 Ls xs, fl_35 Ls xs, fl_36 Ls xs, fl_37 Ls xs, fl_38 Ls xs, fl_39 Ls xs], [fl_40 Ls xs, fl_41 Ls xs, fl_42 Ls xs, fl_43 Ls xs, fl_44 Ls xs, fl_45 Ls xs, fl_46 Ls xs, fl_47 Ls xs, fl_48 Ls xs, fl_49 Ls xs], [fl_50 Ls xs, fl_51 Ls xs, fl_52 Ls xs, fl_53 Ls xs, fl_54 Ls xs, fl_55 Ls xs, fl_56 Ls xs, fl_57 Ls xs, fl_58 Ls xs, fl_59 Ls xs], [fl_60 Ls xs, fl_61 Ls xs, fl_62 Ls xs, fl_63 Ls xs, fl_64 Ls xs, fl_65 Ls xs, fl_66 Ls xs, fl_67 Ls xs, fl_68 Ls xs, fl_69 Ls xs], [fl_70 Ls xs, fl_71 Ls xs, fl_72 Ls xs, fl_73 Ls xs, fl_74 Ls xs, fl_75 Ls xs, fl_76 Ls xs, fl_77 Ls xs, fl_78 Ls xs, fl_79 Ls xs], [fl_80 Ls xs, fl_81 Ls xs, fl_82 Ls xs, fl_83 Ls xs, fl_84 Ls xs, fl_85 Ls xs, fl_86 Ls xs, fl_87 Ls xs, fl_88 Ls xs, fl_89 Ls xs], [fl_90 Ls xs, fl_91 Ls xs, fl_92 Ls xs, fl_93 Ls xs, fl_94 Ls xs, fl_95 Ls xs, fl_96 Ls xs, fl_97 Ls xs, fl_98 Ls xs, fl_99 Ls xs]]
def fRec (Ls : Nat) (xs : Nat → Int32) (k : Nat) : Option (List (Nat × List (Nat × mF))) :=
  match (fls Ls xs)[k / 10]? with
  | some l => l[k % 10]?
  | none => none
def fStep (Ls : Nat) (xs : Nat → Int32) (k : Nat) : mS → Option mX
  | (pc, L, S, h) =>
    match fRec Ls xs k with
    | some r =>
      match fLook r pc with
      | some f => f L S h
      | none => none
    | none => none
theorem fRecA (Ls : Nat) (xs : Nat → Int32) : ∀ k, k < 100 → fRec Ls xs k = (mRec? k).map (fun r => fMap Ls xs k r.1)
  | 0, _ => congrArg some (fle_0 Ls xs)
  | 1, _ => congrArg some (fle_1 Ls xs)
  | 2, _ => congrArg some (fle_2 Ls xs)
  | 3, _ => congrArg some (fle_3 Ls xs)
  | 4, _ => congrArg some (fle_4 Ls xs)
  | 5, _ => congrArg some (fle_5 Ls xs)
  | 6, _ => congrArg some (fle_6 Ls xs)
  | 7, _ => congrArg some (fle_7 Ls xs)
  | 8, _ => congrArg some (fle_8 Ls xs)
  | 9, _ => congrArg some (fle_9 Ls xs)
  | 10, _ => congrArg some (fle_10 Ls xs)
  | 11, _ => congrArg some (fle_11 Ls xs)
  | 12, _ => congrArg some (fle_12 Ls xs)
  | 13, _ => congrArg some (fle_13 Ls xs)
  | 14, _ => congrArg some (fle_14 Ls xs)
  | 15, _ => congrArg some (fle_15 Ls xs)
  | 16, _ => congrArg some (fle_16 Ls xs)
  | 17, _ => congrArg some (fle_17 Ls xs)
  | 18, _ => congrArg some (fle_18 Ls xs)
  | 19, _ => congrArg some (fle_19 Ls xs)
  | 20, _ => congrArg some (fle_20 Ls xs)
  | 21, _ => congrArg some (fle_21 Ls xs)
  | 22, _ => congrArg some (fle_22 Ls xs)
  | 23, _ => congrArg some (fle_23 Ls xs)
  | 24, _ => congrArg some (fle_24 Ls xs)
  | 25, _ => congrArg some (fle_25 Ls xs)
  | 26, _ => congrArg some (fle_26 Ls xs)
  | 27, _ => congrArg some (fle_27 Ls xs)
  | 28, _ => congrArg some (fle_28 Ls xs)
  | 29, _ => congrArg some (fle_29 Ls xs)
  | 30, _ => congrArg some (fle_30 Ls xs)
  | 31, _ => congrArg some (fle_31 Ls xs)
  | 32, _ => congrArg some (fle_32 Ls xs)
  | 33, _ => congrArg some (fle_33 Ls xs)
  | 34, _ => congrArg some (fle_34 Ls xs)
  | 35, _ => congrArg some (fle_35 Ls xs)
  | 36, _ => congrArg some (fle_36 Ls xs)
  | 37, _ => congrArg some (fle_37 Ls xs)
  | 38, _ => congrArg some (fle_38 Ls xs)
  | 39, _ => congrArg some (fle_39 Ls xs)
  | 40, _ => congrArg some (fle_40 Ls xs)
  | 41, _ => congrArg some (fle_41 Ls xs)
  | 42, _ => congrArg some (fle_42 Ls xs)
  | 43, _ => congrArg some (fle_43 Ls xs)
  | 44, _ => congrArg some (fle_44 Ls xs)
  | 45, _ => congrArg some (fle_45 Ls xs)
  | 46, _ => congrArg some (fle_46 Ls xs)
  | 47, _ => congrArg some (fle_47 Ls xs)
  | 48, _ => congrArg some (fle_48 Ls xs)
  | 49, _ => congrArg some (fle_49 Ls xs)
  | 50, _ => congrArg some (fle_50 Ls xs)
  | 51, _ => congrArg some (fle_51 Ls xs)
  | 52, _ => congrArg some (fle_52 Ls xs)
  | 53, _ => congrArg some (fle_53 Ls xs)
  | 54, _ => congrArg some (fle_54 Ls xs)
  | 55, _ => congrArg some (fle_55 Ls xs)
  | 56, _ => congrArg some (fle_56 Ls xs)
  | 57, _ => congrArg some (fle_57 Ls xs)
  | 58, _ => congrArg some (fle_58 Ls xs)
  | 59, _ => congrArg some (fle_59 Ls xs)
  | 60, _ => congrArg some (fle_60 Ls xs)
  | 61, _ => congrArg some (fle_61 Ls xs)
  | 62, _ => congrArg some (fle_62 Ls xs)
  | 63, _ => congrArg some (fle_63 Ls xs)
  | 64, _ => congrArg some (fle_64 Ls xs)
  | 65, _ => congrArg some (fle_65 Ls xs)
  | 66, _ => congrArg some (fle_66 Ls xs)
  | 67, _ => congrArg some (fle_67 Ls xs)
  | 68, _ => congrArg some (fle_68 Ls xs)
  | 69, _ => congrArg some (fle_69 Ls xs)
  | 70, _ => congrArg some (fle_70 Ls xs)
  | 71, _ => congrArg some (fle_71 Ls xs)
  | 72, _ => congrArg some (fle_72 Ls xs)
  | 73, _ => congrArg some (fle_73 Ls xs)
  | 74, _ => congrArg some (fle_74 Ls xs)
  | 75, _ => congrArg some (fle_75 Ls xs)
  | 76, _ => congrArg some (fle_76 Ls xs)
  | 77, _ => congrArg some (fle_77 Ls xs)
  | 78, _ => congrArg some (fle_78 Ls xs)
  | 79, _ => congrArg some (fle_79 Ls xs)
  | 80, _ => congrArg some (fle_80 Ls xs)
  | 81, _ => congrArg some (fle_81 Ls xs)
  | 82, _ => congrArg some (fle_82 Ls xs)
  | 83, _ => congrArg some (fle_83 Ls xs)
  | 84, _ => congrArg some (fle_84 Ls xs)
  | 85, _ => congrArg some (fle_85 Ls xs)
  | 86, _ => congrArg some (fle_86 Ls xs)
  | 87, _ => congrArg some (fle_87 Ls xs)
  | 88, _ => congrArg some (fle_88 Ls xs)
  | 89, _ => congrArg some (fle_89 Ls xs)
  | 90, _ => congrArg some (fle_90 Ls xs)
  | 91, _ => congrArg some (fle_91 Ls xs)
  | 92, _ => congrArg some (fle_92 Ls xs)
  | 93, _ => congrArg some (fle_93 Ls xs)
  | 94, _ => congrArg some (fle_94 Ls xs)
  | 95, _ => congrArg some (fle_95 Ls xs)
  | 96, _ => congrArg some (fle_96 Ls xs)
  | 97, _ => congrArg some (fle_97 Ls xs)
  | 98, _ => congrArg some (fle_98 Ls xs)
  | 99, _ => congrArg some (fle_99 Ls xs)
  | k + 100, h => absurd h (by omega)
theorem fRec_none {Ls : Nat} {xs : Nat → Int32} {k : Nat} (h : 100 ≤ k) : fRec Ls xs k = none := by
  have h1 : (fls Ls xs).length ≤ k / 10 := by
    have : (fls Ls xs).length = 10 := rfl
    omega
  unfold fRec
  rw [List.getElem?_eq_none h1]
theorem fStep_eq {Ls : Nat} {xs : Nat → Int32} {k : Nat} {st : mS} : fStep Ls xs k st = mStep Ls xs k st := by
  obtain ⟨pc, L, S, h⟩ := st
  simp only [fStep, mStep, mCode]
  by_cases hk : k < 100
  · rw [fRecA Ls xs k hk]
    cases mRec? k with
    | none => rfl
    | some r =>
      simp only [Option.map_some, fLook_map]
      cases mLook r.1 pc with
      | none => rfl
      | some q => rfl
  · rw [fRec_none (Nat.not_lt.mp hk), mRec_none (Nat.not_lt.mp hk)]
end
section
section FEV
variable {Ls : Nat} {xs : Nat → Int32}
/-- one instruction, its parts apart -/
def fOne (Ls : Nat) (xs : Nat → Int32) (k pc : Nat) (L : List (Option Value)) (S : List Value) (h : mH) : Option mX :=
  match fRec Ls xs k with
  | some r =>
    match fLook r pc with
    | some f => f L S h
    | none => none
  | none => none
theorem fOne_eq {k pc : Nat} {L : List (Option Value)} {S : List Value} {h : mH} : fOne Ls xs k pc L S h = mStep Ls xs k (pc, L, S, h) := fStep_eq (st := (pc, L, S, h))
/-- instructions up to one that doesn't simply go on -/
def fGo (Ls : Nat) (xs : Nat → Int32) : Nat → Nat → Nat → List (Option Value) → List Value → mH → Option mX
  | 0, _, _, _, _, _ => none
  | n + 1, k, pc, L, S, h =>
    match fOne Ls xs k pc L S h with
    | some (.inl (pc', L', S', h')) => fGo Ls xs n k pc' L' S' h'
    | r => r
def mPl? : mX → Bool
  | .inl _ => true
  | _ => false
theorem fGo_run : ∀ (n : Nat) {k pc : Nat} {L : List (Option Value)} {S : List Value} {h : mH} {x : mX}, fGo Ls xs n k pc L S h = some x → mPl? x = false → ∃ st, (∀ r, mEv Ls xs k st r → mEv Ls xs k (pc, L, S, h) r) ∧ mStep Ls xs k st = some x := by
  intro n
  induction n with
  | zero => intro k pc L S h x hx _; cases hx
  | succ n ih =>
    intro k pc L S h x hx hp
    rw [fGo] at hx
    split at hx
    · rename_i pc' L' S' h' heq
      obtain ⟨st, h1, h2⟩ := ih hx hp
      exact ⟨st, fun r hr => mEv.plain (fOne_eq.symm.trans heq) (h1 r hr), h2⟩
    · exact ⟨(pc, L, S, h), fun r hr => hr, fOne_eq.symm.trans hx⟩
/-- so many plain instructions, to a state that is named -/
def fSt (Ls : Nat) (xs : Nat → Int32) : Nat → Nat → Nat → List (Option Value) → List Value → mH → Option mS
  | 0, _, pc, L, S, h => some (pc, L, S, h)
  | n + 1, k, pc, L, S, h =>
    match fOne Ls xs k pc L S h with
    | some (.inl (pc', L', S', h')) => fSt Ls xs n k pc' L' S' h'
    | _ => none
theorem fEv.steps : ∀ (n : Nat) {k pc : Nat} {L : List (Option Value)} {S : List Value} {h : mH} {st : mS} {r : mR}, fSt Ls xs n k pc L S h = some st → mEv Ls xs k st r → mEv Ls xs k (pc, L, S, h) r := by
  intro n
  induction n with
  | zero => intro k pc L S h st r hs he; cases hs; exact he
  | succ n ih =>
    intro k pc L S h st r hs he
    rw [fSt] at hs
    split at hs
    · rename_i pc' L' S' h' heq
      exact mEv.plain (fOne_eq.symm.trans heq) (ih hs he)
    · cases hs
theorem mHd_of {k : Nat} {st : mS} {x : mX} (h : mStep Ls xs k st = some x) (hp : mPl? x = false) : mHd Ls xs k st = some x := by
  have : mRun Ls xs 300 k st = st := by
    rw [mRun, h]
    cases x with
    | inl s => cases hp
    | inr s => rfl
  unfold mHd
  rw [this, h]
theorem fEv.brT {k pc : Nat} {L : List (Option Value)} {S : List Value} {hh : mH} {a : mS} {b : Option mS} {r : mR} {c : Bool} (h : fGo Ls xs 300 k pc L S hh = some (.inr (.inl (c, a, b)))) (hc : c = true) (he : mEv Ls xs k a r) : mEv Ls xs k (pc, L, S, hh) r := by
  obtain ⟨st, h1, h2⟩ := fGo_run 300 h rfl
  exact h1 r (mEv.brT (mHd_of h2 rfl) hc he)
theorem fEv.brF {k pc : Nat} {L : List (Option Value)} {S : List Value} {hh : mH} {a b : mS} {r : mR} {c : Bool} (h : fGo Ls xs 300 k pc L S hh = some (.inr (.inl (c, a, some b)))) (hc : c = false) (he : mEv Ls xs k b r) : mEv Ls xs k (pc, L, S, hh) r := by
  obtain ⟨st, h1, h2⟩ := fGo_run 300 h rfl
  exact h1 r (mEv.brF (mHd_of h2 rfl) hc he)
theorem fEv.br {k pc : Nat} {L : List (Option Value)} {S : List Value} {hh : mH} {a b : mS} {r : mR} {P : Prop} {dP : Decidable P} (h : fGo Ls xs 300 k pc L S hh = some (.inr (.inl (@decide P dP, a, some b)))) (ht : P → mEv Ls xs k a r) (hf : ¬ P → mEv Ls xs k b r) : mEv Ls xs k (pc, L, S, hh) r := by
  obtain ⟨st, h1, h2⟩ := fGo_run 300 h rfl
  exact h1 r (mEv.br (mHd_of h2 rfl) ht hf)
theorem fEv.retV {k pc : Nat} {L : List (Option Value)} {S : List Value} {hh h' : mH} {v : Option Value} {c : Bool} (h : fGo Ls xs 300 k pc L S hh = some (.inr (.inr (.inl (c, .inl v, h'))))) (hc : c = true) : mEv Ls xs k (pc, L, S, hh) (.inl v, h', 0, 0) := by
  obtain ⟨st, h1, h2⟩ := fGo_run 300 h rfl
  exact h1 _ (mEv.retV (mHd_of h2 rfl) hc)
theorem fEv.retX {k pc : Nat} {L : List (Option Value)} {S : List Value} {hh h' : mH} {j : Nat} {c : Bool} (h : fGo Ls xs 300 k pc L S hh = some (.inr (.inr (.inl (c, .inr j, h'))))) (hc : c = true) : mEv Ls xs k (pc, L, S, hh) (.inr j, h', 1, 6) := by
  obtain ⟨st, h1, h2⟩ := fGo_run 300 h rfl
  exact h1 _ (mEv.retX (mHd_of h2 rfl) hc)
theorem fEv.mk {k pc : Nat} {L : List (Option Value)} {S : List Value} {hh : mH} {a : mS} {z : Nat} {r : mR} (h : fGo Ls xs 300 k pc L S hh = some (.inr (.inr (.inr (.inr (a, z)))))) (he : mEv Ls xs k a r) : mEv Ls xs k (pc, L, S, hh) (mAdd 1 z r) := by
  obtain ⟨st, h1, h2⟩ := fGo_run 300 h rfl
  exact h1 _ (mEv.mk (mHd_of h2 rfl) he)
theorem fEv.call {k pc k' pc' c s : Nat} {L : List (Option Value)} {S : List Value} {hh : mH} {r : mR} {av S' : List Value} {L' : List (Option Value)} {h h' : mH} {v : Option Value} (hs : fGo Ls xs 300 k pc L S hh = some (.inr (.inr (.inr (.inl (k', av, (pc', L', S', h))))))) (hc : mEv Ls xs k' (mEnt k' av h) (.inl v, h', c, s))
    (he : mEv Ls xs k (pc', L', v.toList ++ S', h') r) : mEv Ls xs k (pc, L, S, hh) (mAdd c s r) := by
  obtain ⟨st, h1, h2⟩ := fGo_run 300 hs rfl
  exact h1 _ (mEv.call (mHd_of h2 rfl) hc he)
theorem fEv.call0 {k pc k' pc' : Nat} {L : List (Option Value)} {S : List Value} {hh : mH} {r : mR} {av S' : List Value} {L' : List (Option Value)} {h h' : mH} {v : Option Value} (hs : fGo Ls xs 300 k pc L S hh = some (.inr (.inr (.inr (.inl (k', av, (pc', L', S', h))))))) (hc : mEv Ls xs k' (mEnt k' av h) (.inl v, h', 0, 0))
    (he : mEv Ls xs k (pc', L', v.toList ++ S', h') r) : mEv Ls xs k (pc, L, S, hh) r := by
  obtain ⟨st, h1, h2⟩ := fGo_run 300 hs rfl
  exact h1 _ (mEv.call0 (mHd_of h2 rfl) hc he)
/-- a call that answers an int -/
theorem fEv.calli {k pc k' pc' : Nat} {L : List (Option Value)} {S : List Value} {hh : mH} {r : mR} {av S' : List Value} {L' : List (Option Value)} {h h' : mH} {v : Int32} (hs : fGo Ls xs 300 k pc L S hh = some (.inr (.inr (.inr (.inl (k', av, (pc', L', S', h))))))) (hc : mEv Ls xs k' (mEnt k' av h) (.inl (some (.int v)), h', 0, 0))
    (he : mEv Ls xs k (pc', L', .int v :: S', h') r) : mEv Ls xs k (pc, L, S, hh) r := fEv.call0 hs hc he
/-- a call without an answer -/
theorem fEv.calln {k pc k' pc' : Nat} {L : List (Option Value)} {S : List Value} {hh : mH} {r : mR} {av S' : List Value} {L' : List (Option Value)} {h h' : mH} (hs : fGo Ls xs 300 k pc L S hh = some (.inr (.inr (.inr (.inl (k', av, (pc', L', S', h))))))) (hc : mEv Ls xs k' (mEnt k' av h) (.inl none, h', 0, 0))
    (he : mEv Ls xs k (pc', L', S', h') r) : mEv Ls xs k (pc, L, S, hh) r := fEv.call0 hs hc he
theorem fEv.thr {k pc k' pc' c s j : Nat} {L : List (Option Value)} {S : List Value} {hh : mH} {av S' : List Value} {L' : List (Option Value)} {h h' : mH} (hs : fGo Ls xs 300 k pc L S hh = some (.inr (.inr (.inr (.inl (k', av, (pc', L', S', h))))))) (hc : mEv Ls xs k' (mEnt k' av h) (.inr j, h', c, s))
    (hn : mHH k = []) : mEv Ls xs k (pc, L, S, hh) (.inr j, h', c, s) := by
  obtain ⟨st, h1, h2⟩ := fGo_run 300 hs rfl
  exact h1 _ (mEv.thr (mHd_of h2 rfl) hc hn)
theorem fEv.cat {k pc k' pc' c s j q i : Nat} {L : List (Option Value)} {S : List Value} {hh : mH} {r : mR} {av S' : List Value} {L' : List (Option Value)} {h h' : mH} (hs : fGo Ls xs 300 k pc L S hh = some (.inr (.inr (.inr (.inl (k', av, (pc', L', S', h))))))) (hc : mEv Ls xs k' (mEnt k' av h) (.inr j, h', c, s))
    (hne : mHH k ≠ []) (hn : mHn k (pc' - 3) j = some (q, i)) (he : mEv Ls xs k (q, L'.set i none, [], h') r) : mEv Ls xs k (pc, L, S, hh) (mAdd c s r) := by
  obtain ⟨st, h1, h2⟩ := fGo_run 300 hs rfl
  exact h1 _ (mEv.cat (mHd_of h2 rfl) hc hne hn he)
end FEV
end
section
/-! the class's disk -/
abbrev rV (v : Int32) (h : mH) : mR := (.inl (some (.int v)), h, 0, 0)
abbrev rN (h : mH) : mR := (.inl none, h, 0, 0)
abbrev rX (j : Nat) (h : mH) : mR := (.inr j, h, 1, 6)
def hV (c t : Nat → Int32) (lf dn : Int32) (re en : Nat → Int32) (n : Int32) (M : mH) : mH := .inr (0, [.ref 1, .ref 4, .ref 5, .int n]) :: .inr (1, [.ref 2, .ref 3, .int lf, .int dn]) :: .inl (0, 128, .inl c) :: .inl (0, 32, .inl t) :: .inl (1, 32, .inl re) :: .inl (0, 32, .inl en) :: M
def isC (a : Int32) : Bool := decide (0 ≤ a ∧ a < nI 32)
def bI (b : Bool) : Int32 := if b then 1 else 0
def cellA (c : Nat → Int32) (a i : Int32) : Int32 := if isC a = true ∧ 0 ≤ i ∧ i < nI 4 then c (a * nI 4 + i).toNatClampNeg else 0
def nextA (t : Nat → Int32) (a : Int32) : Int32 := if isC a = true then t a.toNatClampNeg else -1
theorem isC_iff {a : Int32} : isC a = true ↔ ∃ j : Nat, j < 32 ∧ a = nI j := by
  unfold isC
  rw [decide_eq_true_eq]
  constructor
  · rintro ⟨h1, h2⟩
    obtain ⟨j, hj, rfl⟩ := nI_of (Int32.not_lt.mpr h1)
    exact ⟨j, (nI_ltI (b := 32) hj (by decide)).mp h2, rfl⟩
  · rintro ⟨j, hj, rfl⟩
    exact ⟨nI_pos' (by omega), nI_lt (b := 32) hj (by decide)⟩
theorem isC_nI {j : Nat} (h : j < 32) : isC (nI j) = true := isC_iff.mpr ⟨j, h, rfl⟩
theorem isC_m1 : isC (-1) = false := by decide
theorem isC_m2 : isC (-2) = false := by decide
theorem isC_m3 : isC (-3) = false := by decide
theorem nextA_nI {t : Nat → Int32} {j : Nat} (h : j < 32) : nextA t (nI j) = t j := by
  unfold nextA
  rw [if_pos (isC_nI h), nI_clamp (by omega)]
theorem cellA_nI {c : Nat → Int32} {j i : Nat} (h : j < 32) (hi : i < 4) : cellA c (nI j) (nI i) = c (4 * j + i) := by
  unfold cellA
  rw [if_pos ⟨isC_nI h, nI_pos' (by omega), nI_lt (b := 4) hi (by decide)⟩]
  have : nI j * nI 4 + nI i = nI (4 * j + i) := by
    rw [pk_mul, nI_add, Nat.mul_comm]
  rw [this, nI_clamp (by omega)]
section KD
variable {Ls : Nat} {xs : Nat → Int32} {c t re en : Nat → Int32} {lf dn n : Int32} {M : mH}
theorem e_isC {a : Int32} {h : mH} : mEv Ls xs 6 (0, [some (.int a)], [], h) (rV (bI (isC a)) h) := by
  refine fEv.br rfl (fun h1 => ?_) (fun h1 => ?_)
  · have : isC a = false := by unfold isC; rw [decide_eq_false_iff_not]; exact fun q => Int32.not_lt.mpr q.1 h1
    rw [this]
    exact fEv.retV rfl (by decide)
  · refine fEv.br rfl (fun h2 => ?_) (fun h2 => ?_)
    · have h2 : nI 32 ≤ a := h2
      have : isC a = false := by unfold isC; rw [decide_eq_false_iff_not]; exact fun q => Int32.not_lt.mpr h2 q.2
      rw [this]
      exact fEv.retV rfl (by decide)
    · have h2 : ¬ nI 32 ≤ a := h2
      have : isC a = true := by unfold isC; rw [decide_eq_true_eq]; exact ⟨Int32.not_lt.mp h1, Int32.not_le.mp h2⟩
      rw [this]
      exact fEv.retV rfl (by decide)
theorem inb_of {i : Int32} {N j : Nat} (e : i = nI j) (h : j < N) (hN : N < 2 ^ 31) : mInb i N = true := by
  subst e
  unfold mInb
  exact decide_eq_true (nI_in h hN)
theorem e_cellAt {a i : Int32} : mEv Ls xs 44 (0, [some (.ref 1), some (.int a), some (.int i)], [], (hV c t lf dn re en n M)) (rV (cellA c a i) (hV c t lf dn re en n M)) := by
  refine fEv.calli rfl e_isC ?_
  by_cases hc : isC a = true
  · rw [hc]
    refine fEv.brF rfl (by decide) ?_
    refine fEv.br rfl (fun h1 => ?_) (fun h1 => ?_)
    · have : cellA c a i = 0 := by unfold cellA; rw [if_neg (fun q => Int32.not_lt.mpr q.2.1 h1)]
      rw [this]
      exact fEv.retV rfl rfl
    · refine fEv.br rfl (fun h2 => ?_) (fun h2 => ?_)
      · have h2 : nI 4 ≤ i := h2
        have : cellA c a i = 0 := by unfold cellA; rw [if_neg (fun q => Int32.not_lt.mpr h2 q.2.2)]
        rw [this]
        exact fEv.retV rfl rfl
      · have h2 : ¬ nI 4 ≤ i := h2
        obtain ⟨j, hj, rfl⟩ := isC_iff.mp hc
        obtain ⟨q, hq, rfl⟩ := nI_of h1
        have hq4 : q < 4 := (nI_ltI (b := 4) hq (by decide)).mp (Int32.not_le.mp h2)
        have e : nI j * nI 4 + nI q = nI (4 * j + q) := by
          rw [pk_mul, nI_add, Nat.mul_comm]
        refine fEv.brT rfl (inb_of e (by omega) (by decide)) ?_
        have : cellA c (nI j) (nI q) = c (nI j * nI 4 + nI q).toNatClampNeg := by unfold cellA; rw [if_pos ⟨hc, Int32.not_lt.mp h1, Int32.not_le.mp h2⟩]
        rw [this]
        exact fEv.retV rfl rfl
  · rw [Bool.not_eq_true] at hc
    rw [hc]
    refine fEv.brT rfl (by decide) ?_
    have : cellA c a i = 0 := by unfold cellA; rw [if_neg (fun q => by rw [hc] at q; cases q.1)]
    rw [this]
    exact fEv.retV rfl rfl
theorem e_nextAfter {a : Int32} : mEv Ls xs 43 (0, [some (.ref 1), some (.int a)], [], (hV c t lf dn re en n M)) (rV (nextA t a) (hV c t lf dn re en n M)) := by
  refine fEv.calli rfl e_isC ?_
  by_cases hc : isC a = true
  · rw [hc]
    refine fEv.brF rfl (by decide) ?_
    obtain ⟨j, hj, rfl⟩ := isC_iff.mp hc
    refine fEv.brT rfl (inb_of rfl hj (by decide)) ?_
    have : nextA t (nI j) = t (nI j).toNatClampNeg := by unfold nextA; rw [if_pos hc]
    rw [this]
    exact fEv.retV rfl rfl
  · rw [Bool.not_eq_true] at hc
    rw [hc]
    refine fEv.brT rfl (by decide) ?_
    have : nextA t a = -1 := by unfold nextA; rw [if_neg (fun q => by rw [hc] at q; cases q)]
    rw [this]
    exact fEv.retV rfl rfl
/-- a write: what is left behind it -/
def spd (lf : Int32) : Int32 := if 0 < lf then lf - 1 else lf
theorem e_spend0 (hl : lf = 0) : mEv Ls xs 46 (0, [some (.ref 1)], [], (hV c t lf dn re en n M)) (rX 0 (hV c t lf 1 re en n M)) := by
  refine fEv.brF rfl (decide_eq_false (fun z => z hl)) ?_
  exact fEv.retX rfl rfl
theorem e_spend1 (hl : ¬ lf = 0) : mEv Ls xs 46 (0, [some (.ref 1)], [], (hV c t lf dn re en n M)) (rN (hV c t (spd lf) dn re en n M)) := by
  refine fEv.brT rfl (decide_eq_true hl) ?_
  refine fEv.br rfl (fun h1 => ?_) (fun h1 => ?_)
  · have : spd lf = lf := by unfold spd; rw [if_neg (fun q => Int32.not_le.mpr q h1)]
    rw [this]
    exact fEv.retV rfl rfl
  · have : spd lf = lf - 1 := by unfold spd; rw [if_pos (Int32.not_le.mp h1)]
    rw [this]
    exact fEv.retV rfl rfl
theorem e_writeTable0 {a v : Int32} (hl : lf = 0) : mEv Ls xs 45 (0, [some (.ref 1), some (.int a), some (.int v)], [], (hV c t lf dn re en n M)) (rX 0 (hV c t lf 1 re en n M)) := fEv.thr rfl (e_spend0 hl) rfl
theorem e_writeTable1 {j : Nat} {v : Int32} (hl : ¬ lf = 0) (hj : j < 32) : mEv Ls xs 45 (0, [some (.ref 1), some (.int (nI j)), some (.int v)], [], (hV c t lf dn re en n M)) (rN (hV c (upd t j v) (spd lf) dn re en n M)) := by
  refine fEv.calln rfl (e_spend1 hl) ?_
  refine fEv.calli rfl e_isC ?_
  rw [isC_nI hj]
  refine fEv.brF rfl (by decide) ?_
  refine fEv.brT rfl (inb_of rfl hj (by decide)) ?_
  have e : (nI j).toNatClampNeg = j := nI_clamp (by omega)
  rw [e]
  exact fEv.retV rfl rfl
def w4 (c : Nat → Int32) (j : Nat) (v0 v1 v2 v3 : Int32) : Nat → Int32 := upd (upd (upd (upd c (4 * j) v0) (4 * j + 1) v1) (4 * j + 2) v2) (4 * j + 3) v3
theorem e_writeCluster0 {a v0 v1 v2 v3 : Int32} (hl : lf = 0) : mEv Ls xs 47 (0, [some (.ref 1), some (.int a), some (.int v0), some (.int v1), some (.int v2), some (.int v3), none], [], (hV c t lf dn re en n M)) (rX 0 (hV c t lf 1 re en n M)) := fEv.thr rfl (e_spend0 hl) rfl
theorem e_writeCluster1 {j : Nat} {v0 v1 v2 v3 : Int32} (hl : ¬ lf = 0) (hj : j < 32) : mEv Ls xs 47 (0, [some (.ref 1), some (.int (nI j)), some (.int v0), some (.int v1), some (.int v2), some (.int v3), none], [], (hV c t lf dn re en n M)) (rN (hV (w4 c j v0 v1 v2 v3) t (spd lf) dn re en n M)) := by
  refine fEv.calln rfl (e_spend1 hl) ?_
  refine fEv.calli rfl e_isC ?_
  rw [isC_nI hj]
  have e0 : nI j * nI 4 = nI (4 * j) := by rw [pk_mul, Nat.mul_comm]
  refine fEv.brF rfl (by decide) ?_
  refine fEv.brT rfl (inb_of e0 (by omega) (by decide)) ?_
  refine fEv.brT rfl (inb_of (j := 4 * j + 1) (by show nI j * nI 4 + nI 1 = _; rw [e0, nI_add]) (by omega) (by decide)) ?_
  refine fEv.brT rfl (inb_of (j := 4 * j + 2) (by show nI j * nI 4 + nI 2 = _; rw [e0, nI_add]) (by omega) (by decide)) ?_
  refine fEv.brT rfl (inb_of (j := 4 * j + 3) (by show nI j * nI 4 + nI 3 = _; rw [e0, nI_add]) (by omega) (by decide)) ?_
  have f0 : (nI j * nI 4).toNatClampNeg = 4 * j := by rw [e0, nI_clamp (by omega)]
  have f1 : (nI j * nI 4 + nI 1).toNatClampNeg = 4 * j + 1 := by rw [e0, nI_add, nI_clamp (by omega)]
  have f2 : (nI j * nI 4 + nI 2).toNatClampNeg = 4 * j + 2 := by rw [e0, nI_add, nI_clamp (by omega)]
  have f3 : (nI j * nI 4 + nI 3).toNatClampNeg = 4 * j + 3 := by rw [e0, nI_add, nI_clamp (by omega)]
  have hw : w4 c j v0 v1 v2 v3 = upd (upd (upd (upd c (nI j * nI 4).toNatClampNeg v0) (nI j * nI 4 + nI 1).toNatClampNeg v1) (nI j * nI 4 + nI 2).toNatClampNeg v2) (nI j * nI 4 + nI 3).toNatClampNeg v3 := by
    rw [f0, f1, f2, f3]; rfl
  rw [hw]
  exact fEv.retV rfl rfl
theorem e_writeCell0 {a i v : Int32} (hl : lf = 0) : mEv Ls xs 48 (0, [some (.ref 1), some (.int a), some (.int i), some (.int v)], [], (hV c t lf dn re en n M)) (rX 0 (hV c t lf 1 re en n M)) := fEv.thr rfl (e_spend0 hl) rfl
theorem e_writeCell1 {j i : Nat} {v : Int32} (hl : ¬ lf = 0) (hj : j < 32) (hi : i < 4) : mEv Ls xs 48 (0, [some (.ref 1), some (.int (nI j)), some (.int (nI i)), some (.int v)], [], (hV c t lf dn re en n M)) (rN (hV (upd c (4 * j + i) v) t (spd lf) dn re en n M)) := by
  refine fEv.calln rfl (e_spend1 hl) ?_
  refine fEv.calli rfl e_isC ?_
  rw [isC_nI hj]
  have e0 : nI j * nI 4 + nI i = nI (4 * j + i) := by rw [pk_mul, nI_add, Nat.mul_comm]
  refine fEv.brF rfl (by decide) ?_
  refine fEv.brF rfl (decide_eq_false (nI_pos (by omega))) ?_
  refine fEv.brF rfl (decide_eq_false (nI_ge (b := 4) hi (by decide))) ?_
  refine fEv.brT rfl (inb_of e0 (by omega) (by decide)) ?_
  have f0 : (nI j * nI 4 + nI i).toNatClampNeg = 4 * j + i := by rw [e0, nI_clamp (by omega)]
  have hw : upd c (4 * j + i) v = upd c (nI j * nI 4 + nI i).toNatClampNeg v := by rw [f0]
  rw [hw]
  exact fEv.retV rfl rfl
end KD
end
section
/-! the class's reads -/
def Chain (t : Nat → Int32) : Int32 → List Nat → Prop
  | x, [] => x = -1
  | x, a :: l => x = nI a ∧ a < 32 ∧ Chain t (t a) l
def dirC (c : Nat → Int32) (e : Int32) : Bool := decide (e = -3) || decide (cellA c e (nI 1) = nI 2)
def fstC (c : Nat → Int32) (e : Int32) : Int32 := if e = -3 then nI 0 else cellA c e (nI 2)
def lkI (c : Nat → Int32) (nm : Int32) (l : List Nat) : Int32 :=
  match l with
  | [] => -1
  | a :: l => if c (4 * a) = nm then nI a else lkI c nm l
def nmsI (c : Nat → Int32) (z : Int32) (l : List Nat) : Int32 :=
  match l with
  | [] => z
  | a :: l => nmsI c (z ||| (nI 1 <<< (c (4 * a) &&& 31))) l
def lastI (x : Nat) (l : List Nat) : Nat :=
  match l with
  | [] => x
  | a :: l => lastI a l
section KR
variable {Ls : Nat} {xs : Nat → Int32} {c t re en : Nat → Int32} {lf dn n : Int32} {M : mH}
theorem e_isDir {e : Int32} : mEv Ls xs 7 (0, [some (.ref 0), some (.int e)], [], (hV c t lf dn re en n M)) (rV (bI (dirC c e)) (hV c t lf dn re en n M)) := by
  refine fEv.br rfl (fun h1 => ?_) (fun h1 => ?_)
  · have : dirC c e = true := by unfold dirC; rw [decide_eq_true h1]; rfl
    rw [this]
    exact fEv.retV rfl (by decide)
  · refine fEv.calli rfl e_cellAt ?_
    refine fEv.br rfl (fun h2 => ?_) (fun h2 => ?_)
    · have : dirC c e = false := by unfold dirC; rw [decide_eq_false h1, decide_eq_false h2]; rfl
      rw [this]
      exact fEv.retV rfl (by decide)
    · have : dirC c e = true := by unfold dirC; rw [decide_eq_true (Decidable.of_not_not h2)]; simp
      rw [this]
      exact fEv.retV rfl (by decide)
theorem e_firstOf {e : Int32} : mEv Ls xs 11 (0, [some (.ref 0), some (.int e)], [], (hV c t lf dn re en n M)) (rV (fstC c e) (hV c t lf dn re en n M)) := by
  refine fEv.br rfl (fun h1 => ?_) (fun h1 => ?_)
  · refine fEv.calli rfl e_cellAt ?_
    have : fstC c e = cellA c e (nI 2) := by unfold fstC; rw [if_neg h1]
    rw [this]
    exact fEv.retV rfl rfl
  · have : fstC c e = nI 0 := by unfold fstC; rw [if_pos (Decidable.of_not_not h1)]
    rw [this]
    exact fEv.retV rfl rfl
theorem e_lengthOf {e : Int32} : mEv Ls xs 9 (0, [some (.ref 0), some (.int e)], [], (hV c t lf dn re en n M)) (rV (cellA c e (nI 3)) (hV c t lf dn re en n M)) := by
  refine fEv.calli rfl e_cellAt ?_
  exact fEv.retV rfl rfl
theorem en_loop {e nm : Int32} : ∀ (l : List Nat) (x : Int32) (st : Nat), Chain t x l → st + l.length ≤ 32 → mEv Ls xs 19 (21, [some (.ref 0), some (.int e), some (.int nm), some (.int x), some (.int (nI st))], [], hV c t lf dn re en n M) (rV (lkI c nm l) (hV c t lf dn re en n M)) := by
  intro l
  induction l with
  | nil =>
    intro x st hx hs
    have hx : x = -1 := hx
    subst hx
    refine fEv.br rfl (fun h1 => ?_) (fun h1 => ?_)
    · exact fEv.retV rfl rfl
    · refine fEv.calli rfl e_isC ?_
      rw [isC_m1]
      refine fEv.brT rfl (by decide) ?_
      exact fEv.retV rfl rfl
  | cons a l ih =>
    intro x st hx hs
    obtain ⟨rfl, ha, hc⟩ := hx
    simp only [List.length_cons] at hs
    refine fEv.brF rfl (decide_eq_false (nI_ge (a := st) (b := 32) (by omega) (by decide))) ?_
    refine fEv.calli rfl e_isC ?_
    rw [isC_nI ha]
    refine fEv.brF rfl (by decide) ?_
    refine fEv.calli rfl e_cellAt ?_
    rw [cellA_nI ha (by decide), Nat.add_zero]
    refine fEv.br rfl (fun h1 => ?_) (fun h1 => ?_)
    · have : lkI c nm (a :: l) = lkI c nm l := by rw [lkI, if_neg h1]
      rw [this]
      refine fEv.calli rfl e_nextAfter ?_
      rw [nextA_nI ha]
      have h2 := ih (t a) (st + 1) hc (by omega)
      rw [← nI_add] at h2
      exact fEv.steps 3 rfl h2
    · have : lkI c nm (a :: l) = nI a := by rw [lkI, if_pos (Decidable.of_not_not h1)]
      rw [this]
      exact fEv.retV rfl rfl
theorem e_entryNamed {e nm : Int32} {l : List Nat} (hd : dirC c e = true) (hc : Chain t (fstC c e) l) (hl : l.length ≤ 32) : mEv Ls xs 19 (0, [some (.ref 0), some (.int e), some (.int nm), none, none], [], (hV c t lf dn re en n M)) (rV (lkI c nm l) (hV c t lf dn re en n M)) := by
  refine fEv.calli rfl e_isDir ?_
  rw [hd]
  refine fEv.brF rfl (by decide) ?_
  refine fEv.calli rfl e_firstOf ?_
  exact fEv.steps 4 rfl (en_loop l _ 0 hc (by omega))
theorem e_entryNamedF {e nm : Int32} (hd : dirC c e = false) : mEv Ls xs 19 (0, [some (.ref 0), some (.int e), some (.int nm), none, none], [], (hV c t lf dn re en n M)) (rV (-1) (hV c t lf dn re en n M)) := by
  refine fEv.calli rfl e_isDir ?_
  rw [hd]
  refine fEv.brT rfl (by decide) ?_
  exact fEv.steps 4 rfl (en_loop [] _ 0 rfl (by decide))
theorem nm_loop {e : Int32} : ∀ (l : List Nat) (x z : Int32) (st : Nat), Chain t x l → st + l.length ≤ 32 → mEv Ls xs 24 (11, [some (.ref 0), some (.int e), some (.int z), some (.int x), some (.int (nI st))], [], hV c t lf dn re en n M) (rV (nmsI c z l &&& (-2)) (hV c t lf dn re en n M)) := by
  intro l
  induction l with
  | nil =>
    intro x z st hx hs
    have hx : x = -1 := hx
    subst hx
    refine fEv.br rfl (fun h1 => ?_) (fun h1 => ?_)
    · exact fEv.retV rfl rfl
    · refine fEv.calli rfl e_isC ?_
      rw [isC_m1]
      refine fEv.brT rfl (by decide) ?_
      exact fEv.retV rfl rfl
  | cons a l ih =>
    intro x z st hx hs
    obtain ⟨rfl, ha, hc⟩ := hx
    simp only [List.length_cons] at hs
    refine fEv.brF rfl (decide_eq_false (nI_ge (a := st) (b := 32) (by omega) (by decide))) ?_
    refine fEv.calli rfl e_isC ?_
    rw [isC_nI ha]
    refine fEv.brF rfl (by decide) ?_
    refine fEv.calli rfl e_cellAt ?_
    rw [cellA_nI ha (by decide), Nat.add_zero]
    refine fEv.calli rfl e_nextAfter ?_
    rw [nextA_nI ha]
    have h2 := ih (t a) (z ||| (nI 1 <<< (c (4 * a) &&& 31))) (st + 1) hc (by omega)
    rw [← nI_add] at h2
    exact fEv.steps 3 rfl h2
theorem e_namesIn {e : Int32} {l : List Nat} (hc : Chain t (fstC c e) l) (hl : l.length ≤ 32) : mEv Ls xs 24 (0, [some (.ref 0), some (.int e), none, none, none], [], (hV c t lf dn re en n M)) (rV (nmsI c (nI 0) l &&& (-2)) (hV c t lf dn re en n M)) := by
  refine fEv.calli rfl e_firstOf ?_
  exact fEv.steps 3 rfl (nm_loop l _ _ 0 hc (by omega))
theorem la_loop {x0 : Int32} : ∀ (l : List Nat) (a st : Nat), a < 32 → Chain t (t a) l → st + l.length ≤ 32 → mEv Ls xs 22 (4, [some (.ref 0), some (.int x0), some (.int (nI a)), some (.int (nI st))], [], hV c t lf dn re en n M) (rV (nI (lastI a l)) (hV c t lf dn re en n M)) := by
  intro l
  induction l with
  | nil =>
    intro a st ha hx hs
    have hx : t a = -1 := hx
    refine fEv.br rfl (fun h1 => ?_) (fun h1 => ?_)
    · exact fEv.retV rfl rfl
    · refine fEv.calli rfl e_nextAfter ?_
      rw [nextA_nI ha, hx]
      refine fEv.calli rfl e_isC ?_
      rw [isC_m1]
      refine fEv.brT rfl (by decide) ?_
      exact fEv.retV rfl rfl
  | cons b l ih =>
    intro a st ha hx hs
    obtain ⟨h0, hb, hc⟩ := hx
    simp only [List.length_cons] at hs
    refine fEv.brF rfl (decide_eq_false (nI_ge (a := st) (b := 32) (by omega) (by decide))) ?_
    refine fEv.calli rfl e_nextAfter ?_
    rw [nextA_nI ha, h0]
    refine fEv.calli rfl e_isC ?_
    rw [isC_nI hb]
    refine fEv.brF rfl (by decide) ?_
    refine fEv.calli rfl e_nextAfter ?_
    rw [nextA_nI ha, h0]
    have h2 := ih b (st + 1) hb hc (by omega)
    rw [← nI_add] at h2
    exact fEv.steps 3 rfl h2
theorem e_lastOfChain {a : Nat} {l : List Nat} (ha : a < 32) (hc : Chain t (t a) l) (hl : l.length ≤ 32) : mEv Ls xs 22 (0, [some (.ref 0), some (.int (nI a)), none, none], [], (hV c t lf dn re en n M)) (rV (nI (lastI a l)) (hV c t lf dn re en n M)) := fEv.steps 4 rfl (la_loop l a 0 ha hc (by omega))
theorem cp_loop {e i : Int32} : ∀ (q : Nat) (x : Int32) (l : List Nat), q < 1000 → Chain t x l → q < l.length → mEv Ls xs 10 (11, [some (.ref 0), some (.int e), some (.int i), some (.int x), some (.int (nI q))], [], hV c t lf dn re en n M) (rV (nI (l.getD q 0)) (hV c t lf dn re en n M)) := by
  intro q
  induction q with
  | zero =>
    intro x l _ hc hl
    cases l with
    | nil => cases hl
    | cons a l =>
      obtain ⟨rfl, ha, hc⟩ := hc
      refine fEv.brT rfl (by decide) ?_
      exact fEv.retV rfl rfl
  | succ q ih =>
    intro x l hq hc hl
    cases l with
    | nil => cases hl
    | cons a l =>
      obtain ⟨rfl, ha, hc⟩ := hc
      refine fEv.brF rfl (decide_eq_false (nI_nle (by omega) (by omega))) ?_
      refine fEv.calli rfl e_nextAfter ?_
      rw [nextA_nI ha]
      have h2 := ih (t a) l (by omega) hc (by simpa using hl)
      rw [← pk_m1] at h2
      exact fEv.steps 3 rfl h2
theorem e_clusterOfPlace {e : Int32} {i : Nat} {l : List Nat} (hi : i < 1000) (hc : Chain t (fstC c e) l) (hl : i / 4 < l.length) : mEv Ls xs 10 (0, [some (.ref 0), some (.int e), some (.int (nI i)), none, none], [], (hV c t lf dn re en n M)) (rV (nI (l.getD (i / 4) 0)) (hV c t lf dn re en n M)) := by
  refine fEv.calli rfl e_firstOf ?_
  have h2 := cp_loop (Ls := Ls) (xs := xs) (re := re) (en := en) (lf := lf) (dn := dn) (n := n) (M := M) (c := c) (e := e) (i := nI i) (i / 4) _ l (by omega) hc hl
  rw [← pk_div (d := 4) (by omega) (by decide) (by decide)] at h2
  exact fEv.steps 5 rfl h2
theorem ct_loop {j : Nat} (hj : j < 32) (hf : t j = -2) (hm : ∀ i, i < j → ¬ t i = -2) : ∀ (m i : Nat), i + m = j → mEv Ls xs 20 (2, [some (.ref 0), some (.int (nI i))], [], hV c t lf dn re en n M) (rV (nI j) (hV c t lf dn re en n M)) := by
  intro m
  induction m with
  | zero =>
    intro i hi
    have hi : i = j := hi
    subst hi
    refine fEv.brF rfl (decide_eq_false (nI_ge (b := 32) hj (by decide))) ?_
    refine fEv.calli rfl e_nextAfter ?_
    rw [nextA_nI hj, hf]
    refine fEv.brF rfl (by decide) ?_
    exact fEv.retV rfl rfl
  | succ m ih =>
    intro i hi
    refine fEv.brF rfl (decide_eq_false (nI_ge (a := i) (b := 32) (by omega) (by decide))) ?_
    refine fEv.calli rfl e_nextAfter ?_
    rw [nextA_nI (by omega)]
    refine fEv.brT rfl (decide_eq_true (hm i (by omega))) ?_
    have h2 := ih (i + 1) (by omega)
    rw [← nI_add] at h2
    exact fEv.steps 2 rfl h2
theorem e_take {j : Nat} (hj : j < 32) (hf : t j = -2) (hm : ∀ i, i < j → ¬ t i = -2) : mEv Ls xs 20 (0, [some (.ref 0), none], [], (hV c t lf dn re en n M)) (rV (nI j) (hV c t lf dn re en n M)) := fEv.steps 2 rfl (ct_loop hj hf hm j 0 (by omega))
theorem ctn_loop (hm : ∀ i, i < 32 → ¬ t i = -2) : ∀ (m i : Nat), i + m = 32 → mEv Ls xs 20 (2, [some (.ref 0), some (.int (nI i))], [], hV c t lf dn re en n M) (rX 4 (hV c t lf dn re en n M)) := by
  intro m
  induction m with
  | zero =>
    intro i hi
    have hi : i = 32 := hi
    subst hi
    refine fEv.brT rfl (by decide) ?_
    exact fEv.retX rfl rfl
  | succ m ih =>
    intro i hi
    refine fEv.brF rfl (decide_eq_false (nI_ge (a := i) (b := 32) (by omega) (by decide))) ?_
    refine fEv.calli rfl e_nextAfter ?_
    rw [nextA_nI (by omega)]
    refine fEv.brT rfl (decide_eq_true (hm i (by omega))) ?_
    have h2 := ih (i + 1) (by omega)
    rw [← nI_add] at h2
    exact fEv.steps 2 rfl h2
theorem e_takeN (hm : ∀ i, i < 32 → ¬ t i = -2) : mEv Ls xs 20 (0, [some (.ref 0), none], [], (hV c t lf dn re en n M)) (rX 4 (hV c t lf dn re en n M)) := fEv.steps 2 rfl (ctn_loop hm 32 0 (by omega))
end KR
end
section
/-! the class's paths -/
def dg (p s : Nat) : Nat := p / 2 ^ s % 16
def chkD (b : Bool) : List Nat → Bool
  | [] => true
  | d :: ds => if b = true ∧ d = 0 then false else chkD (b || decide (d ≠ 0)) ds
def okP (p : Nat) : Bool := chkD false [dg p 12, dg p 8, dg p 4, dg p 0]
theorem dg_lt (p s : Nat) : dg p s < 16 := Nat.mod_lt _ (by decide)
theorem dg_of {p s : Nat} (hp : p < 65536) (hs : s = 12 ∨ s = 8 ∨ s = 4 ∨ s = 0) : (nI p >>> (nI s &&& 31)) &&& nI 15 = nI (dg p s) := by
  have h1 : nI p >>> (nI s &&& 31) = nI (p / 2 ^ s) := pk_shrN (by omega) _ s (by rcases hs with rfl | rfl | rfl | rfl <;> decide)
  have h2 : p / 2 ^ s ≤ p := Nat.div_le_self _ _
  rw [h1]
  exact pk_andN (by omega) 4 (by decide)
theorem sh4 {s : Nat} : nI (s + 4) + -(nI (3 + 1)) = nI s := by
  have : nI (s + 4) = nI s + nI 4 := (nI_add s 4).symm
  rw [this, Int32.add_assoc]
  have : nI 4 + -(nI (3 + 1)) = 0 := by decide
  rw [this, Int32.add_zero]
section KP
variable {Ls : Nat} {xs : Nat → Int32} {c t re en : Nat → Int32} {lf dn n : Int32} {M : mH}
theorem e_lost (hd : dn = 0 ∨ dn = 1) : mEv Ls xs 41 (0, [some (.ref 1)], [], (hV c t lf dn re en n M)) (rV dn (hV c t lf dn re en n M)) := by
  refine fEv.retV rfl ?_
  rcases hd with rfl | rfl <;> decide
theorem e_up : mEv Ls xs 16 (0, [some (.ref 0)], [], (hV c t lf 0 re en n M)) (rN (hV c t lf 0 re en n M)) := by
  refine fEv.calli rfl (e_lost (Or.inl rfl)) ?_
  refine fEv.brT rfl (by decide) ?_
  exact fEv.retV rfl rfl
theorem e_down : mEv Ls xs 16 (0, [some (.ref 0)], [], (hV c t lf 1 re en n M)) (rX 0 (hV c t lf 1 re en n M)) := by
  refine fEv.calli rfl (e_lost (Or.inr rfl)) ?_
  refine fEv.brF rfl (by decide) ?_
  exact fEv.retX rfl rfl
theorem rp_it {p s : Nat} {b : Bool} {o : Option Value} {h : mH} {r : mR} (hp : p < 65536) (hs : s = 12 ∨ s = 8 ∨ s = 4 ∨ s = 0) (hx : b = true → dg p s = 0 → r = rX 1 h)
    (k : ¬ (b = true ∧ dg p s = 0) → mEv Ls xs 17 (25, [some (.int (nI p)), some (.int (bI (b || decide (dg p s ≠ 0)))), some (.int (nI s + -(nI (3 + 1)))), some (.int (nI (dg p s)))], [], h) r) :
    mEv Ls xs 17 (25, [some (.int (nI p)), some (.int (bI b)), some (.int (nI s)), o], [], h) r := by
  have e0 := dg_of hp hs
  refine fEv.brF rfl (decide_eq_false (nI_pos (by rcases hs with rfl | rfl | rfl | rfl <;> decide))) ?_
  have hd : dg p s < 16 := dg_lt p s
  cases b with
  | false =>
    refine fEv.brT rfl (by decide) ?_
    refine fEv.brF rfl (by decide) ?_
    have k2 := k (fun q => by cases q.1)
    by_cases h0 : dg p s = 0
    · refine fEv.brT rfl (decide_eq_true (by show (nI p >>> (nI s &&& 31)) &&& nI 15 = 0; rw [e0, h0]; rfl)) ?_
      have e1 : (false || decide (dg p s ≠ 0)) = false := by simp [h0]
      rw [e1, ← e0] at k2
      exact fEv.steps 4 rfl k2
    · refine fEv.brF rfl (decide_eq_false (by show ¬ (nI p >>> (nI s &&& 31)) &&& nI 15 = 0; rw [e0]; exact nI_ne0 (by omega) (by omega))) ?_
      have e1 : (false || decide (dg p s ≠ 0)) = true := by simp [h0]
      rw [e1, ← e0] at k2
      exact fEv.steps 5 rfl k2
  | true =>
    refine fEv.brF rfl (by decide) ?_
    by_cases h0 : dg p s = 0
    · refine fEv.brF rfl (decide_eq_false (fun q => q (by show (nI p >>> (nI s &&& 31)) &&& nI 15 = 0; rw [e0, h0]; rfl))) ?_
      rw [hx rfl h0]
      exact fEv.retX rfl rfl
    · refine fEv.brT rfl (decide_eq_true (by show ¬ (nI p >>> (nI s &&& 31)) &&& nI 15 = 0; rw [e0]; exact nI_ne0 (by omega) (by omega))) ?_
      refine fEv.brT rfl (by decide) ?_
      have k2 := k (fun q => h0 q.2)
      rw [show (true || decide (dg p s ≠ 0)) = true from rfl, ← e0] at k2
      exact fEv.steps 5 rfl k2
theorem e_path {p : Nat} {h : mH} (hp : p < 65536) : mEv Ls xs 17 (0, [some (.int (nI p)), none, none, none], [], h) (if okP p = true then rN h else rX 1 h) := by
  refine fEv.brF rfl (decide_eq_false (nI_pos (by omega))) ?_
  refine fEv.brT rfl (decide_eq_true (nI_le (by omega) (by decide))) ?_
  refine fEv.steps (st := (25, [some (.int (nI p)), some (.int (bI false)), some (.int (nI 12)), none], [], h)) 4 rfl ?_
  refine rp_it hp (Or.inl rfl) (fun q => by cases q) (fun k1 => ?_)
  rw [sh4 (s := 8)]
  refine rp_it hp (Or.inr (Or.inl rfl)) (fun q1 q2 => ?_) (fun k2 => ?_)
  · rw [if_neg]
    simp only [okP, chkD]
    rw [if_neg k1, if_pos ⟨q1, q2⟩]; decide
  rw [sh4 (s := 4)]
  refine rp_it hp (Or.inr (Or.inr (Or.inl rfl))) (fun q1 q2 => ?_) (fun k3 => ?_)
  · rw [if_neg]
    simp only [okP, chkD]
    rw [if_neg k1, if_neg k2, if_pos ⟨q1, q2⟩]; decide
  rw [sh4 (s := 0)]
  refine rp_it hp (Or.inr (Or.inr (Or.inr rfl))) (fun q1 q2 => ?_) (fun k4 => ?_)
  · rw [if_neg]
    simp only [okP, chkD]
    rw [if_neg k1, if_neg k2, if_neg k3, if_pos ⟨q1, q2⟩]; decide
  have : okP p = true := by
    simp only [okP, chkD]
    rw [if_neg k1, if_neg k2, if_neg k3, if_neg k4]
  rw [if_pos this]
  refine fEv.brT rfl (by decide) ?_
  exact fEv.retV rfl rfl
theorem e_pathX {a : Int32} {h : mH} (ha : a < 0 ∨ nI 65535 < a) : mEv Ls xs 17 (0, [some (.int a), none, none, none], [], h) (rX 1 h) := by
  refine fEv.br rfl (fun h1 => ?_) (fun h1 => ?_)
  · exact fEv.retX rfl rfl
  · rcases ha with ha | ha
    · exact absurd ha h1
    · refine fEv.brF rfl (decide_eq_false (Int32.not_le.mpr ha)) ?_
      exact fEv.retX rfl rfl
/-! entries: 32 is the root -/
def eC (p : Nat) : Int32 := if p = 32 then -3 else nI p
def fsP (c : Nat → Int32) (p : Nat) : Int32 := if p = 32 then nI 0 else c (4 * p + 2)
def dirP (c : Nat → Int32) (p : Nat) : Bool := decide (p = 32) || decide (c (4 * p + 1) = nI 2)
def lkO (c : Nat → Int32) (d : Nat) (l : List Nat) : Option Nat := l.find? fun a => decide (c (4 * a) = nI d)
def oI (o : Option Nat) : Int32 := match o with
  | some a => nI a
  | none => -1
theorem lkI_eq {c : Nat → Int32} {d : Nat} {l : List Nat} : lkI c (nI d) l = oI (lkO c d l) := by
  induction l with
  | nil => rfl
  | cons a l ih =>
    unfold lkI lkO
    rw [List.find?_cons]
    by_cases h : c (4 * a) = nI d
    · rw [if_pos h, decide_eq_true h]; rfl
    · rw [if_neg h, decide_eq_false h]; exact ih
theorem nI_ne3 {a : Nat} (h : a < 32) : ¬ nI a = -3 := by
  intro q
  have := congrArg Int32.toInt q
  rw [nI_toInt (by omega)] at this
  have e : (-3 : Int32).toInt = -3 := by decide
  omega
theorem nI_ne1 {a : Nat} (h : a < 32) : ¬ nI a = -1 := by
  intro q
  have := congrArg Int32.toInt q
  rw [nI_toInt (by omega)] at this
  have e : (-1 : Int32).toInt = -1 := by decide
  omega
theorem dirC_e {p : Nat} (hp : p ≤ 32) : dirC c (eC p) = dirP c p := by
  unfold dirC dirP eC
  by_cases h : p = 32
  · simp [h]
  · rw [if_neg h, decide_eq_false h, decide_eq_false (nI_ne3 (by omega)), cellA_nI (by omega) (by decide)]
theorem fstC_e {p : Nat} (hp : p ≤ 32) : fstC c (eC p) = fsP c p := by
  unfold fstC fsP eC
  by_cases h : p = 32
  · simp [h]
  · rw [if_neg h, if_neg h, if_neg (nI_ne3 (by omega)), cellA_nI (by omega) (by decide)]
/-- what is known of the entries that can be come to -/
def Rc (c t : Nat → Int32) (ch : Nat → List Nat) (R : Nat → Prop) : Prop := ∀ p, R p → p ≤ 32 ∧ (dirP c p = true → Chain t (fsP c p) (ch p) ∧ (ch p).length ≤ 32 ∧ ∀ a ∈ ch p, ¬ c (4 * a) = nI 0 → R a ∧ a < 32)
def stp (c : Nat → Int32) (ch : Nat → List Nat) (p d : Nat) : Option Nat := if d = 0 then some p else if dirP c p = true then lkO c d (ch p) else none
theorem lkO_some {c : Nat → Int32} {d a : Nat} {l : List Nat} (h : lkO c d l = some a) : a ∈ l ∧ c (4 * a) = nI d := by
  unfold lkO at h
  exact ⟨List.mem_of_find?_eq_some h, by simpa using List.find?_some h⟩
theorem Chain.lt {t : Nat → Int32} : ∀ {l : List Nat} {x : Int32}, Chain t x l → ∀ a ∈ l, a < 32 := by
  intro l
  induction l with
  | nil => intro x _ a ha; cases ha
  | cons b l ih =>
    intro x hx a ha
    rcases List.mem_cons.mp ha with rfl | ha
    · exact hx.2.1
    · exact ih hx.2.2 a ha
theorem ea_it {c t : Nat → Int32} {p s q : Nat} {o : Option Value} {r : mR} {ch : Nat → List Nat} {R : Nat → Prop} (hR : Rc c t ch R) (hq : R q) (hp : p < 65536) (hs : s = 12 ∨ s = 8 ∨ s = 4 ∨ s = 0)
    (hx : stp c ch q (dg p s) = none → r = rX 2 (hV c t lf dn re en n M))
    (k : ∀ q', stp c ch q (dg p s) = some q' → R q' → mEv Ls xs 18 (6, [some (.ref 0), some (.int (nI p)), some (.int (eC q')), some (.int (nI s + -(nI (3 + 1)))), some (.int (nI (dg p s)))], [], hV c t lf dn re en n M) r) :
    mEv Ls xs 18 (6, [some (.ref 0), some (.int (nI p)), some (.int (eC q)), some (.int (nI s)), o], [], hV c t lf dn re en n M) r := by
  have e0 := dg_of hp hs
  have hd : dg p s < 16 := dg_lt p s
  obtain ⟨hq32, hch⟩ := hR q hq
  have eC1 : ∀ {z : Nat}, z ≤ 32 → ¬ eC z = -1 := by
    intro z hz
    unfold eC
    by_cases h : z = 32
    · rw [if_pos h]; decide
    · rw [if_neg h]; exact nI_ne1 (by omega)
  refine fEv.brF rfl (decide_eq_false (nI_pos (by rcases hs with rfl | rfl | rfl | rfl <;> decide))) ?_
  by_cases h0 : dg p s = 0
  · refine fEv.brT rfl (decide_eq_true (by show (nI p >>> (nI s &&& 31)) &&& nI 15 = 0; rw [e0, h0]; rfl)) ?_
    refine fEv.brT rfl (decide_eq_true (eC1 hq32)) ?_
    have k2 := k q (by unfold stp; rw [if_pos h0]) hq
    rw [← e0] at k2
    exact fEv.steps 2 rfl k2
  · refine fEv.brF rfl (decide_eq_false (by show ¬ (nI p >>> (nI s &&& 31)) &&& nI 15 = 0; rw [e0]; exact nI_ne0 (by omega) (by omega))) ?_
    cases hdir : dirP c q with
    | true =>
      obtain ⟨h1, h2, h3⟩ := hch hdir
      have hen := e_entryNamed (Ls := Ls) (xs := xs) (lf := lf) (dn := dn) (re := re) (en := en) (n := n) (M := M) (e := eC q) (nm := nI (dg p s)) (l := ch q) (by rw [dirC_e hq32]; exact hdir) (by rw [fstC_e hq32]; exact h1) h2
      rw [lkI_eq] at hen
      have hst : stp c ch q (dg p s) = lkO c (dg p s) (ch q) := by unfold stp; rw [if_neg h0, if_pos hdir]
      cases hl : lkO c (dg p s) (ch q) with
      | none =>
        rw [hl, ← e0] at hen
        refine fEv.calli rfl hen ?_
        refine fEv.brF rfl (by decide) ?_
        rw [hx (hst.trans hl)]
        exact fEv.retX rfl rfl
      | some a =>
        obtain ⟨ha1, ha2⟩ := lkO_some hl
        obtain ⟨hRa, ha⟩ := h3 a ha1 (by rw [ha2]; intro q9; have := (nI_eq (a := dg p s) (b := 0) (by omega) (by decide)).mp q9; exact h0 this)
        rw [hl, ← e0] at hen
        refine fEv.calli rfl hen ?_
        refine fEv.brT rfl (decide_eq_true (nI_ne1 ha)) ?_
        have k2 := k a (hst.trans hl) hRa
        have e3 : eC a = nI a := by unfold eC; rw [if_neg (by omega)]
        rw [← e0, e3] at k2
        exact fEv.steps 2 rfl k2
    | false =>
      have hen := e_entryNamedF (Ls := Ls) (xs := xs) (c := c) (t := t) (lf := lf) (dn := dn) (re := re) (en := en) (n := n) (M := M) (e := eC q) (nm := nI (dg p s)) (by rw [dirC_e hq32]; exact hdir)
      rw [← e0] at hen
      refine fEv.calli rfl hen ?_
      refine fEv.brF rfl (by decide) ?_
      rw [hx (by unfold stp; rw [if_neg h0, if_neg (by rw [hdir]; decide)])]
      exact fEv.retX rfl rfl
/-- where the four digits lead -/
def wk (c : Nat → Int32) (ch : Nat → List Nat) (p : Nat) : Option Nat := (stp c ch 32 (dg p 12)).bind fun a => (stp c ch a (dg p 8)).bind fun b => (stp c ch b (dg p 4)).bind fun d => stp c ch d (dg p 0)
theorem e_entryAt {c t : Nat → Int32} {p : Nat} {ch : Nat → List Nat} {R : Nat → Prop} (hR : Rc c t ch R) (h32 : R 32) (hp : p < 65536) :
    mEv Ls xs 18 (0, [some (.ref 0), some (.int (nI p)), none, none, none], [], (hV c t lf dn re en n M)) (match wk c ch p with | some q => rV (eC q) (hV c t lf dn re en n M) | none => rX 2 (hV c t lf dn re en n M)) := by
  refine fEv.steps (st := (6, [some (.ref 0), some (.int (nI p)), some (.int (eC 32)), some (.int (nI 12)), none], [], hV c t lf dn re en n M)) 4 rfl ?_
  refine ea_it hR h32 hp (Or.inl rfl) (fun q => by unfold wk; rw [q]; rfl) (fun a1 h1 R1 => ?_)
  rw [sh4 (s := 8)]
  refine ea_it hR R1 hp (Or.inr (Or.inl rfl)) (fun q => by unfold wk; rw [h1]; dsimp only [Option.bind_some]; rw [q]; rfl) (fun a2 h2 R2 => ?_)
  rw [sh4 (s := 4)]
  refine ea_it hR R2 hp (Or.inr (Or.inr (Or.inl rfl))) (fun q => by unfold wk; rw [h1]; dsimp only [Option.bind_some]; rw [h2]; dsimp only [Option.bind_some]; rw [q]; rfl) (fun a3 h3 R3 => ?_)
  rw [sh4 (s := 0)]
  refine ea_it hR R3 hp (Or.inr (Or.inr (Or.inr rfl))) (fun q => by unfold wk; rw [h1]; dsimp only [Option.bind_some]; rw [h2]; dsimp only [Option.bind_some]; rw [h3]; dsimp only [Option.bind_some]; rw [q]) (fun a4 h4 R4 => ?_)
  have : wk c ch p = some a4 := by unfold wk; rw [h1]; dsimp only [Option.bind_some]; rw [h2]; dsimp only [Option.bind_some]; rw [h3]; exact h4
  rw [this]
  refine fEv.brT rfl (by decide) ?_
  exact fEv.retV rfl rfl
end KP
end
section
/-! writes in a row, up to the loss of power -/
abbrev Wr : Type := (Nat → Int32) × (Nat → Int32) → (Nat → Int32) × (Nat → Int32)
def wT (a : Nat) (v : Int32) : Wr := fun s => (s.1, upd s.2 a v)
def wC (j : Nat) (v0 v1 v2 v3 : Int32) : Wr := fun s => (w4 s.1 j v0 v1 v2 v3, s.2)
def wK (j i : Nat) (v : Int32) : Wr := fun s => (upd s.1 (4 * j + i) v, s.2)
def rW : List Wr → (Nat → Int32) → (Nat → Int32) → Int32 → (Nat → Int32) × (Nat → Int32) × Int32 × Bool
  | [], c, t, lf => (c, t, lf, false)
  | w :: ws, c, t, lf => if lf = 0 then (c, t, lf, true) else rW ws (w (c, t)).1 (w (c, t)).2 (spd lf)
def rn : List Wr → (Nat → Int32) → (Nat → Int32) → (Nat → Int32) × (Nat → Int32)
  | [], c, t => (c, t)
  | w :: ws, c, t => rn ws (w (c, t)).1 (w (c, t)).2
def rsC (re en : Nat → Int32) (n : Int32) (M : mH) (v : Option Value) (ws : List Wr) (c t : Nat → Int32) (lf : Int32) : mR :=
  match rW ws c t lf with
  | (c', t', lf', true) => rX 0 (hV c' t' lf' 1 re en n M)
  | (c', t', lf', false) => (.inl v, hV c' t' lf' 0 re en n M, 0, 0)
theorem rW_app : ∀ (w1 w2 : List Wr) (c t : Nat → Int32) (lf : Int32), (∃ c' t' lf', rW w1 c t lf = (c', t', lf', true) ∧ rW (w1 ++ w2) c t lf = (c', t', lf', true)) ∨ (∃ lf', rW w1 c t lf = ((rn w1 c t).1, (rn w1 c t).2, lf', false) ∧ rW (w1 ++ w2) c t lf = rW w2 (rn w1 c t).1 (rn w1 c t).2 lf') := by
  intro w1
  induction w1 with
  | nil => intro w2 c t lf; exact Or.inr ⟨lf, rfl, rfl⟩
  | cons w ws ih =>
    intro w2 c t lf
    simp only [List.cons_append, rW, rn]
    by_cases h : lf = 0
    · rw [if_pos h, if_pos h]; exact Or.inl ⟨c, t, lf, rfl, rfl⟩
    · rw [if_neg h, if_neg h]; exact ih w2 _ _ _
section KW
variable {Ls : Nat} {xs : Nat → Int32} {c t re en : Nat → Int32} {lf dn n : Int32} {M : mH}
/-- a call that writes and answers nothing -/
theorem fEv.callw {k pc k' pc' : Nat} {L : List (Option Value)} {S : List Value} {hh : mH} {av S' : List Value} {L' : List (Option Value)} {h : mH} {w1 : List Wr} (w2 : List Wr) {v : Option Value} (hs : fGo Ls xs 300 k pc L S hh = some (.inr (.inr (.inr (.inl (k', av, (pc', L', S', h)))))))
    (hc : mEv Ls xs k' (mEnt k' av h) (rsC re en n M none w1 c t lf)) (hn : mHH k = []) (he : ∀ lf', mEv Ls xs k (pc', L', S', hV (rn w1 c t).1 (rn w1 c t).2 lf' 0 re en n M) (rsC re en n M v w2 (rn w1 c t).1 (rn w1 c t).2 lf')) :
    mEv Ls xs k (pc, L, S, hh) (rsC re en n M v (w1 ++ w2) c t lf) := by
  unfold rsC at hc ⊢
  rcases rW_app w1 w2 c t lf with ⟨c', t', lf', e1, e2⟩ | ⟨lf', e1, e2⟩
  · rw [e1] at hc
    rw [e2]
    exact fEv.thr hs hc hn
  · rw [e1] at hc
    rw [e2]
    exact fEv.calln hs hc (he lf')
/-- the last writing call -/
theorem fEv.callwE {k pc k' pc' : Nat} {L : List (Option Value)} {S : List Value} {hh : mH} {av S' : List Value} {L' : List (Option Value)} {h : mH} {w1 : List Wr} {v : Option Value} (hs : fGo Ls xs 300 k pc L S hh = some (.inr (.inr (.inr (.inl (k', av, (pc', L', S', h)))))))
    (hc : mEv Ls xs k' (mEnt k' av h) (rsC re en n M none w1 c t lf)) (hn : mHH k = []) (he : ∀ lf', mEv Ls xs k (pc', L', S', hV (rn w1 c t).1 (rn w1 c t).2 lf' 0 re en n M) (.inl v, hV (rn w1 c t).1 (rn w1 c t).2 lf' 0 re en n M, 0, 0)) :
    mEv Ls xs k (pc, L, S, hh) (rsC re en n M v w1 c t lf) := by
  have h2 := fEv.callw (v := v) [] hs hc hn he
  rwa [List.append_nil] at h2
/-- the next write of several -/
theorem fEv.callwc {k pc k' pc' : Nat} {L : List (Option Value)} {S : List Value} {hh : mH} {av S' : List Value} {L' : List (Option Value)} {h : mH} {w : Wr} {w2 : List Wr} {v : Option Value} (hs : fGo Ls xs 300 k pc L S hh = some (.inr (.inr (.inr (.inl (k', av, (pc', L', S', h)))))))
    (hc : mEv Ls xs k' (mEnt k' av h) (rsC re en n M none [w] c t lf)) (hn : mHH k = []) (he : ∀ lf', mEv Ls xs k (pc', L', S', hV (w (c, t)).1 (w (c, t)).2 lf' 0 re en n M) (rsC re en n M v w2 (w (c, t)).1 (w (c, t)).2 lf')) :
    mEv Ls xs k (pc, L, S, hh) (rsC re en n M v (w :: w2) c t lf) := fEv.callw w2 hs hc hn he
/-- a call that writes and answers an int -/
theorem fEv.callwi {k pc k' pc' : Nat} {L : List (Option Value)} {S : List Value} {hh : mH} {av S' : List Value} {L' : List (Option Value)} {h : mH} {w1 : List Wr} (w2 : List Wr) {v : Option Value} {z : Int32} (hs : fGo Ls xs 300 k pc L S hh = some (.inr (.inr (.inr (.inl (k', av, (pc', L', S', h)))))))
    (hc : mEv Ls xs k' (mEnt k' av h) (rsC re en n M (some (.int z)) w1 c t lf)) (hn : mHH k = []) (he : ∀ lf', mEv Ls xs k (pc', L', .int z :: S', hV (rn w1 c t).1 (rn w1 c t).2 lf' 0 re en n M) (rsC re en n M v w2 (rn w1 c t).1 (rn w1 c t).2 lf')) :
    mEv Ls xs k (pc, L, S, hh) (rsC re en n M v (w1 ++ w2) c t lf) := by
  unfold rsC at hc ⊢
  rcases rW_app w1 w2 c t lf with ⟨c', t', lf', e1, e2⟩ | ⟨lf', e1, e2⟩
  · rw [e1] at hc
    rw [e2]
    exact fEv.thr hs hc hn
  · rw [e1] at hc
    rw [e2]
    exact fEv.calli hs hc (he lf')
/-- the last writing call, with an answer -/
theorem fEv.callwiE {k pc k' pc' : Nat} {L : List (Option Value)} {S : List Value} {hh : mH} {av S' : List Value} {L' : List (Option Value)} {h : mH} {w1 : List Wr} {v : Option Value} {z : Int32} (hs : fGo Ls xs 300 k pc L S hh = some (.inr (.inr (.inr (.inl (k', av, (pc', L', S', h)))))))
    (hc : mEv Ls xs k' (mEnt k' av h) (rsC re en n M (some (.int z)) w1 c t lf)) (hn : mHH k = []) (he : ∀ lf', mEv Ls xs k (pc', L', .int z :: S', hV (rn w1 c t).1 (rn w1 c t).2 lf' 0 re en n M) (.inl v, hV (rn w1 c t).1 (rn w1 c t).2 lf' 0 re en n M, 0, 0)) :
    mEv Ls xs k (pc, L, S, hh) (rsC re en n M v w1 c t lf) := by
  have h2 := fEv.callwi (v := v) [] hs hc hn he
  rwa [List.append_nil] at h2
theorem e_wT {j : Nat} {v : Int32} (hj : j < 32) : mEv Ls xs 45 (0, [some (.ref 1), some (.int (nI j)), some (.int v)], [], (hV c t lf 0 re en n M)) (rsC re en n M none [wT j v] c t lf) := by
  unfold rsC rW
  by_cases h : lf = 0
  · rw [if_pos h]; exact e_writeTable0 h
  · rw [if_neg h]; exact e_writeTable1 h hj
theorem e_wC {j : Nat} {v0 v1 v2 v3 : Int32} (hj : j < 32) : mEv Ls xs 47 (0, [some (.ref 1), some (.int (nI j)), some (.int v0), some (.int v1), some (.int v2), some (.int v3), none], [], (hV c t lf 0 re en n M)) (rsC re en n M none [wC j v0 v1 v2 v3] c t lf) := by
  unfold rsC rW
  by_cases h : lf = 0
  · rw [if_pos h]; exact e_writeCluster0 h
  · rw [if_neg h]; exact e_writeCluster1 h hj
theorem e_wK {j i : Nat} {v : Int32} (hj : j < 32) (hi : i < 4) : mEv Ls xs 48 (0, [some (.ref 1), some (.int (nI j)), some (.int (nI i)), some (.int v)], [], (hV c t lf 0 re en n M)) (rsC re en n M none [wK j i v] c t lf) := by
  unfold rsC rW
  by_cases h : lf = 0
  · rw [if_pos h]; exact e_writeCell0 h
  · rw [if_neg h]; exact e_writeCell1 h hj hi
theorem e_writeExtent {e : Nat} {f l : Int32} (he : e < 32) : mEv Ls xs 30 (0, [some (.ref 0), some (.int (nI e)), some (.int f), some (.int l)], [], (hV c t lf 0 re en n M)) (rsC re en n M none [wC e (c (4 * e)) (c (4 * e + 1)) f l] c t lf) := by
  refine fEv.calli rfl e_cellAt ?_
  rw [cellA_nI he (by decide), Nat.add_zero]
  refine fEv.calli rfl e_cellAt ?_
  rw [cellA_nI he (by decide)]
  refine fEv.callwE rfl (e_wC he) rfl (fun lf' => ?_)
  exact fEv.retV rfl rfl
theorem Chain_upd {t : Nat → Int32} {a : Nat} {v : Int32} : ∀ {l : List Nat} {x : Int32}, Chain t x l → a ∉ l → Chain (upd t a v) x l := by
  intro l
  induction l with
  | nil => intro x h _; exact h
  | cons b l ih =>
    intro x h ha
    refine ⟨h.1, h.2.1, ?_⟩
    have : upd t a v b = t b := pk_un (fun q => ha (by rw [q]; exact List.mem_cons_self))
    rw [this]
    exact ih h.2.2 (fun q => ha (List.mem_cons_of_mem _ q))
def wF (l : List Nat) : List Wr := l.map fun a => wT a (-2)
theorem fc_loop {x0 : Int32} : ∀ (l : List Nat) (x : Int32) (q : Nat) (t : Nat → Int32) (lf : Int32) (o : Option Value), (o = none ∨ ∃ z, o = some (.int z)) → Chain t x l → l.Nodup → q + l.length ≤ 32 → mEv Ls xs 25 (4, [some (.ref 0), some (.int x0), some (.int (nI q)), some (.int x), o], [], hV c t lf 0 re en n M) (rsC re en n M (some (.int (nI (q + l.length)))) (wF l) c t lf) := by
  intro l
  induction l with
  | nil =>
    intro x q t lf o ho hx _ hs
    have hx : x = -1 := hx
    subst hx
    show mEv Ls xs 25 _ (rV (nI q) (hV c t lf 0 re en n M))
    rcases ho with rfl | ⟨z, rfl⟩ <;>
    · refine fEv.br rfl (fun h1 => ?_) (fun h1 => ?_)
      · exact fEv.retV rfl rfl
      · refine fEv.calli rfl e_isC ?_
        rw [isC_m1]
        refine fEv.brT rfl (by decide) ?_
        exact fEv.retV rfl rfl
  | cons a l ih =>
    intro x q t lf o ho hx hnd hs
    obtain ⟨rfl, ha, hc⟩ := hx
    obtain ⟨hal, hnd⟩ := List.nodup_cons.mp hnd
    simp only [List.length_cons] at hs
    show mEv Ls xs 25 _ (rsC re en n M (some (.int (nI (q + (l.length + 1))))) (wT a (-2) :: wF l) c t lf)
    rcases ho with rfl | ⟨z, rfl⟩ <;>
    · refine fEv.brF rfl (decide_eq_false (nI_ge (a := q) (b := 32) (by omega) (by decide))) ?_
      refine fEv.calli rfl e_isC ?_
      rw [isC_nI ha]
      refine fEv.brF rfl (by decide) ?_
      refine fEv.calli rfl e_nextAfter ?_
      rw [nextA_nI ha]
      refine fEv.callwc rfl (e_wT ha) rfl (fun lf' => ?_)
      have h2 := ih (t a) (q + 1) (upd t a (-2)) lf' (some (.int (t a))) (Or.inr ⟨_, rfl⟩) (Chain_upd hc hal) hnd (by omega)
      rw [show q + 1 + l.length = q + (l.length + 1) by omega, ← nI_add] at h2
      exact fEv.steps 4 rfl h2
theorem e_freeChain {x : Int32} {l : List Nat} (hc : Chain t x l) (hn : l.Nodup) (hl : l.length ≤ 32) : mEv Ls xs 25 (0, [some (.ref 0), some (.int x), none, none, none], [], (hV c t lf 0 re en n M)) (rsC re en n M (some (.int (nI l.length))) (wF l) c t lf) := by
  have h2 := fc_loop (Ls := Ls) (xs := xs) (c := c) (re := re) (en := en) (n := n) (M := M) (x0 := x) l x 0 t lf none (Or.inl rfl) hc hn (by omega)
  rw [Nat.zero_add] at h2
  exact fEv.steps 4 rfl h2
theorem e_freeBehind0 {a : Nat} (ha : a < 32) (h : t a = -1) : mEv Ls xs 35 (0, [some (.ref 0), some (.int (nI a)), none], [], (hV c t lf 0 re en n M)) (rsC re en n M (some (.int (nI 0))) [] c t lf) := by
  refine fEv.calli rfl e_nextAfter ?_
  rw [nextA_nI ha, h]
  refine fEv.calli rfl e_isC ?_
  rw [isC_m1]
  refine fEv.brF rfl (by decide) ?_
  exact fEv.retV rfl rfl
theorem e_freeBehind1 {a b : Nat} {l : List Nat} (ha : a < 32) (h : t a = nI b) (hb : b < 32) (hc : Chain t (t b) l) (hn : (b :: l).Nodup) (hal : a ∉ b :: l) (hl : l.length < 32) : mEv Ls xs 35 (0, [some (.ref 0), some (.int (nI a)), none], [], (hV c t lf 0 re en n M)) (rsC re en n M (some (.int (nI (l.length + 1)))) (wT a (-1) :: wF (b :: l)) c t lf) := by
  refine fEv.calli rfl e_nextAfter ?_
  rw [nextA_nI ha, h]
  refine fEv.calli rfl e_isC ?_
  rw [isC_nI hb]
  refine fEv.brT rfl (by decide) ?_
  refine fEv.callwc rfl (e_wT ha) rfl (fun lf' => ?_)
  have hch : Chain (upd t a (-1)) (nI b) (b :: l) := Chain_upd (t := t) (x := nI b) (l := b :: l) ⟨rfl, hb, hc⟩ hal
  have h2 := e_freeChain (Ls := Ls) (xs := xs) (c := c) (t := upd t a (-1)) (lf := lf') (re := re) (en := en) (n := n) (M := M) hch hn (by simp only [List.length_cons]; omega)
  refine fEv.callwiE rfl h2 rfl (fun lf'' => ?_)
  exact fEv.retV rfl rfl
theorem e_link0 {p a : Nat} (hp : p < 32) (hf : c (4 * p + 2) = -1) : mEv Ls xs 21 (0, [some (.ref 0), some (.int (nI p)), some (.int (nI a)), none], [], (hV c t lf 0 re en n M)) (rsC re en n M none [wK p 2 (nI a)] c t lf) := by
  refine fEv.calli rfl e_firstOf ?_
  have e1 : fstC c (nI p) = -1 := by
    unfold fstC
    rw [if_neg (nI_ne3 hp), cellA_nI hp (by decide), hf]
  rw [e1]
  refine fEv.brF rfl (by decide) ?_
  refine fEv.callwE rfl (e_wK hp (by decide)) rfl (fun lf' => ?_)
  exact fEv.retV rfl rfl
theorem e_link1 {e : Int32} {a b : Nat} {l : List Nat} (hf : fstC c e = nI b) (hb : b < 32) (hc : Chain t (t b) l) (hl : l.length ≤ 32) (hla : lastI b l < 32) : mEv Ls xs 21 (0, [some (.ref 0), some (.int e), some (.int (nI a)), none], [], (hV c t lf 0 re en n M)) (rsC re en n M none [wT (lastI b l) (nI a)] c t lf) := by
  refine fEv.calli rfl e_firstOf ?_
  rw [hf]
  refine fEv.brT rfl (decide_eq_true (nI_ne1 hb)) ?_
  refine fEv.calli rfl (e_lastOfChain hb hc hl) ?_
  refine fEv.callwE rfl (e_wT hla) rfl (fun lf' => ?_)
  exact fEv.retV rfl rfl
end KW
end
section
/-! the class's calls -/
section KU
variable {Ls : Nat} {xs : Nat → Int32} {c t re en : Nat → Int32} {lf dn n : Int32} {M : mH} {ch : Nat → List Nat} {R : Nat → Prop}
def badP (a : Int32) : Prop := (a < 0 ∨ nI 65535 < a) ∨ ∃ p : Nat, p < 65536 ∧ a = nI p ∧ okP p = false
theorem e_bad {a : Int32} {h : mH} (hb : badP a) : mEv Ls xs 17 (0, [some (.int a), none, none, none], [], h) (rX 1 h) := by
  rcases hb with hb | ⟨p, hp, rfl, ho⟩
  · exact e_pathX hb
  · have := e_path (Ls := Ls) (xs := xs) (h := h) hp
    rwa [if_neg (by rw [ho]; decide)] at this
theorem e_good {p : Nat} {h : mH} (hp : p < 65536) (ho : okP p = true) : mEv Ls xs 17 (0, [some (.int (nI p)), none, none, none], [], h) (rN h) := by
  have := e_path (Ls := Ls) (xs := xs) (h := h) hp
  rwa [if_pos ho] at this
theorem e_at {p q : Nat} (hR : Rc c t ch R) (h32 : R 32) (hp : p < 65536) (hw : wk c ch p = some q) : mEv Ls xs 18 (0, [some (.ref 0), some (.int (nI p)), none, none, none], [], (hV c t lf dn re en n M)) (rV (eC q) (hV c t lf dn re en n M)) := by
  have := e_entryAt (Ls := Ls) (xs := xs) (lf := lf) (dn := dn) (re := re) (en := en) (n := n) (M := M) hR h32 hp
  rwa [hw] at this
theorem e_atN {p : Nat} (hR : Rc c t ch R) (h32 : R 32) (hp : p < 65536) (hw : wk c ch p = none) : mEv Ls xs 18 (0, [some (.ref 0), some (.int (nI p)), none, none, none], [], (hV c t lf dn re en n M)) (rX 2 (hV c t lf dn re en n M)) := by
  have := e_entryAt (Ls := Ls) (xs := xs) (lf := lf) (dn := dn) (re := re) (en := en) (n := n) (M := M) hR h32 hp
  rwa [hw] at this
theorem wk_R {p q : Nat} (hR : Rc c t ch R) (h32 : R 32) (hw : wk c ch p = some q) : R q := by
  have key : ∀ a d b, R a → d < 16 → stp c ch a d = some b → R b := by
    intro a d b ha hd hs
    unfold stp at hs
    split at hs
    · cases hs; exact ha
    · rename_i hd0
      split at hs
      · rename_i hdir
        obtain ⟨h1, h2⟩ := lkO_some hs
        exact (((hR a ha).2 hdir).2.2 b h1 (by rw [h2]; intro z; exact hd0 ((nI_eq (by omega) (by decide)).mp z))).1
      · cases hs
  unfold wk at hw
  obtain ⟨a1, e1, hw⟩ := Option.bind_eq_some_iff.mp hw
  obtain ⟨a2, e2, hw⟩ := Option.bind_eq_some_iff.mp hw
  obtain ⟨a3, e3, hw⟩ := Option.bind_eq_some_iff.mp hw
  exact key _ _ _ (key _ _ _ (key _ _ _ (key _ _ _ h32 (dg_lt _ _) e1) (dg_lt _ _) e2) (dg_lt _ _) e3) (dg_lt _ _) hw
theorem sh16 {p : Nat} (hp : p < 65536) : nI p >>> (nI 4 &&& 31) = nI (p / 16) := pk_shrN (by omega) _ 4 (by decide)
theorem an15 {p : Nat} (hp : p < 65536) : nI p &&& nI 15 = nI (p % 16) := pk_andN (by omega) 4 (by decide)
theorem e_named {q d : Nat} (hR : Rc c t ch R) (hq : R q) (hd : dirP c q = true) : mEv Ls xs 19 (0, [some (.ref 0), some (.int (eC q)), some (.int (nI d)), none, none], [], (hV c t lf dn re en n M)) (rV (oI (lkO c d (ch q))) (hV c t lf dn re en n M)) := by
  obtain ⟨h1, h2⟩ := hR q hq
  obtain ⟨h3, h4, -⟩ := h2 hd
  rw [← lkI_eq]
  exact e_entryNamed (by rw [dirC_e h1]; exact hd) (by rw [fstC_e h1]; exact h3) h4
theorem e_dir {q : Nat} (hR : Rc c t ch R) (hq : R q) : mEv Ls xs 7 (0, [some (.ref 0), some (.int (eC q))], [], (hV c t lf dn re en n M)) (rV (bI (dirP c q)) (hV c t lf dn re en n M)) := by
  rw [← dirC_e (hR q hq).1]
  exact e_isDir
theorem e_fst {q : Nat} (hR : Rc c t ch R) (hq : R q) : mEv Ls xs 11 (0, [some (.ref 0), some (.int (eC q))], [], (hV c t lf dn re en n M)) (rV (fsP c q) (hV c t lf dn re en n M)) := by
  rw [← fstC_e (hR q hq).1]
  exact e_firstOf
-- make
theorem e_make_down {a d : Int32} : mEv Ls xs 15 (0, [some (.ref 0), some (.int a), some (.int d), none, none, none, none, none], [], (hV c t lf 1 re en n M)) (rX 0 (hV c t lf 1 re en n M)) := fEv.thr rfl e_down rfl
theorem e_make_bad {a d : Int32} (hb : badP a) : mEv Ls xs 15 (0, [some (.ref 0), some (.int a), some (.int d), none, none, none, none, none], [], (hV c t lf 0 re en n M)) (rX 1 (hV c t lf 0 re en n M)) := by
  refine fEv.calln rfl e_up ?_
  exact fEv.thr rfl (e_bad hb) rfl
theorem e_make_no {p : Nat} {d : Int32} (hp : p < 65536) (ho : okP p = true) (hR : Rc c t ch R) (h32 : R 32) (hw : wk c ch (p / 16) = none) : mEv Ls xs 15 (0, [some (.ref 0), some (.int (nI p)), some (.int d), none, none, none, none, none], [], (hV c t lf 0 re en n M)) (rX 2 (hV c t lf 0 re en n M)) := by
  refine fEv.calln rfl e_up ?_
  refine fEv.calln rfl (e_good hp ho) ?_
  have h2 := e_atN (Ls := Ls) (xs := xs) (lf := lf) (dn := 0) (re := re) (en := en) (n := n) (M := M) hR h32 (p := p / 16) (by omega) hw
  rw [← sh16 hp] at h2
  exact fEv.thr rfl h2 rfl
theorem e_make_file {p q : Nat} {d : Int32} (hp : p < 65536) (ho : okP p = true) (hR : Rc c t ch R) (h32 : R 32) (hw : wk c ch (p / 16) = some q) (hd : dirP c q = false) : mEv Ls xs 15 (0, [some (.ref 0), some (.int (nI p)), some (.int d), none, none, none, none, none], [], (hV c t lf 0 re en n M)) (rX 2 (hV c t lf 0 re en n M)) := by
  refine fEv.calln rfl e_up ?_
  refine fEv.calln rfl (e_good hp ho) ?_
  have h2 := e_at (Ls := Ls) (xs := xs) (lf := lf) (dn := 0) (re := re) (en := en) (n := n) (M := M) hR h32 (p := p / 16) (by omega) hw
  rw [← sh16 hp] at h2
  refine fEv.calli rfl h2 ?_
  refine fEv.calli rfl (e_dir hR (wk_R hR h32 hw)) ?_
  rw [hd]
  refine fEv.brF rfl (by decide) ?_
  exact fEv.retX rfl rfl
theorem e_make_is {p q : Nat} {d : Int32} (hp : p < 65536) (ho : okP p = true) (hR : Rc c t ch R) (h32 : R 32) (hw : wk c ch (p / 16) = some q) (hd : dirP c q = true) (hl : p = 0 ∨ ∃ a, lkO c (p % 16) (ch q) = some a ∧ a < 32) : mEv Ls xs 15 (0, [some (.ref 0), some (.int (nI p)), some (.int d), none, none, none, none, none], [], (hV c t lf 0 re en n M)) (rX 3 (hV c t lf 0 re en n M)) := by
  have hq := wk_R hR h32 hw
  refine fEv.calln rfl e_up ?_
  refine fEv.calln rfl (e_good hp ho) ?_
  have h2 := e_at (Ls := Ls) (xs := xs) (lf := lf) (dn := 0) (re := re) (en := en) (n := n) (M := M) hR h32 (p := p / 16) (by omega) hw
  rw [← sh16 hp] at h2
  refine fEv.calli rfl h2 ?_
  refine fEv.calli rfl (e_dir hR hq) ?_
  rw [hd]
  refine fEv.brT rfl (by decide) ?_
  refine fEv.br rfl (fun h0 => ?_) (fun h0 => ?_)
  · exact fEv.retX rfl rfl
  · rcases hl with hl | ⟨a, hl, ha⟩
    · exact absurd (by rw [hl]; rfl) h0
    · have h3 := e_named (Ls := Ls) (xs := xs) (lf := lf) (dn := 0) (re := re) (en := en) (n := n) (M := M) (d := p % 16) hR hq hd
      rw [← an15 hp, hl] at h3
      refine fEv.calli rfl h3 ?_
      refine fEv.brF rfl (decide_eq_false (nI_ne1 ha)) ?_
      exact fEv.retX rfl rfl
/-- up to the choice of a place -/
theorem mk_pre {p q : Nat} {d : Int32} {r : mR} (hp : p < 65536) (hp0 : ¬ p = 0) (ho : okP p = true) (hR : Rc c t ch R) (h32 : R 32) (hw : wk c ch (p / 16) = some q) (hd : dirP c q = true) (hl : lkO c (p % 16) (ch q) = none)
    (k : mEv Ls xs 15 (84, [some (.ref 0), some (.int (nI p)), some (.int d), some (.int (eC q)), some (.int (nI p &&& nI 15)), some (.int (if d = 0 then nI 1 else nI 2)), some (.int (oI (lkO c 0 (ch q)))), none], [], hV c t lf 0 re en n M) r) :
    mEv Ls xs 15 (0, [some (.ref 0), some (.int (nI p)), some (.int d), none, none, none, none, none], [], (hV c t lf 0 re en n M)) r := by
  have hq := wk_R hR h32 hw
  refine fEv.calln rfl e_up ?_
  refine fEv.calln rfl (e_good hp ho) ?_
  have h2 := e_at (Ls := Ls) (xs := xs) (lf := lf) (dn := 0) (re := re) (en := en) (n := n) (M := M) hR h32 (p := p / 16) (by omega) hw
  rw [← sh16 hp] at h2
  refine fEv.calli rfl h2 ?_
  refine fEv.calli rfl (e_dir hR hq) ?_
  rw [hd]
  refine fEv.brT rfl (by decide) ?_
  refine fEv.brF rfl (decide_eq_false (nI_ne0 (by omega) (by omega))) ?_
  have h3 := e_named (Ls := Ls) (xs := xs) (lf := lf) (dn := 0) (re := re) (en := en) (n := n) (M := M) (d := p % 16) hR hq hd
  rw [← an15 hp, hl] at h3
  refine fEv.calli rfl h3 ?_
  refine fEv.brT rfl (by decide) ?_
  have h4 := e_named (Ls := Ls) (xs := xs) (lf := lf) (dn := 0) (re := re) (en := en) (n := n) (M := M) (d := 0) hR hq hd
  refine fEv.br rfl (fun h5 => ?_) (fun h5 => ?_)
  · rw [if_pos h5] at k
    refine fEv.calli rfl h4 ?_
    exact fEv.steps 1 rfl k
  · rw [if_neg h5] at k
    refine fEv.calli rfl h4 ?_
    exact fEv.steps 1 rfl k
theorem e_make_empty {p q a : Nat} {d : Int32} (hp : p < 65536) (hp0 : ¬ p = 0) (ho : okP p = true) (hR : Rc c t ch R) (h32 : R 32) (hw : wk c ch (p / 16) = some q) (hd : dirP c q = true) (hl : lkO c (p % 16) (ch q) = none) (he : lkO c 0 (ch q) = some a) (ha : a < 32) :
    mEv Ls xs 15 (0, [some (.ref 0), some (.int (nI p)), some (.int d), none, none, none, none, none], [], (hV c t lf 0 re en n M)) (rsC re en n M (some (.int (nI a))) [wC a (nI (p % 16)) (if d = 0 then nI 1 else nI 2) (-1) (nI 0)] c t lf) := by
  refine mk_pre hp hp0 ho hR h32 hw hd hl ?_
  rw [he, an15 hp]
  refine fEv.brF rfl (decide_eq_false (nI_ne1 ha)) ?_
  refine fEv.callwE rfl (e_wC ha) rfl (fun lf' => ?_)
  exact fEv.retV rfl rfl
theorem e_make_full {p q : Nat} {d : Int32} (hp : p < 65536) (hp0 : ¬ p = 0) (ho : okP p = true) (hR : Rc c t ch R) (h32 : R 32) (hw : wk c ch (p / 16) = some q) (hd : dirP c q = true) (hl : lkO c (p % 16) (ch q) = none) (he : lkO c 0 (ch q) = none) (hf : ∀ i, i < 32 → ¬ t i = -2) :
    mEv Ls xs 15 (0, [some (.ref 0), some (.int (nI p)), some (.int d), none, none, none, none, none], [], (hV c t lf 0 re en n M)) (rX 4 (hV c t lf 0 re en n M)) := by
  refine mk_pre hp hp0 ho hR h32 hw hd hl ?_
  rw [he]
  refine fEv.brT rfl (by decide) ?_
  exact fEv.thr rfl (e_takeN hf) rfl
theorem w4_at {c : Nat → Int32} {j : Nat} {v0 v1 v2 v3 : Int32} {p i : Nat} (h : p ≠ j) (hi : i < 4) : w4 c j v0 v1 v2 v3 (4 * p + i) = c (4 * p + i) := by
  unfold w4
  rw [pk_un (by omega), pk_un (by omega), pk_un (by omega), pk_un (by omega)]
/-- a new cluster for a directory without clusters -/
theorem e_make_new0 {p q a : Nat} {d : Int32} (hp : p < 65536) (hp0 : ¬ p = 0) (ho : okP p = true) (hR : Rc c t ch R) (h32 : R 32) (hw : wk c ch (p / 16) = some q) (hd : dirP c q = true) (hl : lkO c (p % 16) (ch q) = none) (he : lkO c 0 (ch q) = none) (ha : a < 32) (hf : t a = -2) (hm : ∀ i, i < a → ¬ t i = -2) (hq : q < 32) (hq1 : c (4 * q + 2) = -1) (hqa : q ≠ a) :
    mEv Ls xs 15 (0, [some (.ref 0), some (.int (nI p)), some (.int d), none, none, none, none, none], [], (hV c t lf 0 re en n M)) (rsC re en n M (some (.int (nI a))) [wC a (nI (p % 16)) (if d = 0 then nI 1 else nI 2) (-1) (nI 0), wT a (-1), wK q 2 (nI a)] c t lf) := by
  refine mk_pre hp hp0 ho hR h32 hw hd hl ?_
  rw [he, an15 hp]
  refine fEv.brT rfl (by decide) ?_
  refine fEv.calli rfl (e_take ha hf hm) ?_
  refine fEv.callwc rfl (e_wC ha) rfl (fun lf1 => ?_)
  refine fEv.callwc rfl (e_wT ha) rfl (fun lf2 => ?_)
  have e1 : eC q = nI q := by unfold eC; rw [if_neg (by omega)]
  rw [e1]
  refine fEv.callwE rfl (e_link0 hq (by show w4 _ _ _ _ _ _ (4 * q + 2) = -1; rw [w4_at hqa (by decide)]; exact hq1)) rfl (fun lf3 => ?_)
  exact fEv.retV rfl rfl
/-- a new cluster behind the others -/
theorem e_make_new1 {p q a b : Nat} {l : List Nat} {d : Int32} (hp : p < 65536) (hp0 : ¬ p = 0) (ho : okP p = true) (hR : Rc c t ch R) (h32 : R 32) (hw : wk c ch (p / 16) = some q) (hd : dirP c q = true) (hl : lkO c (p % 16) (ch q) = none) (he : lkO c 0 (ch q) = none) (ha : a < 32) (hf : t a = -2) (hm : ∀ i, i < a → ¬ t i = -2)
    (hch : ch q = b :: l) (hal : a ∉ b :: l) (hqa : q ≠ a) : mEv Ls xs 15 (0, [some (.ref 0), some (.int (nI p)), some (.int d), none, none, none, none, none], [], (hV c t lf 0 re en n M)) (rsC re en n M (some (.int (nI a))) [wC a (nI (p % 16)) (if d = 0 then nI 1 else nI 2) (-1) (nI 0), wT a (-1), wT (lastI b l) (nI a)] c t lf) := by
  obtain ⟨h1, h2⟩ := hR q (wk_R hR h32 hw)
  obtain ⟨h3, h4, -⟩ := h2 hd
  rw [hch] at h3 h4
  refine mk_pre hp hp0 ho hR h32 hw hd hl ?_
  rw [he, an15 hp]
  refine fEv.brT rfl (by decide) ?_
  refine fEv.calli rfl (e_take ha hf hm) ?_
  refine fEv.callwc rfl (e_wC ha) rfl (fun lf1 => ?_)
  refine fEv.callwc rfl (e_wT ha) rfl (fun lf2 => ?_)
  have hlast : ∀ (l : List Nat) (b : Nat), (∀ z ∈ b :: l, z < 32) → lastI b l < 32 := by
    intro l
    induction l with
    | nil => intro b h; exact h b List.mem_cons_self
    | cons z l ih => intro b h; exact ih z (fun y hy => h y (List.mem_cons_of_mem _ hy))
  have hc3 : Chain (upd t a (-1)) (nI b) (b :: l) := Chain_upd (t := t) ⟨rfl, h3.2.1, h3.2.2⟩ hal
  refine fEv.callwE rfl (e_link1 (b := b) (l := l) ?_ h3.2.1 hc3.2.2 (by simp only [List.length_cons] at h4; omega) (hlast l b (Chain.lt h3))) rfl (fun lf3 => ?_)
  · rw [fstC_e h1]
    show fsP (w4 _ _ _ _ _ _) q = nI b
    have : fsP c q = nI b := h3.1
    unfold fsP at this ⊢
    by_cases hq : q = 32
    · rw [if_pos hq] at this ⊢; exact this
    · rw [if_neg hq] at this ⊢; rw [w4_at hqa (by decide)]; exact this
  · exact fEv.retV rfl rfl
end KU
end
section
/-! the class's other calls -/
section KV
variable {Ls : Nat} {xs : Nat → Int32} {c t re en : Nat → Int32} {lf dn n : Int32} {M : mH} {ch : Nat → List Nat} {R : Nat → Prop}
theorem eC_lt {q : Nat} (h : q < 32) : eC q = nI q := by unfold eC; rw [if_neg (by omega)]
theorem e_nms {q : Nat} (hR : Rc c t ch R) (hq : R q) (hd : dirP c q = true) : mEv Ls xs 24 (0, [some (.ref 0), some (.int (eC q)), none, none, none], [], (hV c t lf dn re en n M)) (rV (nmsI c (nI 0) (ch q) &&& (-2)) (hV c t lf dn re en n M)) := by
  obtain ⟨h1, h2⟩ := hR q hq
  obtain ⟨h3, h4, -⟩ := h2 hd
  exact e_namesIn (by rw [fstC_e h1]; exact h3) h4
-- remove
theorem e_rem_down {a : Int32} : mEv Ls xs 23 (0, [some (.ref 0), some (.int a), none, none], [], (hV c t lf 1 re en n M)) (rX 0 (hV c t lf 1 re en n M)) := fEv.thr rfl e_down rfl
theorem e_rem_bad {a : Int32} (hb : badP a) : mEv Ls xs 23 (0, [some (.ref 0), some (.int a), none, none], [], (hV c t lf 0 re en n M)) (rX 1 (hV c t lf 0 re en n M)) := by
  refine fEv.calln rfl e_up ?_
  exact fEv.thr rfl (e_bad hb) rfl
theorem e_rem_no {p : Nat} (hp : p < 65536) (ho : okP p = true) (hR : Rc c t ch R) (h32 : R 32) (hw : wk c ch p = none) : mEv Ls xs 23 (0, [some (.ref 0), some (.int (nI p)), none, none], [], (hV c t lf 0 re en n M)) (rX 2 (hV c t lf 0 re en n M)) := by
  refine fEv.calln rfl e_up ?_
  refine fEv.calln rfl (e_good hp ho) ?_
  exact fEv.thr rfl (e_atN hR h32 hp hw) rfl
theorem e_rem_root {p : Nat} (hp : p < 65536) (ho : okP p = true) (hR : Rc c t ch R) (h32 : R 32) (hw : wk c ch p = some 32) : mEv Ls xs 23 (0, [some (.ref 0), some (.int (nI p)), none, none], [], (hV c t lf 0 re en n M)) (rX 3 (hV c t lf 0 re en n M)) := by
  refine fEv.calln rfl e_up ?_
  refine fEv.calln rfl (e_good hp ho) ?_
  refine fEv.calli rfl (e_at hR h32 hp hw) ?_
  refine fEv.brF rfl (by decide) ?_
  exact fEv.retX rfl rfl
theorem e_rem_names {p q : Nat} (hp : p < 65536) (ho : okP p = true) (hR : Rc c t ch R) (h32 : R 32) (hw : wk c ch p = some q) (hq : q < 32) (hd : dirP c q = true) (hn : ¬ nmsI c (nI 0) (ch q) &&& (-2) = 0) : mEv Ls xs 23 (0, [some (.ref 0), some (.int (nI p)), none, none], [], (hV c t lf 0 re en n M)) (rX 3 (hV c t lf 0 re en n M)) := by
  have hRq := wk_R hR h32 hw
  refine fEv.calln rfl e_up ?_
  refine fEv.calln rfl (e_good hp ho) ?_
  refine fEv.calli rfl (e_at hR h32 hp hw) ?_
  refine fEv.brT rfl (decide_eq_true (by rw [eC_lt hq]; exact nI_ne3 hq)) ?_
  refine fEv.calli rfl (e_dir hR hRq) ?_
  rw [hd]
  refine fEv.brF rfl (by decide) ?_
  refine fEv.calli rfl (e_nms hR hRq hd) ?_
  refine fEv.brF rfl (decide_eq_false hn) ?_
  exact fEv.retX rfl rfl
/-- a chain, with what is behind the walk's entry zeroed -/
theorem e_rem {p q : Nat} {l : List Nat} (hp : p < 65536) (ho : okP p = true) (hR : Rc c t ch R) (h32 : R 32) (hw : wk c ch p = some q) (hq : q < 32) (hd : dirP c q = false ∨ nmsI c (nI 0) (ch q) &&& (-2) = 0) (hc : Chain t (fsP c q) l) (hn : l.Nodup) (hl : l.length ≤ 32) :
    mEv Ls xs 23 (0, [some (.ref 0), some (.int (nI p)), none, none], [], (hV c t lf 0 re en n M)) (rsC re en n M (some (.int (nI l.length))) (wC q (nI 0) (nI 0) (nI 0) (nI 0) :: wF l) c t lf) := by
  have hRq := wk_R hR h32 hw
  refine fEv.calln rfl e_up ?_
  refine fEv.calln rfl (e_good hp ho) ?_
  refine fEv.calli rfl (e_at hR h32 hp hw) ?_
  refine fEv.brT rfl (decide_eq_true (by rw [eC_lt hq]; exact nI_ne3 hq)) ?_
  refine fEv.calli rfl (e_dir hR hRq) ?_
  have fin : mEv Ls xs 23 (56, [some (.ref 0), some (.int (nI p)), some (.int (eC q)), none], [], hV c t lf 0 re en n M) (rsC re en n M (some (.int (nI l.length))) (wC q (nI 0) (nI 0) (nI 0) (nI 0) :: wF l) c t lf) := by
    refine fEv.calli rfl (e_fst hR hRq) ?_
    rw [eC_lt hq]
    refine fEv.callwc rfl (e_wC hq) rfl (fun lf1 => ?_)
    refine fEv.callwiE rfl (e_freeChain hc hn hl) rfl (fun lf2 => ?_)
    exact fEv.retV rfl rfl
  cases hdd : dirP c q with
  | false => exact fEv.brT rfl (by decide) fin
  | true =>
    refine fEv.brF rfl (by decide) ?_
    refine fEv.calli rfl (e_nms hR hRq hdd) ?_
    rcases hd with hd | hd
    · rw [hd] at hdd; cases hdd
    · exact fEv.brT rfl (decide_eq_true hd) fin
-- rename
theorem e_ren_down {a b : Int32} : mEv Ls xs 26 (0, [some (.ref 0), some (.int a), some (.int b), none, none], [], (hV c t lf 1 re en n M)) (rX 0 (hV c t lf 1 re en n M)) := fEv.thr rfl e_down rfl
theorem e_ren_bad {a b : Int32} (hb : badP a) : mEv Ls xs 26 (0, [some (.ref 0), some (.int a), some (.int b), none, none], [], (hV c t lf 0 re en n M)) (rX 1 (hV c t lf 0 re en n M)) := by
  refine fEv.calln rfl e_up ?_
  exact fEv.thr rfl (e_bad hb) rfl
theorem e_ren_name {p : Nat} {b : Int32} (hp : p < 65536) (ho : okP p = true) (hb : b < nI 1 ∨ nI 15 < b) : mEv Ls xs 26 (0, [some (.ref 0), some (.int (nI p)), some (.int b), none, none], [], (hV c t lf 0 re en n M)) (rX 1 (hV c t lf 0 re en n M)) := by
  refine fEv.calln rfl e_up ?_
  refine fEv.calln rfl (e_good hp ho) ?_
  refine fEv.br rfl (fun h1 => ?_) (fun h1 => ?_)
  · exact fEv.retX rfl rfl
  · rcases hb with hb | hb
    · exact absurd hb h1
    · refine fEv.brF rfl (decide_eq_false (Int32.not_le.mpr hb)) ?_
      exact fEv.retX rfl rfl
theorem rn_pre {p b : Nat} {r : mR} (hp : p < 65536) (ho : okP p = true) (hb1 : 1 ≤ b) (hb2 : b ≤ 15)
    (k : mEv Ls xs 26 (29, [some (.ref 0), some (.int (nI p)), some (.int (nI b)), none, none], [], hV c t lf 0 re en n M) r) : mEv Ls xs 26 (0, [some (.ref 0), some (.int (nI p)), some (.int (nI b)), none, none], [], (hV c t lf 0 re en n M)) r := by
  refine fEv.calln rfl e_up ?_
  refine fEv.calln rfl (e_good hp ho) ?_
  refine fEv.brF rfl (decide_eq_false (nI_nlt hb1 (by omega))) ?_
  exact fEv.brT rfl (decide_eq_true (nI_le hb2 (by decide))) k
theorem e_ren_no {p b : Nat} (hp : p < 65536) (ho : okP p = true) (hb1 : 1 ≤ b) (hb2 : b ≤ 15) (hR : Rc c t ch R) (h32 : R 32) (hw : wk c ch p = none) : mEv Ls xs 26 (0, [some (.ref 0), some (.int (nI p)), some (.int (nI b)), none, none], [], (hV c t lf 0 re en n M)) (rX 2 (hV c t lf 0 re en n M)) := by
  refine rn_pre hp ho hb1 hb2 ?_
  exact fEv.thr rfl (e_atN hR h32 hp hw) rfl
theorem e_ren_root {p b : Nat} (hp : p < 65536) (ho : okP p = true) (hb1 : 1 ≤ b) (hb2 : b ≤ 15) (hR : Rc c t ch R) (h32 : R 32) (hw : wk c ch p = some 32) : mEv Ls xs 26 (0, [some (.ref 0), some (.int (nI p)), some (.int (nI b)), none, none], [], (hV c t lf 0 re en n M)) (rX 3 (hV c t lf 0 re en n M)) := by
  refine rn_pre hp ho hb1 hb2 ?_
  refine fEv.calli rfl (e_at hR h32 hp hw) ?_
  refine fEv.brF rfl (by decide) ?_
  exact fEv.retX rfl rfl
theorem rn_pre2 {p b q q' : Nat} {r : mR} (hp : p < 65536) (ho : okP p = true) (hb1 : 1 ≤ b) (hb2 : b ≤ 15) (hR : Rc c t ch R) (h32 : R 32) (hw : wk c ch p = some q) (hq : q < 32) (hw' : wk c ch (p / 16) = some q') (hd : dirP c q' = true)
    (k : mEv Ls xs 26 (67, [some (.ref 0), some (.int (nI p)), some (.int (nI b)), some (.int (eC q)), some (.int (nI p >>> (nI 4 &&& 31)))], [.int (oI (lkO c b (ch q')))], hV c t lf 0 re en n M) r) : mEv Ls xs 26 (0, [some (.ref 0), some (.int (nI p)), some (.int (nI b)), none, none], [], (hV c t lf 0 re en n M)) r := by
  refine rn_pre hp ho hb1 hb2 ?_
  refine fEv.calli rfl (e_at hR h32 hp hw) ?_
  refine fEv.brT rfl (decide_eq_true (by rw [eC_lt hq]; exact nI_ne3 hq)) ?_
  have h2 := e_at (Ls := Ls) (xs := xs) (lf := lf) (dn := 0) (re := re) (en := en) (n := n) (M := M) hR h32 (p := p / 16) (by omega) hw'
  rw [← sh16 hp] at h2
  refine fEv.calli rfl h2 ?_
  exact fEv.calli rfl (e_named hR (wk_R hR h32 hw') hd) k
theorem e_ren_is {p b q q' a : Nat} (hp : p < 65536) (ho : okP p = true) (hb1 : 1 ≤ b) (hb2 : b ≤ 15) (hR : Rc c t ch R) (h32 : R 32) (hw : wk c ch p = some q) (hq : q < 32) (hw' : wk c ch (p / 16) = some q') (hd : dirP c q' = true) (hl : lkO c b (ch q') = some a) (ha : a < 32) : mEv Ls xs 26 (0, [some (.ref 0), some (.int (nI p)), some (.int (nI b)), none, none], [], (hV c t lf 0 re en n M)) (rX 3 (hV c t lf 0 re en n M)) := by
  refine rn_pre2 hp ho hb1 hb2 hR h32 hw hq hw' hd ?_
  rw [hl]
  refine fEv.brF rfl (decide_eq_false (nI_ne1 ha)) ?_
  exact fEv.retX rfl rfl
theorem e_ren {p b q q' : Nat} (hp : p < 65536) (ho : okP p = true) (hb1 : 1 ≤ b) (hb2 : b ≤ 15) (hR : Rc c t ch R) (h32 : R 32) (hw : wk c ch p = some q) (hq : q < 32) (hw' : wk c ch (p / 16) = some q') (hd : dirP c q' = true) (hl : lkO c b (ch q') = none) :
    mEv Ls xs 26 (0, [some (.ref 0), some (.int (nI p)), some (.int (nI b)), none, none], [], (hV c t lf 0 re en n M)) (rsC re en n M (some (.int ((nI (p / 16) <<< (nI 4 &&& 31)) ||| nI b))) [wK q 0 (nI b)] c t lf) := by
  refine rn_pre2 hp ho hb1 hb2 hR h32 hw hq hw' hd ?_
  rw [hl, eC_lt hq, ← sh16 hp]
  refine fEv.brT rfl (by decide) ?_
  refine fEv.callwE rfl (e_wK (i := 0) hq (by decide)) rfl (fun lf' => ?_)
  exact fEv.retV rfl rfl
-- files
theorem e_file {p q : Nat} (hp : p < 65536) (hR : Rc c t ch R) (h32 : R 32) (hw : wk c ch p = some q) (hd : dirP c q = false) : mEv Ls xs 28 (0, [some (.ref 0), some (.int (nI p)), none], [], (hV c t lf dn re en n M)) (rV (eC q) (hV c t lf dn re en n M)) := by
  refine fEv.calli rfl (e_at hR h32 hp hw) ?_
  refine fEv.calli rfl (e_dir hR (wk_R hR h32 hw)) ?_
  rw [hd]
  refine fEv.brT rfl (by decide) ?_
  exact fEv.retV rfl rfl
theorem e_fileN {p : Nat} (hp : p < 65536) (hR : Rc c t ch R) (h32 : R 32) (hw : wk c ch p = none) : mEv Ls xs 28 (0, [some (.ref 0), some (.int (nI p)), none], [], (hV c t lf dn re en n M)) (rX 2 (hV c t lf dn re en n M)) := fEv.thr rfl (e_atN hR h32 hp hw) rfl
theorem e_fileD {p q : Nat} (hp : p < 65536) (hR : Rc c t ch R) (h32 : R 32) (hw : wk c ch p = some q) (hd : dirP c q = true) : mEv Ls xs 28 (0, [some (.ref 0), some (.int (nI p)), none], [], (hV c t lf dn re en n M)) (rX 3 (hV c t lf dn re en n M)) := by
  refine fEv.calli rfl (e_at hR h32 hp hw) ?_
  refine fEv.calli rfl (e_dir hR (wk_R hR h32 hw)) ?_
  rw [hd]
  refine fEv.brF rfl (by decide) ?_
  exact fEv.retX rfl rfl
theorem e_len {q : Nat} (hq : q < 32) : mEv Ls xs 9 (0, [some (.ref 0), some (.int (eC q))], [], (hV c t lf dn re en n M)) (rV (c (4 * q + 3)) (hV c t lf dn re en n M)) := by
  have h := e_lengthOf (Ls := Ls) (xs := xs) (c := c) (t := t) (lf := lf) (dn := dn) (re := re) (en := en) (n := n) (M := M) (e := nI q)
  rw [cellA_nI hq (by decide)] at h
  rw [eC_lt hq]
  exact h
theorem getD_mem {l : List Nat} {i : Nat} (h : i < l.length) : l.getD i 0 ∈ l := by
  induction l generalizing i with
  | nil => cases h
  | cons a l ih =>
    cases i with
    | zero => exact List.mem_cons_self
    | succ i => exact List.mem_cons_of_mem _ (ih (Nat.lt_of_succ_lt_succ h))
theorem e_place {q : Nat} {i : Int32} {len : Nat} (hq : q < 32) (hl : c (4 * q + 3) = nI len) (hi : 0 ≤ i ∧ i < nI len) : mEv Ls xs 32 (0, [some (.ref 0), some (.int (eC q)), some (.int i)], [], (hV c t lf dn re en n M)) (rN (hV c t lf dn re en n M)) := by
  refine fEv.brF rfl (decide_eq_false (Int32.not_lt.mpr hi.1)) ?_
  refine fEv.calli rfl (e_len hq) ?_
  rw [hl]
  refine fEv.brT rfl (decide_eq_true hi.2) ?_
  exact fEv.retV rfl rfl
theorem e_placeX {q : Nat} {i : Int32} {len : Nat} (hq : q < 32) (hl : c (4 * q + 3) = nI len) (hi : i < 0 ∨ nI len ≤ i) : mEv Ls xs 32 (0, [some (.ref 0), some (.int (eC q)), some (.int i)], [], (hV c t lf dn re en n M)) (rX 5 (hV c t lf dn re en n M)) := by
  refine fEv.br rfl (fun h1 => ?_) (fun h1 => ?_)
  · exact fEv.retX rfl rfl
  · rcases hi with hi | hi
    · exact absurd hi h1
    · refine fEv.calli rfl (e_len hq) ?_
      rw [hl]
      refine fEv.brF rfl (decide_eq_false (Int32.not_lt.mpr hi)) ?_
      exact fEv.retX rfl rfl
theorem rem4 {i : Nat} (hi : i < 1000) : nI i - nI i / nI 4 * nI 4 = nI (i % 4) := pk_rem (by omega) (by decide) (by decide)
-- get
theorem e_get_down {a i : Int32} : mEv Ls xs 31 (0, [some (.ref 0), some (.int a), some (.int i), none], [], (hV c t lf 1 re en n M)) (rX 0 (hV c t lf 1 re en n M)) := fEv.thr rfl e_down rfl
theorem e_get_bad {a i : Int32} (hb : badP a) : mEv Ls xs 31 (0, [some (.ref 0), some (.int a), some (.int i), none], [], (hV c t lf 0 re en n M)) (rX 1 (hV c t lf 0 re en n M)) := by
  refine fEv.calln rfl e_up ?_
  exact fEv.thr rfl (e_bad hb) rfl
theorem e_get_no {p : Nat} {i : Int32} (hp : p < 65536) (ho : okP p = true) (hR : Rc c t ch R) (h32 : R 32) (hw : wk c ch p = none) : mEv Ls xs 31 (0, [some (.ref 0), some (.int (nI p)), some (.int i), none], [], (hV c t lf 0 re en n M)) (rX 2 (hV c t lf 0 re en n M)) := by
  refine fEv.calln rfl e_up ?_
  refine fEv.calln rfl (e_good hp ho) ?_
  exact fEv.thr rfl (e_fileN hp hR h32 hw) rfl
theorem e_get_dir {p q : Nat} {i : Int32} (hp : p < 65536) (ho : okP p = true) (hR : Rc c t ch R) (h32 : R 32) (hw : wk c ch p = some q) (hd : dirP c q = true) : mEv Ls xs 31 (0, [some (.ref 0), some (.int (nI p)), some (.int i), none], [], (hV c t lf 0 re en n M)) (rX 3 (hV c t lf 0 re en n M)) := by
  refine fEv.calln rfl e_up ?_
  refine fEv.calln rfl (e_good hp ho) ?_
  exact fEv.thr rfl (e_fileD hp hR h32 hw hd) rfl
theorem e_get_ix {p q len : Nat} {i : Int32} (hp : p < 65536) (ho : okP p = true) (hR : Rc c t ch R) (h32 : R 32) (hw : wk c ch p = some q) (hq : q < 32) (hd : dirP c q = false) (hl : c (4 * q + 3) = nI len) (hi : i < 0 ∨ nI len ≤ i) : mEv Ls xs 31 (0, [some (.ref 0), some (.int (nI p)), some (.int i), none], [], (hV c t lf 0 re en n M)) (rX 5 (hV c t lf 0 re en n M)) := by
  refine fEv.calln rfl e_up ?_
  refine fEv.calln rfl (e_good hp ho) ?_
  refine fEv.calli rfl (e_file hp hR h32 hw hd) ?_
  exact fEv.thr rfl (e_placeX hq hl hi) rfl
theorem e_get {p q len i : Nat} {l : List Nat} (hp : p < 65536) (ho : okP p = true) (hR : Rc c t ch R) (h32 : R 32) (hw : wk c ch p = some q) (hq : q < 32) (hd : dirP c q = false) (hl : c (4 * q + 3) = nI len) (hlen : len ≤ 128) (hi : i < len) (hc : Chain t (c (4 * q + 2)) l) (hn : i / 4 < l.length) :
    mEv Ls xs 31 (0, [some (.ref 0), some (.int (nI p)), some (.int (nI i)), none], [], (hV c t lf 0 re en n M)) (rV (c (4 * l.getD (i / 4) 0 + i % 4)) (hV c t lf 0 re en n M)) := by
  have hlt : l.getD (i / 4) 0 < 32 := hc.lt _ (getD_mem hn)
  refine fEv.calln rfl e_up ?_
  refine fEv.calln rfl (e_good hp ho) ?_
  refine fEv.calli rfl (e_file hp hR h32 hw hd) ?_
  refine fEv.calln rfl (e_place hq hl ⟨nI_pos' (by omega), nI_lt hi (by omega)⟩) ?_
  refine fEv.calli rfl (e_clusterOfPlace (l := l) (by omega) (by rw [eC_lt hq]; unfold fstC; rw [if_neg (nI_ne3 hq), cellA_nI hq (by decide)]; exact hc) hn) ?_
  have h2 := e_cellAt (Ls := Ls) (xs := xs) (c := c) (t := t) (lf := lf) (dn := 0) (re := re) (en := en) (n := n) (M := M) (a := nI (l.getD (i / 4) 0)) (i := nI (i % 4))
  rw [cellA_nI hlt (by omega), ← rem4 (by omega)] at h2
  refine fEv.calli rfl h2 ?_
  exact fEv.retV rfl rfl
-- put
theorem e_put_down {a i v : Int32} : mEv Ls xs 33 (0, [some (.ref 0), some (.int a), some (.int i), some (.int v), none, none, none], [], (hV c t lf 1 re en n M)) (rX 0 (hV c t lf 1 re en n M)) := fEv.thr rfl e_down rfl
theorem e_put_bad {a i v : Int32} (hb : badP a) : mEv Ls xs 33 (0, [some (.ref 0), some (.int a), some (.int i), some (.int v), none, none, none], [], (hV c t lf 0 re en n M)) (rX 1 (hV c t lf 0 re en n M)) := by
  refine fEv.calln rfl e_up ?_
  exact fEv.thr rfl (e_bad hb) rfl
theorem e_put_no {p : Nat} {i v : Int32} (hp : p < 65536) (ho : okP p = true) (hR : Rc c t ch R) (h32 : R 32) (hw : wk c ch p = none) : mEv Ls xs 33 (0, [some (.ref 0), some (.int (nI p)), some (.int i), some (.int v), none, none, none], [], (hV c t lf 0 re en n M)) (rX 2 (hV c t lf 0 re en n M)) := by
  refine fEv.calln rfl e_up ?_
  refine fEv.calln rfl (e_good hp ho) ?_
  exact fEv.thr rfl (e_fileN hp hR h32 hw) rfl
theorem e_put_dir {p q : Nat} {i v : Int32} (hp : p < 65536) (ho : okP p = true) (hR : Rc c t ch R) (h32 : R 32) (hw : wk c ch p = some q) (hd : dirP c q = true) : mEv Ls xs 33 (0, [some (.ref 0), some (.int (nI p)), some (.int i), some (.int v), none, none, none], [], (hV c t lf 0 re en n M)) (rX 3 (hV c t lf 0 re en n M)) := by
  refine fEv.calln rfl e_up ?_
  refine fEv.calln rfl (e_good hp ho) ?_
  exact fEv.thr rfl (e_fileD hp hR h32 hw hd) rfl
theorem e_put_ix {p q len : Nat} {i v : Int32} (hp : p < 65536) (ho : okP p = true) (hR : Rc c t ch R) (h32 : R 32) (hw : wk c ch p = some q) (hq : q < 32) (hd : dirP c q = false) (hl : c (4 * q + 3) = nI len) (hi : i < 0 ∨ nI len ≤ i) : mEv Ls xs 33 (0, [some (.ref 0), some (.int (nI p)), some (.int i), some (.int v), none, none, none], [], (hV c t lf 0 re en n M)) (rX 5 (hV c t lf 0 re en n M)) := by
  refine fEv.calln rfl e_up ?_
  refine fEv.calln rfl (e_good hp ho) ?_
  refine fEv.calli rfl (e_file hp hR h32 hw hd) ?_
  exact fEv.thr rfl (e_placeX hq hl hi) rfl
theorem e_put {p q len i : Nat} {v : Int32} {l : List Nat} (hp : p < 65536) (ho : okP p = true) (hR : Rc c t ch R) (h32 : R 32) (hw : wk c ch p = some q) (hq : q < 32) (hd : dirP c q = false) (hl : c (4 * q + 3) = nI len) (hlen : len ≤ 128) (hi : i < len) (hc : Chain t (c (4 * q + 2)) l) (hn : i / 4 < l.length) :
    mEv Ls xs 33 (0, [some (.ref 0), some (.int (nI p)), some (.int (nI i)), some (.int v), none, none, none], [], (hV c t lf 0 re en n M)) (rsC re en n M (some (.int (c (4 * l.getD (i / 4) 0 + i % 4)))) [wK (l.getD (i / 4) 0) (i % 4) v] c t lf) := by
  have hlt : l.getD (i / 4) 0 < 32 := hc.lt _ (getD_mem hn)
  refine fEv.calln rfl e_up ?_
  refine fEv.calln rfl (e_good hp ho) ?_
  refine fEv.calli rfl (e_file hp hR h32 hw hd) ?_
  refine fEv.calln rfl (e_place hq hl ⟨nI_pos' (by omega), nI_lt hi (by omega)⟩) ?_
  refine fEv.calli rfl (e_clusterOfPlace (l := l) (by omega) (by rw [eC_lt hq]; unfold fstC; rw [if_neg (nI_ne3 hq), cellA_nI hq (by decide)]; exact hc) hn) ?_
  have h2 := e_cellAt (Ls := Ls) (xs := xs) (c := c) (t := t) (lf := lf) (dn := 0) (re := re) (en := en) (n := n) (M := M) (a := nI (l.getD (i / 4) 0)) (i := nI (i % 4))
  rw [cellA_nI hlt (by omega), ← rem4 (by omega)] at h2
  refine fEv.calli rfl h2 ?_
  have h3 := e_wK (Ls := Ls) (xs := xs) (c := c) (t := t) (lf := lf) (re := re) (en := en) (n := n) (M := M) (v := v) hlt (show i % 4 < 4 by omega)
  rw [← rem4 (by omega)] at h3
  refine fEv.callwE rfl h3 rfl (fun lf' => ?_)
  exact fEv.retV rfl rfl
end KV
end
section
/-! the class's append, shorten, length, names, free, and the small ones -/
section KX
variable {Ls : Nat} {xs : Nat → Int32} {c t re en : Nat → Int32} {lf dn n : Int32} {M : mH} {ch : Nat → List Nat} {R : Nat → Prop}
theorem e_app_down {a v : Int32} : mEv Ls xs 27 (0, [some (.ref 0), some (.int a), some (.int v), none, none, none], [], (hV c t lf 1 re en n M)) (rX 0 (hV c t lf 1 re en n M)) := fEv.thr rfl e_down rfl
theorem e_app_bad {a v : Int32} (hb : badP a) : mEv Ls xs 27 (0, [some (.ref 0), some (.int a), some (.int v), none, none, none], [], (hV c t lf 0 re en n M)) (rX 1 (hV c t lf 0 re en n M)) := by
  refine fEv.calln rfl e_up ?_
  exact fEv.thr rfl (e_bad hb) rfl
theorem e_app_no {p : Nat} {v : Int32} (hp : p < 65536) (ho : okP p = true) (hR : Rc c t ch R) (h32 : R 32) (hw : wk c ch p = none) : mEv Ls xs 27 (0, [some (.ref 0), some (.int (nI p)), some (.int v), none, none, none], [], (hV c t lf 0 re en n M)) (rX 2 (hV c t lf 0 re en n M)) := by
  refine fEv.calln rfl e_up ?_
  refine fEv.calln rfl (e_good hp ho) ?_
  exact fEv.thr rfl (e_fileN hp hR h32 hw) rfl
theorem e_app_dir {p q : Nat} {v : Int32} (hp : p < 65536) (ho : okP p = true) (hR : Rc c t ch R) (h32 : R 32) (hw : wk c ch p = some q) (hd : dirP c q = true) : mEv Ls xs 27 (0, [some (.ref 0), some (.int (nI p)), some (.int v), none, none, none], [], (hV c t lf 0 re en n M)) (rX 3 (hV c t lf 0 re en n M)) := by
  refine fEv.calln rfl e_up ?_
  refine fEv.calln rfl (e_good hp ho) ?_
  exact fEv.thr rfl (e_fileD hp hR h32 hw hd) rfl
theorem ap_pre {p q len : Nat} {v : Int32} {r : mR} (hp : p < 65536) (ho : okP p = true) (hR : Rc c t ch R) (h32 : R 32) (hw : wk c ch p = some q) (hq : q < 32) (hd : dirP c q = false) (hl : c (4 * q + 3) = nI len) (hlen : len ≤ 128)
    (k : mEv Ls xs 27 (21, [some (.ref 0), some (.int (nI p)), some (.int v), some (.int (nI q)), some (.int (nI len)), none], [], hV c t lf 0 re en n M) r) : mEv Ls xs 27 (0, [some (.ref 0), some (.int (nI p)), some (.int v), none, none, none], [], (hV c t lf 0 re en n M)) r := by
  refine fEv.calln rfl e_up ?_
  refine fEv.calln rfl (e_good hp ho) ?_
  refine fEv.calli rfl (e_file hp hR h32 hw hd) ?_
  refine fEv.calli rfl (e_len hq) ?_
  rw [hl, eC_lt hq]
  exact fEv.steps 1 rfl k
theorem e_lenN {q : Nat} (hq : q < 32) : mEv Ls xs 9 (0, [some (.ref 0), some (.int (nI q))], [], (hV c t lf dn re en n M)) (rV (c (4 * q + 3)) (hV c t lf dn re en n M)) := by
  have h := e_len (Ls := Ls) (xs := xs) (c := c) (t := t) (lf := lf) (dn := dn) (re := re) (en := en) (n := n) (M := M) hq
  rwa [eC_lt hq] at h
theorem e_fstN {q : Nat} (hq : q < 32) : mEv Ls xs 11 (0, [some (.ref 0), some (.int (nI q))], [], (hV c t lf dn re en n M)) (rV (c (4 * q + 2)) (hV c t lf dn re en n M)) := by
  have h := e_firstOf (Ls := Ls) (xs := xs) (c := c) (t := t) (lf := lf) (dn := dn) (re := re) (en := en) (n := n) (M := M) (e := nI q)
  have e1 : fstC c (nI q) = c (4 * q + 2) := by unfold fstC; rw [if_neg (nI_ne3 hq), cellA_nI hq (by decide)]
  rwa [e1] at h
theorem e_app_full {p q len : Nat} {v : Int32} (hp : p < 65536) (ho : okP p = true) (hR : Rc c t ch R) (h32 : R 32) (hw : wk c ch p = some q) (hq : q < 32) (hd : dirP c q = false) (hl : c (4 * q + 3) = nI len) (hlen : len ≤ 128) (h4 : len % 4 = 0) (hf : ∀ i, i < 32 → ¬ t i = -2) :
    mEv Ls xs 27 (0, [some (.ref 0), some (.int (nI p)), some (.int v), none, none, none], [], (hV c t lf 0 re en n M)) (rX 4 (hV c t lf 0 re en n M)) := by
  refine ap_pre hp ho hR h32 hw hq hd hl hlen ?_
  refine fEv.brF rfl (decide_eq_false (fun z => z (by show nI len - nI len / nI 4 * nI 4 = 0; rw [rem4 (by omega), h4]; rfl))) ?_
  refine fEv.thr rfl ?_ rfl
  refine fEv.calli rfl (e_lenN hq) ?_
  refine fEv.calli rfl (e_fstN hq) ?_
  exact fEv.thr rfl (e_takeN hf) rfl
theorem e_app_in {p q len b : Nat} {v : Int32} {l : List Nat} (hp : p < 65536) (ho : okP p = true) (hR : Rc c t ch R) (h32 : R 32) (hw : wk c ch p = some q) (hq : q < 32) (hd : dirP c q = false) (hl : c (4 * q + 3) = nI len) (hlen : len ≤ 128) (h4 : ¬ len % 4 = 0) (hb : c (4 * q + 2) = nI b) (hb3 : b < 32) (hc : Chain t (t b) l) (hll : l.length ≤ 32) (hla : lastI b l < 32) :
    mEv Ls xs 27 (0, [some (.ref 0), some (.int (nI p)), some (.int v), none, none, none], [], (hV c t lf 0 re en n M)) (rsC re en n M (some (.int (nI (len + 1)))) [wK (lastI b l) (len % 4) v, wK q 3 (nI (len + 1))] c t lf) := by
  refine ap_pre hp ho hR h32 hw hq hd hl hlen ?_
  refine fEv.brT rfl (decide_eq_true (by show ¬ nI len - nI len / nI 4 * nI 4 = 0; rw [rem4 (by omega)]; exact nI_ne0 (by omega) (by omega))) ?_
  refine fEv.calli rfl (e_fstN hq) ?_
  rw [hb]
  refine fEv.calli rfl (e_lastOfChain hb3 hc hll) ?_
  have h3 := e_wK (Ls := Ls) (xs := xs) (c := c) (t := t) (lf := lf) (re := re) (en := en) (n := n) (M := M) (v := v) hla (show len % 4 < 4 by omega)
  rw [← rem4 (by omega)] at h3
  refine fEv.callwc rfl h3 rfl (fun lf1 => ?_)
  rw [← nI_add]
  refine fEv.callwE rfl (e_wK (i := 3) hq (by decide)) rfl (fun lf2 => ?_)
  exact fEv.retV rfl rfl
theorem e_app_new0 {p q a : Nat} {v : Int32} (hp : p < 65536) (ho : okP p = true) (hR : Rc c t ch R) (h32 : R 32) (hw : wk c ch p = some q) (hq : q < 32) (hd : dirP c q = false) (hl : c (4 * q + 3) = nI 0) (ha : a < 32) (hf : t a = -2) (hm : ∀ i, i < a → ¬ t i = -2) (hqa : q ≠ a) :
    mEv Ls xs 27 (0, [some (.ref 0), some (.int (nI p)), some (.int v), none, none, none], [], (hV c t lf 0 re en n M)) (rsC re en n M (some (.int (nI (0 + 1)))) [wC a v (nI 0) (nI 0) (nI 0), wT a (-1), wC q (c (4 * q)) (c (4 * q + 1)) (nI a) (nI 1)] c t lf) := by
  refine ap_pre hp ho hR h32 hw hq hd hl (by decide) ?_
  refine fEv.brF rfl (by decide) ?_
  refine fEv.callwE rfl ?_ rfl (fun lf1 => fEv.retV rfl rfl)
  refine fEv.calli rfl (e_lenN hq) ?_
  rw [hl]
  refine fEv.calli rfl (e_fstN hq) ?_
  refine fEv.calli rfl (e_take ha hf hm) ?_
  refine fEv.callwc rfl (e_wC ha) rfl (fun lf1 => ?_)
  refine fEv.callwc rfl (e_wT ha) rfl (fun lf2 => ?_)
  refine fEv.brF rfl (by decide) ?_
  have h5 := e_writeExtent (Ls := Ls) (xs := xs) (c := w4 c a v (nI 0) (nI 0) (nI 0)) (t := upd t a (-1)) (lf := lf2) (re := re) (en := en) (n := n) (M := M) (f := nI a) (l := nI 1) hq
  rw [w4_at hqa (by decide), show w4 c a v (nI 0) (nI 0) (nI 0) (4 * q) = c (4 * q) from w4_at (i := 0) hqa (by decide)] at h5
  exact fEv.callwE rfl h5 rfl (fun lf3 => fEv.retV rfl rfl)
theorem e_app_new1 {p q a b len : Nat} {v : Int32} {l : List Nat} (hp : p < 65536) (ho : okP p = true) (hR : Rc c t ch R) (h32 : R 32) (hw : wk c ch p = some q) (hq : q < 32) (hd : dirP c q = false) (hl : c (4 * q + 3) = nI len) (hlen : len ≤ 128) (h4 : len % 4 = 0) (h0 : ¬ len = 0) (ha : a < 32) (hf : t a = -2) (hm : ∀ i, i < a → ¬ t i = -2) (hqa : q ≠ a)
    (hb : c (4 * q + 2) = nI b) (hb3 : b < 32) (hc : Chain t (t b) l) (hll : l.length ≤ 32) (hla : lastI b l < 32) (hal : a ∉ b :: l) :
    mEv Ls xs 27 (0, [some (.ref 0), some (.int (nI p)), some (.int v), none, none, none], [], (hV c t lf 0 re en n M)) (rsC re en n M (some (.int (nI (len + 1)))) [wC a v (nI 0) (nI 0) (nI 0), wT a (-1), wT (lastI b l) (nI a), wC q (c (4 * q)) (c (4 * q + 1)) (nI b) (nI (len + 1))] c t lf) := by
  refine ap_pre hp ho hR h32 hw hq hd hl hlen ?_
  refine fEv.brF rfl (decide_eq_false (fun z => z (by show nI len - nI len / nI 4 * nI 4 = 0; rw [rem4 (by omega), h4]; rfl))) ?_
  rw [← nI_add]
  refine fEv.callwE rfl ?_ rfl (fun lf1 => fEv.retV rfl rfl)
  refine fEv.calli rfl (e_lenN hq) ?_
  rw [hl]
  refine fEv.calli rfl (e_fstN hq) ?_
  rw [hb]
  refine fEv.calli rfl (e_take ha hf hm) ?_
  refine fEv.callwc rfl (e_wC ha) rfl (fun lf1 => ?_)
  refine fEv.callwc rfl (e_wT ha) rfl (fun lf2 => ?_)
  refine fEv.brT rfl (decide_eq_true (nI_ne0 (by omega) (by omega))) ?_
  have hc3 : Chain (upd t a (-1)) (nI b) (b :: l) := Chain_upd (t := t) ⟨rfl, hb3, hc⟩ hal
  refine fEv.calli rfl (e_lastOfChain hb3 hc3.2.2 hll) ?_
  refine fEv.callwc rfl (e_wT hla) rfl (fun lf3 => ?_)
  have h5 := e_writeExtent (Ls := Ls) (xs := xs) (c := w4 c a v (nI 0) (nI 0) (nI 0)) (t := upd (upd t a (-1)) (lastI b l) (nI a)) (lf := lf3) (re := re) (en := en) (n := n) (M := M) (f := nI b) (l := nI len + nI 1) hq
  rw [w4_at hqa (by decide), show w4 c a v (nI 0) (nI 0) (nI 0) (4 * q) = c (4 * q) from w4_at (i := 0) hqa (by decide)] at h5
  exact fEv.callwE rfl h5 rfl (fun lf4 => fEv.retV rfl rfl)
-- shorten
theorem e_sho_down {a v : Int32} : mEv Ls xs 34 (0, [some (.ref 0), some (.int a), some (.int v), none, none, none], [], (hV c t lf 1 re en n M)) (rX 0 (hV c t lf 1 re en n M)) := fEv.thr rfl e_down rfl
theorem e_sho_bad {a v : Int32} (hb : badP a) : mEv Ls xs 34 (0, [some (.ref 0), some (.int a), some (.int v), none, none, none], [], (hV c t lf 0 re en n M)) (rX 1 (hV c t lf 0 re en n M)) := by
  refine fEv.calln rfl e_up ?_
  exact fEv.thr rfl (e_bad hb) rfl
theorem e_sho_no {p : Nat} {v : Int32} (hp : p < 65536) (ho : okP p = true) (hR : Rc c t ch R) (h32 : R 32) (hw : wk c ch p = none) : mEv Ls xs 34 (0, [some (.ref 0), some (.int (nI p)), some (.int v), none, none, none], [], (hV c t lf 0 re en n M)) (rX 2 (hV c t lf 0 re en n M)) := by
  refine fEv.calln rfl e_up ?_
  refine fEv.calln rfl (e_good hp ho) ?_
  exact fEv.thr rfl (e_fileN hp hR h32 hw) rfl
theorem e_sho_dir {p q : Nat} {v : Int32} (hp : p < 65536) (ho : okP p = true) (hR : Rc c t ch R) (h32 : R 32) (hw : wk c ch p = some q) (hd : dirP c q = true) : mEv Ls xs 34 (0, [some (.ref 0), some (.int (nI p)), some (.int v), none, none, none], [], (hV c t lf 0 re en n M)) (rX 3 (hV c t lf 0 re en n M)) := by
  refine fEv.calln rfl e_up ?_
  refine fEv.calln rfl (e_good hp ho) ?_
  exact fEv.thr rfl (e_fileD hp hR h32 hw hd) rfl
theorem e_sho_ix {p q len : Nat} {v : Int32} (hp : p < 65536) (ho : okP p = true) (hR : Rc c t ch R) (h32 : R 32) (hw : wk c ch p = some q) (hq : q < 32) (hd : dirP c q = false) (hl : c (4 * q + 3) = nI len) (hi : v < 0 ∨ nI len < v) : mEv Ls xs 34 (0, [some (.ref 0), some (.int (nI p)), some (.int v), none, none, none], [], (hV c t lf 0 re en n M)) (rX 5 (hV c t lf 0 re en n M)) := by
  refine fEv.calln rfl e_up ?_
  refine fEv.calln rfl (e_good hp ho) ?_
  refine fEv.calli rfl (e_file hp hR h32 hw hd) ?_
  refine fEv.br rfl (fun h1 => ?_) (fun h1 => ?_)
  · exact fEv.retX rfl rfl
  · rcases hi with hi | hi
    · exact absurd hi h1
    · refine fEv.calli rfl (e_len hq) ?_
      rw [hl]
      refine fEv.brF rfl (decide_eq_false (Int32.not_le.mpr hi)) ?_
      exact fEv.retX rfl rfl
theorem sh_pre {p q len m : Nat} {r : mR} (hp : p < 65536) (ho : okP p = true) (hR : Rc c t ch R) (h32 : R 32) (hw : wk c ch p = some q) (hq : q < 32) (hd : dirP c q = false) (hl : c (4 * q + 3) = nI len) (hlen : len ≤ 128) (hi : m ≤ len)
    (k : mEv Ls xs 34 (37, [some (.ref 0), some (.int (nI p)), some (.int (nI m)), some (.int (nI q)), none, none], [], hV c t lf 0 re en n M) r) : mEv Ls xs 34 (0, [some (.ref 0), some (.int (nI p)), some (.int (nI m)), none, none, none], [], (hV c t lf 0 re en n M)) r := by
  refine fEv.calln rfl e_up ?_
  refine fEv.calln rfl (e_good hp ho) ?_
  refine fEv.calli rfl (e_file hp hR h32 hw hd) ?_
  refine fEv.brF rfl (decide_eq_false (nI_pos (by omega))) ?_
  refine fEv.calli rfl (e_len hq) ?_
  rw [hl, eC_lt hq]
  exact fEv.brT rfl (decide_eq_true (nI_le hi (by omega))) k
theorem e_sho_same {p q len : Nat} (hp : p < 65536) (ho : okP p = true) (hR : Rc c t ch R) (h32 : R 32) (hw : wk c ch p = some q) (hq : q < 32) (hd : dirP c q = false) (hl : c (4 * q + 3) = nI len) (hlen : len ≤ 128) :
    mEv Ls xs 34 (0, [some (.ref 0), some (.int (nI p)), some (.int (nI len)), none, none, none], [], (hV c t lf 0 re en n M)) (rV (nI 0) (hV c t lf 0 re en n M)) := by
  refine sh_pre hp ho hR h32 hw hq hd hl hlen (Nat.le_refl _) ?_
  refine fEv.calli rfl (e_lenN hq) ?_
  rw [hl]
  refine fEv.brF rfl (decide_eq_false (fun z => z rfl)) ?_
  exact fEv.retV rfl rfl
theorem nI_neq {a b : Nat} (h : ¬ a = b) (ha : a < 2 ^ 31) (hb : b < 2 ^ 31) : ¬ nI a = nI b := fun z => h ((nI_eq ha hb).mp z)
theorem e_sho_all {p q len : Nat} {l : List Nat} (hp : p < 65536) (ho : okP p = true) (hR : Rc c t ch R) (h32 : R 32) (hw : wk c ch p = some q) (hq : q < 32) (hd : dirP c q = false) (hl : c (4 * q + 3) = nI len) (hlen : len ≤ 128) (h0 : ¬ len = 0) (hc : Chain t (c (4 * q + 2)) l) (hn : l.Nodup) (hll : l.length ≤ 32) :
    mEv Ls xs 34 (0, [some (.ref 0), some (.int (nI p)), some (.int (nI 0)), none, none, none], [], (hV c t lf 0 re en n M)) (rsC re en n M (some (.int (nI l.length))) (wC q (c (4 * q)) (c (4 * q + 1)) (-1) (nI 0) :: wF l) c t lf) := by
  refine sh_pre hp ho hR h32 hw hq hd hl hlen (by omega) ?_
  refine fEv.calli rfl (e_lenN hq) ?_
  rw [hl]
  refine fEv.brT rfl (decide_eq_true (nI_neq (by omega) (by omega) (by omega))) ?_
  refine fEv.calli rfl (e_fstN hq) ?_
  refine fEv.brF rfl (by decide) ?_
  refine fEv.callwc rfl (e_writeExtent hq) rfl (fun lf1 => ?_)
  refine fEv.callwiE rfl (e_freeChain hc hn hll) rfl (fun lf2 => ?_)
  exact fEv.retV rfl rfl
theorem sh_pre2 {p q len m : Nat} {l : List Nat} {r : mR} (hp : p < 65536) (ho : okP p = true) (hR : Rc c t ch R) (h32 : R 32) (hw : wk c ch p = some q) (hq : q < 32) (hd : dirP c q = false) (hl : c (4 * q + 3) = nI len) (hlen : len ≤ 128) (hm0 : 0 < m) (hi : m < len) (hc : Chain t (c (4 * q + 2)) l) (hml : (m - 1) / 4 < l.length)
    (k : mEv Ls xs 34 (83, [some (.ref 0), some (.int (nI p)), some (.int (nI m)), some (.int (nI q)), some (.int (c (4 * q + 2))), some (.int (nI (l.getD ((m - 1) / 4) 0)))], [], hV c t lf 0 re en n M) r) : mEv Ls xs 34 (0, [some (.ref 0), some (.int (nI p)), some (.int (nI m)), none, none, none], [], (hV c t lf 0 re en n M)) r := by
  refine sh_pre hp ho hR h32 hw hq hd hl hlen (by omega) ?_
  refine fEv.calli rfl (e_lenN hq) ?_
  rw [hl]
  refine fEv.brT rfl (decide_eq_true (nI_neq (by omega) (by omega) (by omega))) ?_
  refine fEv.calli rfl (e_fstN hq) ?_
  refine fEv.brT rfl (decide_eq_true (nI_ne0 (by omega) (by omega))) ?_
  have h6 := e_clusterOfPlace (Ls := Ls) (xs := xs) (c := c) (t := t) (lf := lf) (dn := 0) (re := re) (en := en) (n := n) (M := M) (e := nI q) (i := m - 1) (l := l) (by omega) (by unfold fstC; rw [if_neg (nI_ne3 hq), cellA_nI hq (by decide)]; exact hc) hml
  have e1 : nI m - nI 1 = nI (m - 1) := pk_sub (by omega)
  rw [← e1] at h6
  refine fEv.calli rfl h6 ?_
  exact fEv.steps 1 rfl k
/-- cut inside the last cluster -/
theorem e_sho_in {p q len m : Nat} {l : List Nat} (hp : p < 65536) (ho : okP p = true) (hR : Rc c t ch R) (h32 : R 32) (hw : wk c ch p = some q) (hq : q < 32) (hd : dirP c q = false) (hl : c (4 * q + 3) = nI len) (hlen : len ≤ 128) (hm0 : 0 < m) (hi : m < len) (hc : Chain t (c (4 * q + 2)) l) (hml : (m - 1) / 4 < l.length) (hlt : l.getD ((m - 1) / 4) 0 < 32) (he : t (l.getD ((m - 1) / 4) 0) = -1) :
    mEv Ls xs 34 (0, [some (.ref 0), some (.int (nI p)), some (.int (nI m)), none, none, none], [], (hV c t lf 0 re en n M)) (rsC re en n M (some (.int (nI 0))) [wC q (c (4 * q)) (c (4 * q + 1)) (c (4 * q + 2)) (nI m)] c t lf) := by
  refine sh_pre2 hp ho hR h32 hw hq hd hl hlen hm0 hi hc hml ?_
  refine fEv.callwc rfl (e_writeExtent hq) rfl (fun lf1 => ?_)
  refine fEv.callwiE rfl (e_freeBehind0 hlt he) rfl (fun lf2 => ?_)
  exact fEv.retV rfl rfl
theorem e_sho_cut {p q len m b : Nat} {l l2 : List Nat} (hp : p < 65536) (ho : okP p = true) (hR : Rc c t ch R) (h32 : R 32) (hw : wk c ch p = some q) (hq : q < 32) (hd : dirP c q = false) (hl : c (4 * q + 3) = nI len) (hlen : len ≤ 128) (hm0 : 0 < m) (hi : m < len) (hc : Chain t (c (4 * q + 2)) l) (hml : (m - 1) / 4 < l.length) (hlt : l.getD ((m - 1) / 4) 0 < 32) (he : t (l.getD ((m - 1) / 4) 0) = nI b) (hb : b < 32)
    (hc2 : Chain t (t b) l2) (hn : (b :: l2).Nodup) (hal : l.getD ((m - 1) / 4) 0 ∉ b :: l2) (hll : l2.length < 32) :
    mEv Ls xs 34 (0, [some (.ref 0), some (.int (nI p)), some (.int (nI m)), none, none, none], [], (hV c t lf 0 re en n M)) (rsC re en n M (some (.int (nI (l2.length + 1)))) (wC q (c (4 * q)) (c (4 * q + 1)) (c (4 * q + 2)) (nI m) :: wT (l.getD ((m - 1) / 4) 0) (-1) :: wF (b :: l2)) c t lf) := by
  refine sh_pre2 hp ho hR h32 hw hq hd hl hlen hm0 hi hc hml ?_
  refine fEv.callwc rfl (e_writeExtent hq) rfl (fun lf1 => ?_)
  refine fEv.callwiE rfl (e_freeBehind1 hlt he hb hc2 hn hal hll) rfl (fun lf2 => ?_)
  exact fEv.retV rfl rfl
-- names
theorem e_nam_down {a : Int32} : mEv Ls xs 37 (0, [some (.ref 0), some (.int a), none], [], (hV c t lf 1 re en n M)) (rX 0 (hV c t lf 1 re en n M)) := fEv.thr rfl e_down rfl
theorem e_nam_bad {a : Int32} (hb : badP a) : mEv Ls xs 37 (0, [some (.ref 0), some (.int a), none], [], (hV c t lf 0 re en n M)) (rX 1 (hV c t lf 0 re en n M)) := by
  refine fEv.calln rfl e_up ?_
  exact fEv.thr rfl (e_bad hb) rfl
theorem e_nam_no {p : Nat} (hp : p < 65536) (ho : okP p = true) (hR : Rc c t ch R) (h32 : R 32) (hw : wk c ch p = none) : mEv Ls xs 37 (0, [some (.ref 0), some (.int (nI p)), none], [], (hV c t lf 0 re en n M)) (rX 2 (hV c t lf 0 re en n M)) := by
  refine fEv.calln rfl e_up ?_
  refine fEv.calln rfl (e_good hp ho) ?_
  exact fEv.thr rfl (e_atN hR h32 hp hw) rfl
theorem e_nam_file {p q : Nat} (hp : p < 65536) (ho : okP p = true) (hR : Rc c t ch R) (h32 : R 32) (hw : wk c ch p = some q) (hd : dirP c q = false) : mEv Ls xs 37 (0, [some (.ref 0), some (.int (nI p)), none], [], (hV c t lf 0 re en n M)) (rX 3 (hV c t lf 0 re en n M)) := by
  refine fEv.calln rfl e_up ?_
  refine fEv.calln rfl (e_good hp ho) ?_
  refine fEv.calli rfl (e_at hR h32 hp hw) ?_
  refine fEv.calli rfl (e_dir hR (wk_R hR h32 hw)) ?_
  rw [hd]
  refine fEv.brF rfl (by decide) ?_
  exact fEv.retX rfl rfl
theorem e_nam {p q : Nat} (hp : p < 65536) (ho : okP p = true) (hR : Rc c t ch R) (h32 : R 32) (hw : wk c ch p = some q) (hd : dirP c q = true) : mEv Ls xs 37 (0, [some (.ref 0), some (.int (nI p)), none], [], (hV c t lf 0 re en n M)) (rV (nmsI c (nI 0) (ch q) &&& (-2)) (hV c t lf 0 re en n M)) := by
  have hRq := wk_R hR h32 hw
  refine fEv.calln rfl e_up ?_
  refine fEv.calln rfl (e_good hp ho) ?_
  refine fEv.calli rfl (e_at hR h32 hp hw) ?_
  refine fEv.calli rfl (e_dir hR hRq) ?_
  rw [hd]
  refine fEv.brT rfl (by decide) ?_
  refine fEv.calli rfl (e_nms hR hRq hd) ?_
  exact fEv.retV rfl rfl
-- length
theorem e_lgt_down {a : Int32} : mEv Ls xs 36 (0, [some (.ref 0), some (.int a), none], [], (hV c t lf 1 re en n M)) (rX 0 (hV c t lf 1 re en n M)) := fEv.thr rfl e_down rfl
theorem e_lgt_bad {a : Int32} (hb : badP a) : mEv Ls xs 36 (0, [some (.ref 0), some (.int a), none], [], (hV c t lf 0 re en n M)) (rX 1 (hV c t lf 0 re en n M)) := by
  refine fEv.calln rfl e_up ?_
  exact fEv.thr rfl (e_bad hb) rfl
theorem e_lgt_no {p : Nat} (hp : p < 65536) (ho : okP p = true) (hR : Rc c t ch R) (h32 : R 32) (hw : wk c ch p = none) : mEv Ls xs 36 (0, [some (.ref 0), some (.int (nI p)), none], [], (hV c t lf 0 re en n M)) (rX 2 (hV c t lf 0 re en n M)) := by
  refine fEv.calln rfl e_up ?_
  refine fEv.calln rfl (e_good hp ho) ?_
  exact fEv.thr rfl (e_atN hR h32 hp hw) rfl
theorem e_lgt_file {p q : Nat} (hp : p < 65536) (ho : okP p = true) (hR : Rc c t ch R) (h32 : R 32) (hw : wk c ch p = some q) (hq : q < 32) (hd : dirP c q = false) : mEv Ls xs 36 (0, [some (.ref 0), some (.int (nI p)), none], [], (hV c t lf 0 re en n M)) (rV (c (4 * q + 3)) (hV c t lf 0 re en n M)) := by
  refine fEv.calln rfl e_up ?_
  refine fEv.calln rfl (e_good hp ho) ?_
  refine fEv.calli rfl (e_at hR h32 hp hw) ?_
  refine fEv.calli rfl (e_dir hR (wk_R hR h32 hw)) ?_
  rw [hd]
  refine fEv.brT rfl (by decide) ?_
  refine fEv.calli rfl (e_len hq) ?_
  exact fEv.retV rfl rfl
theorem e_lgt_dir {p q : Nat} {z : Int32} (hp : p < 65536) (ho : okP p = true) (hR : Rc c t ch R) (h32 : R 32) (hw : wk c ch p = some q) (hd : dirP c q = true)
    (hb : mEv Ls xs 98 (0, [some (.int (nmsI c (nI 0) (ch q) &&& (-2)))], [], (hV c t lf 0 re en n M)) (rV z (hV c t lf 0 re en n M))) : mEv Ls xs 36 (0, [some (.ref 0), some (.int (nI p)), none], [], (hV c t lf 0 re en n M)) (rV (-1 - z) (hV c t lf 0 re en n M)) := by
  have hRq := wk_R hR h32 hw
  refine fEv.calln rfl e_up ?_
  refine fEv.calln rfl (e_good hp ho) ?_
  refine fEv.calli rfl (e_at hR h32 hp hw) ?_
  refine fEv.calli rfl (e_dir hR hRq) ?_
  rw [hd]
  refine fEv.brF rfl (by decide) ?_
  refine fEv.calli rfl (e_nms hR hRq hd) ?_
  refine fEv.calli rfl hb ?_
  exact fEv.retV rfl rfl
-- free
def cntF (t : Nat → Int32) : Nat → Nat
  | 0 => 0
  | i + 1 => cntF t i + (if t i = -2 then 1 else 0)
theorem e_fre_down : mEv Ls xs 38 (0, [some (.ref 0), none, none], [], (hV c t lf 1 re en n M)) (rX 0 (hV c t lf 1 re en n M)) := fEv.thr rfl e_down rfl
theorem fr_loop : ∀ (m i : Nat), i + m = 32 → mEv Ls xs 38 (8, [some (.ref 0), some (.int (nI (cntF t i))), some (.int (nI i))], [], hV c t lf dn re en n M) (rV (nI (cntF t 32)) (hV c t lf dn re en n M)) := by
  intro m
  induction m with
  | zero =>
    intro i hi
    have hi : i = 32 := hi
    subst hi
    refine fEv.brT rfl (by decide) ?_
    exact fEv.retV rfl rfl
  | succ m ih =>
    intro i hi
    refine fEv.brF rfl (decide_eq_false (nI_ge (a := i) (b := 32) (by omega) (by decide))) ?_
    refine fEv.calli rfl e_nextAfter ?_
    rw [nextA_nI (by omega)]
    have h2 := ih (i + 1) (by omega)
    rw [cntF] at h2
    refine fEv.br rfl (fun h1 => ?_) (fun h1 => ?_)
    · rw [if_neg h1, Nat.add_zero, ← nI_add] at h2
      exact fEv.steps 2 rfl h2
    · rw [if_pos (Decidable.of_not_not h1), ← nI_add, ← nI_add] at h2
      exact fEv.steps 3 rfl h2
theorem e_fre : mEv Ls xs 38 (0, [some (.ref 0), none, none], [], (hV c t lf 0 re en n M)) (rV (nI (cntF t 32)) (hV c t lf 0 re en n M)) := by
  refine fEv.calln rfl e_up ?_
  exact fEv.steps 4 rfl (fr_loop 32 0 (by omega))
-- the small ones
def armV (v : Int32) : Int32 := if 0 ≤ v then v else -1
theorem e_arm {v : Int32} : mEv Ls xs 1 (0, [some (.ref 0), some (.int v)], [], (hV c t lf dn re en n M)) (rN (hV c t (armV v) dn re en n M)) := by
  have h1 : mEv Ls xs 40 (0, [some (.ref 1), some (.int v)], [], (hV c t lf dn re en n M)) (rN (hV c t (armV v) dn re en n M)) := by
    refine fEv.br rfl (fun h => ?_) (fun h => ?_)
    · have e : armV v = v := if_pos h
      rw [e]
      exact fEv.retV rfl rfl
    · have e : armV v = -1 := if_neg h
      rw [e]
      exact fEv.retV rfl rfl
  refine fEv.calln rfl h1 ?_
  exact fEv.retV rfl rfl
theorem e_isDown (hd : dn = 0 ∨ dn = 1) : mEv Ls xs 2 (0, [some (.ref 0)], [], (hV c t lf dn re en n M)) (rV dn (hV c t lf dn re en n M)) := by
  refine fEv.calli rfl (e_lost hd) ?_
  refine fEv.retV rfl ?_
  rcases hd with rfl | rfl <;> decide
theorem e_cell {a i : Int32} : mEv Ls xs 13 (0, [some (.ref 0), some (.int a), some (.int i)], [], (hV c t lf dn re en n M)) (rV (cellA c a i) (hV c t lf dn re en n M)) := by
  refine fEv.calli rfl e_cellAt ?_
  exact fEv.retV rfl rfl
def tabA (t : Nat → Int32) (a : Int32) : Int32 := if isC a = true then t a.toNatClampNeg else nI 0
theorem e_table {a : Int32} : mEv Ls xs 14 (0, [some (.ref 0), some (.int a)], [], (hV c t lf dn re en n M)) (rV (tabA t a) (hV c t lf dn re en n M)) := by
  refine fEv.calli rfl e_isC ?_
  cases h : isC a with
  | true =>
    refine fEv.brF rfl (by decide) ?_
    refine fEv.calli rfl e_nextAfter ?_
    have e : nextA t a = tabA t a := by unfold nextA tabA; rw [if_pos h, if_pos h]
    rw [e]
    exact fEv.retV rfl rfl
  | false =>
    refine fEv.brT rfl (by decide) ?_
    have e : tabA t a = nI 0 := by unfold tabA; rw [if_neg (by rw [h]; decide)]
    rw [e]
    exact fEv.retV rfl rfl
end KX
end
section
/-! the model's reads -/
/-- cells, table, writes left, down -/
abbrev MS : Type := (Nat → Int32) × (Nat → Int32) × Int32 × Int32
def MS.c (s : MS) : Nat → Int32 := s.1
def MS.t (s : MS) : Nat → Int32 := s.2.1
def MS.lf (s : MS) : Int32 := s.2.2.1
def MS.dn (s : MS) : Int32 := s.2.2.2
abbrev Px : Type := Nat → mC
def hM (P : Px) (T : mH) (cd : Int32) (s : MS) (mk : Nat → Int32) (hm he fr : Int32) : mH := P 0 :: P 1 :: P 2 :: P 3 :: P 4 :: P 5 :: .inr (2, [.int cd, .ref 7, .ref 8, .int (MS.dn s), .int (MS.lf s), .ref 9, .int hm, .int he, .int fr]) :: .inl (0, 32, .inl (MS.t s)) :: .inl (0, 128, .inl (MS.c s)) :: .inl (1, 32, .inl mk) :: T
theorem k4 {a : Nat} (h : a < 32) : (nI 4 * nI a).toNatClampNeg = 4 * a := by rw [pk_mul, nI_clamp (by omega)]
theorem k4i {a i : Nat} (h : a < 32) (hi : i < 4) : (nI 4 * nI a + nI i).toNatClampNeg = 4 * a + i := by rw [pk_mul, nI_add, nI_clamp (by omega)]
theorem b4 {a : Nat} (h : a < 32) : mInb (nI 4 * nI a) 128 = true := inb_of (pk_mul 4 a) (by omega) (by decide)
theorem b4i {a i : Nat} (h : a < 32) (hi : i < 4) : mInb (nI 4 * nI a + nI i) 128 = true := inb_of (j := 4 * a + i) (by rw [pk_mul, nI_add]) (by omega) (by decide)
theorem bT {a : Nat} (h : a < 32) : mInb (nI a) 32 = true := inb_of rfl h (by decide)
theorem kT {a : Nat} (h : a < 32) : (nI a).toNatClampNeg = a := nI_clamp (by omega)
def okM : Nat → Nat → Bool
  | 0, _ => true
  | k + 1, y => if y = 0 then true else if y % 16 = 0 then false else okM k (y / 16)
theorem okM_k {a b d e : Nat} (ha : a < 16) (hb : b < 16) (hd : d < 16) (he : e < 16) : okM 4 (4096 * a + 256 * b + 16 * d + e) = chkD false [a, b, d, e] := by
  have m0 : (4096 * a + 256 * b + 16 * d + e) % 16 = e := by omega
  have q0 : (4096 * a + 256 * b + 16 * d + e) / 16 = 256 * a + 16 * b + d := by omega
  have m1 : (256 * a + 16 * b + d) % 16 = d := by omega
  have q1 : (256 * a + 16 * b + d) / 16 = 16 * a + b := by omega
  have m2 : (16 * a + b) % 16 = b := by omega
  have q2 : (16 * a + b) / 16 = a := by omega
  have m3 : a % 16 = a := by omega
  simp only [okM, chkD, m0, q0, m1, q1, m2, q2, m3]
  by_cases a0 : a = 0 <;> by_cases a1 : b = 0 <;> by_cases a2 : d = 0 <;> by_cases a3 : e = 0 <;> simp [a0, a1, a2, a3] <;> omega
theorem okM_eq {p : Nat} (hp : p < 65536) : okM 4 p = okP p := by
  have h := okM_k (dg_lt p 12) (dg_lt p 8) (dg_lt p 4) (dg_lt p 0)
  have e : 4096 * dg p 12 + 256 * dg p 8 + 16 * dg p 4 + dg p 0 = p := by unfold dg; omega
  rw [e] at h
  exact h
section MR
variable {Ls : Nat} {xs : Nat → Int32} {P : Px} {T : mH} {cd hm he fr : Int32} {s : MS} {mk : Nat → Int32}
theorem m_within {a x y : Int32} {h : mH} : mEv Ls xs 53 (0, [some (.int a), some (.int x), some (.int y)], [], h) (rV (bI (decide (x ≤ a ∧ a ≤ y))) h) := by
  refine fEv.br rfl (fun h1 => ?_) (fun h1 => ?_)
  · rw [decide_eq_false (fun q => Int32.not_le.mpr h1 q.1)]
    exact fEv.retV rfl (by decide)
  · refine fEv.br rfl (fun h2 => ?_) (fun h2 => ?_)
    · rw [decide_eq_false (fun q => Int32.not_le.mpr h2 q.2)]
      exact fEv.retV rfl (by decide)
    · rw [decide_eq_true ⟨Int32.not_lt.mp h1, Int32.not_lt.mp h2⟩]
      exact fEv.retV rfl (by decide)
theorem me_loop {f nm : Int32} : ∀ (l : List Nat) (x : Int32), Chain (MS.t s) x l → mEv Ls xs 55 (2, [some (.ref 6), some (.int f), some (.int nm), some (.int x)], [], hM P T cd s mk hm he fr) (rV (lkI (MS.c s) nm l) (hM P T cd s mk hm he fr)) := by
  intro l
  induction l with
  | nil =>
    intro x hx
    have hx : x = -1 := hx
    subst hx
    refine fEv.brT rfl (by decide) ?_
    refine fEv.brF rfl (by decide) ?_
    exact fEv.retV rfl rfl
  | cons a l ih =>
    intro x hx
    obtain ⟨rfl, ha, hc⟩ := hx
    refine fEv.brF rfl (decide_eq_false (nI_pos (by omega))) ?_
    refine fEv.brT rfl (b4 ha) ?_
    rw [k4 ha]
    refine fEv.br rfl (fun h1 => ?_) (fun h1 => ?_)
    · have : lkI (MS.c s) nm (a :: l) = nI a := by rw [lkI, if_pos h1]
      rw [this]
      refine fEv.brT rfl (decide_eq_true (nI_pos' (by omega))) ?_
      exact fEv.retV rfl rfl
    · have : lkI (MS.c s) nm (a :: l) = lkI (MS.c s) nm l := by rw [lkI, if_neg h1]
      rw [this]
      refine fEv.brT rfl (bT ha) ?_
      rw [kT ha]
      exact fEv.steps 2 rfl (ih ((MS.t s) a) hc)
theorem m_entryIn {x nm : Int32} {l : List Nat} (hc : Chain (MS.t s) x l) : mEv Ls xs 55 (0, [some (.ref 6), some (.int x), some (.int nm), none], [], (hM P T cd s mk hm he fr)) (rV (lkI (MS.c s) nm l) (hM P T cd s mk hm he fr)) := fEv.steps 2 rfl (me_loop l x hc)
theorem m_isDir {a : Nat} (ha : a < 32) : mEv Ls xs 56 (0, [some (.ref 6), some (.int (nI a))], [], (hM P T cd s mk hm he fr)) (rV (bI (dirP (MS.c s) a)) (hM P T cd s mk hm he fr)) := by
  refine fEv.brF rfl (decide_eq_false (nI_ne1 ha)) ?_
  refine fEv.brT rfl (b4i ha (i := 1) (by decide)) ?_
  rw [k4i ha (by decide)]
  refine fEv.br rfl (fun h1 => ?_) (fun h1 => ?_)
  · have : dirP (MS.c s) a = false := by unfold dirP; rw [decide_eq_false (by omega), decide_eq_false h1]; rfl
    rw [this]
    exact fEv.retV rfl (by decide)
  · have : dirP (MS.c s) a = true := by unfold dirP; rw [decide_eq_true (Decidable.of_not_not h1)]; simp
    rw [this]
    exact fEv.retV rfl (by decide)
theorem m_isDirR : mEv Ls xs 56 (0, [some (.ref 6), some (.int (-1))], [], (hM P T cd s mk hm he fr)) (rV 1 (hM P T cd s mk hm he fr)) := by
  refine fEv.brT rfl (by decide) ?_
  exact fEv.retV rfl (by decide)
theorem mt_loop {j : Nat} (hj : j < 32) (hf : (MS.t s) j = -2) (hmn : ∀ i, i < j → ¬ (MS.t s) i = -2) : ∀ (m i : Nat), i + m = j → mEv Ls xs 57 (2, [some (.ref 6), some (.int (nI i))], [], hM P T cd s mk hm he fr) (rV (nI j) (hM P T cd s mk hm he fr)) := by
  intro m
  induction m with
  | zero =>
    intro i hi
    have hi : i = j := hi
    subst hi
    refine fEv.brF rfl (decide_eq_false (nI_ge (b := 32) hj (by decide))) ?_
    refine fEv.brT rfl (bT hj) ?_
    rw [kT hj, hf]
    refine fEv.brT rfl (by decide) ?_
    refine fEv.brT rfl (decide_eq_true (nI_neq (b := 32) (by omega) (by omega) (by decide))) ?_
    exact fEv.retV rfl rfl
  | succ m ih =>
    intro i hi
    refine fEv.brF rfl (decide_eq_false (nI_ge (a := i) (b := 32) (by omega) (by decide))) ?_
    refine fEv.brT rfl (bT (a := i) (by omega)) ?_
    rw [kT (by omega)]
    refine fEv.brF rfl (decide_eq_false (hmn i (by omega))) ?_
    have h2 := ih (i + 1) (by omega)
    rw [← nI_add] at h2
    exact fEv.steps 2 rfl h2
theorem m_taken {j : Nat} (hj : j < 32) (hf : (MS.t s) j = -2) (hmn : ∀ i, i < j → ¬ (MS.t s) i = -2) : mEv Ls xs 57 (0, [some (.ref 6), none], [], (hM P T cd s mk hm he fr)) (rV (nI j) (hM P T cd s mk hm he fr)) := fEv.steps 2 rfl (mt_loop hj hf hmn j 0 (by omega))
theorem mtn_loop (hmn : ∀ i, i < 32 → ¬ (MS.t s) i = -2) : ∀ (m i : Nat), i + m = 32 → mEv Ls xs 57 (2, [some (.ref 6), some (.int (nI i))], [], hM P T cd s mk hm he fr) (rV (-1) (hM P T cd s mk hm he fr)) := by
  intro m
  induction m with
  | zero =>
    intro i hi
    have hi : i = 32 := hi
    subst hi
    refine fEv.brT rfl (by decide) ?_
    refine fEv.brF rfl (by decide) ?_
    exact fEv.retV rfl rfl
  | succ m ih =>
    intro i hi
    refine fEv.brF rfl (decide_eq_false (nI_ge (a := i) (b := 32) (by omega) (by decide))) ?_
    refine fEv.brT rfl (bT (a := i) (by omega)) ?_
    rw [kT (by omega)]
    refine fEv.brF rfl (decide_eq_false (hmn i (by omega))) ?_
    have h2 := ih (i + 1) (by omega)
    rw [← nI_add] at h2
    exact fEv.steps 2 rfl h2
theorem m_takenN (hmn : ∀ i, i < 32 → ¬ (MS.t s) i = -2) : mEv Ls xs 57 (0, [some (.ref 6), none], [], (hM P T cd s mk hm he fr)) (rV (-1) (hM P T cd s mk hm he fr)) := fEv.steps 2 rfl (mtn_loop hmn 32 0 (by omega))
theorem ml_loop {f : Int32} : ∀ (l : List Nat) (a : Nat), a < 32 → Chain (MS.t s) ((MS.t s) a) l → mEv Ls xs 61 (2, [some (.ref 6), some (.int f), some (.int (nI a))], [], hM P T cd s mk hm he fr) (rV (nI (lastI a l)) (hM P T cd s mk hm he fr)) := by
  intro l
  induction l with
  | nil =>
    intro a ha hx
    have hx : (MS.t s) a = -1 := hx
    refine fEv.brF rfl (decide_eq_false (nI_pos (by omega))) ?_
    refine fEv.brT rfl (bT ha) ?_
    rw [kT ha, hx]
    refine fEv.brT rfl (by decide) ?_
    exact fEv.retV rfl rfl
  | cons b l ih =>
    intro a ha hx
    obtain ⟨h0, hb, hc⟩ := hx
    refine fEv.brF rfl (decide_eq_false (nI_pos (by omega))) ?_
    refine fEv.brT rfl (bT ha) ?_
    rw [kT ha, h0]
    refine fEv.brF rfl (decide_eq_false (nI_pos (by omega))) ?_
    refine fEv.brT rfl (bT ha) ?_
    rw [kT ha, h0]
    exact fEv.steps 2 rfl (ih b hb hc)
theorem m_lastOf {a : Nat} {l : List Nat} (ha : a < 32) (hc : Chain (MS.t s) ((MS.t s) a) l) : mEv Ls xs 61 (0, [some (.ref 6), some (.int (nI a)), none], [], (hM P T cd s mk hm he fr)) (rV (nI (lastI a l)) (hM P T cd s mk hm he fr)) := fEv.steps 2 rfl (ml_loop l a ha hc)
theorem m_lastOfN : mEv Ls xs 61 (0, [some (.ref 6), some (.int (-1)), none], [], (hM P T cd s mk hm he fr)) (rV (-1) (hM P T cd s mk hm he fr)) := by
  refine fEv.brT rfl (by decide) ?_
  exact fEv.retV rfl rfl
/-- the model's names: named ones alone, added -/
def nmsM (c : Nat → Int32) (z : Int32) (l : List Nat) : Int32 :=
  match l with
  | [] => z
  | a :: l => nmsM c (if c (4 * a) ≤ 0 then z else z + (nI 1 <<< (c (4 * a) &&& 31))) l
theorem mn_loop {f : Int32} : ∀ (l : List Nat) (x z : Int32), Chain (MS.t s) x l → mEv Ls xs 66 (4, [some (.ref 6), some (.int f), some (.int z), some (.int x)], [], hM P T cd s mk hm he fr) (rV (nmsM (MS.c s) z l) (hM P T cd s mk hm he fr)) := by
  intro l
  induction l with
  | nil =>
    intro x z hx
    have hx : x = -1 := hx
    subst hx
    refine fEv.brT rfl (by decide) ?_
    exact fEv.retV rfl rfl
  | cons a l ih =>
    intro x z hx
    obtain ⟨rfl, ha, hc⟩ := hx
    refine fEv.brF rfl (decide_eq_false (nI_pos (by omega))) ?_
    refine fEv.brT rfl (b4 ha) ?_
    rw [k4 ha]
    have h2 := ih ((MS.t s) a) (if (MS.c s) (4 * a) ≤ 0 then z else z + (nI 1 <<< ((MS.c s) (4 * a) &&& 31))) hc
    rw [nmsM]
    refine fEv.br rfl (fun h1 => ?_) (fun h1 => ?_)
    · rw [if_pos h1] at h2 ⊢
      refine fEv.brT rfl (bT ha) ?_
      rw [kT ha]
      exact fEv.steps 2 rfl h2
    · rw [if_neg h1] at h2 ⊢
      refine fEv.brT rfl (b4 ha) ?_
      rw [k4 ha]
      refine fEv.brT rfl (bT ha) ?_
      rw [kT ha]
      exact fEv.steps 2 rfl h2
theorem m_namesIn {x : Int32} {l : List Nat} (hc : Chain (MS.t s) x l) : mEv Ls xs 66 (0, [some (.ref 6), some (.int x), none, none], [], (hM P T cd s mk hm he fr)) (rV (nmsM (MS.c s) (nI 0) l) (hM P T cd s mk hm he fr)) := fEv.steps 4 rfl (mn_loop l x _ hc)
theorem mc_loop {f : Int32} {q : Nat} (hq : q < 1000) : ∀ (m i : Nat) (x : Int32) (l : List Nat), i + m = q → Chain (MS.t s) x l → m < l.length → mEv Ls xs 74 (5, [some (.ref 6), some (.int f), some (.int (nI q)), some (.int x), some (.int (nI i))], [], hM P T cd s mk hm he fr) (rV (nI (l.getD m 0)) (hM P T cd s mk hm he fr)) := by
  intro m
  induction m with
  | zero =>
    intro i x l hi hc hl
    have hi : i = q := hi
    subst hi
    cases l with
    | nil => cases hl
    | cons a l =>
      obtain ⟨rfl, ha, hc⟩ := hc
      refine fEv.brT rfl (decide_eq_true (Int32.le_refl _)) ?_
      exact fEv.retV rfl rfl
  | succ m ih =>
    intro i x l hi hc hl
    cases l with
    | nil => cases hl
    | cons a l =>
      obtain ⟨rfl, ha, hc⟩ := hc
      refine fEv.brF rfl (decide_eq_false (nI_ge (by omega) (by omega))) ?_
      refine fEv.brT rfl (bT ha) ?_
      rw [kT ha]
      have h2 := ih (i + 1) ((MS.t s) a) l (by omega) hc (by simpa using hl)
      rw [← nI_add] at h2
      exact fEv.steps 3 rfl h2
theorem m_clusterOf {x : Int32} {q : Nat} {l : List Nat} (hq : q < 1000) (hc : Chain (MS.t s) x l) (hl : q < l.length) : mEv Ls xs 74 (0, [some (.ref 6), some (.int x), some (.int (nI q)), none, none], [], (hM P T cd s mk hm he fr)) (rV (nI (l.getD q 0)) (hM P T cd s mk hm he fr)) := fEv.steps 4 rfl (mc_loop hq q 0 x l (by omega) hc hl)
theorem mi_loop {f : Int32} {h : mH} : ∀ (k y : Nat), y < 16 ^ k → y < 65536 → mEv Ls xs 52 (10, [some (.int f), some (.int (nI 1)), some (.int (nI y))], [], h) (rV (bI (okM k y)) h) := by
  intro k
  induction k with
  | zero =>
    intro y hy _
    have : y = 0 := by simpa using hy
    subst this
    refine fEv.brT rfl (by decide) ?_
    exact fEv.retV rfl (by decide)
  | succ k ih =>
    intro y hy hy2
    unfold okM
    by_cases h0 : y = 0
    · subst h0
      rw [if_pos rfl]
      refine fEv.brT rfl (by decide) ?_
      exact fEv.retV rfl (by decide)
    · rw [if_neg h0]
      refine fEv.brF rfl (decide_eq_false (nI_nle (by omega) (by omega))) ?_
      refine fEv.brF rfl (by decide) ?_
      have e1 : nI y >>> (nI 4 &&& 31) = nI (y / 16) := sh16 hy2
      have e2 := an15 hy2
      by_cases h1 : y % 16 = 0
      · rw [if_pos h1]
        refine fEv.brT rfl (decide_eq_true (by show nI y &&& nI 15 = 0; rw [e2, h1]; rfl)) ?_
        refine fEv.br rfl (fun h => ?_) (fun h => ?_)
        · exact fEv.retV rfl (by decide)
        · refine fEv.brT rfl (by decide) ?_
          exact fEv.retV rfl (by decide)
      · rw [if_neg h1]
        refine fEv.brF rfl (decide_eq_false (by show ¬ nI y &&& nI 15 = 0; rw [e2]; exact nI_ne0 (by omega) (by omega))) ?_
        have h3 := ih (y / 16) (by rw [Nat.pow_succ] at hy; omega) (by omega)
        rw [← e1] at h3
        exact fEv.steps 8 rfl h3
theorem m_isPath {p : Nat} {h : mH} (hp : p < 65536) : mEv Ls xs 52 (0, [some (.int (nI p)), none, none], [], h) (rV (bI (okP p)) h) := by
  refine fEv.calli rfl m_within ?_
  rw [decide_eq_true (⟨nI_pos' (by omega), nI_le (b := 65535) (by omega) (by decide)⟩ : nI 0 ≤ nI p ∧ nI p ≤ nI 65535), ← okM_eq hp]
  exact fEv.steps 3 rfl (mi_loop 4 p hp hp)
theorem m_isPathX {a : Int32} {h : mH} (ha : a < 0 ∨ nI 65535 < a) : mEv Ls xs 52 (0, [some (.int a), none, none], [], h) (rV 0 h) := by
  refine fEv.calli rfl m_within ?_
  rw [decide_eq_false (by
    rintro ⟨h1, h2⟩
    rcases ha with ha | ha
    · exact Int32.not_lt.mpr h1 ha
    · exact Int32.not_lt.mpr h2 ha : ¬ (nI 0 ≤ a ∧ a ≤ nI 65535))]
  refine fEv.br rfl (fun h => ?_) (fun h => ?_)
  · exact fEv.retV rfl (by decide)
  · refine fEv.brT rfl (by decide) ?_
    exact fEv.retV rfl (by decide)
theorem m_bad {a : Int32} {h : mH} (hb : badP a) : mEv Ls xs 52 (0, [some (.int a), none, none], [], h) (rV 0 h) := by
  rcases hb with hb | ⟨p, hp, rfl, ho⟩
  · exact m_isPathX hb
  · have := m_isPath (Ls := Ls) (xs := xs) (h := h) hp
    rwa [ho] at this
theorem m_good {p : Nat} {h : mH} (hp : p < 65536) (ho : okP p = true) : mEv Ls xs 52 (0, [some (.int (nI p)), none, none], [], h) (rV 1 h) := by
  have := m_isPath (Ls := Ls) (xs := xs) (h := h) hp
  rwa [ho] at this
end MR
end
section
/-! the model's ways -/
def hE (q : Nat) : Int32 := if q = 32 then -1 else nI q
def gStp (c : Nat → Int32) (ch : Nat → List Nat) (q d : Nat) : Option Nat := if d = 0 then some q else (lkO c d (ch q)).bind fun a => if dirP c a = true then some a else none
def gH (c : Nat → Int32) (ch : Nat → List Nat) (p : Nat) : Option Nat := (gStp c ch 32 (dg p 12)).bind fun a => (gStp c ch a (dg p 8)).bind fun b => gStp c ch b (dg p 4)
def oInt (o : Option Value) : Prop := o = none ∨ ∃ z, o = some (.int z)
theorem fsP_lt {c : Nat → Int32} {q : Nat} (h : q < 32) : fsP c q = c (4 * q + 2) := by unfold fsP; rw [if_neg (by omega)]
theorem hE_lt {q : Nat} (h : q < 32) : hE q = nI q := by unfold hE; rw [if_neg (by omega)]
theorem oI_some {a : Nat} : oI (some a) = nI a := rfl
theorem oI_none : oI none = -1 := rfl
section MP
variable {Ls : Nat} {xs : Nat → Int32} {P : Px} {T : mH} {cd hm he fr : Int32} {s : MS} {mk : Nat → Int32} {ch : Nat → List Nat} {R : Nat → Prop}
theorem mg_some {p z q q' : Nat} {o4 o5 : Option Value} (hR : Rc (MS.c s) (MS.t s) ch R) (hq : R q) (hqd : dirP (MS.c s) q = true) (hp : p < 65536) (hs : z = 12 ∨ z = 8 ∨ z = 4) (h4 : oInt o4) (h5 : oInt o5) (hg : gStp (MS.c s) ch q (dg p z) = some q') :
    R q' ∧ dirP (MS.c s) q' = true ∧ ∃ o5', oInt o5' ∧ ∀ r, mEv Ls xs 54 (15, [some (.ref 6), some (.int (nI p)), some (.int (nI 1)), some (.int (nI z + -(nI (3 + 1)))), some (.int (nI (dg p z))), o5'], [], hM P T cd s mk (fsP (MS.c s) q') (hE q') fr) r →
      mEv Ls xs 54 (15, [some (.ref 6), some (.int (nI p)), some (.int (nI 1)), some (.int (nI z)), o4, o5], [], hM P T cd s mk (fsP (MS.c s) q) (hE q) fr) r := by
  have e0 := dg_of (p := p) (s := z) hp (by omega)
  have hd : dg p z < 16 := dg_lt p z
  obtain ⟨hq32, hch⟩ := hR q hq
  obtain ⟨h1, h2, h3⟩ := hch hqd
  unfold gStp at hg
  by_cases h0 : dg p z = 0
  · rw [if_pos h0] at hg
    cases hg
    refine ⟨hq, hqd, o5, h5, fun r k => ?_⟩
    rw [← e0] at k
    rcases h4 with rfl | ⟨z4, rfl⟩ <;>
    · refine fEv.brF rfl (decide_eq_false (nI_nle (by omega) (by omega))) ?_
      refine fEv.brF rfl (by decide) ?_
      refine fEv.brT rfl (decide_eq_true (by show (nI p >>> (nI z &&& 31)) &&& nI 15 ≤ 0; rw [e0, h0]; decide)) ?_
      exact fEv.steps 2 rfl k
  · rw [if_neg h0] at hg
    obtain ⟨a, hl, hg⟩ := Option.bind_eq_some_iff.mp hg
    split at hg
    · rename_i hda
      cases hg
      obtain ⟨ha1, ha2⟩ := lkO_some hl
      obtain ⟨hRa, ha⟩ := h3 q' ha1 (by rw [ha2]; intro q9; have := (nI_eq (a := dg p z) (b := 0) (by omega) (by decide)).mp q9; exact h0 this)
      refine ⟨hRa, hda, some (.int (nI q')), Or.inr ⟨_, rfl⟩, fun r k => ?_⟩
      have hen := m_entryIn (Ls := Ls) (xs := xs) (P := P) (T := T) (cd := cd) (hm := fsP (MS.c s) q) (he := hE q) (fr := fr) (s := s) (mk := mk) (nm := nI (dg p z)) h1
      rw [lkI_eq, hl, oI_some, ← e0] at hen
      rw [← e0, fsP_lt ha, hE_lt ha] at k
      rcases h4 with rfl | ⟨z4, rfl⟩ <;> rcases h5 with rfl | ⟨z5, rfl⟩ <;>
      · refine fEv.brF rfl (decide_eq_false (nI_nle (by omega) (by omega))) ?_
        refine fEv.brF rfl (by decide) ?_
        refine fEv.brF rfl (decide_eq_false (by show ¬ (nI p >>> (nI z &&& 31)) &&& nI 15 ≤ 0; rw [e0]; exact nI_nle (by omega) (by omega))) ?_
        refine fEv.calli rfl hen ?_
        refine fEv.brF rfl (decide_eq_false (nI_pos (by omega))) ?_
        refine fEv.calli rfl (m_isDir ha) ?_
        rw [hda]
        refine fEv.brF rfl (by decide) ?_
        refine fEv.brF rfl (by decide) ?_
        refine fEv.brT rfl (b4i ha (i := 2) (by decide)) ?_
        rw [k4i ha (by decide)]
        exact fEv.steps 4 rfl k
    · cases hg
theorem mg_none {p z q : Nat} {o4 o5 : Option Value} (hR : Rc (MS.c s) (MS.t s) ch R) (hq : R q) (hqd : dirP (MS.c s) q = true) (hp : p < 65536) (hs : z = 12 ∨ z = 8 ∨ z = 4) (h4 : oInt o4) (h5 : oInt o5) (hg : gStp (MS.c s) ch q (dg p z) = none) :
    ∃ hm' he', mEv Ls xs 54 (15, [some (.ref 6), some (.int (nI p)), some (.int (nI 1)), some (.int (nI z)), o4, o5], [], hM P T cd s mk (fsP (MS.c s) q) (hE q) fr) (rV 0 (hM P T cd s mk hm' he' fr)) := by
  have e0 := dg_of (p := p) (s := z) hp (by omega)
  have hd : dg p z < 16 := dg_lt p z
  obtain ⟨hq32, hch⟩ := hR q hq
  obtain ⟨h1, h2, h3⟩ := hch hqd
  unfold gStp at hg
  by_cases h0 : dg p z = 0
  · rw [if_pos h0] at hg; cases hg
  · rw [if_neg h0] at hg
    have hen := m_entryIn (Ls := Ls) (xs := xs) (P := P) (T := T) (cd := cd) (hm := fsP (MS.c s) q) (he := hE q) (fr := fr) (s := s) (mk := mk) (nm := nI (dg p z)) h1
    rw [lkI_eq, ← e0] at hen
    cases hl : lkO (MS.c s) (dg p z) (ch q) with
    | none =>
      rw [hl, oI_none] at hen
      refine ⟨nI 0, -1, ?_⟩
      rcases h4 with rfl | ⟨z4, rfl⟩ <;> rcases h5 with rfl | ⟨z5, rfl⟩ <;>
      · refine fEv.brF rfl (decide_eq_false (nI_nle (by omega) (by omega))) ?_
        refine fEv.brF rfl (by decide) ?_
        refine fEv.brF rfl (decide_eq_false (by show ¬ (nI p >>> (nI z &&& 31)) &&& nI 15 ≤ 0; rw [e0]; exact nI_nle (by omega) (by omega))) ?_
        refine fEv.calli rfl hen ?_
        refine fEv.brT rfl (by decide) ?_
        refine fEv.brT rfl (by decide) ?_
        refine fEv.steps (st := (15, [some (.ref 6), some (.int (nI p)), some (.int (nI 0)), some (.int (nI z + -(nI (3 + 1)))), some (.int ((nI p >>> (nI z &&& 31)) &&& nI 15)), some (.int (-1))], [], hM P T cd s mk (nI 0) (-1) fr)) 4 rfl ?_
        generalize nI z + -(nI (3 + 1)) = w
        refine fEv.br rfl (fun h => ?_) (fun h => ?_)
        · exact fEv.retV rfl (by decide)
        · refine fEv.brT rfl (by decide) ?_
          exact fEv.retV rfl (by decide)
    | some a =>
      obtain ⟨ha1, ha2⟩ := lkO_some hl
      obtain ⟨hRa, ha⟩ := h3 a ha1 (by rw [ha2]; intro q9; have := (nI_eq (a := dg p z) (b := 0) (by omega) (by decide)).mp q9; exact h0 this)
      rw [hl, oI_some] at hen
      rw [hl, Option.bind_some] at hg
      have hda : dirP (MS.c s) a = false := by
        cases hx : dirP (MS.c s) a with
        | false => rfl
        | true => rw [if_pos hx] at hg; cases hg
      refine ⟨nI 0, nI a, ?_⟩
      rcases h4 with rfl | ⟨z4, rfl⟩ <;> rcases h5 with rfl | ⟨z5, rfl⟩ <;>
      · refine fEv.brF rfl (decide_eq_false (nI_nle (by omega) (by omega))) ?_
        refine fEv.brF rfl (by decide) ?_
        refine fEv.brF rfl (decide_eq_false (by show ¬ (nI p >>> (nI z &&& 31)) &&& nI 15 ≤ 0; rw [e0]; exact nI_nle (by omega) (by omega))) ?_
        refine fEv.calli rfl hen ?_
        refine fEv.brF rfl (decide_eq_false (nI_pos (by omega))) ?_
        refine fEv.calli rfl (m_isDir ha) ?_
        rw [hda]
        refine fEv.brT rfl (by decide) ?_
        refine fEv.brT rfl (by decide) ?_
        refine fEv.steps (st := (15, [some (.ref 6), some (.int (nI p)), some (.int (nI 0)), some (.int (nI z + -(nI (3 + 1)))), some (.int ((nI p >>> (nI z &&& 31)) &&& nI 15)), some (.int (nI a))], [], hM P T cd s mk (nI 0) (nI a) fr)) 4 rfl ?_
        generalize nI z + -(nI (3 + 1)) = w
        refine fEv.br rfl (fun h => ?_) (fun h => ?_)
        · exact fEv.retV rfl (by decide)
        · refine fEv.brT rfl (by decide) ?_
          exact fEv.retV rfl (by decide)
theorem m_homeY {p q : Nat} (hR : Rc (MS.c s) (MS.t s) ch R) (h32 : R 32) (hp : p < 65536) (hg : gH (MS.c s) ch p = some q) :
    R q ∧ dirP (MS.c s) q = true ∧ mEv Ls xs 54 (0, [some (.ref 6), some (.int (nI p)), none, none, none, none], [], (hM P T cd s mk hm he fr)) (rV 1 (hM P T cd s mk (fsP (MS.c s) q) (hE q) fr)) := by
  unfold gH at hg
  obtain ⟨a, g1, hg⟩ := Option.bind_eq_some_iff.mp hg
  obtain ⟨b, g2, g3⟩ := Option.bind_eq_some_iff.mp hg
  have hd32 : dirP (MS.c s) 32 = true := by unfold dirP; simp
  obtain ⟨r1, d1, o1, i1, k1⟩ := mg_some (Ls := Ls) (xs := xs) (P := P) (T := T) (cd := cd) (mk := mk) (fr := fr) (o4 := none) (o5 := none) hR h32 hd32 hp (Or.inl rfl) (Or.inl rfl) (Or.inl rfl) g1
  obtain ⟨r2, d2, o2, i2, k2⟩ := mg_some (Ls := Ls) (xs := xs) (P := P) (T := T) (cd := cd) (mk := mk) (fr := fr) (o4 := some (.int (nI (dg p 12)))) (o5 := o1) hR r1 d1 hp (Or.inr (Or.inl rfl)) (Or.inr ⟨_, rfl⟩) i1 g2
  obtain ⟨r3, d3, o3, i3, k3⟩ := mg_some (Ls := Ls) (xs := xs) (P := P) (T := T) (cd := cd) (mk := mk) (fr := fr) (o4 := some (.int (nI (dg p 8)))) (o5 := o2) hR r2 d2 hp (Or.inr (Or.inr rfl)) (Or.inr ⟨_, rfl⟩) i2 g3
  refine ⟨r3, d3, ?_⟩
  rw [sh4 (s := 8)] at k1
  rw [sh4 (s := 4)] at k2
  rw [sh4 (s := 0)] at k3
  refine fEv.steps 10 rfl (k1 _ (k2 _ (k3 _ ?_)))
  refine fEv.brT rfl (by decide) ?_
  exact fEv.retV rfl (by decide)
theorem m_homeN {p : Nat} (hR : Rc (MS.c s) (MS.t s) ch R) (h32 : R 32) (hp : p < 65536) (hg : gH (MS.c s) ch p = none) :
    ∃ hm' he', mEv Ls xs 54 (0, [some (.ref 6), some (.int (nI p)), none, none, none, none], [], (hM P T cd s mk hm he fr)) (rV 0 (hM P T cd s mk hm' he' fr)) := by
  have hd32 : dirP (MS.c s) 32 = true := by unfold dirP; simp
  unfold gH at hg
  cases g1 : gStp (MS.c s) ch 32 (dg p 12) with
  | none =>
    obtain ⟨hm', he', k⟩ := mg_none (Ls := Ls) (xs := xs) (P := P) (T := T) (cd := cd) (mk := mk) (fr := fr) (o4 := none) (o5 := none) hR h32 hd32 hp (Or.inl rfl) (Or.inl rfl) (Or.inl rfl) g1
    exact ⟨hm', he', fEv.steps 10 rfl k⟩
  | some a =>
    rw [g1, Option.bind_some] at hg
    obtain ⟨r1, d1, o1, i1, k1⟩ := mg_some (Ls := Ls) (xs := xs) (P := P) (T := T) (cd := cd) (mk := mk) (fr := fr) (o4 := none) (o5 := none) hR h32 hd32 hp (Or.inl rfl) (Or.inl rfl) (Or.inl rfl) g1
    rw [sh4 (s := 8)] at k1
    cases g2 : gStp (MS.c s) ch a (dg p 8) with
    | none =>
      obtain ⟨hm', he', k⟩ := mg_none (Ls := Ls) (xs := xs) (P := P) (T := T) (cd := cd) (mk := mk) (fr := fr) (o4 := some (.int (nI (dg p 12)))) (o5 := o1) hR r1 d1 hp (Or.inr (Or.inl rfl)) (Or.inr ⟨_, rfl⟩) i1 g2
      exact ⟨hm', he', fEv.steps 10 rfl (k1 _ k)⟩
    | some b =>
      rw [g2, Option.bind_some] at hg
      obtain ⟨r2, d2, o2, i2, k2⟩ := mg_some (Ls := Ls) (xs := xs) (P := P) (T := T) (cd := cd) (mk := mk) (fr := fr) (o4 := some (.int (nI (dg p 12)))) (o5 := o1) hR r1 d1 hp (Or.inr (Or.inl rfl)) (Or.inr ⟨_, rfl⟩) i1 g2
      rw [sh4 (s := 4)] at k2
      obtain ⟨hm', he', k⟩ := mg_none (Ls := Ls) (xs := xs) (P := P) (T := T) (cd := cd) (mk := mk) (fr := fr) (o4 := some (.int (nI (dg p 8)))) (o5 := o2) hR r2 d2 hp (Or.inr (Or.inr rfl)) (Or.inr ⟨_, rfl⟩) i2 hg
      exact ⟨hm', he', fEv.steps 10 rfl (k1 _ (k2 _ k))⟩
end MP
/-- home, and where the path leads -/
theorem st0 {c : Nat → Int32} {ch : Nat → List Nat} {q : Nat} : stp c ch q 0 = some q := rfl
theorem wk16 {c : Nat → Int32} {ch : Nat → List Nat} {p : Nat} (hp : p < 65536) : wk c ch (p / 16) = (stp c ch 32 (dg p 12)).bind fun a => (stp c ch a (dg p 8)).bind fun b => stp c ch b (dg p 4) := by
  have a1 : dg (p / 16) 12 = 0 := by unfold dg; omega
  have a2 : dg (p / 16) 8 = dg p 12 := by unfold dg; omega
  have a3 : dg (p / 16) 4 = dg p 8 := by unfold dg; omega
  have a4 : dg (p / 16) 0 = dg p 4 := by unfold dg; omega
  unfold wk
  rw [a1, a2, a3, a4, st0, Option.bind_some]
theorem wk_p {c : Nat → Int32} {ch : Nat → List Nat} {p : Nat} (hp : p < 65536) : wk c ch p = (wk c ch (p / 16)).bind fun q => stp c ch q (p % 16) := by
  rw [wk16 hp]
  have a0 : dg p 0 = p % 16 := by unfold dg; omega
  unfold wk
  rw [a0, Option.bind_assoc]
  congr 1; funext a
  rw [Option.bind_assoc]
theorem chkD_tt : ∀ {l : List Nat}, chkD true l = true → ∀ d ∈ l, d ≠ 0 := by
  intro l
  induction l with
  | nil => intro _ d hd; cases hd
  | cons a l ih =>
    intro h d hd
    unfold chkD at h
    split at h
    · cases h
    · rename_i hn
      have ha : a ≠ 0 := fun q => hn ⟨rfl, q⟩
      rcases List.mem_cons.mp hd with rfl | hd
      · exact ha
      · exact ih h d hd
theorem gH_eq {c : Nat → Int32} {ch : Nat → List Nat} {p : Nat} (hp : p < 65536) (ho : okP p = true) : gH c ch p = (wk c ch (p / 16)).bind fun q => if dirP c q = true then some q else none := by
  have hd32 : dirP c 32 = true := by unfold dirP; simp
  have fld : ∀ q d, dirP c q = true → gStp c ch q d = (stp c ch q d).bind fun a => if dirP c a = true then some a else none := by
    intro q d hq
    unfold gStp stp
    by_cases h : d = 0
    · rw [if_pos h, if_pos h, Option.bind_some, if_pos hq]
    · rw [if_neg h, if_neg h, if_pos hq]
  have nof : ∀ q d, dirP c q = false → d ≠ 0 → stp c ch q d = none := by
    intro q d hq hd
    unfold stp
    rw [if_neg hd, if_neg (by rw [hq]; decide)]
  have gD : ∀ q d a, dirP c q = true → gStp c ch q d = some a → dirP c a = true := by
    intro q d a hq h
    rw [fld q d hq] at h
    obtain ⟨b, -, h⟩ := Option.bind_eq_some_iff.mp h
    split at h
    · cases h; assumption
    · cases h
  rw [wk16 hp]
  unfold gH
  unfold okP chkD at ho
  rw [if_neg (fun q => by cases q.1)] at ho
  rw [fld 32 _ hd32]
  cases s1 : stp c ch 32 (dg p 12) with
  | none => rfl
  | some a =>
    rw [Option.bind_some, Option.bind_some]
    cases da : dirP c a with
    | false =>
      have hn : dg p 12 ≠ 0 := by
        intro q
        rw [q, st0] at s1
        cases s1
        rw [hd32] at da; cases da
      rw [show (false || decide (dg p 12 ≠ 0)) = true by simp [hn]] at ho
      have h8 := chkD_tt ho (dg p 8) (by simp)
      rw [if_neg (by decide), nof a _ da h8]
      rfl
    | true =>
      rw [if_pos rfl, Option.bind_some, fld a _ da]
      cases s2 : stp c ch a (dg p 8) with
      | none => rfl
      | some b =>
        rw [Option.bind_some, Option.bind_some]
        cases db : dirP c b with
        | false =>
          have hn : dg p 8 ≠ 0 := by
            intro q
            rw [q, st0] at s2
            cases s2
            rw [da] at db; cases db
          unfold chkD at ho
          split at ho
          · cases ho
          · rw [show (false || decide (dg p 12 ≠ 0) || decide (dg p 8 ≠ 0)) = true by simp [hn]] at ho
            have h4 := chkD_tt ho (dg p 4) (by simp)
            rw [if_neg (by decide), nof b _ db h4]
            rfl
        | true =>
          rw [if_pos rfl, Option.bind_some, fld b _ db]
theorem ok_low {p : Nat} (hp : p < 65536) (ho : okP p = true) (h0 : ¬ p = 0) : p % 16 ≠ 0 := by
  rw [← okM_eq hp] at ho
  unfold okM at ho
  rw [if_neg h0] at ho
  split at ho
  · cases ho
  · assumption
theorem ok_up {p : Nat} (hp : p < 65536) (ho : okP p = true) : okP (p / 16) = true := by
  rw [← okM_eq hp] at ho
  unfold okM at ho
  rw [← okM_eq (by omega)]
  split at ho
  · rename_i h; subst h; decide
  · split at ho
    · cases ho
    · have hx : ∀ k y, okM k y = true → y < 16 ^ k → okM (k + 1) y = true := by
        intro k
        induction k with
        | zero => intro y _ hy; have : y = 0 := by simpa using hy
                  subst this; rfl
        | succ k ih =>
          intro y h hy
          unfold okM at h ⊢
          split at h
          · rename_i h0; rw [if_pos h0]
          · rename_i h0
            rw [if_neg h0]
            split at h
            · cases h
            · rename_i h1
              rw [if_neg h1]
              exact ih _ h (by rw [Nat.pow_succ] at hy; omega)
      exact hx 3 _ ho (by omega)
theorem wk_low {c : Nat → Int32} {ch : Nat → List Nat} {p : Nat} (hp : p < 65536) (ho : okP p = true) (h0 : ¬ p = 0) : wk c ch p = (gH c ch p).bind fun q => lkO c (p % 16) (ch q) := by
  have hl := ok_low hp ho h0
  rw [gH_eq hp ho, wk_p hp, Option.bind_assoc]
  congr 1; funext q
  unfold stp
  rw [if_neg hl]
  split <;> rfl
end
section
/-! the model's writes -/
def mw (w : Wr) (s : MS) : MS := if MS.dn s = 0 then (if MS.lf s = 0 then (MS.c s, MS.t s, MS.lf s, 1) else ((w (MS.c s, MS.t s)).1, (w (MS.c s, MS.t s)).2, spd (MS.lf s), MS.dn s)) else s
def mws : List Wr → MS → MS
  | [], s => s
  | w :: ws, s => mws ws (mw w s)
theorem mws_dn : ∀ (ws : List Wr) (s : MS), ¬ MS.dn s = 0 → mws ws s = s := by
  intro ws
  induction ws with
  | nil => intro s _; rfl
  | cons w ws ih =>
    intro s h
    have : mw w s = s := by unfold mw; rw [if_neg h]
    rw [mws, this]
    exact ih s h
theorem mws_rW : ∀ (ws : List Wr) (c t : Nat → Int32) (lf : Int32), mws ws (c, t, lf, 0) = ((rW ws c t lf).1, (rW ws c t lf).2.1, (rW ws c t lf).2.2.1, bI (rW ws c t lf).2.2.2) := by
  intro ws
  induction ws with
  | nil => intro c t lf; rfl
  | cons w ws ih =>
    intro c t lf
    rw [mws, rW]
    by_cases h : lf = 0
    · have : mw w (c, t, lf, 0) = (c, t, lf, 1) := by unfold mw; rw [if_pos (show MS.dn (c, t, lf, 0) = 0 from rfl)]; exact if_pos h
      rw [this, if_pos h, mws_dn ws (c, t, lf, 1) (show ¬ (1 : Int32) = 0 by decide)]
      rfl
    · have : mw w (c, t, lf, 0) = ((w (c, t)).1, (w (c, t)).2, spd lf, 0) := by unfold mw; rw [if_pos (show MS.dn (c, t, lf, 0) = 0 from rfl)]; exact if_neg h
      rw [this, if_neg h]
      exact ih _ _ _
theorem Chain_mw {s : MS} {a : Nat} {v x : Int32} {l : List Nat} (h : Chain (MS.t s) x l) (ha : a ∉ l) : Chain (MS.t (mw (wT a v) s)) x l := by
  unfold mw
  split
  · split
    · exact h
    · exact Chain_upd h ha
  · exact h
theorem t_mwC {s : MS} {a : Nat} {v0 v1 v2 v3 : Int32} : MS.t (mw (wC a v0 v1 v2 v3) s) = MS.t s := by
  unfold mw
  split
  · split <;> rfl
  · rfl
theorem t_mwK {s : MS} {a i : Nat} {v : Int32} : MS.t (mw (wK a i v) s) = MS.t s := by
  unfold mw
  split
  · split <;> rfl
  · rfl
theorem c_mwT {s : MS} {a : Nat} {v : Int32} : MS.c (mw (wT a v) s) = MS.c s := by
  unfold mw
  split
  · split <;> rfl
  · rfl
theorem c_mwC {s : MS} {a q i : Nat} {v0 v1 v2 v3 : Int32} (h : q ≠ a) (hi : i < 4) : MS.c (mw (wC a v0 v1 v2 v3) s) (4 * q + i) = MS.c s (4 * q + i) := by
  unfold mw
  split
  · split
    · rfl
    · exact w4_at h hi
  · rfl
theorem c_mwK {s : MS} {a q i j : Nat} {v : Int32} (h : q ≠ a) (hi : i < 4) (hj : j < 4) : MS.c (mw (wK a j v) s) (4 * q + i) = MS.c s (4 * q + i) := by
  unfold mw
  split
  · split
    · rfl
    · exact pk_un (by omega)
  · rfl
section MW
variable {Ls : Nat} {xs : Nat → Int32} {P : Px} {T : mH} {cd hm he fr : Int32} {s : MS} {mk : Nat → Int32} {ch : Nat → List Nat} {R : Nat → Prop}
theorem fEv.callm {k pc k' pc' : Nat} {L : List (Option Value)} {S : List Value} {hh : mH} {r : mR} {av S' : List Value} {L' : List (Option Value)} {h : mH} {w : Wr} (hs : fGo Ls xs 300 k pc L S hh = some (.inr (.inr (.inr (.inl (k', av, (pc', L', S', h)))))))
    (hc : mEv Ls xs k' (mEnt k' av h) (rN (hM P T cd (mw w s) mk hm he fr))) (hk : ∀ s', s' = mw w s → mEv Ls xs k (pc', L', S', hM P T cd s' mk hm he fr) r) : mEv Ls xs k (pc, L, S, hh) r := fEv.calln hs hc (hk _ rfl)
theorem m_writesD (h : ¬ MS.dn s = 0) : mEv Ls xs 59 (0, [some (.ref 6)], [], (hM P T cd s mk hm he fr)) (rV 0 (hM P T cd s mk hm he fr)) := by
  refine fEv.brF rfl (decide_eq_false h) ?_
  exact fEv.retV rfl (by decide)
theorem m_writes0 (h : MS.dn s = 0) (hl : MS.lf s = 0) : mEv Ls xs 59 (0, [some (.ref 6)], [], (hM P T cd s mk hm he fr)) (rV 0 (hM P T cd (MS.c s, MS.t s, MS.lf s, 1) mk hm he fr)) := by
  refine fEv.brT rfl (decide_eq_true h) ?_
  refine fEv.brF rfl (decide_eq_false (fun z => z hl)) ?_
  exact fEv.retV rfl (by decide)
theorem m_writes1 (h : MS.dn s = 0) (hl : ¬ MS.lf s = 0) : mEv Ls xs 59 (0, [some (.ref 6)], [], (hM P T cd s mk hm he fr)) (rV 1 (hM P T cd (MS.c s, MS.t s, spd (MS.lf s), MS.dn s) mk hm he fr)) := by
  refine fEv.brT rfl (decide_eq_true h) ?_
  refine fEv.brT rfl (decide_eq_true hl) ?_
  refine fEv.br rfl (fun h1 => ?_) (fun h1 => ?_)
  · have : spd (MS.lf s) = MS.lf s := by unfold spd; rw [if_neg (fun q => Int32.not_le.mpr q h1)]
    rw [this]
    exact fEv.retV rfl (by decide)
  · have : spd (MS.lf s) = MS.lf s - nI 1 := by unfold spd; rw [if_pos (Int32.not_le.mp h1)]; rfl
    rw [this]
    exact fEv.retV rfl (by decide)
theorem m_wT {j : Nat} {v : Int32} (hj : j < 32) : mEv Ls xs 60 (0, [some (.ref 6), some (.int (nI j)), some (.int v)], [], (hM P T cd s mk hm he fr)) (rN (hM P T cd (mw (wT j v) s) mk hm he fr)) := by
  by_cases h : MS.dn s = 0
  · by_cases hl : MS.lf s = 0
    · have e : mw (wT j v) s = (MS.c s, MS.t s, MS.lf s, 1) := by unfold mw; rw [if_pos h, if_pos hl]
      rw [e]
      refine fEv.calli rfl (m_writes0 h hl) ?_
      refine fEv.brT rfl (by decide) ?_
      exact fEv.retV rfl rfl
    · have e : mw (wT j v) s = (MS.c s, upd (MS.t s) j v, spd (MS.lf s), MS.dn s) := by unfold mw; rw [if_pos h, if_neg hl]; rfl
      rw [e]
      refine fEv.calli rfl (m_writes1 h hl) ?_
      refine fEv.brF rfl (by decide) ?_
      refine fEv.brT rfl (bT hj) ?_
      rw [kT hj]
      exact fEv.retV rfl rfl
  · have e : mw (wT j v) s = s := by unfold mw; rw [if_neg h]
    rw [e]
    refine fEv.calli rfl (m_writesD h) ?_
    refine fEv.brT rfl (by decide) ?_
    exact fEv.retV rfl rfl
theorem m_wK {j i : Nat} {v : Int32} (hj : j < 32) (hi : i < 4) : mEv Ls xs 69 (0, [some (.ref 6), some (.int (nI j)), some (.int (nI i)), some (.int v)], [], (hM P T cd s mk hm he fr)) (rN (hM P T cd (mw (wK j i v) s) mk hm he fr)) := by
  by_cases h : MS.dn s = 0
  · by_cases hl : MS.lf s = 0
    · have e : mw (wK j i v) s = (MS.c s, MS.t s, MS.lf s, 1) := by unfold mw; rw [if_pos h, if_pos hl]
      rw [e]
      refine fEv.calli rfl (m_writes0 h hl) ?_
      refine fEv.brT rfl (by decide) ?_
      exact fEv.retV rfl rfl
    · have e : mw (wK j i v) s = (upd (MS.c s) (4 * j + i) v, MS.t s, spd (MS.lf s), MS.dn s) := by unfold mw; rw [if_pos h, if_neg hl]; rfl
      rw [e]
      refine fEv.calli rfl (m_writes1 h hl) ?_
      refine fEv.brF rfl (by decide) ?_
      refine fEv.brT rfl (b4i hj hi) ?_
      rw [k4i hj hi]
      exact fEv.retV rfl rfl
  · have e : mw (wK j i v) s = s := by unfold mw; rw [if_neg h]
    rw [e]
    refine fEv.calli rfl (m_writesD h) ?_
    refine fEv.brT rfl (by decide) ?_
    exact fEv.retV rfl rfl
theorem m_wC {j : Nat} {v0 v1 v2 v3 : Int32} (hj : j < 32) : mEv Ls xs 58 (0, [some (.ref 6), some (.int (nI j)), some (.int v0), some (.int v1), some (.int v2), some (.int v3)], [], (hM P T cd s mk hm he fr)) (rN (hM P T cd (mw (wC j v0 v1 v2 v3) s) mk hm he fr)) := by
  by_cases h : MS.dn s = 0
  · by_cases hl : MS.lf s = 0
    · have e : mw (wC j v0 v1 v2 v3) s = (MS.c s, MS.t s, MS.lf s, 1) := by unfold mw; rw [if_pos h, if_pos hl]
      rw [e]
      refine fEv.calli rfl (m_writes0 h hl) ?_
      refine fEv.brT rfl (by decide) ?_
      exact fEv.retV rfl rfl
    · have e : mw (wC j v0 v1 v2 v3) s = (w4 (MS.c s) j v0 v1 v2 v3, MS.t s, spd (MS.lf s), MS.dn s) := by unfold mw; rw [if_pos h, if_neg hl]; rfl
      have hw : w4 (MS.c s) j v0 v1 v2 v3 = upd (upd (upd (upd (MS.c s) (nI 4 * nI j).toNatClampNeg v0) (nI 4 * nI j + nI 1).toNatClampNeg v1) (nI 4 * nI j + nI 2).toNatClampNeg v2) (nI 4 * nI j + nI 3).toNatClampNeg v3 := by
        rw [k4 hj, k4i hj (by decide), k4i hj (by decide), k4i hj (by decide)]; rfl
      rw [e, hw]
      refine fEv.calli rfl (m_writes1 h hl) ?_
      refine fEv.brF rfl (by decide) ?_
      refine fEv.brT rfl (b4 hj) ?_
      refine fEv.brT rfl (b4i hj (i := 1) (by decide)) ?_
      refine fEv.brT rfl (b4i hj (i := 2) (by decide)) ?_
      refine fEv.brT rfl (b4i hj (i := 3) (by decide)) ?_
      exact fEv.retV rfl rfl
  · have e : mw (wC j v0 v1 v2 v3) s = s := by unfold mw; rw [if_neg h]
    rw [e]
    refine fEv.calli rfl (m_writesD h) ?_
    refine fEv.brT rfl (by decide) ?_
    exact fEv.retV rfl rfl
theorem m_wE {j : Nat} {v2 v3 : Int32} (hj : j < 32) : mEv Ls xs 62 (0, [some (.ref 6), some (.int (nI j)), some (.int v2), some (.int v3)], [], (hM P T cd s mk hm he fr)) (rN (hM P T cd (mw (wC j (MS.c s (4 * j)) (MS.c s (4 * j + 1)) v2 v3) s) mk hm he fr)) := by
  refine fEv.brT rfl (b4 hj) ?_
  rw [k4 hj]
  refine fEv.brT rfl (b4i hj (i := 1) (by decide)) ?_
  rw [k4i hj (by decide)]
  refine fEv.calln rfl (m_wC hj) ?_
  exact fEv.retV rfl rfl
theorem mr_loop {f : Int32} : ∀ (l : List Nat) (x : Int32) (q : Nat) (s : MS) (o : Option Value), oInt o → Chain (MS.t s) x l → l.Nodup → mEv Ls xs 67 (7, [some (.ref 6), some (.int f), some (.int x), o], [], hM P T cd s mk hm he (nI q)) (rN (hM P T cd (mws (wF l) s) mk hm he (nI (q + l.length)))) := by
  intro l
  induction l with
  | nil =>
    intro x q s o ho hx _
    have hx : x = -1 := hx
    subst hx
    refine fEv.brT rfl (by decide) ?_
    exact fEv.retV rfl rfl
  | cons a l ih =>
    intro x q s o ho hx hnd
    obtain ⟨rfl, ha, hc⟩ := hx
    obtain ⟨hal, hnd⟩ := List.nodup_cons.mp hnd
    rcases ho with rfl | ⟨z, rfl⟩ <;>
    · refine fEv.brF rfl (decide_eq_false (nI_pos (by omega))) ?_
      refine fEv.brT rfl (bT ha) ?_
      rw [kT ha]
      refine fEv.callm rfl (m_wT ha) (fun s' hs' => ?_)
      have h2 := ih (MS.t s a) (q + 1) s' (some (.int (MS.t s a))) (Or.inr ⟨_, rfl⟩) (by rw [hs']; exact Chain_mw hc hal) hnd
      rw [show q + 1 + l.length = q + (a :: l).length by simp only [List.length_cons]; omega, ← nI_add, hs'] at h2
      rw [hs']
      exact fEv.steps 9 rfl h2
theorem m_release {x : Int32} {l : List Nat} (hc : Chain (MS.t s) x l) (hn : l.Nodup) : mEv Ls xs 67 (0, [some (.ref 6), some (.int x), none, none], [], (hM P T cd s mk hm he fr)) (rN (hM P T cd (mws (wF l) s) mk hm he (nI l.length))) := by
  have h2 := mr_loop (Ls := Ls) (xs := xs) (P := P) (T := T) (cd := cd) (mk := mk) (hm := hm) (he := he) (f := x) l x 0 s none (Or.inl rfl) hc hn
  rw [Nat.zero_add] at h2
  exact fEv.steps 5 rfl h2
-- the ways again
theorem m_findY {p a : Nat} (hR : Rc (MS.c s) (MS.t s) ch R) (h32 : R 32) (hp : p < 65536) (ho : okP p = true) (h0 : ¬ p = 0) (hw : wk (MS.c s) ch p = some a) :
    ∃ q, gH (MS.c s) ch p = some q ∧ R q ∧ dirP (MS.c s) q = true ∧ ∀ cd hm he, mEv Ls xs 65 (0, [some (.ref 6), some (.int (nI p))], [], (hM P T cd s mk hm he fr)) (rV (nI a) (hM P T cd s mk (fsP (MS.c s) q) (hE q) fr)) := by
  rw [wk_low hp ho h0] at hw
  obtain ⟨q, hg, hl⟩ := Option.bind_eq_some_iff.mp hw
  obtain ⟨hRq, hdq, -⟩ := m_homeY (Ls := Ls) (xs := xs) (P := P) (T := T) (cd := 0) (hm := 0) (he := 0) (fr := fr) (mk := mk) hR h32 hp hg
  refine ⟨q, hg, hRq, hdq, fun cd hm he => ?_⟩
  obtain ⟨-, -, hh⟩ := m_homeY (Ls := Ls) (xs := xs) (P := P) (T := T) (cd := cd) (hm := hm) (he := he) (fr := fr) (mk := mk) hR h32 hp hg
  refine fEv.calli rfl hh ?_
  refine fEv.brF rfl (by decide) ?_
  have hen := m_entryIn (Ls := Ls) (xs := xs) (P := P) (T := T) (cd := cd) (hm := fsP (MS.c s) q) (he := hE q) (fr := fr) (s := s) (mk := mk) (nm := nI (p % 16)) ((hR q hRq).2 hdq).1
  rw [lkI_eq, hl, oI_some, ← an15 hp] at hen
  refine fEv.calli rfl hen ?_
  exact fEv.retV rfl rfl
theorem m_findN {p : Nat} (hR : Rc (MS.c s) (MS.t s) ch R) (h32 : R 32) (hp : p < 65536) (ho : okP p = true) (h0 : ¬ p = 0) (hw : wk (MS.c s) ch p = none) :
    ∃ hm' he', mEv Ls xs 65 (0, [some (.ref 6), some (.int (nI p))], [], (hM P T cd s mk hm he fr)) (rV (-1) (hM P T cd s mk hm' he' fr)) := by
  rw [wk_low hp ho h0] at hw
  cases hg : gH (MS.c s) ch p with
  | none =>
    obtain ⟨hm', he', hh⟩ := m_homeN (Ls := Ls) (xs := xs) (P := P) (T := T) (cd := cd) (hm := hm) (he := he) (fr := fr) (mk := mk) hR h32 hp hg
    refine ⟨hm', he', ?_⟩
    refine fEv.calli rfl hh ?_
    refine fEv.brT rfl (by decide) ?_
    exact fEv.retV rfl rfl
  | some q =>
    rw [hg, Option.bind_some] at hw
    obtain ⟨hRq, hdq, hh⟩ := m_homeY (Ls := Ls) (xs := xs) (P := P) (T := T) (cd := cd) (hm := hm) (he := he) (fr := fr) (mk := mk) hR h32 hp hg
    refine ⟨fsP (MS.c s) q, hE q, ?_⟩
    refine fEv.calli rfl hh ?_
    refine fEv.brF rfl (by decide) ?_
    have hen := m_entryIn (Ls := Ls) (xs := xs) (P := P) (T := T) (cd := cd) (hm := fsP (MS.c s) q) (he := hE q) (fr := fr) (s := s) (mk := mk) (nm := nI (p % 16)) ((hR q hRq).2 hdq).1
    rw [lkI_eq, hw, oI_none, ← an15 hp] at hen
    refine fEv.calli rfl hen ?_
    exact fEv.retV rfl rfl
theorem m_lackD {a : Int32} (h : ¬ MS.dn s = 0) : mEv Ls xs 64 (0, [some (.ref 6), some (.int a)], [], (hM P T cd s mk hm he fr)) (rV (nI 1) (hM P T cd s mk hm he fr)) := by
  refine fEv.brF rfl (decide_eq_false h) ?_
  exact fEv.retV rfl rfl
theorem m_lackB {a : Int32} (h : MS.dn s = 0) (hb : badP a) : mEv Ls xs 64 (0, [some (.ref 6), some (.int a)], [], (hM P T cd s mk hm he fr)) (rV (nI 2) (hM P T cd s mk hm he fr)) := by
  refine fEv.brT rfl (decide_eq_true h) ?_
  refine fEv.calli rfl (m_bad hb) ?_
  refine fEv.brF rfl (by decide) ?_
  exact fEv.retV rfl rfl
theorem wk_0 {c : Nat → Int32} {ch : Nat → List Nat} : wk c ch 0 = some 32 := rfl
theorem m_lackN {p : Nat} (h : MS.dn s = 0) (hR : Rc (MS.c s) (MS.t s) ch R) (h32 : R 32) (hp : p < 65536) (ho : okP p = true) (hw : wk (MS.c s) ch p = none) :
    ∃ hm' he', mEv Ls xs 64 (0, [some (.ref 6), some (.int (nI p))], [], (hM P T cd s mk hm he fr)) (rV (nI 3) (hM P T cd s mk hm' he' fr)) := by
  have h0 : ¬ p = 0 := by intro z; rw [z, wk_0] at hw; cases hw
  obtain ⟨hm', he', hh⟩ := m_findN (Ls := Ls) (xs := xs) (P := P) (T := T) (cd := cd) (hm := hm) (he := he) (fr := fr) (mk := mk) hR h32 hp ho h0 hw
  refine ⟨hm', he', ?_⟩
  refine fEv.brT rfl (decide_eq_true h) ?_
  refine fEv.calli rfl (m_good hp ho) ?_
  refine fEv.brT rfl (by decide) ?_
  refine fEv.brF rfl (decide_eq_false (nI_ne0 (by omega) (by omega))) ?_
  refine fEv.calli rfl hh ?_
  refine fEv.brF rfl (by decide) ?_
  exact fEv.retV rfl rfl
theorem m_lack0 (h : MS.dn s = 0) : mEv Ls xs 64 (0, [some (.ref 6), some (.int (nI 0))], [], (hM P T cd s mk hm he fr)) (rV (nI 0) (hM P T cd s mk hm he fr)) := by
  refine fEv.brT rfl (decide_eq_true h) ?_
  refine fEv.calli rfl (m_good (by decide) (by decide)) ?_
  refine fEv.brT rfl (by decide) ?_
  refine fEv.brT rfl (by decide) ?_
  exact fEv.retV rfl rfl
theorem m_lackY {p a : Nat} (h : MS.dn s = 0) (hR : Rc (MS.c s) (MS.t s) ch R) (h32 : R 32) (hp : p < 65536) (ho : okP p = true) (h0 : ¬ p = 0) (hw : wk (MS.c s) ch p = some a) (ha : a < 32) :
    ∃ q, gH (MS.c s) ch p = some q ∧ R q ∧ dirP (MS.c s) q = true ∧ ∀ cd hm he, mEv Ls xs 64 (0, [some (.ref 6), some (.int (nI p))], [], (hM P T cd s mk hm he fr)) (rV (nI 0) (hM P T cd s mk (fsP (MS.c s) q) (hE q) fr)) := by
  obtain ⟨q, h1, h2, h3, hh⟩ := m_findY (Ls := Ls) (xs := xs) (P := P) (T := T) (fr := fr) (mk := mk) hR h32 hp ho h0 hw
  refine ⟨q, h1, h2, h3, fun cd hm he => ?_⟩
  refine fEv.brT rfl (decide_eq_true h) ?_
  refine fEv.calli rfl (m_good hp ho) ?_
  refine fEv.brT rfl (by decide) ?_
  refine fEv.brF rfl (decide_eq_false (nI_ne0 (by omega) (by omega))) ?_
  refine fEv.calli rfl (hh cd hm he) ?_
  refine fEv.brT rfl (decide_eq_true (nI_pos' (by omega))) ?_
  exact fEv.retV rfl rfl
end MW
end
section
/-! the model's calls -/
def rE (P : Px) (T : mH) (mk : Nat → Int32) (v : Int32) (s : MS) (hm he fr : Int32) : mR := rV (if MS.dn s = 0 then v else nI 0) (hM P T (if MS.dn s = 0 then nI 0 else nI 1) s mk hm he fr)
theorem mw_congr {w w' : Wr} {s : MS} (h : w (MS.c s, MS.t s) = w' (MS.c s, MS.t s)) : mw w s = mw w' s := by unfold mw; rw [h]
theorem upd_self {f : Nat → Int32} {i : Nat} {v : Int32} (h : f i = v) : upd f i v = f := by
  funext j
  by_cases e : j = i
  · rw [e, pk_us, h]
  · exact pk_un e
theorem w4_2 {c : Nat → Int32} {q : Nat} {x : Int32} (h : c (4 * q + 3) = nI 0) : w4 c q (c (4 * q)) (c (4 * q + 1)) x (nI 0) = upd c (4 * q + 2) x := by
  unfold w4
  rw [upd_self (f := c) rfl, upd_self (f := c) rfl]
  exact upd_self (by rw [pk_un (by omega)]; exact h)
theorem w4_3 {c : Nat → Int32} {q : Nat} {f x : Int32} (h : c (4 * q + 2) = f) : w4 c q (c (4 * q)) (c (4 * q + 1)) f x = upd c (4 * q + 3) x := by
  unfold w4
  rw [upd_self (f := c) rfl, upd_self (f := c) rfl, upd_self (f := c) h]
section MU
variable {Ls : Nat} {xs : Nat → Int32} {P : Px} {T : mH} {cd hm he fr : Int32} {s : MS} {mk : Nat → Int32} {ch : Nat → List Nat} {R : Nat → Prop}
-- make
theorem m_make_down {a d : Int32} (h : ¬ MS.dn s = 0) : mEv Ls xs 51 (0, [some (.ref 6), some (.int a), some (.int d), none, none, none, none], [], (hM P T cd s mk hm he fr)) (rV (nI 0) (hM P T (nI 1) s mk hm he fr)) := by
  refine fEv.brF rfl (decide_eq_false h) ?_
  refine fEv.brF rfl (by decide) ?_
  exact fEv.retV rfl rfl
theorem m_make_bad {a d : Int32} (h : MS.dn s = 0) (hb : badP a) : mEv Ls xs 51 (0, [some (.ref 6), some (.int a), some (.int d), none, none, none, none], [], (hM P T cd s mk hm he fr)) (rV (nI 0) (hM P T (nI 2) s mk hm he fr)) := by
  refine fEv.brT rfl (decide_eq_true h) ?_
  refine fEv.calli rfl (m_bad hb) ?_
  refine fEv.brF rfl (by decide) ?_
  refine fEv.brF rfl (by decide) ?_
  exact fEv.retV rfl rfl
theorem m_make_no {p : Nat} {d : Int32} (h : MS.dn s = 0) (hR : Rc (MS.c s) (MS.t s) ch R) (h32 : R 32) (hp : p < 65536) (ho : okP p = true) (hg : gH (MS.c s) ch p = none) : ∃ hm' he', mEv Ls xs 51 (0, [some (.ref 6), some (.int (nI p)), some (.int d), none, none, none, none], [], (hM P T cd s mk hm he fr)) (rV (nI 0) (hM P T (nI 3) s mk hm' he' fr)) := by
  obtain ⟨hm', he', hh⟩ := m_homeN (Ls := Ls) (xs := xs) (P := P) (T := T) (cd := cd) (hm := hm) (he := he) (fr := fr) (mk := mk) hR h32 hp hg
  refine ⟨hm', he', ?_⟩
  refine fEv.brT rfl (decide_eq_true h) ?_
  refine fEv.calli rfl (m_good hp ho) ?_
  refine fEv.brT rfl (by decide) ?_
  refine fEv.calli rfl hh ?_
  refine fEv.brF rfl (by decide) ?_
  refine fEv.brF rfl (by decide) ?_
  exact fEv.retV rfl rfl
theorem mm_pre {p q : Nat} {d : Int32} {r : mR} (h : MS.dn s = 0) (hR : Rc (MS.c s) (MS.t s) ch R) (h32 : R 32) (hp : p < 65536) (ho : okP p = true) (hg : gH (MS.c s) ch p = some q)
    (k : mEv Ls xs 51 (35, [some (.ref 6), some (.int (nI p)), some (.int d), none, none, none, none], [.ref 6], hM P T cd s mk (fsP (MS.c s) q) (hE q) fr) r) : mEv Ls xs 51 (0, [some (.ref 6), some (.int (nI p)), some (.int d), none, none, none, none], [], (hM P T cd s mk hm he fr)) r := by
  refine fEv.brT rfl (decide_eq_true h) ?_
  refine fEv.calli rfl (m_good hp ho) ?_
  refine fEv.brT rfl (by decide) ?_
  refine fEv.calli rfl (m_homeY hR h32 hp hg).2.2 ?_
  exact fEv.brT rfl (by decide) k
theorem m_make_is {p q : Nat} {d : Int32} (h : MS.dn s = 0) (hR : Rc (MS.c s) (MS.t s) ch R) (h32 : R 32) (hp : p < 65536) (ho : okP p = true) (hg : gH (MS.c s) ch p = some q) (hRq : R q) (hdq : dirP (MS.c s) q = true) (hl : p = 0 ∨ ∃ a, lkO (MS.c s) (p % 16) (ch q) = some a ∧ a < 32) :
    mEv Ls xs 51 (0, [some (.ref 6), some (.int (nI p)), some (.int d), none, none, none, none], [], (hM P T cd s mk hm he fr)) (rV (nI 0) (hM P T (nI 4) s mk (fsP (MS.c s) q) (hE q) fr)) := by
  refine mm_pre h hR h32 hp ho hg ?_
  refine fEv.br rfl (fun h0 => ?_) (fun h0 => ?_)
  · refine fEv.brF rfl (by decide) ?_
    exact fEv.retV rfl rfl
  · rcases hl with hl | ⟨a, hl, ha⟩
    · exact absurd (by rw [hl]; rfl) h0
    · have hen := m_entryIn (Ls := Ls) (xs := xs) (P := P) (T := T) (cd := cd) (hm := fsP (MS.c s) q) (he := hE q) (fr := fr) (s := s) (mk := mk) (nm := nI (p % 16)) ((hR q hRq).2 hdq).1
      rw [lkI_eq, hl, oI_some, ← an15 hp] at hen
      refine fEv.calli rfl hen ?_
      refine fEv.brF rfl (decide_eq_false (nI_pos (by omega))) ?_
      refine fEv.brF rfl (by decide) ?_
      exact fEv.retV rfl rfl
theorem mm_pre2 {p q : Nat} {d : Int32} {r : mR} (h : MS.dn s = 0) (hR : Rc (MS.c s) (MS.t s) ch R) (h32 : R 32) (hp : p < 65536) (hp0 : ¬ p = 0) (ho : okP p = true) (hg : gH (MS.c s) ch p = some q) (hRq : R q) (hdq : dirP (MS.c s) q = true) (hl : lkO (MS.c s) (p % 16) (ch q) = none)
    (k : mEv Ls xs 51 (92, [some (.ref 6), some (.int (nI p)), some (.int d), some (.int (if d = 0 then nI 1 else nI 2)), some (.int (oI (lkO (MS.c s) 0 (ch q)))), none, none], [], hM P T (nI 0) s mk (fsP (MS.c s) q) (hE q) fr) r) : mEv Ls xs 51 (0, [some (.ref 6), some (.int (nI p)), some (.int d), none, none, none, none], [], (hM P T cd s mk hm he fr)) r := by
  refine mm_pre h hR h32 hp ho hg ?_
  refine fEv.brF rfl (decide_eq_false (nI_ne0 (by omega) (by omega))) ?_
  have hen := m_entryIn (Ls := Ls) (xs := xs) (P := P) (T := T) (cd := cd) (hm := fsP (MS.c s) q) (he := hE q) (fr := fr) (s := s) (mk := mk) (nm := nI (p % 16)) ((hR q hRq).2 hdq).1
  rw [lkI_eq, hl, oI_none, ← an15 hp] at hen
  refine fEv.calli rfl hen ?_
  refine fEv.brT rfl (by decide) ?_
  refine fEv.brT rfl (by decide) ?_
  have h4 := m_entryIn (Ls := Ls) (xs := xs) (P := P) (T := T) (cd := nI 0) (hm := fsP (MS.c s) q) (he := hE q) (fr := fr) (s := s) (mk := mk) (nm := nI 0) ((hR q hRq).2 hdq).1
  rw [lkI_eq] at h4
  refine fEv.br rfl (fun h5 => ?_) (fun h5 => ?_)
  · rw [if_pos h5] at k
    refine fEv.calli rfl h4 ?_
    exact fEv.steps 1 rfl k
  · rw [if_neg h5] at k
    refine fEv.calli rfl h4 ?_
    exact fEv.steps 1 rfl k
theorem m_make_full {p q : Nat} {d : Int32} (h : MS.dn s = 0) (hR : Rc (MS.c s) (MS.t s) ch R) (h32 : R 32) (hp : p < 65536) (hp0 : ¬ p = 0) (ho : okP p = true) (hg : gH (MS.c s) ch p = some q) (hRq : R q) (hdq : dirP (MS.c s) q = true) (hl : lkO (MS.c s) (p % 16) (ch q) = none) (he0 : lkO (MS.c s) 0 (ch q) = none) (hf : ∀ i, i < 32 → ¬ MS.t s i = -2) :
    mEv Ls xs 51 (0, [some (.ref 6), some (.int (nI p)), some (.int d), none, none, none, none], [], (hM P T cd s mk hm he fr)) (rV (nI 0) (hM P T (nI 5) s mk (fsP (MS.c s) q) (hE q) fr)) := by
  refine mm_pre2 h hR h32 hp hp0 ho hg hRq hdq hl ?_
  rw [he0, oI_none]
  refine fEv.brT rfl (by decide) ?_
  refine fEv.calli rfl (m_takenN hf) ?_
  refine fEv.brF rfl (by decide) ?_
  exact fEv.retV rfl rfl
theorem mm_end {a : Nat} {p d k x y o6 : Option Value} (s : MS) : mEv Ls xs 51 (184, [some (.ref 6), p, d, k, x, some (.int (nI a)), o6], [], hM P T (nI 0) s mk hm he fr) (rE P T mk (nI a) s hm he fr) := by
  unfold rE
  by_cases hd : MS.dn s = 0
  · rw [if_pos hd, if_pos hd]
    refine fEv.brT rfl (decide_eq_true hd) ?_
    refine fEv.brT rfl (decide_eq_true hd) ?_
    exact fEv.retV rfl rfl
  · rw [if_neg hd, if_neg hd]
    refine fEv.brF rfl (decide_eq_false hd) ?_
    refine fEv.brF rfl (decide_eq_false hd) ?_
    exact fEv.retV rfl rfl
theorem m_make_empty {p q a : Nat} {d : Int32} (h : MS.dn s = 0) (hR : Rc (MS.c s) (MS.t s) ch R) (h32 : R 32) (hp : p < 65536) (hp0 : ¬ p = 0) (ho : okP p = true) (hg : gH (MS.c s) ch p = some q) (hRq : R q) (hdq : dirP (MS.c s) q = true) (hl : lkO (MS.c s) (p % 16) (ch q) = none) (he0 : lkO (MS.c s) 0 (ch q) = some a) (ha : a < 32) :
    mEv Ls xs 51 (0, [some (.ref 6), some (.int (nI p)), some (.int d), none, none, none, none], [], (hM P T cd s mk hm he fr)) (rE P T mk (nI a) (mws [wC a (nI (p % 16)) (if d = 0 then nI 1 else nI 2) (-1) (nI 0)] s) (fsP (MS.c s) q) (hE q) fr) := by
  refine mm_pre2 h hR h32 hp hp0 ho hg hRq hdq hl ?_
  rw [he0, oI_some, ← an15 hp]
  refine fEv.brF rfl (decide_eq_false (nI_pos (by omega))) ?_
  refine fEv.brT rfl (decide_eq_true (nI_pos' (by omega))) ?_
  refine fEv.callm rfl (m_wC ha) (fun s' hs' => ?_)
  refine fEv.brT rfl (decide_eq_true (nI_pos' (by omega))) ?_
  rw [mws, mws, ← hs']
  exact mm_end (y := none) s'
theorem m_make_new1 {p q a b : Nat} {l : List Nat} {d : Int32} (h : MS.dn s = 0) (hR : Rc (MS.c s) (MS.t s) ch R) (h32 : R 32) (hp : p < 65536) (hp0 : ¬ p = 0) (ho : okP p = true) (hg : gH (MS.c s) ch p = some q) (hRq : R q) (hdq : dirP (MS.c s) q = true) (hl : lkO (MS.c s) (p % 16) (ch q) = none) (he0 : lkO (MS.c s) 0 (ch q) = none) (ha : a < 32) (hf : MS.t s a = -2) (hmn : ∀ i, i < a → ¬ MS.t s i = -2)
    (hch : ch q = b :: l) (hal : a ∉ b :: l) (hla : lastI b l < 32) :
    mEv Ls xs 51 (0, [some (.ref 6), some (.int (nI p)), some (.int d), none, none, none, none], [], (hM P T cd s mk hm he fr)) (rE P T mk (nI a) (mws [wC a (nI (p % 16)) (if d = 0 then nI 1 else nI 2) (-1) (nI 0), wT a (-1), wT (lastI b l) (nI a)] s) (fsP (MS.c s) q) (hE q) fr) := by
  have hc0 := ((hR q hRq).2 hdq).1
  rw [hch] at hc0
  refine mm_pre2 h hR h32 hp hp0 ho hg hRq hdq hl ?_
  rw [he0, oI_none, ← an15 hp]
  refine fEv.brT rfl (by decide) ?_
  refine fEv.calli rfl (m_taken ha hf hmn) ?_
  refine fEv.brT rfl (decide_eq_true (nI_pos' (by omega))) ?_
  refine fEv.callm rfl (m_wC ha) (fun s1 hs1 => ?_)
  refine fEv.brF rfl (by decide) ?_
  refine fEv.callm rfl (m_wT ha) (fun s2 hs2 => ?_)
  have hfs : fsP (MS.c s) q = nI b := hc0.1
  rw [hfs]
  refine fEv.brF rfl (decide_eq_false (nI_pos (by have := hc0.2.1; omega))) ?_
  have hc2 : Chain (MS.t s2) (nI b) (b :: l) := by
    rw [hs2]
    refine Chain_mw ?_ hal
    rw [hs1, t_mwC, ← hfs]
    exact hc0
  refine fEv.calli rfl (m_lastOf hc0.2.1 hc2.2.2) ?_
  refine fEv.callm rfl (m_wT hla) (fun s3 hs3 => ?_)
  rw [mws, mws, mws, mws, ← hs1, ← hs2, ← hs3]
  exact fEv.steps 1 rfl (mm_end (y := none) s3)
theorem m_make_new0 {p q a : Nat} {d : Int32} (h : MS.dn s = 0) (hR : Rc (MS.c s) (MS.t s) ch R) (h32 : R 32) (hp : p < 65536) (hp0 : ¬ p = 0) (ho : okP p = true) (hg : gH (MS.c s) ch p = some q) (hRq : R q) (hdq : dirP (MS.c s) q = true) (hl : lkO (MS.c s) (p % 16) (ch q) = none) (he0 : lkO (MS.c s) 0 (ch q) = none) (ha : a < 32) (hf : MS.t s a = -2) (hmn : ∀ i, i < a → ¬ MS.t s i = -2)
    (hq : q < 32) (hq1 : MS.c s (4 * q + 2) = -1) (hq0 : MS.c s (4 * q + 3) = nI 0) (hqa : q ≠ a) :
    mEv Ls xs 51 (0, [some (.ref 6), some (.int (nI p)), some (.int d), none, none, none, none], [], (hM P T cd s mk hm he fr)) (rE P T mk (nI a) (mws [wC a (nI (p % 16)) (if d = 0 then nI 1 else nI 2) (-1) (nI 0), wT a (-1), wK q 2 (nI a)] s) (fsP (MS.c s) q) (hE q) fr) := by
  refine mm_pre2 h hR h32 hp hp0 ho hg hRq hdq hl ?_
  rw [he0, oI_none, ← an15 hp, fsP_lt hq, hE_lt hq, hq1]
  refine fEv.brT rfl (by decide) ?_
  refine fEv.calli rfl (m_taken ha hf hmn) ?_
  refine fEv.brT rfl (decide_eq_true (nI_pos' (by omega))) ?_
  refine fEv.callm rfl (m_wC ha) (fun s1 hs1 => ?_)
  refine fEv.brF rfl (by decide) ?_
  refine fEv.callm rfl (m_wT ha) (fun s2 hs2 => ?_)
  refine fEv.brT rfl (by decide) ?_
  refine fEv.callm rfl (m_wE hq) (fun s3 hs3 => ?_)
  have h3 : MS.c s2 (4 * q + 3) = nI 0 := by
    rw [hs2, c_mwT, hs1, c_mwC hqa (by decide)]
    exact hq0
  have e3 : s3 = mw (wK q 2 (nI a)) s2 := by
    rw [hs3]
    refine mw_congr ?_
    show (w4 (MS.c s2) q _ _ _ _, MS.t s2) = (upd (MS.c s2) (4 * q + 2) (nI a), MS.t s2)
    rw [w4_2 h3]
  rw [mws, mws, mws, mws, ← hs1, ← hs2, ← e3]
  exact mm_end (y := none) s3
-- remove
theorem m_remL {a z : Int32} {hm' he' : Int32} (hl : mEv Ls xs 64 (0, [some (.ref 6), some (.int a)], [], (hM P T cd s mk hm he fr)) (rV z (hM P T cd s mk hm' he' fr))) (hz : ¬ z ≤ 0) : mEv Ls xs 63 (0, [some (.ref 6), some (.int a), none, none], [], (hM P T cd s mk hm he fr)) (rV (nI 0) (hM P T z s mk hm' he' fr)) := by
  refine fEv.calli rfl hl ?_
  refine fEv.brF rfl (decide_eq_false hz) ?_
  exact fEv.retV rfl rfl
theorem m_rem_root (h : MS.dn s = 0) : mEv Ls xs 63 (0, [some (.ref 6), some (.int (nI 0)), none, none], [], (hM P T cd s mk hm he fr)) (rV (nI 0) (hM P T (nI 4) s mk hm he fr)) := by
  refine fEv.calli rfl (m_lack0 h) ?_
  refine fEv.brT rfl (by decide) ?_
  refine fEv.brF rfl (by decide) ?_
  refine fEv.brT rfl (by decide) ?_
  refine fEv.brF rfl (by decide) ?_
  exact fEv.retV rfl rfl
theorem m_rem_names {p q : Nat} (h : MS.dn s = 0) (hR : Rc (MS.c s) (MS.t s) ch R) (h32 : R 32) (hp : p < 65536) (h0 : ¬ p = 0) (ho : okP p = true) (hw : wk (MS.c s) ch p = some q) (hq : q < 32) (hd : dirP (MS.c s) q = true) (hc : Chain (MS.t s) (MS.c s (4 * q + 2)) (ch q)) (hn : ¬ nmsM (MS.c s) (nI 0) (ch q) ≤ 0) :
    ∃ hm' he', mEv Ls xs 63 (0, [some (.ref 6), some (.int (nI p)), none, none], [], (hM P T cd s mk hm he fr)) (rV (nI 0) (hM P T (nI 4) s mk hm' he' fr)) := by
  obtain ⟨z, hg, hz1, hz2, hh⟩ := m_findY (Ls := Ls) (xs := xs) (P := P) (T := T) (fr := fr) (mk := mk) hR h32 hp ho h0 hw
  obtain ⟨z', hg', -, -, hk⟩ := m_lackY (Ls := Ls) (xs := xs) (P := P) (T := T) (fr := fr) (mk := mk) h hR h32 hp ho h0 hw hq
  have e : z' = z := by rw [hg] at hg'; cases hg'; rfl
  subst e
  refine ⟨fsP (MS.c s) z', hE z', ?_⟩
  refine fEv.calli rfl (hk cd hm he) ?_
  refine fEv.brT rfl (by decide) ?_
  refine fEv.brT rfl (decide_eq_true (nI_ne0 (by omega) (by omega))) ?_
  refine fEv.calli rfl (hh (nI 0) _ _) ?_
  refine fEv.brF rfl (decide_eq_false (nI_ne0 (by omega) (by omega))) ?_
  refine fEv.calli rfl (m_isDir hq) ?_
  rw [hd]
  refine fEv.brF rfl (by decide) ?_
  refine fEv.brT rfl (b4i hq (i := 2) (by decide)) ?_
  rw [k4i hq (by decide)]
  refine fEv.calli rfl (m_namesIn hc) ?_
  refine fEv.brF rfl (decide_eq_false hn) ?_
  refine fEv.brF rfl (by decide) ?_
  exact fEv.retV rfl rfl
theorem m_rem {p q : Nat} {l : List Nat} (h : MS.dn s = 0) (hR : Rc (MS.c s) (MS.t s) ch R) (h32 : R 32) (hp : p < 65536) (h0 : ¬ p = 0) (ho : okP p = true) (hw : wk (MS.c s) ch p = some q) (hq : q < 32) (hd : dirP (MS.c s) q = false ∨ nmsM (MS.c s) (nI 0) l ≤ 0) (hc : Chain (MS.t s) (MS.c s (4 * q + 2)) l) (hn : l.Nodup) :
    ∃ hm' he', mEv Ls xs 63 (0, [some (.ref 6), some (.int (nI p)), none, none], [], (hM P T cd s mk hm he fr)) (rE P T mk (nI l.length) (mws (wC q (nI 0) (nI 0) (nI 0) (nI 0) :: wF l) s) hm' he' (nI l.length)) := by
  obtain ⟨z, hg, hz1, hz2, hh⟩ := m_findY (Ls := Ls) (xs := xs) (P := P) (T := T) (fr := fr) (mk := mk) hR h32 hp ho h0 hw
  obtain ⟨z', hg', -, -, hk⟩ := m_lackY (Ls := Ls) (xs := xs) (P := P) (T := T) (fr := fr) (mk := mk) h hR h32 hp ho h0 hw hq
  have e : z' = z := by rw [hg] at hg'; cases hg'; rfl
  subst e
  refine ⟨fsP (MS.c s) z', hE z', ?_⟩
  refine fEv.calli rfl (hk cd hm he) ?_
  refine fEv.brT rfl (by decide) ?_
  refine fEv.brT rfl (decide_eq_true (nI_ne0 (by omega) (by omega))) ?_
  refine fEv.calli rfl (hh (nI 0) _ _) ?_
  refine fEv.brF rfl (decide_eq_false (nI_ne0 (by omega) (by omega))) ?_
  refine fEv.calli rfl (m_isDir hq) ?_
  have fin : mEv Ls xs 63 (66, [some (.ref 6), some (.int (nI p)), some (.int (nI q)), none], [.ref 6], hM P T (nI 0) s mk (fsP (MS.c s) z') (hE z') fr) (rE P T mk (nI l.length) (mws (wC q (nI 0) (nI 0) (nI 0) (nI 0) :: wF l) s) (fsP (MS.c s) z') (hE z') (nI l.length)) := by
    refine fEv.brT rfl (by decide) ?_
    refine fEv.brT rfl (b4i hq (i := 2) (by decide)) ?_
    rw [k4i hq (by decide)]
    refine fEv.callm rfl (m_wC hq) (fun s1 hs1 => ?_)
    refine fEv.calln rfl (m_release (l := l) (by rw [hs1, t_mwC]; exact hc) hn) ?_
    rw [mws, ← hs1]
    generalize mws (wF l) s1 = s2
    unfold rE
    by_cases hd : MS.dn s2 = 0
    · rw [if_pos hd, if_pos hd]
      refine fEv.brT rfl (decide_eq_true hd) ?_
      refine fEv.brT rfl (decide_eq_true hd) ?_
      exact fEv.retV rfl rfl
    · rw [if_neg hd, if_neg hd]
      refine fEv.brF rfl (decide_eq_false hd) ?_
      refine fEv.brF rfl (decide_eq_false hd) ?_
      exact fEv.retV rfl rfl
  cases hdd : dirP (MS.c s) q with
  | false => exact fEv.brT rfl (by decide) fin
  | true =>
    refine fEv.brF rfl (by decide) ?_
    refine fEv.brT rfl (b4i hq (i := 2) (by decide)) ?_
    rw [k4i hq (by decide)]
    refine fEv.calli rfl (m_namesIn hc) ?_
    rcases hd with hd | hd
    · rw [hd] at hdd; cases hdd
    · exact fEv.brT rfl (decide_eq_true hd) fin
end MU
end
section
/-! the model's other calls -/
def FK (Ls : Nat) (xs : Nat → Int32) (P : Px) (T : mH) (s : MS) (mk : Nat → Int32) (p q : Nat) (X Y : Int32) : Prop :=
  (∀ cd hm he fr, mEv Ls xs 65 (0, [some (.ref 6), some (.int (nI p))], [], (hM P T cd s mk hm he fr)) (rV (nI q) (hM P T cd s mk X Y fr))) ∧
  (∀ cd hm he fr, mEv Ls xs 64 (0, [some (.ref 6), some (.int (nI p))], [], (hM P T cd s mk hm he fr)) (rV (nI 0) (hM P T cd s mk X Y fr)))
section MX
variable {Ls : Nat} {xs : Nat → Int32} {P : Px} {T : mH} {cd hm he fr : Int32} {s : MS} {mk : Nat → Int32} {ch : Nat → List Nat} {R : Nat → Prop} {p q : Nat} {X Y : Int32}
theorem m_FK (h : MS.dn s = 0) (hR : Rc (MS.c s) (MS.t s) ch R) (h32 : R 32) (hp : p < 65536) (h0 : ¬ p = 0) (ho : okP p = true) (hw : wk (MS.c s) ch p = some q) (hq : q < 32) :
    ∃ z, gH (MS.c s) ch p = some z ∧ R z ∧ dirP (MS.c s) z = true ∧ FK Ls xs P T s mk p q (fsP (MS.c s) z) (hE z) := by
  obtain ⟨z, hg, hz1, hz2, -⟩ := m_findY (Ls := Ls) (xs := xs) (P := P) (T := T) (fr := 0) (mk := mk) hR h32 hp ho h0 hw
  refine ⟨z, hg, hz1, hz2, fun cd hm he fr => ?_, fun cd hm he fr => ?_⟩
  · obtain ⟨z', hg', -, -, hh⟩ := m_findY (Ls := Ls) (xs := xs) (P := P) (T := T) (fr := fr) (mk := mk) hR h32 hp ho h0 hw
    have e : z' = z := by rw [hg] at hg'; cases hg'; rfl
    subst e
    exact hh cd hm he
  · obtain ⟨z', hg', -, -, hh⟩ := m_lackY (Ls := Ls) (xs := xs) (P := P) (T := T) (fr := fr) (mk := mk) h hR h32 hp ho h0 hw hq
    have e : z' = z := by rw [hg] at hg'; cases hg'; rfl
    subst e
    exact hh cd hm he
-- rename
theorem m_ren_down {a b : Int32} (h : ¬ MS.dn s = 0) : mEv Ls xs 68 (0, [some (.ref 6), some (.int a), some (.int b), none], [], (hM P T cd s mk hm he fr)) (rV (nI 0) (hM P T (nI 1) s mk hm he fr)) := by
  refine fEv.brF rfl (decide_eq_false h) ?_
  refine fEv.brF rfl (by decide) ?_
  exact fEv.retV rfl rfl
theorem m_ren_bad {a b : Int32} (h : MS.dn s = 0) (hb : badP a) : mEv Ls xs 68 (0, [some (.ref 6), some (.int a), some (.int b), none], [], (hM P T cd s mk hm he fr)) (rV (nI 0) (hM P T (nI 2) s mk hm he fr)) := by
  refine fEv.brT rfl (decide_eq_true h) ?_
  refine fEv.calli rfl (m_bad hb) ?_
  refine fEv.brT rfl (by decide) ?_
  refine fEv.brF rfl (by decide) ?_
  exact fEv.retV rfl rfl
theorem m_ren_name {b : Int32} (h : MS.dn s = 0) (hp : p < 65536) (ho : okP p = true) (hb : b < nI 1 ∨ nI 15 < b) : mEv Ls xs 68 (0, [some (.ref 6), some (.int (nI p)), some (.int b), none], [], (hM P T cd s mk hm he fr)) (rV (nI 0) (hM P T (nI 2) s mk hm he fr)) := by
  refine fEv.brT rfl (decide_eq_true h) ?_
  refine fEv.calli rfl (m_good hp ho) ?_
  refine fEv.brF rfl (by decide) ?_
  refine fEv.calli rfl m_within ?_
  rw [decide_eq_false (by
    rintro ⟨h1, h2⟩
    rcases hb with hb | hb
    · exact Int32.not_lt.mpr h1 hb
    · exact Int32.not_lt.mpr h2 hb : ¬ (nI 1 ≤ b ∧ b ≤ nI 15))]
  refine fEv.brF rfl (by decide) ?_
  refine fEv.brF rfl (by decide) ?_
  exact fEv.retV rfl rfl
theorem mn_pre {b : Nat} {r : mR} (h : MS.dn s = 0) (hp : p < 65536) (ho : okP p = true) (hb1 : 1 ≤ b) (hb2 : b ≤ 15)
    (k : mEv Ls xs 68 (33, [some (.ref 6), some (.int (nI p)), some (.int (nI b)), none], [.ref 6], hM P T cd s mk hm he fr) r) : mEv Ls xs 68 (0, [some (.ref 6), some (.int (nI p)), some (.int (nI b)), none], [], (hM P T cd s mk hm he fr)) r := by
  refine fEv.brT rfl (decide_eq_true h) ?_
  refine fEv.calli rfl (m_good hp ho) ?_
  refine fEv.brF rfl (by decide) ?_
  refine fEv.calli rfl m_within ?_
  rw [decide_eq_true (⟨nI_le hb1 (by omega), nI_le hb2 (by decide)⟩ : nI 1 ≤ nI b ∧ nI b ≤ nI 15)]
  exact fEv.brT rfl (by decide) k
theorem m_ren_no {b : Nat} (h : MS.dn s = 0) (hR : Rc (MS.c s) (MS.t s) ch R) (h32 : R 32) (hp : p < 65536) (ho : okP p = true) (hb1 : 1 ≤ b) (hb2 : b ≤ 15) (hw : wk (MS.c s) ch p = none) :
    ∃ hm' he', mEv Ls xs 68 (0, [some (.ref 6), some (.int (nI p)), some (.int (nI b)), none], [], (hM P T cd s mk hm he fr)) (rV (nI 0) (hM P T (nI 3) s mk hm' he' fr)) := by
  obtain ⟨hm', he', hh⟩ := m_lackN (Ls := Ls) (xs := xs) (P := P) (T := T) (cd := cd) (hm := hm) (he := he) (fr := fr) (mk := mk) h hR h32 hp ho hw
  refine ⟨hm', he', mn_pre h hp ho hb1 hb2 ?_⟩
  refine fEv.calli rfl hh ?_
  refine fEv.brF rfl (by decide) ?_
  exact fEv.retV rfl rfl
theorem m_ren_root {b : Nat} (h : MS.dn s = 0) (hb1 : 1 ≤ b) (hb2 : b ≤ 15) : mEv Ls xs 68 (0, [some (.ref 6), some (.int (nI 0)), some (.int (nI b)), none], [], (hM P T cd s mk hm he fr)) (rV (nI 0) (hM P T (nI 4) s mk hm he fr)) := by
  refine mn_pre h (by decide) (by decide) hb1 hb2 ?_
  refine fEv.calli rfl (m_lack0 h) ?_
  refine fEv.brT rfl (by decide) ?_
  refine fEv.brF rfl (by decide) ?_
  refine fEv.brT rfl (by decide) ?_
  refine fEv.brF rfl (by decide) ?_
  exact fEv.retV rfl rfl
theorem m_ren_is {b a : Nat} {l : List Nat} (h : MS.dn s = 0) (hF : FK Ls xs P T s mk p q X Y) (hp : p < 65536) (h0 : ¬ p = 0) (ho : okP p = true) (hb1 : 1 ≤ b) (hb2 : b ≤ 15) (hc : Chain (MS.t s) X l) (hl : lkO (MS.c s) b l = some a) (ha : a < 32) :
    mEv Ls xs 68 (0, [some (.ref 6), some (.int (nI p)), some (.int (nI b)), none], [], (hM P T cd s mk hm he fr)) (rV (nI 0) (hM P T (nI 4) s mk X Y fr)) := by
  refine mn_pre h hp ho hb1 hb2 ?_
  refine fEv.calli rfl (hF.2 _ _ _ _) ?_
  refine fEv.brT rfl (by decide) ?_
  refine fEv.brT rfl (decide_eq_true (nI_ne0 (by omega) (by omega))) ?_
  refine fEv.calli rfl (hF.1 _ _ _ _) ?_
  refine fEv.brF rfl (decide_eq_false (nI_ne0 (by omega) (by omega))) ?_
  have hen := m_entryIn (Ls := Ls) (xs := xs) (P := P) (T := T) (cd := nI 0) (hm := X) (he := Y) (fr := fr) (s := s) (mk := mk) (nm := nI b) hc
  rw [lkI_eq, hl, oI_some] at hen
  refine fEv.calli rfl hen ?_
  refine fEv.brF rfl (decide_eq_false (nI_pos (by omega))) ?_
  refine fEv.brF rfl (by decide) ?_
  exact fEv.retV rfl rfl
theorem m_ren {b : Nat} {l : List Nat} (h : MS.dn s = 0) (hF : FK Ls xs P T s mk p q X Y) (hq : q < 32) (hp : p < 65536) (h0 : ¬ p = 0) (ho : okP p = true) (hb1 : 1 ≤ b) (hb2 : b ≤ 15) (hc : Chain (MS.t s) X l) (hl : lkO (MS.c s) b l = none) :
    mEv Ls xs 68 (0, [some (.ref 6), some (.int (nI p)), some (.int (nI b)), none], [], (hM P T cd s mk hm he fr)) (rE P T mk (nI p - (nI p &&& nI 15) + nI b) (mws [wK q 0 (nI b)] s) X Y fr) := by
  refine mn_pre h hp ho hb1 hb2 ?_
  refine fEv.calli rfl (hF.2 _ _ _ _) ?_
  refine fEv.brT rfl (by decide) ?_
  refine fEv.brT rfl (decide_eq_true (nI_ne0 (by omega) (by omega))) ?_
  refine fEv.calli rfl (hF.1 _ _ _ _) ?_
  refine fEv.brF rfl (decide_eq_false (nI_ne0 (by omega) (by omega))) ?_
  have hen := m_entryIn (Ls := Ls) (xs := xs) (P := P) (T := T) (cd := nI 0) (hm := X) (he := Y) (fr := fr) (s := s) (mk := mk) (nm := nI b) hc
  rw [lkI_eq, hl, oI_none] at hen
  refine fEv.calli rfl hen ?_
  refine fEv.brT rfl (by decide) ?_
  refine fEv.brT rfl (by decide) ?_
  refine fEv.callm rfl (m_wK (i := 0) hq (by decide)) (fun s1 hs1 => ?_)
  rw [mws, mws, ← hs1]
  unfold rE
  by_cases hd : MS.dn s1 = 0
  · rw [if_pos hd, if_pos hd]
    refine fEv.brT rfl (decide_eq_true hd) ?_
    refine fEv.brT rfl (decide_eq_true hd) ?_
    exact fEv.retV rfl rfl
  · rw [if_neg hd, if_neg hd]
    refine fEv.brF rfl (decide_eq_false hd) ?_
    refine fEv.brF rfl (decide_eq_false hd) ?_
    exact fEv.retV rfl rfl
-- files
theorem m_lofL {a z : Int32} {hm' he' : Int32} (hl : mEv Ls xs 64 (0, [some (.ref 6), some (.int a)], [], (hM P T cd s mk hm he fr)) (rV z (hM P T cd s mk hm' he' fr))) (hz : ¬ z ≤ 0) : mEv Ls xs 71 (0, [some (.ref 6), some (.int a), none], [], (hM P T cd s mk hm he fr)) (rV z (hM P T cd s mk hm' he' fr)) := by
  refine fEv.calli rfl hl ?_
  refine fEv.brF rfl (decide_eq_false hz) ?_
  exact fEv.retV rfl rfl
theorem m_lof0 (h : MS.dn s = 0) : mEv Ls xs 71 (0, [some (.ref 6), some (.int (nI 0)), none], [], (hM P T cd s mk hm he fr)) (rV (nI 4) (hM P T cd s mk hm he fr)) := by
  refine fEv.calli rfl (m_lack0 h) ?_
  refine fEv.brT rfl (by decide) ?_
  refine fEv.brT rfl (by decide) ?_
  exact fEv.retV rfl rfl
theorem m_lofD (hF : FK Ls xs P T s mk p q X Y) (hp : p < 65536) (h0 : ¬ p = 0) (hq : q < 32) (hd : dirP (MS.c s) q = true) : mEv Ls xs 71 (0, [some (.ref 6), some (.int (nI p)), none], [], (hM P T cd s mk hm he fr)) (rV (nI 4) (hM P T cd s mk X Y fr)) := by
  refine fEv.calli rfl (hF.2 _ _ _ _) ?_
  refine fEv.brT rfl (by decide) ?_
  refine fEv.brF rfl (decide_eq_false (nI_ne0 (by omega) (by omega))) ?_
  refine fEv.calli rfl (hF.1 _ _ _ _) ?_
  refine fEv.calli rfl (m_isDir hq) ?_
  rw [hd]
  refine fEv.brF rfl (by decide) ?_
  exact fEv.retV rfl rfl
theorem m_lofY (hF : FK Ls xs P T s mk p q X Y) (hp : p < 65536) (h0 : ¬ p = 0) (hq : q < 32) (hd : dirP (MS.c s) q = false) : mEv Ls xs 71 (0, [some (.ref 6), some (.int (nI p)), none], [], (hM P T cd s mk hm he fr)) (rV (nI 0) (hM P T cd s mk X Y fr)) := by
  refine fEv.calli rfl (hF.2 _ _ _ _) ?_
  refine fEv.brT rfl (by decide) ?_
  refine fEv.brF rfl (decide_eq_false (nI_ne0 (by omega) (by omega))) ?_
  refine fEv.calli rfl (hF.1 _ _ _ _) ?_
  refine fEv.calli rfl (m_isDir hq) ?_
  rw [hd]
  refine fEv.brT rfl (by decide) ?_
  exact fEv.retV rfl rfl
theorem m_locL {a i z : Int32} {hm' he' : Int32} (hl : mEv Ls xs 71 (0, [some (.ref 6), some (.int a), none], [], (hM P T cd s mk hm he fr)) (rV z (hM P T cd s mk hm' he' fr))) (hz : ¬ z ≤ 0) : mEv Ls xs 73 (0, [some (.ref 6), some (.int a), some (.int i), none], [], (hM P T cd s mk hm he fr)) (rV z (hM P T cd s mk hm' he' fr)) := by
  refine fEv.calli rfl hl ?_
  refine fEv.brF rfl (decide_eq_false hz) ?_
  exact fEv.retV rfl rfl
theorem m_loc {len : Nat} {i : Int32} (hF : FK Ls xs P T s mk p q X Y) (hp : p < 65536) (h0 : ¬ p = 0) (hq : q < 32) (hd : dirP (MS.c s) q = false) (hl : MS.c s (4 * q + 3) = nI len) : mEv Ls xs 73 (0, [some (.ref 6), some (.int (nI p)), some (.int i), none], [], (hM P T cd s mk hm he fr)) (rV (if nI 0 ≤ i ∧ i ≤ nI len - nI 1 then nI 0 else nI 5) (hM P T cd s mk X Y fr)) := by
  refine fEv.calli rfl (m_lofY hF hp h0 hq hd) ?_
  refine fEv.brT rfl (by decide) ?_
  refine fEv.calli rfl (hF.1 _ _ _ _) ?_
  refine fEv.brT rfl (b4i hq (i := 3) (by decide)) ?_
  rw [k4i hq (by decide), hl]
  refine fEv.calli rfl m_within ?_
  by_cases hi : nI 0 ≤ i ∧ i ≤ nI len - nI 1
  · rw [decide_eq_true hi, if_pos hi]
    refine fEv.brF rfl (by decide) ?_
    exact fEv.retV rfl rfl
  · rw [decide_eq_false hi, if_neg hi]
    refine fEv.brT rfl (by decide) ?_
    exact fEv.retV rfl rfl
-- get
theorem m_getL {a i z : Int32} {hm' he' : Int32} (hl : mEv Ls xs 73 (0, [some (.ref 6), some (.int a), some (.int i), none], [], (hM P T cd s mk hm he fr)) (rV z (hM P T cd s mk hm' he' fr))) (hz : ¬ z ≤ 0) : mEv Ls xs 72 (0, [some (.ref 6), some (.int a), some (.int i), none], [], (hM P T cd s mk hm he fr)) (rV (nI 0) (hM P T z s mk hm' he' fr)) := by
  refine fEv.calli rfl hl ?_
  refine fEv.brF rfl (decide_eq_false hz) ?_
  exact fEv.retV rfl rfl
theorem m_get {i : Nat} {l : List Nat} (hl : mEv Ls xs 73 (0, [some (.ref 6), some (.int (nI p)), some (.int (nI i)), none], [], (hM P T cd s mk hm he fr)) (rV (nI 0) (hM P T cd s mk X Y fr))) (hF : FK Ls xs P T s mk p q X Y) (hq : q < 32) (hi : i < 1000) (hc : Chain (MS.t s) (MS.c s (4 * q + 2)) l) (hn : i / 4 < l.length) :
    mEv Ls xs 72 (0, [some (.ref 6), some (.int (nI p)), some (.int (nI i)), none], [], (hM P T cd s mk hm he fr)) (rV (MS.c s (4 * l.getD (i / 4) 0 + i % 4)) (hM P T (nI 0) s mk X Y fr)) := by
  have hlt : l.getD (i / 4) 0 < 32 := hc.lt _ (getD_mem hn)
  refine fEv.calli rfl hl ?_
  refine fEv.brT rfl (by decide) ?_
  refine fEv.calli rfl (hF.1 _ _ _ _) ?_
  refine fEv.brT rfl (b4i hq (i := 2) (by decide)) ?_
  rw [k4i hq (by decide)]
  have h2 := m_clusterOf (Ls := Ls) (xs := xs) (P := P) (T := T) (cd := nI 0) (hm := X) (he := Y) (fr := fr) (mk := mk) (q := i / 4) (by omega) hc hn
  rw [← pk_div (d := 4) (by omega) (by decide) (by decide)] at h2
  refine fEv.calli rfl h2 ?_
  have e := rem4 (i := i) (by omega)
  refine fEv.brT rfl (by show mInb (nI 4 * nI _ + (nI i - nI i / nI 4 * nI 4)) 128 = true; rw [e]; exact b4i hlt (by omega)) ?_
  have e2 : (nI 4 * nI (l.getD (i / 4) 0) + (nI i - nI i / nI 4 * nI 4)).toNatClampNeg = 4 * l.getD (i / 4) 0 + i % 4 := by rw [e]; exact k4i hlt (by omega)
  rw [← e2]
  exact fEv.retV rfl rfl
-- put
theorem m_putL {a i v z : Int32} {hm' he' : Int32} (hl : mEv Ls xs 73 (0, [some (.ref 6), some (.int a), some (.int i), none], [], (hM P T cd s mk hm he fr)) (rV z (hM P T cd s mk hm' he' fr))) (hz : ¬ z ≤ 0) : mEv Ls xs 75 (0, [some (.ref 6), some (.int a), some (.int i), some (.int v), none, none], [], (hM P T cd s mk hm he fr)) (rV (nI 0) (hM P T z s mk hm' he' fr)) := by
  refine fEv.calli rfl hl ?_
  refine fEv.brF rfl (decide_eq_false hz) ?_
  exact fEv.retV rfl rfl
theorem m_put {i : Nat} {v : Int32} {l : List Nat} (hl : mEv Ls xs 73 (0, [some (.ref 6), some (.int (nI p)), some (.int (nI i)), none], [], (hM P T cd s mk hm he fr)) (rV (nI 0) (hM P T cd s mk X Y fr))) (hF : FK Ls xs P T s mk p q X Y) (hq : q < 32) (hi : i < 1000) (hc : Chain (MS.t s) (MS.c s (4 * q + 2)) l) (hn : i / 4 < l.length) :
    mEv Ls xs 75 (0, [some (.ref 6), some (.int (nI p)), some (.int (nI i)), some (.int v), none, none], [], (hM P T cd s mk hm he fr)) (rE P T mk (MS.c s (4 * l.getD (i / 4) 0 + i % 4)) (mws [wK (l.getD (i / 4) 0) (i % 4) v] s) X Y fr) := by
  have hlt : l.getD (i / 4) 0 < 32 := hc.lt _ (getD_mem hn)
  refine fEv.calli rfl hl ?_
  refine fEv.brT rfl (by decide) ?_
  refine fEv.calli rfl (hF.1 _ _ _ _) ?_
  refine fEv.brT rfl (b4i hq (i := 2) (by decide)) ?_
  rw [k4i hq (by decide)]
  have h2 := m_clusterOf (Ls := Ls) (xs := xs) (P := P) (T := T) (cd := nI 0) (hm := X) (he := Y) (fr := fr) (mk := mk) (q := i / 4) (by omega) hc hn
  rw [← pk_div (d := 4) (by omega) (by decide) (by decide)] at h2
  refine fEv.calli rfl h2 ?_
  have e := rem4 (i := i) (by omega)
  refine fEv.brT rfl (by show mInb (nI 4 * nI _ + (nI i - nI i / nI 4 * nI 4)) 128 = true; rw [e]; exact b4i hlt (by omega)) ?_
  have e2 : (nI 4 * nI (l.getD (i / 4) 0) + (nI i - nI i / nI 4 * nI 4)).toNatClampNeg = 4 * l.getD (i / 4) 0 + i % 4 := by rw [e]; exact k4i hlt (by omega)
  rw [← e2]
  have h3 := m_wK (Ls := Ls) (xs := xs) (P := P) (T := T) (cd := nI 0) (hm := X) (he := Y) (fr := fr) (mk := mk) (s := s) (v := v) hlt (show i % 4 < 4 by omega)
  rw [← e] at h3
  refine fEv.callm rfl h3 (fun s1 hs1 => ?_)
  rw [mws, mws, ← hs1]
  unfold rE
  by_cases hd : MS.dn s1 = 0
  · rw [if_pos hd, if_pos hd]
    refine fEv.brT rfl (decide_eq_true hd) ?_
    refine fEv.brT rfl (decide_eq_true hd) ?_
    exact fEv.retV rfl rfl
  · rw [if_neg hd, if_neg hd]
    refine fEv.brF rfl (decide_eq_false hd) ?_
    refine fEv.brF rfl (decide_eq_false hd) ?_
    exact fEv.retV rfl rfl
end MX
end
section
/-! the model's append, shorten, length, names, free, small ones -/
def cntN (c : Nat → Int32) (k : Nat) (l : List Nat) : Nat :=
  match l with
  | [] => k
  | a :: l => cntN c (if c (4 * a) ≤ 0 then k else k + 1) l
section MY
variable {Ls : Nat} {xs : Nat → Int32} {P : Px} {T : mH} {cd hm he fr : Int32} {s : MS} {mk : Nat → Int32} {ch : Nat → List Nat} {R : Nat → Prop} {p q : Nat} {X Y : Int32}
theorem m_appL {a v z : Int32} {hm' he' : Int32} (hl : mEv Ls xs 71 (0, [some (.ref 6), some (.int a), none], [], (hM P T cd s mk hm he fr)) (rV z (hM P T cd s mk hm' he' fr))) (hz : ¬ z ≤ 0) : mEv Ls xs 70 (0, [some (.ref 6), some (.int a), some (.int v), none, none, none, none, none], [], (hM P T cd s mk hm he fr)) (rV (nI 0) (hM P T z s mk hm' he' fr)) := by
  refine fEv.calli rfl hl ?_
  refine fEv.brF rfl (decide_eq_false hz) ?_
  exact fEv.retV rfl rfl
theorem ma_pre {len : Nat} {v f la : Int32} {r : mR} (hF : FK Ls xs P T s mk p q X Y) (hp : p < 65536) (h0 : ¬ p = 0) (hq : q < 32) (hd : dirP (MS.c s) q = false) (hl : MS.c s (4 * q + 3) = nI len) (hf : MS.c s (4 * q + 2) = f) (hla : mEv Ls xs 61 (0, [some (.ref 6), some (.int f), none], [], (hM P T (nI 0) s mk X Y fr)) (rV la (hM P T (nI 0) s mk X Y fr)))
    (k : mEv Ls xs 70 (56, [some (.ref 6), some (.int (nI p)), some (.int v), some (.int (nI q)), some (.int f), some (.int (nI len)), some (.int la), none], [], hM P T (nI 0) s mk X Y fr) r) : mEv Ls xs 70 (0, [some (.ref 6), some (.int (nI p)), some (.int v), none, none, none, none, none], [], (hM P T cd s mk hm he fr)) r := by
  refine fEv.calli rfl (m_lofY hF hp h0 hq hd) ?_
  refine fEv.brT rfl (by decide) ?_
  refine fEv.calli rfl (hF.1 _ _ _ _) ?_
  refine fEv.brT rfl (b4i hq (i := 2) (by decide)) ?_
  rw [k4i hq (by decide), hf]
  refine fEv.brT rfl (b4i hq (i := 3) (by decide)) ?_
  rw [k4i hq (by decide), hl]
  refine fEv.calli rfl hla ?_
  exact fEv.steps 1 rfl k
theorem ma_end {len : Nat} {p v f la o7 : Option Value} {q : Option Value} (s : MS) : mEv Ls xs 70 (157, [some (.ref 6), p, v, q, f, some (.int (nI len)), la, o7], [], hM P T (nI 0) s mk hm he fr) (rE P T mk (nI (len + 1)) s hm he fr) := by
  unfold rE
  rw [← nI_add]
  by_cases hd : MS.dn s = 0
  · rw [if_pos hd, if_pos hd]
    refine fEv.brT rfl (decide_eq_true hd) ?_
    refine fEv.brT rfl (decide_eq_true hd) ?_
    exact fEv.retV rfl rfl
  · rw [if_neg hd, if_neg hd]
    refine fEv.brF rfl (decide_eq_false hd) ?_
    refine fEv.brF rfl (decide_eq_false hd) ?_
    exact fEv.retV rfl rfl
theorem m_app_in {len b : Nat} {v : Int32} {l : List Nat} (hF : FK Ls xs P T s mk p q X Y) (hp : p < 65536) (h0 : ¬ p = 0) (hq : q < 32) (hd : dirP (MS.c s) q = false) (hl : MS.c s (4 * q + 3) = nI len) (hlen : len ≤ 128) (h4 : ¬ len % 4 = 0) (hb : MS.c s (4 * q + 2) = nI b) (hb3 : b < 32) (hc : Chain (MS.t s) (MS.t s b) l) (hla : lastI b l < 32) (hql : q ≠ lastI b l) :
    mEv Ls xs 70 (0, [some (.ref 6), some (.int (nI p)), some (.int v), none, none, none, none, none], [], (hM P T cd s mk hm he fr)) (rE P T mk (nI (len + 1)) (mws [wK (lastI b l) (len % 4) v, wK q 3 (nI (len + 1))] s) X Y fr) := by
  refine ma_pre hF hp h0 hq hd hl hb (m_lastOf hb3 hc) ?_
  have e := rem4 (i := len) (by omega)
  refine fEv.brF rfl (decide_eq_false (by show ¬ nI len - nI len / nI 4 * nI 4 = 0; rw [e]; exact nI_ne0 (by omega) (by omega))) ?_
  have h3 := m_wK (Ls := Ls) (xs := xs) (P := P) (T := T) (cd := nI 0) (hm := X) (he := Y) (fr := fr) (mk := mk) (s := s) (v := v) hla (show len % 4 < 4 by omega)
  rw [← e] at h3
  refine fEv.callm rfl h3 (fun s1 hs1 => ?_)
  refine fEv.callm rfl (m_wE hq) (fun s2 hs2 => ?_)
  have e3 : s2 = mw (wK q 3 (nI (len + 1))) s1 := by
    rw [hs2]
    refine mw_congr ?_
    show (w4 (MS.c s1) q _ _ _ _, MS.t s1) = (upd (MS.c s1) (4 * q + 3) (nI (len + 1)), MS.t s1)
    rw [w4_3 (by rw [hs1, c_mwK hql (by decide) (by omega)]; exact hb), ← nI_add]
  rw [mws, mws, mws, ← hs1, ← e3]
  exact fEv.steps 1 rfl (ma_end s2)
theorem m_app_full {len : Nat} {v f la : Int32} (hF : FK Ls xs P T s mk p q X Y) (hp : p < 65536) (h0 : ¬ p = 0) (hq : q < 32) (hd : dirP (MS.c s) q = false) (hl : MS.c s (4 * q + 3) = nI len) (hlen : len ≤ 128) (h4 : len % 4 = 0) (hf : MS.c s (4 * q + 2) = f) (hla : mEv Ls xs 61 (0, [some (.ref 6), some (.int f), none], [], (hM P T (nI 0) s mk X Y fr)) (rV la (hM P T (nI 0) s mk X Y fr))) (hfu : ∀ i, i < 32 → ¬ MS.t s i = -2) :
    mEv Ls xs 70 (0, [some (.ref 6), some (.int (nI p)), some (.int v), none, none, none, none, none], [], (hM P T cd s mk hm he fr)) (rV (nI 0) (hM P T (nI 5) s mk X Y fr)) := by
  refine ma_pre hF hp h0 hq hd hl hf hla ?_
  have e := rem4 (i := len) (by omega)
  refine fEv.brT rfl (decide_eq_true (by show nI len - nI len / nI 4 * nI 4 = 0; rw [e, h4]; rfl)) ?_
  refine fEv.calli rfl (m_takenN hfu) ?_
  refine fEv.brF rfl (by decide) ?_
  exact fEv.retV rfl rfl
theorem m_app_new0 {a : Nat} {v : Int32} (hF : FK Ls xs P T s mk p q X Y) (hp : p < 65536) (h0 : ¬ p = 0) (hq : q < 32) (hd : dirP (MS.c s) q = false) (hl : MS.c s (4 * q + 3) = nI 0) (hf : MS.c s (4 * q + 2) = -1) (ha : a < 32) (hfa : MS.t s a = -2) (hmn : ∀ i, i < a → ¬ MS.t s i = -2) (hqa : q ≠ a) :
    mEv Ls xs 70 (0, [some (.ref 6), some (.int (nI p)), some (.int v), none, none, none, none, none], [], (hM P T cd s mk hm he fr)) (rE P T mk (nI (0 + 1)) (mws [wC a v (nI 0) (nI 0) (nI 0), wT a (-1), wC q (MS.c s (4 * q)) (MS.c s (4 * q + 1)) (nI a) (nI 1)] s) X Y fr) := by
  refine ma_pre hF hp h0 hq hd hl hf m_lastOfN ?_
  refine fEv.brT rfl (by decide) ?_
  refine fEv.calli rfl (m_taken ha hfa hmn) ?_
  refine fEv.brT rfl (decide_eq_true (nI_pos' (by omega))) ?_
  refine fEv.callm rfl (m_wC ha) (fun s1 hs1 => ?_)
  refine fEv.callm rfl (m_wT ha) (fun s2 hs2 => ?_)
  refine fEv.brT rfl (by decide) ?_
  refine fEv.brF rfl (by decide) ?_
  refine fEv.callm rfl (m_wE hq) (fun s3 hs3 => ?_)
  have c0 : MS.c s2 (4 * q) = MS.c s (4 * q) := by rw [hs2, c_mwT, hs1]; exact c_mwC (i := 0) hqa (by decide)
  have c1 : MS.c s2 (4 * q + 1) = MS.c s (4 * q + 1) := by rw [hs2, c_mwT, hs1]; exact c_mwC hqa (by decide)
  rw [c0, c1] at hs3
  have hs3 : s3 = mw (wC q (MS.c s (4 * q)) (MS.c s (4 * q + 1)) (nI a) (nI 1)) s2 := hs3
  rw [mws, mws, mws, mws, ← hs1, ← hs2, ← hs3]
  exact ma_end s3
theorem m_app_new1 {a b len : Nat} {v : Int32} {l : List Nat} (hF : FK Ls xs P T s mk p q X Y) (hp : p < 65536) (h0 : ¬ p = 0) (hq : q < 32) (hd : dirP (MS.c s) q = false) (hl : MS.c s (4 * q + 3) = nI len) (hlen : len ≤ 128) (h4 : len % 4 = 0) (hl0 : ¬ len = 0) (hb : MS.c s (4 * q + 2) = nI b) (hb3 : b < 32) (hc : Chain (MS.t s) (MS.t s b) l) (hla : lastI b l < 32) (ha : a < 32) (hfa : MS.t s a = -2) (hmn : ∀ i, i < a → ¬ MS.t s i = -2) (hqa : q ≠ a) :
    mEv Ls xs 70 (0, [some (.ref 6), some (.int (nI p)), some (.int v), none, none, none, none, none], [], (hM P T cd s mk hm he fr)) (rE P T mk (nI (len + 1)) (mws [wC a v (nI 0) (nI 0) (nI 0), wT a (-1), wT (lastI b l) (nI a), wC q (MS.c s (4 * q)) (MS.c s (4 * q + 1)) (nI b) (nI (len + 1))] s) X Y fr) := by
  refine ma_pre hF hp h0 hq hd hl hb (m_lastOf hb3 hc) ?_
  have e := rem4 (i := len) (by omega)
  refine fEv.brT rfl (decide_eq_true (by show nI len - nI len / nI 4 * nI 4 = 0; rw [e, h4]; rfl)) ?_
  refine fEv.calli rfl (m_taken ha hfa hmn) ?_
  refine fEv.brT rfl (decide_eq_true (nI_pos' (by omega))) ?_
  refine fEv.callm rfl (m_wC ha) (fun s1 hs1 => ?_)
  refine fEv.callm rfl (m_wT ha) (fun s2 hs2 => ?_)
  refine fEv.brF rfl (decide_eq_false (nI_ne0 (by omega) (by omega))) ?_
  refine fEv.callm rfl (m_wT hla) (fun s3 hs3 => ?_)
  refine fEv.brT rfl (decide_eq_true (nI_ne0 (by omega) (by omega))) ?_
  refine fEv.callm rfl (m_wE hq) (fun s4 hs4 => ?_)
  have c0 : MS.c s3 (4 * q) = MS.c s (4 * q) := by rw [hs3, c_mwT, hs2, c_mwT, hs1]; exact c_mwC (i := 0) hqa (by decide)
  have c1 : MS.c s3 (4 * q + 1) = MS.c s (4 * q + 1) := by rw [hs3, c_mwT, hs2, c_mwT, hs1]; exact c_mwC hqa (by decide)
  have hs4 : s4 = mw (wC q (MS.c s3 (4 * q)) (MS.c s3 (4 * q + 1)) (nI b) (nI len + nI 1)) s3 := hs4
  rw [c0, c1, nI_add] at hs4
  rw [mws, mws, mws, mws, mws, ← hs1, ← hs2, ← hs3, ← hs4]
  exact ma_end s4
-- shorten
theorem m_shoL {a v z : Int32} {hm' he' : Int32} (hl : mEv Ls xs 71 (0, [some (.ref 6), some (.int a), none], [], (hM P T cd s mk hm he fr)) (rV z (hM P T cd s mk hm' he' fr))) (hz : ¬ z ≤ 0) : mEv Ls xs 76 (0, [some (.ref 6), some (.int a), some (.int v), none, none, none, none, none, none, none], [], (hM P T cd s mk hm he fr)) (rV (nI 0) (hM P T z s mk hm' he' fr)) := by
  refine fEv.calli rfl hl ?_
  refine fEv.brF rfl (decide_eq_false hz) ?_
  exact fEv.retV rfl rfl
theorem ms_pre {len : Nat} {v : Int32} {r : mR} (hF : FK Ls xs P T s mk p q X Y) (hp : p < 65536) (h0 : ¬ p = 0) (hq : q < 32) (hd : dirP (MS.c s) q = false) (hl : MS.c s (4 * q + 3) = nI len)
    (k : mEv Ls xs 76 (44, [some (.ref 6), some (.int (nI p)), some (.int v), some (.int (nI q)), some (.int (nI len)), none, none, none, none, none], [.int (bI (decide (nI 0 ≤ v ∧ v ≤ nI len))), .ref 6], hM P T (nI 0) s mk X Y fr) r) : mEv Ls xs 76 (0, [some (.ref 6), some (.int (nI p)), some (.int v), none, none, none, none, none, none, none], [], (hM P T cd s mk hm he fr)) r := by
  refine fEv.calli rfl (m_lofY hF hp h0 hq hd) ?_
  refine fEv.brT rfl (by decide) ?_
  refine fEv.calli rfl (hF.1 _ _ _ _) ?_
  refine fEv.brT rfl (b4i hq (i := 3) (by decide)) ?_
  rw [k4i hq (by decide), hl]
  exact fEv.calli rfl m_within k
theorem m_sho_ix {len : Nat} {v : Int32} (hF : FK Ls xs P T s mk p q X Y) (hp : p < 65536) (h0 : ¬ p = 0) (hq : q < 32) (hd : dirP (MS.c s) q = false) (hl : MS.c s (4 * q + 3) = nI len) (hi : v < 0 ∨ nI len < v) :
    mEv Ls xs 76 (0, [some (.ref 6), some (.int (nI p)), some (.int v), none, none, none, none, none, none, none], [], (hM P T cd s mk hm he fr)) (rV (nI 0) (hM P T (nI 5) s mk X Y fr)) := by
  refine ms_pre hF hp h0 hq hd hl ?_
  rw [decide_eq_false (by
    rintro ⟨h1, h2⟩
    rcases hi with hi | hi
    · exact Int32.not_lt.mpr h1 hi
    · exact Int32.not_lt.mpr h2 hi : ¬ (nI 0 ≤ v ∧ v ≤ nI len))]
  refine fEv.brT rfl (by decide) ?_
  refine fEv.brT rfl (by decide) ?_
  exact fEv.retV rfl rfl
theorem m_sho_same {len : Nat} (hF : FK Ls xs P T s mk p q X Y) (hp : p < 65536) (h0 : ¬ p = 0) (hq : q < 32) (hd : dirP (MS.c s) q = false) (hl : MS.c s (4 * q + 3) = nI len) (hlen : len ≤ 128) :
    mEv Ls xs 76 (0, [some (.ref 6), some (.int (nI p)), some (.int (nI len)), none, none, none, none, none, none, none], [], (hM P T cd s mk hm he fr)) (rV (nI 0) (hM P T (nI 0) s mk X Y fr)) := by
  refine ms_pre hF hp h0 hq hd hl ?_
  rw [decide_eq_true (⟨nI_pos' (by omega), Int32.le_refl _⟩ : nI 0 ≤ nI len ∧ nI len ≤ nI len)]
  refine fEv.brF rfl (by decide) ?_
  refine fEv.brF rfl (by decide) ?_
  refine fEv.brF rfl (decide_eq_false (fun z => z rfl)) ?_
  exact fEv.retV rfl rfl
theorem ms_pre2 {len m : Nat} {r : mR} (hF : FK Ls xs P T s mk p q X Y) (hp : p < 65536) (h0 : ¬ p = 0) (hq : q < 32) (hd : dirP (MS.c s) q = false) (hl : MS.c s (4 * q + 3) = nI len) (hlen : len ≤ 128) (hm0 : m < len)
    (k : mEv Ls xs 76 (97, [some (.ref 6), some (.int (nI p)), some (.int (nI m)), some (.int (nI q)), some (.int (nI len)), some (.int (MS.c s (4 * q + 2))), some (.int (nI ((m + 3) / 4))), some (.int (nI ((len + 3) / 4))), none, none], [], hM P T (nI 0) s mk X Y fr) r) : mEv Ls xs 76 (0, [some (.ref 6), some (.int (nI p)), some (.int (nI m)), none, none, none, none, none, none, none], [], (hM P T cd s mk hm he fr)) r := by
  refine ms_pre hF hp h0 hq hd hl ?_
  rw [decide_eq_true (⟨nI_pos' (by omega), nI_le (by omega) (by omega)⟩ : nI 0 ≤ nI m ∧ nI m ≤ nI len)]
  refine fEv.brF rfl (by decide) ?_
  refine fEv.brF rfl (by decide) ?_
  refine fEv.brT rfl (decide_eq_true (nI_neq (by omega) (by omega) (by omega))) ?_
  refine fEv.brT rfl (b4i hq (i := 2) (by decide)) ?_
  rw [k4i hq (by decide)]
  rw [← pk_div (a := m + 3) (d := 4) (by omega) (by decide) (by decide), ← pk_div (a := len + 3) (d := 4) (by omega) (by decide) (by decide), ← nI_add, ← nI_add] at k
  exact fEv.steps 13 rfl k
theorem ms_end {p v q len f a b x y : Option Value} {z : Int32} (s : MS) : mEv Ls xs 76 (177, [some (.ref 6), p, v, q, len, f, a, b, x, y], [], hM P T (nI 0) s mk hm he z) (rE P T mk z s hm he z) := by
  unfold rE
  by_cases hd : MS.dn s = 0
  · rw [if_pos hd, if_pos hd]
    refine fEv.brT rfl (decide_eq_true hd) ?_
    refine fEv.brT rfl (decide_eq_true hd) ?_
    exact fEv.retV rfl rfl
  · rw [if_neg hd, if_neg hd]
    refine fEv.brF rfl (decide_eq_false hd) ?_
    refine fEv.brF rfl (decide_eq_false hd) ?_
    exact fEv.retV rfl rfl
theorem m_sho_all {len : Nat} {l : List Nat} (hF : FK Ls xs P T s mk p q X Y) (hp : p < 65536) (h0 : ¬ p = 0) (hq : q < 32) (hd : dirP (MS.c s) q = false) (hl : MS.c s (4 * q + 3) = nI len) (hlen : len ≤ 128) (hl0 : ¬ len = 0) (hc : Chain (MS.t s) (MS.c s (4 * q + 2)) l) (hn : l.Nodup) (hll : 0 < l.length) :
    mEv Ls xs 76 (0, [some (.ref 6), some (.int (nI p)), some (.int (nI 0)), none, none, none, none, none, none, none], [], (hM P T cd s mk hm he fr)) (rE P T mk (nI l.length) (mws (wC q (MS.c s (4 * q)) (MS.c s (4 * q + 1)) (-1) (nI 0) :: wF l) s) X Y (nI l.length)) := by
  refine ms_pre2 hF hp h0 hq hd hl hlen (by omega) ?_
  refine fEv.brF rfl (decide_eq_false (nI_ge (a := (0 + 3) / 4) (by omega) (by omega))) ?_
  refine fEv.calli rfl (m_clusterOf (q := (0 + 3) / 4) (by omega) hc hll) ?_
  refine fEv.brT rfl (by decide) ?_
  refine fEv.brF rfl (by decide) ?_
  refine fEv.callm rfl (m_wE hq) (fun s1 hs1 => ?_)
  have hlt : l.getD ((0 + 3) / 4) 0 < 32 := hc.lt _ (getD_mem hll)
  refine fEv.brF rfl (decide_eq_false (nI_pos (by omega))) ?_
  refine fEv.brT rfl (by decide) ?_
  have hc1 : Chain (MS.t s1) (nI (l.getD ((0 + 3) / 4) 0)) l := by
    rw [hs1, t_mwC]
    cases l with
    | nil => cases hll
    | cons a l => have := hc.1; rw [this] at hc; exact hc
  refine fEv.calln rfl (m_release hc1 hn) ?_
  rw [mws, ← hs1]
  exact ms_end _
theorem m_sho_in {len m : Nat} {l : List Nat} (hF : FK Ls xs P T s mk p q X Y) (hp : p < 65536) (h0 : ¬ p = 0) (hq : q < 32) (hd : dirP (MS.c s) q = false) (hl : MS.c s (4 * q + 3) = nI len) (hlen : len ≤ 128) (hm0 : 0 < m) (hml : m < len) (hc : Chain (MS.t s) (MS.c s (4 * q + 2)) l) (hk : (m + 3) / 4 = (len + 3) / 4) (hll : (len + 3) / 4 = l.length) :
    mEv Ls xs 76 (0, [some (.ref 6), some (.int (nI p)), some (.int (nI m)), none, none, none, none, none, none, none], [], (hM P T cd s mk hm he fr)) (rE P T mk (nI 0) (mws [wC q (MS.c s (4 * q)) (MS.c s (4 * q + 1)) (MS.c s (4 * q + 2)) (nI m)] s) X Y (nI 0)) := by
  refine ms_pre2 hF hp h0 hq hd hl hlen hml ?_
  rw [hk]
  refine fEv.brT rfl (decide_eq_true (Int32.le_refl _)) ?_
  refine fEv.brF rfl (decide_eq_false (nI_nle (by omega) (by omega))) ?_
  have h2 := m_clusterOf (Ls := Ls) (xs := xs) (P := P) (T := T) (cd := nI 0) (hm := X) (he := Y) (fr := fr) (mk := mk) (q := (len + 3) / 4 - 1) (by omega) hc (by omega)
  rw [← pk_sub (b := 1) (by omega)] at h2
  refine fEv.calli rfl h2 ?_
  refine fEv.brT rfl (decide_eq_true (nI_ne0 (by omega) (by omega))) ?_
  refine fEv.callm rfl (m_wE hq) (fun s1 hs1 => ?_)
  refine fEv.brT rfl (by decide) ?_
  refine fEv.calln rfl (m_release (l := []) rfl List.nodup_nil) ?_
  rw [mws, mws, ← hs1]
  exact ms_end s1
theorem m_sho_cut {len m b : Nat} {l l2 : List Nat} (hF : FK Ls xs P T s mk p q X Y) (hp : p < 65536) (h0 : ¬ p = 0) (hq : q < 32) (hd : dirP (MS.c s) q = false) (hl : MS.c s (4 * q + 3) = nI len) (hlen : len ≤ 128) (hm0 : 0 < m) (hml : m < len) (hc : Chain (MS.t s) (MS.c s (4 * q + 2)) l) (hk : (m + 3) / 4 < (len + 3) / 4) (hll : (len + 3) / 4 = l.length)
    (hb : l.getD ((m + 3) / 4) 0 = b) (hb3 : b < 32) (hc2 : Chain (MS.t s) (MS.t s b) l2) (hn : (b :: l2).Nodup) (hal : l.getD ((m - 1) / 4) 0 ∉ b :: l2) :
    mEv Ls xs 76 (0, [some (.ref 6), some (.int (nI p)), some (.int (nI m)), none, none, none, none, none, none, none], [], (hM P T cd s mk hm he fr)) (rE P T mk (nI (l2.length + 1)) (mws (wC q (MS.c s (4 * q)) (MS.c s (4 * q + 1)) (MS.c s (4 * q + 2)) (nI m) :: wT (l.getD ((m - 1) / 4) 0) (-1) :: wF (b :: l2)) s) X Y (nI (l2.length + 1))) := by
  have hkm : (m + 3) / 4 - 1 = (m - 1) / 4 := by omega
  have hlt : l.getD ((m - 1) / 4) 0 < 32 := hc.lt _ (getD_mem (by omega))
  refine ms_pre2 hF hp h0 hq hd hl hlen hml ?_
  refine fEv.brF rfl (decide_eq_false (nI_ge hk (by omega))) ?_
  refine fEv.calli rfl (m_clusterOf (q := (m + 3) / 4) (by omega) hc (by omega)) ?_
  rw [hb]
  refine fEv.brF rfl (decide_eq_false (nI_nle (by omega) (by omega))) ?_
  have h2 := m_clusterOf (Ls := Ls) (xs := xs) (P := P) (T := T) (cd := nI 0) (hm := X) (he := Y) (fr := fr) (mk := mk) (q := (m + 3) / 4 - 1) (by omega) hc (by omega)
  rw [← pk_sub (b := 1) (by omega), hkm] at h2
  refine fEv.calli rfl h2 ?_
  refine fEv.brT rfl (decide_eq_true (nI_ne0 (by omega) (by omega))) ?_
  refine fEv.callm rfl (m_wE hq) (fun s1 hs1 => ?_)
  refine fEv.brF rfl (decide_eq_false (nI_pos (by omega))) ?_
  refine fEv.brF rfl (decide_eq_false (nI_ne0 (by omega) (by omega))) ?_
  refine fEv.callm rfl (m_wT hlt) (fun s2 hs2 => ?_)
  have hc3 : Chain (MS.t s2) (nI b) (b :: l2) := by
    rw [hs2]
    refine Chain_mw ?_ hal
    rw [hs1, t_mwC]
    exact ⟨rfl, hb3, hc2⟩
  refine fEv.calln rfl (m_release hc3 hn) ?_
  rw [mws, mws, ← hs1, ← hs2]
  exact ms_end _
-- length
theorem m_lgtL {a z : Int32} {hm' he' : Int32} (hl : mEv Ls xs 64 (0, [some (.ref 6), some (.int a)], [], (hM P T cd s mk hm he fr)) (rV z (hM P T cd s mk hm' he' fr))) (hz : ¬ z ≤ 0) : mEv Ls xs 77 (0, [some (.ref 6), some (.int a), none, none, none], [], (hM P T cd s mk hm he fr)) (rV (nI 0) (hM P T z s mk hm' he' fr)) := by
  refine fEv.calli rfl hl ?_
  refine fEv.brF rfl (decide_eq_false hz) ?_
  exact fEv.retV rfl rfl
theorem mg_loop {pv e : Int32} : ∀ (l : List Nat) (x : Int32) (k : Nat), Chain (MS.t s) x l → mEv Ls xs 77 (73, [some (.ref 6), some (.int pv), some (.int e), some (.int (nI k)), some (.int x)], [], hM P T cd s mk hm he fr) (rV (-1 - nI (cntN (MS.c s) k l)) (hM P T cd s mk hm he fr)) := by
  intro l
  induction l with
  | nil =>
    intro x k hx
    have hx : x = -1 := hx
    subst hx
    refine fEv.brT rfl (by decide) ?_
    exact fEv.retV rfl rfl
  | cons a l ih =>
    intro x k hx
    obtain ⟨rfl, ha, hc⟩ := hx
    refine fEv.brF rfl (decide_eq_false (nI_pos (by omega))) ?_
    refine fEv.brT rfl (b4 ha) ?_
    rw [k4 ha]
    have h2 := ih (MS.t s a) (if MS.c s (4 * a) ≤ 0 then k else k + 1) hc
    rw [cntN]
    refine fEv.br rfl (fun h1 => ?_) (fun h1 => ?_)
    · rw [if_pos h1] at h2 ⊢
      refine fEv.brT rfl (bT ha) ?_
      rw [kT ha]
      exact fEv.steps 2 rfl h2
    · rw [if_neg h1] at h2 ⊢
      refine fEv.brT rfl (bT ha) ?_
      rw [kT ha]
      rw [← nI_add k 1] at h2
      exact fEv.steps 2 rfl h2
theorem m_lgt_file (hF : FK Ls xs P T s mk p q X Y) (hp : p < 65536) (h0 : ¬ p = 0) (hq : q < 32) (hd : dirP (MS.c s) q = false) : mEv Ls xs 77 (0, [some (.ref 6), some (.int (nI p)), none, none, none], [], (hM P T cd s mk hm he fr)) (rV (MS.c s (4 * q + 3)) (hM P T (nI 0) s mk X Y fr)) := by
  refine fEv.calli rfl (hF.2 _ _ _ _) ?_
  refine fEv.brT rfl (by decide) ?_
  refine fEv.brT rfl (decide_eq_true (nI_ne0 (by omega) (by omega))) ?_
  refine fEv.calli rfl (hF.1 _ _ _ _) ?_
  refine fEv.calli rfl (m_isDir hq) ?_
  rw [hd]
  refine fEv.brF rfl (by decide) ?_
  refine fEv.brT rfl (b4i hq (i := 3) (by decide)) ?_
  rw [k4i hq (by decide)]
  exact fEv.retV rfl rfl
theorem m_lgt_dir {l : List Nat} (hF : FK Ls xs P T s mk p q X Y) (hp : p < 65536) (h0 : ¬ p = 0) (hq : q < 32) (hd : dirP (MS.c s) q = true) (hc : Chain (MS.t s) (MS.c s (4 * q + 2)) l) : mEv Ls xs 77 (0, [some (.ref 6), some (.int (nI p)), none, none, none], [], (hM P T cd s mk hm he fr)) (rV (-1 - nI (cntN (MS.c s) 0 l)) (hM P T (nI 0) s mk X Y fr)) := by
  refine fEv.calli rfl (hF.2 _ _ _ _) ?_
  refine fEv.brT rfl (by decide) ?_
  refine fEv.brT rfl (decide_eq_true (nI_ne0 (by omega) (by omega))) ?_
  refine fEv.calli rfl (hF.1 _ _ _ _) ?_
  refine fEv.calli rfl (m_isDir hq) ?_
  rw [hd]
  refine fEv.brT rfl (by decide) ?_
  refine fEv.brT rfl (decide_eq_true (nI_pos' (by omega))) ?_
  refine fEv.brT rfl (b4i hq (i := 2) (by decide)) ?_
  rw [k4i hq (by decide)]
  exact fEv.steps 1 rfl (mg_loop l _ 0 hc)
theorem m_lgt_root {l : List Nat} (h : MS.dn s = 0) (hc : Chain (MS.t s) (nI 0) l) : mEv Ls xs 77 (0, [some (.ref 6), some (.int (nI 0)), none, none, none], [], (hM P T cd s mk hm he fr)) (rV (-1 - nI (cntN (MS.c s) 0 l)) (hM P T (nI 0) s mk hm he fr)) := by
  refine fEv.calli rfl (m_lack0 h) ?_
  refine fEv.brT rfl (by decide) ?_
  refine fEv.brF rfl (by decide) ?_
  refine fEv.calli rfl m_isDirR ?_
  refine fEv.brT rfl (by decide) ?_
  refine fEv.brF rfl (by decide) ?_
  exact fEv.steps 3 rfl (mg_loop l _ 0 hc)
-- names
theorem m_namL {a z : Int32} {hm' he' : Int32} (hl : mEv Ls xs 64 (0, [some (.ref 6), some (.int a)], [], (hM P T cd s mk hm he fr)) (rV z (hM P T cd s mk hm' he' fr))) (hz : ¬ z ≤ 0) : mEv Ls xs 78 (0, [some (.ref 6), some (.int a), none], [], (hM P T cd s mk hm he fr)) (rV (nI 0) (hM P T z s mk hm' he' fr)) := by
  refine fEv.calli rfl hl ?_
  refine fEv.brF rfl (decide_eq_false hz) ?_
  exact fEv.retV rfl rfl
theorem m_nam_file (hF : FK Ls xs P T s mk p q X Y) (hp : p < 65536) (h0 : ¬ p = 0) (hq : q < 32) (hd : dirP (MS.c s) q = false) : mEv Ls xs 78 (0, [some (.ref 6), some (.int (nI p)), none], [], (hM P T cd s mk hm he fr)) (rV (nI 0) (hM P T (nI 4) s mk X Y fr)) := by
  refine fEv.calli rfl (hF.2 _ _ _ _) ?_
  refine fEv.brT rfl (by decide) ?_
  refine fEv.brT rfl (decide_eq_true (nI_ne0 (by omega) (by omega))) ?_
  refine fEv.calli rfl (hF.1 _ _ _ _) ?_
  refine fEv.calli rfl (m_isDir hq) ?_
  rw [hd]
  refine fEv.brT rfl (by decide) ?_
  refine fEv.brF rfl (by decide) ?_
  exact fEv.retV rfl rfl
theorem m_nam_dir {l : List Nat} (hF : FK Ls xs P T s mk p q X Y) (hp : p < 65536) (h0 : ¬ p = 0) (hq : q < 32) (hd : dirP (MS.c s) q = true) (hc : Chain (MS.t s) (MS.c s (4 * q + 2)) l) : mEv Ls xs 78 (0, [some (.ref 6), some (.int (nI p)), none], [], (hM P T cd s mk hm he fr)) (rV (nmsM (MS.c s) (nI 0) l) (hM P T (nI 0) s mk X Y fr)) := by
  refine fEv.calli rfl (hF.2 _ _ _ _) ?_
  refine fEv.brT rfl (by decide) ?_
  refine fEv.brT rfl (decide_eq_true (nI_ne0 (by omega) (by omega))) ?_
  refine fEv.calli rfl (hF.1 _ _ _ _) ?_
  refine fEv.calli rfl (m_isDir hq) ?_
  rw [hd]
  refine fEv.brF rfl (by decide) ?_
  refine fEv.brT rfl (by decide) ?_
  refine fEv.brT rfl (decide_eq_true (nI_pos' (by omega))) ?_
  refine fEv.brT rfl (b4i hq (i := 2) (by decide)) ?_
  rw [k4i hq (by decide)]
  refine fEv.calli rfl (m_namesIn hc) ?_
  exact fEv.retV rfl rfl
theorem m_nam_root {l : List Nat} (h : MS.dn s = 0) (hc : Chain (MS.t s) (nI 0) l) : mEv Ls xs 78 (0, [some (.ref 6), some (.int (nI 0)), none], [], (hM P T cd s mk hm he fr)) (rV (nmsM (MS.c s) (nI 0) l) (hM P T (nI 0) s mk hm he fr)) := by
  refine fEv.calli rfl (m_lack0 h) ?_
  refine fEv.brT rfl (by decide) ?_
  refine fEv.brF rfl (by decide) ?_
  refine fEv.calli rfl m_isDirR ?_
  refine fEv.brF rfl (by decide) ?_
  refine fEv.brT rfl (by decide) ?_
  refine fEv.brF rfl (by decide) ?_
  refine fEv.calli rfl (m_namesIn hc) ?_
  exact fEv.retV rfl rfl
-- free
theorem mf_loop : ∀ (m i : Nat), i + m = 32 → mEv Ls xs 79 (20, [some (.ref 6), some (.int (nI (cntF (MS.t s) i))), some (.int (nI i))], [], hM P T cd s mk hm he fr) (rV (if MS.dn s = 0 then nI (cntF (MS.t s) 32) else nI 0) (hM P T cd s mk hm he fr)) := by
  intro m
  induction m with
  | zero =>
    intro i hi
    have hi : i = 32 := hi
    subst hi
    refine fEv.brT rfl (by decide) ?_
    by_cases hd : MS.dn s = 0
    · rw [if_pos hd]
      refine fEv.brT rfl (decide_eq_true hd) ?_
      exact fEv.retV rfl rfl
    · rw [if_neg hd]
      refine fEv.brF rfl (decide_eq_false hd) ?_
      exact fEv.retV rfl rfl
  | succ m ih =>
    intro i hi
    refine fEv.brF rfl (decide_eq_false (nI_ge (a := i) (b := 32) (by omega) (by decide))) ?_
    refine fEv.brT rfl (bT (a := i) (by omega)) ?_
    rw [kT (by omega)]
    have h2 := ih (i + 1) (by omega)
    rw [cntF] at h2
    refine fEv.br rfl (fun h1 => ?_) (fun h1 => ?_)
    · rw [if_neg h1, Nat.add_zero, ← nI_add i 1] at h2
      exact fEv.steps 4 rfl h2
    · rw [if_pos (Decidable.of_not_not h1), ← nI_add i 1, ← nI_add] at h2
      exact fEv.steps 7 rfl h2
theorem m_fre : mEv Ls xs 79 (0, [some (.ref 6), none, none], [], (hM P T cd s mk hm he fr)) (rV (if MS.dn s = 0 then nI (cntF (MS.t s) 32) else nI 0) (hM P T (if MS.dn s = 0 then nI 0 else nI 1) s mk hm he fr)) := by
  have h2 := fun cd => mf_loop (Ls := Ls) (xs := xs) (P := P) (T := T) (cd := cd) (mk := mk) (hm := hm) (he := he) (fr := fr) (s := s) 32 0 (by omega)
  by_cases hd : MS.dn s = 0
  · rw [if_pos hd, if_pos hd]
    have h3 := h2 (nI 0)
    rw [if_pos hd] at h3
    refine fEv.brT rfl (decide_eq_true hd) ?_
    exact fEv.steps 6 rfl h3
  · rw [if_neg hd, if_neg hd]
    have h3 := h2 (nI 1)
    rw [if_neg hd] at h3
    refine fEv.brF rfl (decide_eq_false hd) ?_
    exact fEv.steps 7 rfl h3
-- the small ones
theorem m_arm {v : Int32} : mEv Ls xs 80 (0, [some (.ref 6), some (.int v)], [], (hM P T cd s mk hm he fr)) (rN (hM P T (nI 0) (MS.c s, MS.t s, armV v, MS.dn s) mk hm he fr)) := by
  refine fEv.br rfl (fun h => ?_) (fun h => ?_)
  · have e : armV v = v := if_pos h
    rw [e]
    exact fEv.retV rfl rfl
  · have e : armV v = -1 := if_neg h
    rw [e]
    exact fEv.retV rfl rfl
theorem m_isDown (hd : MS.dn s = 0 ∨ MS.dn s = 1) : mEv Ls xs 81 (0, [some (.ref 6)], [], (hM P T cd s mk hm he fr)) (rV (MS.dn s) (hM P T (nI 0) s mk hm he fr)) := by
  refine fEv.retV rfl ?_
  rcases hd with e | e <;> rw [e] <;> decide
theorem m_thrown : mEv Ls xs 50 (0, [some (.ref 6)], [], (hM P T cd s mk hm he fr)) (rV cd (hM P T cd s mk hm he fr)) := fEv.retV rfl rfl
theorem w31 {a : Int32} : (nI 0 ≤ a ∧ a ≤ nI 31) ↔ isC a = true := by
  rw [isC_iff]
  constructor
  · rintro ⟨h1, h2⟩
    obtain ⟨j, hj, rfl⟩ := nI_of (Int32.not_lt.mpr h1)
    refine ⟨j, ?_, rfl⟩
    have := (nI_ltI (a := 31) (b := j) (by decide) hj)
    by_cases h : j < 32
    · exact h
    · exact absurd (this.mpr (by omega)) (Int32.not_lt.mpr h2)
  · rintro ⟨j, hj, rfl⟩
    exact ⟨nI_pos' (by omega), nI_le (by omega) (by decide)⟩
theorem w3 {a : Int32} : (nI 0 ≤ a ∧ a ≤ nI 3) ↔ (0 ≤ a ∧ a < nI 4) := by
  constructor
  · rintro ⟨h1, h2⟩
    obtain ⟨j, hj, rfl⟩ := nI_of (Int32.not_lt.mpr h1)
    refine ⟨h1, ?_⟩
    by_cases h : j < 4
    · exact nI_lt h (by decide)
    · exact absurd ((nI_ltI (a := 3) (b := j) (by decide) hj).mpr (by omega)) (Int32.not_lt.mpr h2)
  · rintro ⟨h1, h2⟩
    obtain ⟨j, hj, rfl⟩ := nI_of (Int32.not_lt.mpr h1)
    have : j < 4 := (nI_ltI (b := 4) hj (by decide)).mp h2
    exact ⟨h1, nI_le (by omega) (by decide)⟩
theorem m_table {a : Int32} : mEv Ls xs 87 (0, [some (.ref 6), some (.int a)], [], (hM P T cd s mk hm he fr)) (rV (tabA (MS.t s) a) (hM P T (nI 0) s mk hm he fr)) := by
  refine fEv.calli rfl m_within ?_
  by_cases h : isC a = true
  · rw [decide_eq_true (w31.mpr h)]
    refine fEv.brF rfl (by decide) ?_
    obtain ⟨j, hj, rfl⟩ := isC_iff.mp h
    refine fEv.brT rfl (bT hj) ?_
    have e : tabA (MS.t s) (nI j) = MS.t s (nI j).toNatClampNeg := if_pos h
    rw [e]
    exact fEv.retV rfl rfl
  · rw [decide_eq_false (fun z => h (w31.mp z))]
    refine fEv.brT rfl (by decide) ?_
    have e : tabA (MS.t s) a = nI 0 := if_neg h
    rw [e]
    exact fEv.retV rfl rfl
theorem m_cell {a i : Int32} : mEv Ls xs 86 (0, [some (.ref 6), some (.int a), some (.int i)], [], (hM P T cd s mk hm he fr)) (rV (cellA (MS.c s) a i) (hM P T (nI 0) s mk hm he fr)) := by
  refine fEv.calli rfl m_within ?_
  by_cases h : isC a = true
  · rw [decide_eq_true (w31.mpr h)]
    refine fEv.brF rfl (by decide) ?_
    refine fEv.calli rfl m_within ?_
    by_cases h2 : 0 ≤ i ∧ i < nI 4
    · rw [decide_eq_true (w3.mpr h2)]
      refine fEv.brF rfl (by decide) ?_
      obtain ⟨j, hj, rfl⟩ := isC_iff.mp h
      obtain ⟨y, hy, rfl⟩ := nI_of (Int32.not_lt.mpr h2.1)
      have hy4 : y < 4 := (nI_ltI (b := 4) hy (by decide)).mp h2.2
      refine fEv.brT rfl (b4i hj hy4) ?_
      have e : cellA (MS.c s) (nI j) (nI y) = MS.c s (nI 4 * nI j + nI y).toNatClampNeg := by rw [cellA_nI hj hy4, k4i hj hy4]
      rw [e]
      exact fEv.retV rfl rfl
    · rw [decide_eq_false (fun z => h2 (w3.mp z))]
      refine fEv.brT rfl (by decide) ?_
      have e : cellA (MS.c s) a i = nI 0 := by unfold cellA; rw [if_neg (fun z => h2 z.2)]; rfl
      rw [e]
      exact fEv.retV rfl rfl
  · rw [decide_eq_false (fun z => h (w31.mp z))]
    refine fEv.brT rfl (by decide) ?_
    have e : cellA (MS.c s) a i = nI 0 := by unfold cellA; rw [if_neg (fun z => h z.1)]; rfl
    rw [e]
    exact fEv.retV rfl rfl
end MY
end
section
/-! what always holds -/
def iE (c : Nat → Int32) (R : Nat → Prop) (lv : Nat → Nat) (p a : Nat) : Prop := (∃ d, 1 ≤ d ∧ d ≤ 15 ∧ c (4 * a) = nI d) ∧ R a ∧ lv a = lv p + 1 ∧ (c (4 * a + 1) = nI 1 ∨ c (4 * a + 1) = nI 2)
def iD (c t : Nat → Int32) (ch : Nat → List Nat) (R : Nat → Prop) (lv : Nat → Nat) (p : Nat) : Prop :=
  Chain t (fsP c p) (ch p) ∧ (lv p = 4 → ch p = []) ∧ (∀ a ∈ ch p, c (4 * a) = nI 0 ∨ iE c R lv p a) ∧ (∀ a ∈ ch p, ∀ b ∈ ch p, c (4 * a) = c (4 * b) → ¬ c (4 * a) = nI 0 → a = b) ∧ (p < 32 → c (4 * p + 3) = nI 0)
def iF (u : Prop) (c t : Nat → Int32) (ch : Nat → List Nat) (p : Nat) : Prop :=
  Chain t (c (4 * p + 2)) (ch p) ∧ ∃ len, c (4 * p + 3) = nI len ∧ len ≤ 4 * (ch p).length ∧ (len = 0 → ch p = []) ∧ (u → (ch p).length = (len + 3) / 4)
def iR (c : Nat → Int32) (ch : Nat → List Nat) (R : Nat → Prop) (lv : Nat → Nat) (p : Nat) : Prop := lv p ≤ 4 ∧ (ch p).Nodup ∧ (p = 32 ∨ (p < 32 ∧ ∃ q, R q ∧ dirP c q = true ∧ p ∈ ch q ∧ ¬ c (4 * p) = nI 0))
def Inv (u : Prop) (c t : Nat → Int32) (ch : Nat → List Nat) (R : Nat → Prop) (lv : Nat → Nat) : Prop :=
  (R 32 ∧ lv 32 = 0) ∧ (∀ p, R p → iR c ch R lv p) ∧ (∀ p q, R p → R q → p ≠ q → ∀ a ∈ ch p, a ∉ ch q) ∧ (∀ p, R p → dirP c p = true → iD c t ch R lv p) ∧ (∀ p, R p → dirP c p = false → iF u c t ch p)
theorem Chain_congr {t t' : Nat → Int32} : ∀ {l : List Nat} {x : Int32}, Chain t x l → (∀ a ∈ l, t' a = t a) → Chain t' x l := by
  intro l
  induction l with
  | nil => intro x h _; exact h
  | cons a l ih =>
    intro x h ha
    refine ⟨h.1, h.2.1, ?_⟩
    rw [ha a List.mem_cons_self]
    exact ih h.2.2 (fun b hb => ha b (List.mem_cons_of_mem _ hb))
theorem Chain_nf {t : Nat → Int32} : ∀ {l : List Nat} {x : Int32}, Chain t x l → ∀ a ∈ l, ¬ t a = -2 := by
  intro l
  induction l with
  | nil => intro x _ a ha; cases ha
  | cons b l ih =>
    intro x h a ha
    rcases List.mem_cons.mp ha with rfl | ha
    · cases l with
      | nil => have : t a = -1 := h.2.2; rw [this]; decide
      | cons y l =>
        have h1 : t a = nI y := h.2.2.1
        have h2 : y < 32 := h.2.2.2.1
        rw [h1]
        intro q
        have := congrArg Int32.toInt q
        rw [nI_toInt (by omega)] at this
        have e : (-2 : Int32).toInt = -2 := by decide
        omega
    · exact ih h.2.2 a ha
theorem nodup_le : ∀ (n : Nat) (l : List Nat), l.Nodup → (∀ a ∈ l, a < n) → l.length ≤ n := by
  intro n
  induction n with
  | zero =>
    intro l _ h
    cases l with
    | nil => exact Nat.le_refl _
    | cons a l => exact absurd (h a List.mem_cons_self) (by omega)
  | succ n ih =>
    intro l hn h
    have h1 := ih (l.erase n) (hn.erase n) (by
      intro a ha
      have h2 := (List.Nodup.mem_erase_iff hn).mp ha
      have := h a h2.2
      have := h2.1
      omega)
    by_cases hm : n ∈ l
    · rw [List.length_erase_of_mem hm] at h1
      omega
    · rw [List.erase_of_not_mem hm] at h1
      omega
theorem dirP_congr {c c' : Nat → Int32} {p : Nat} (h : c' (4 * p + 1) = c (4 * p + 1)) : dirP c' p = dirP c p := by unfold dirP; rw [h]
theorem fsP_congr {c c' : Nat → Int32} {p : Nat} (h : c' (4 * p + 2) = c (4 * p + 2)) : fsP c' p = fsP c p := by unfold fsP; rw [h]
theorem dirP_32 {c : Nat → Int32} : dirP c 32 = true := by unfold dirP; simp
theorem b_cases (b : Bool) : b = true ∨ b = false := by cases b <;> simp
section IV
variable {u : Prop} {c t c' t' : Nat → Int32} {ch : Nat → List Nat} {R : Nat → Prop} {lv : Nat → Nat}
theorem Inv.weak (h : Inv u c t ch R lv) : Inv False c t ch R lv := by
  refine ⟨h.1, h.2.1, h.2.2.1, h.2.2.2.1, fun p hp hd => ?_⟩
  obtain ⟨h1, len, h2, h3, h4, -⟩ := h.2.2.2.2 p hp hd
  exact ⟨h1, len, h2, h3, h4, fun q => q.elim⟩
theorem Inv.chain (h : Inv u c t ch R lv) {p : Nat} (hp : R p) : Chain t (fsP c p) (ch p) := by
  rcases b_cases (dirP c p) with hd | hd
  · exact (h.2.2.2.1 p hp hd).1
  · have := (h.2.2.2.2 p hp hd).1
    unfold fsP
    rw [if_neg (by intro q; rw [q, dirP_32] at hd; cases hd)]
    exact this
theorem Inv.lt (h : Inv u c t ch R lv) {p a : Nat} (hp : R p) (ha : a ∈ ch p) : a < 32 := (h.chain hp).lt a ha
theorem Inv.le (h : Inv u c t ch R lv) {p : Nat} (hp : R p) : p ≤ 32 := by
  rcases (h.2.1 p hp).2.2 with e | e
  · omega
  · have := e.1; omega
theorem Inv.len (h : Inv u c t ch R lv) {p : Nat} (hp : R p) : (ch p).length ≤ 32 := nodup_le 32 _ (h.2.1 p hp).2.1 (fun _ ha => h.lt hp ha)
theorem Inv.rc (h : Inv u c t ch R lv) : Rc c t ch R := by
  intro p hp
  refine ⟨h.le hp, fun hd => ⟨h.chain hp, h.len hp, fun a ha h0 => ?_⟩⟩
  rcases (h.2.2.2.1 p hp hd).2.2.1 a ha with e | e
  · exact absurd e h0
  · exact ⟨e.2.1, h.lt hp ha⟩
theorem Inv.r32 (h : Inv u c t ch R lv) : R 32 := h.1.1
theorem Inv.owned (h : Inv u c t ch R lv) {p a : Nat} (hp : R p) (ha : a ∈ ch p) : ¬ t a = -2 := Chain_nf (h.chain hp) a ha
theorem Inv.notR (h : Inv u c t ch R lv) {a : Nat} (ha : a < 32) (hf : t a = -2) : ¬ R a := by
  intro hR
  rcases (h.2.1 a hR).2.2 with e | ⟨-, q, hq, -, hm, -⟩
  · omega
  · exact h.owned hq hm hf
theorem Inv.notIn (h : Inv u c t ch R lv) {a : Nat} (hf : t a = -2) : ∀ p, R p → a ∉ ch p := fun _ hp ha => h.owned hp ha hf
/-- what is owned stays -/
theorem Inv.frame (h : Inv u c t ch R lv) (ht : ∀ p, R p → ∀ a ∈ ch p, t' a = t a) (hc : ∀ p, R p → dirP c p = true → ∀ a ∈ ch p, ∀ i, i < 4 → c' (4 * a + i) = c (4 * a + i)) : Inv u c' t' ch R lv := by
  obtain ⟨h1, h2, h3, h4, h5⟩ := h
  have hcell : ∀ p, R p → ¬ p = 32 → ∀ i, i < 4 → c' (4 * p + i) = c (4 * p + i) := by
    intro p hp hn i hi
    rcases (h2 p hp).2.2 with e | ⟨-, q, hq, hd, hm, -⟩
    · exact absurd e hn
    · exact hc q hq hd p hm i hi
  have hdir : ∀ p, R p → dirP c' p = dirP c p := by
    intro p hp
    by_cases e : p = 32
    · rw [e, dirP_32, dirP_32]
    · exact dirP_congr (hcell p hp e 1 (by decide))
  have hfs : ∀ p, R p → fsP c' p = fsP c p := by
    intro p hp
    by_cases e : p = 32
    · rw [e]; rfl
    · exact fsP_congr (hcell p hp e 2 (by decide))
  refine ⟨h1, fun p hp => ?_, h3, fun p hp hd => ?_, fun p hp hd => ?_⟩
  · obtain ⟨g1, g2, g3⟩ := h2 p hp
    refine ⟨g1, g2, ?_⟩
    rcases g3 with e | ⟨e1, q, hq, hd, hm, hn⟩
    · exact Or.inl e
    · refine Or.inr ⟨e1, q, hq, by rw [hdir q hq]; exact hd, hm, ?_⟩
      rw [show c' (4 * p) = c (4 * p) from hc q hq hd p hm 0 (by decide)]
      exact hn
  · rw [hdir p hp] at hd
    obtain ⟨g1, g2, g3, g4, g5⟩ := h4 p hp hd
    have e0 : ∀ a ∈ ch p, c' (4 * a) = c (4 * a) := fun a ha => hc p hp hd a ha 0 (by decide)
    refine ⟨by rw [hfs p hp]; exact Chain_congr g1 (ht p hp), g2, fun a ha => ?_, fun a ha b hb => ?_, fun hl => ?_⟩
    · rcases g3 a ha with e | ⟨e1, e2, e3, e4⟩
      · exact Or.inl (by rw [e0 a ha]; exact e)
      · refine Or.inr ⟨by rw [e0 a ha]; exact e1, e2, e3, ?_⟩
        rw [hc p hp hd a ha 1 (by decide)]; exact e4
    · rw [e0 a ha, e0 b hb]; exact g4 a ha b hb
    · rw [hcell p hp (by omega) 3 (by decide)]; exact g5 hl
  · rw [hdir p hp] at hd
    obtain ⟨g1, len, g2, g3, g4, g5⟩ := h5 p hp hd
    have e : ¬ p = 32 := by intro q; rw [q, dirP_32] at hd; cases hd
    refine ⟨by rw [hcell p hp e 2 (by decide)]; exact Chain_congr g1 (ht p hp), len, by rw [hcell p hp e 3 (by decide)]; exact g2, g3, g4, g5⟩
/-- an entry comes to the directory q -/
theorem Inv.add (h : Inv u c t ch R lv) {q a d : Nat} {L : List Nat} (hq : R q) (hqd : dirP c q = true) (hlv : lv q ≤ 3) (ha : ¬ R a) (ha3 : a < 32) (hown : ∀ p, R p → p ≠ q → a ∉ ch p) (haL : a ∈ L) (hLn : L.Nodup) (hL : ∀ x ∈ L, x = a ∨ x ∈ ch q) (hL2 : ∀ x ∈ ch q, x ∈ L)
    (hc : ∀ p i, p ≠ a → i < 4 → ¬ (p = q ∧ i = 2) → c' (4 * p + i) = c (4 * p + i)) (hd1 : 1 ≤ d) (hd2 : d ≤ 15) (h0 : c' (4 * a) = nI d) (hk : c' (4 * a + 1) = nI 1 ∨ c' (4 * a + 1) = nI 2) (hf : c' (4 * a + 2) = -1) (hz : c' (4 * a + 3) = nI 0)
    (hch : Chain t' (fsP c' q) L) (ht : ∀ p, R p → p ≠ q → ∀ x ∈ ch p, t' x = t x) (hnm : ∀ x ∈ ch q, x ≠ a → ¬ c (4 * x) = nI d) :
    Inv u c' t' (fun x => if x = a then [] else if x = q then L else ch x) (fun x => R x ∨ x = a) (fun x => if x = a then lv q + 1 else lv x) := by
  obtain ⟨h1, h2, h3, h4, h5⟩ := h
  have hqa : q ≠ a := fun z => ha (z ▸ hq)
  have hpa : ∀ p, R p → p ≠ a := fun p hp z => ha (z ▸ hp)
  have hsub : ∀ p, R p → ∀ x, x ∈ (if p = q then L else ch p) → x = a ∧ p = q ∨ x ∈ ch p := by
    intro p hp x hx
    by_cases e : p = q
    · rw [if_pos e] at hx
      rcases hL x hx with z | z
      · exact Or.inl ⟨z, e⟩
      · exact Or.inr (e ▸ z)
    · rw [if_neg e] at hx; exact Or.inr hx
  have hdir : ∀ p, p ≠ a → dirP c' p = dirP c p := fun p hp => dirP_congr (hc p 1 hp (by decide) (fun z => absurd z.2 (by decide)))
  have c0 : ∀ p, p ≠ a → c' (4 * p) = c (4 * p) := fun p hp => hc p 0 hp (by decide) (fun z => absurd z.2 (by decide))
  have c3 : ∀ p, p ≠ a → c' (4 * p + 3) = c (4 * p + 3) := fun p hp => hc p 3 hp (by decide) (fun z => absurd z.2 (by decide))
  have nd : ¬ nI d = nI 0 := fun z => by have := (nI_eq (a := d) (b := 0) (by omega) (by decide)).mp z; omega
  have keep : ∀ p, R p → ∀ x, x ∈ ch p → p ≠ q → x ∈ (if p = q then L else ch p) := fun p hp x hx e => by rw [if_neg e]; exact hx
  have chn : Chain t' (fsP c' q) L := hch
  have hfs : ∀ p, R p → p ≠ q → fsP c' p = fsP c p := by
    intro p hp e
    exact fsP_congr (hc p 2 (hpa p hp) (by decide) (fun z => e z.1))
  have ent : ∀ x, R x → ¬ x = 32 → ∃ r, R r ∧ dirP c r = true ∧ x ∈ ch r := by
    intro x hx hn
    rcases (h2 x hx).2.2 with e | ⟨-, r, e1, e2, e3, -⟩
    · exact absurd e hn
    · exact ⟨r, e1, e2, e3⟩
  refine ⟨⟨Or.inl h1.1, ?_⟩, ?_, ?_, ?_, ?_⟩
  · show (if 32 = a then _ else _) = 0
    rw [if_neg (by omega)]; exact h1.2
  · intro p hp
    by_cases e : p = a
    · refine ⟨?_, ?_, ?_⟩
      · show (if p = a then _ else _) ≤ 4
        rw [if_pos e]; omega
      · show (if p = a then _ else _ : List Nat).Nodup
        rw [if_pos e]; exact List.nodup_nil
      · refine Or.inr ⟨by omega, q, Or.inl hq, by rw [hdir q hqa]; exact hqd, ?_, by rw [e, h0]; exact nd⟩
        show p ∈ (if q = a then _ else if q = q then L else _)
        rw [if_neg hqa, if_pos rfl, e]; exact haL
    · have hp : R p := hp.resolve_right e
      obtain ⟨g1, g2, g3⟩ := h2 p hp
      refine ⟨?_, ?_, ?_⟩
      · show (if p = a then _ else _) ≤ 4
        rw [if_neg e]; exact g1
      · show (if p = a then _ else if p = q then L else ch p).Nodup
        rw [if_neg e]
        split
        · exact hLn
        · exact g2
      · rcases g3 with e1 | ⟨e1, r, hr, hrd, hm, hn⟩
        · exact Or.inl e1
        · refine Or.inr ⟨e1, r, Or.inl hr, by rw [hdir r (hpa r hr)]; exact hrd, ?_, by rw [c0 p e]; exact hn⟩
          show p ∈ (if r = a then _ else if r = q then L else ch r)
          rw [if_neg (hpa r hr)]
          split
          · rename_i z; exact hL2 p (z ▸ hm)
          · exact hm
  · intro p r hp hr hpr x hx hx2
    by_cases e : p = a
    · have hx : x ∈ (if p = a then [] else _ : List Nat) := hx
      rw [if_pos e] at hx; cases hx
    · by_cases e2 : r = a
      · have hx2 : x ∈ (if r = a then [] else _ : List Nat) := hx2
        rw [if_pos e2] at hx2; cases hx2
      · have hp : R p := hp.resolve_right e
        have hr : R r := hr.resolve_right e2
        have hx : x ∈ (if p = a then [] else if p = q then L else ch p) := hx
        have hx2 : x ∈ (if r = a then [] else if r = q then L else ch r) := hx2
        rw [if_neg e] at hx
        rw [if_neg e2] at hx2
        rcases hsub p hp x hx with ⟨z1, z2⟩ | z <;> rcases hsub r hr x hx2 with ⟨y1, y2⟩ | y
        · exact hpr (z2.trans y2.symm)
        · exact hown r hr (fun w => hpr (z2.trans w.symm)) (z1 ▸ y)
        · exact hown p hp (fun w => hpr (w.trans y2.symm)) (y1 ▸ z)
        · exact h3 p r hp hr hpr x z y
  · intro p hp hd
    by_cases e : p = a
    · subst e
      refine ⟨?_, ?_, ?_, ?_, fun _ => hz⟩
      · show Chain t' (fsP c' p) (if p = p then [] else _)
        rw [if_pos rfl, fsP_lt ha3]; exact hf
      · intro _
        show (if p = p then [] else _ : List Nat) = []
        rw [if_pos rfl]
      · intro x hx
        have hx : x ∈ (if p = p then [] else _ : List Nat) := hx
        rw [if_pos rfl] at hx; cases hx
      · intro x hx
        have hx : x ∈ (if p = p then [] else _ : List Nat) := hx
        rw [if_pos rfl] at hx; cases hx
    · have hp : R p := hp.resolve_right e
      rw [hdir p e] at hd
      obtain ⟨g1, g2, g3, g4, g5⟩ := h4 p hp hd
      have old : ∀ x, x ∈ ch p → x ≠ a → c' (4 * x) = nI 0 ∨ iE c' (fun x => R x ∨ x = a) (fun x => if x = a then lv q + 1 else lv x) p x := by
        intro x hx hxa
        rcases g3 x hx with z | ⟨z1, z2, z3, z4⟩
        · exact Or.inl (by rw [c0 x hxa]; exact z)
        · refine Or.inr ⟨by rw [c0 x hxa]; exact z1, Or.inl z2, ?_, ?_⟩
          · show (if x = a then _ else _) = (if p = a then _ else _) + 1
            rw [if_neg hxa, if_neg e]; exact z3
          · rw [hc x 1 hxa (by decide) (fun w => absurd w.2 (by decide))]; exact z4
      by_cases e2 : p = q
      · subst e2
        refine ⟨?_, ?_, ?_, ?_, fun hl => by rw [c3 p e]; exact g5 hl⟩
        · show Chain t' (fsP c' p) (if p = a then [] else if p = p then L else _)
          rw [if_neg e, if_pos rfl]; exact hch
        · intro w
          have w : (if p = a then _ else lv p) = 4 := w
          rw [if_neg e] at w; omega
        · intro x hx
          have hx : x ∈ (if p = a then [] else if p = p then L else _) := hx
          rw [if_neg e, if_pos rfl] at hx
          by_cases exa : x = a
          · subst exa
            refine Or.inr ⟨⟨d, hd1, hd2, h0⟩, Or.inr rfl, ?_, hk⟩
            show (if x = x then _ else _) = (if p = x then _ else _) + 1
            rw [if_pos rfl, if_neg e]
          · exact old x ((hL x hx).resolve_left exa) exa
        · intro x hx y hy hxy hne
          have hx : x ∈ (if p = a then [] else if p = p then L else _) := hx
          have hy : y ∈ (if p = a then [] else if p = p then L else _) := hy
          rw [if_neg e, if_pos rfl] at hx hy
          by_cases exa : x = a <;> by_cases eya : y = a
          · rw [exa, eya]
          · rw [exa, h0, c0 y eya] at hxy
            exact absurd hxy.symm (hnm y ((hL y hy).resolve_left eya) eya)
          · rw [eya, h0, c0 x exa] at hxy
            exact absurd hxy (hnm x ((hL x hx).resolve_left exa) exa)
          · rw [c0 x exa, c0 y eya] at hxy
            rw [c0 x exa] at hne
            exact g4 x ((hL x hx).resolve_left exa) y ((hL y hy).resolve_left eya) hxy hne
      · have hna : ∀ x ∈ ch p, x ≠ a := fun x hx z => hown p hp e2 (z ▸ hx)
        refine ⟨?_, ?_, ?_, ?_, fun hl => by rw [c3 p e]; exact g5 hl⟩
        · show Chain t' (fsP c' p) (if p = a then [] else if p = q then L else ch p)
          rw [if_neg e, if_neg e2, hfs p hp e2]; exact Chain_congr g1 (ht p hp e2)
        · intro w
          have w : (if p = a then _ else lv p) = 4 := w
          rw [if_neg e] at w
          show (if p = a then [] else if p = q then L else ch p) = []
          rw [if_neg e, if_neg e2]; exact g2 w
        · intro x hx
          have hx : x ∈ (if p = a then [] else if p = q then L else ch p) := hx
          rw [if_neg e, if_neg e2] at hx
          exact old x hx (hna x hx)
        · intro x hx y hy hxy hne
          have hx : x ∈ (if p = a then [] else if p = q then L else ch p) := hx
          have hy : y ∈ (if p = a then [] else if p = q then L else ch p) := hy
          rw [if_neg e, if_neg e2] at hx hy
          rw [c0 x (hna x hx), c0 y (hna y hy)] at hxy
          rw [c0 x (hna x hx)] at hne
          exact g4 x hx y hy hxy hne
  · intro p hp hd
    by_cases e : p = a
    · subst e
      refine ⟨?_, 0, hz, Nat.zero_le _, fun _ => ?_, fun _ => ?_⟩
      · show Chain t' (c' (4 * p + 2)) (if p = p then [] else _)
        rw [if_pos rfl]; exact hf
      · show (if p = p then [] else _ : List Nat) = []
        rw [if_pos rfl]
      · show (if p = p then [] else _ : List Nat).length = _
        rw [if_pos rfl]; rfl
    · have hp : R p := hp.resolve_right e
      rw [hdir p e] at hd
      have e2 : p ≠ q := by intro z; rw [z, hqd] at hd; cases hd
      obtain ⟨g1, len, g2, g3, g4, g5⟩ := h5 p hp hd
      have ec : (fun x => if x = a then [] else if x = q then L else ch x) p = ch p := by
        show (if p = a then [] else if p = q then L else ch p) = ch p
        rw [if_neg e, if_neg e2]
      unfold iF
      rw [ec]
      refine ⟨?_, len, by rw [c3 p e]; exact g2, g3, g4, g5⟩
      rw [hc p 2 e (by decide) (fun z => e2 z.1)]
      exact Chain_congr g1 (ht p hp e2)
/-- an entry leaves -/
theorem Inv.del (h : Inv u c t ch R lv) {q : Nat} (hq : R q) (hq3 : q < 32) (hno : dirP c q = true → ∀ x ∈ ch q, c (4 * x) = nI 0) (hc : ∀ p i, p ≠ q → i < 4 → c' (4 * p + i) = c (4 * p + i)) (h0 : c' (4 * q) = nI 0) : Inv u c' t ch (fun x => R x ∧ x ≠ q) lv := by
  obtain ⟨h1, h2, h3, h4, h5⟩ := h
  have c0 : ∀ p, p ≠ q → c' (4 * p) = c (4 * p) := fun p hp => hc p 0 hp (by decide)
  have hdir : ∀ p, p ≠ q → dirP c' p = dirP c p := fun p hp => dirP_congr (hc p 1 hp (by decide))
  refine ⟨⟨⟨h1.1, by omega⟩, h1.2⟩, fun p hp => ?_, fun p r hp hr => h3 p r hp.1 hr.1, fun p hp hd => ?_, fun p hp hd => ?_⟩
  · obtain ⟨g1, g2, g3⟩ := h2 p hp.1
    refine ⟨g1, g2, ?_⟩
    rcases g3 with e | ⟨e1, r, hr, hrd, hm, hn⟩
    · exact Or.inl e
    · have hrq : r ≠ q := by
        intro z
        subst z
        exact hn (hno hrd p hm)
      exact Or.inr ⟨e1, r, ⟨hr, hrq⟩, by rw [hdir r hrq]; exact hrd, hm, by rw [c0 p hp.2]; exact hn⟩
  · rw [hdir p hp.2] at hd
    obtain ⟨g1, g2, g3, g4, g5⟩ := h4 p hp.1 hd
    refine ⟨by rw [fsP_congr (hc p 2 hp.2 (by decide))]; exact g1, g2, fun x hx => ?_, fun x hx y hy hxy hne => ?_, fun hl => by rw [hc p 3 hp.2 (by decide)]; exact g5 hl⟩
    · by_cases e : x = q
      · exact Or.inl (e ▸ h0)
      · rcases g3 x hx with z | ⟨z1, z2, z3, z4⟩
        · exact Or.inl (by rw [c0 x e]; exact z)
        · exact Or.inr ⟨by rw [c0 x e]; exact z1, ⟨z2, e⟩, z3, by rw [hc x 1 e (by decide)]; exact z4⟩
    · have ex : x ≠ q := by intro z; rw [z, h0] at hne; exact hne rfl
      have ey : y ≠ q := by intro z; rw [z, h0] at hxy; exact hne hxy
      rw [c0 x ex, c0 y ey] at hxy
      rw [c0 x ex] at hne
      exact g4 x hx y hy hxy hne
  · rw [hdir p hp.2] at hd
    obtain ⟨g1, len, g2, g3, g4, g5⟩ := h5 p hp.1 hd
    exact ⟨by rw [hc p 2 hp.2 (by decide)]; exact g1, len, by rw [hc p 3 hp.2 (by decide)]; exact g2, g3, g4, g5⟩
/-- another name -/
theorem Inv.ren (h : Inv u c t ch R lv) {q r b : Nat} (hr : R r) (hrd : dirP c r = true) (hqr : q ∈ ch r) (hqn : ¬ c (4 * q) = nI 0) (hb1 : 1 ≤ b) (hb2 : b ≤ 15) (hnm : ∀ x ∈ ch r, ¬ c (4 * x) = nI b) (hc : ∀ p i, i < 4 → ¬ (p = q ∧ i = 0) → c' (4 * p + i) = c (4 * p + i)) (h0 : c' (4 * q) = nI b) : Inv u c' t ch R lv := by
  obtain ⟨h1, h2, h3, h4, h5⟩ := h
  have nb : ¬ nI b = nI 0 := fun z => by have := (nI_eq (a := b) (b := 0) (by omega) (by decide)).mp z; omega
  have c0 : ∀ p, p ≠ q → c' (4 * p) = c (4 * p) := fun p hp => hc p 0 (by decide) (fun z => hp z.1)
  have ci : ∀ p i, i < 4 → i ≠ 0 → c' (4 * p + i) = c (4 * p + i) := fun p i hi h => hc p i hi (fun z => h z.2)
  have hdir : ∀ p, dirP c' p = dirP c p := fun p => dirP_congr (ci p 1 (by decide) (by decide))
  refine ⟨h1, fun p hp => ?_, h3, fun p hp hd => ?_, fun p hp hd => ?_⟩
  · obtain ⟨g1, g2, g3⟩ := h2 p hp
    refine ⟨g1, g2, ?_⟩
    rcases g3 with e | ⟨e1, s, hs, hsd, hm, hn⟩
    · exact Or.inl e
    · refine Or.inr ⟨e1, s, hs, by rw [hdir s]; exact hsd, hm, ?_⟩
      by_cases e : p = q
      · rw [e, h0]; exact nb
      · rw [c0 p e]; exact hn
  · rw [hdir p] at hd
    obtain ⟨g1, g2, g3, g4, g5⟩ := h4 p hp hd
    have hpr : q ∈ ch p → p = r := by
      intro hm
      by_cases e : p = r
      · exact e
      · exact absurd hqr (h3 p r hp hr e q hm)
    refine ⟨by rw [fsP_congr (ci p 2 (by decide) (by decide))]; exact g1, g2, fun x hx => ?_, fun x hx y hy hxy hne => ?_, fun hl => by rw [ci p 3 (by decide) (by decide)]; exact g5 hl⟩
    · by_cases e : x = q
      · subst e
        rcases g3 x hx with z | ⟨z1, z2, z3, z4⟩
        · exact absurd z hqn
        · exact Or.inr ⟨⟨b, hb1, hb2, h0⟩, z2, z3, by rw [ci x 1 (by decide) (by decide)]; exact z4⟩
      · rcases g3 x hx with z | ⟨z1, z2, z3, z4⟩
        · exact Or.inl (by rw [c0 x e]; exact z)
        · exact Or.inr ⟨by rw [c0 x e]; exact z1, z2, z3, by rw [ci x 1 (by decide) (by decide)]; exact z4⟩
    · by_cases ex : x = q <;> by_cases ey : y = q
      · rw [ex, ey]
      · rw [ex, h0, c0 y ey] at hxy
        have := hpr (ex ▸ hx)
        exact absurd hxy.symm (hnm y (this ▸ hy))
      · rw [ey, h0, c0 x ex] at hxy
        have := hpr (ey ▸ hy)
        exact absurd hxy (hnm x (this ▸ hx))
      · rw [c0 x ex, c0 y ey] at hxy
        rw [c0 x ex] at hne
        exact g4 x hx y hy hxy hne
  · rw [hdir p] at hd
    obtain ⟨g1, len, g2, g3, g4, g5⟩ := h5 p hp hd
    exact ⟨by rw [ci p 2 (by decide) (by decide)]; exact g1, len, by rw [ci p 3 (by decide) (by decide)]; exact g2, g3, g4, g5⟩
/-- a file's extent changes -/
theorem Inv.file {u' : Prop} (h : Inv u c t ch R lv) {q len : Nat} {L : List Nat} (hu : ∀ p, R p → p ≠ q → dirP c p = false → u' → iF u' c t ch p) (hq : R q) (hqd : dirP c q = false) (hc : ∀ p i, i < 4 → ¬ (p = q ∧ 2 ≤ i) → c' (4 * p + i) = c (4 * p + i)) (hch : Chain t' (c' (4 * q + 2)) L) (hl : c' (4 * q + 3) = nI len) (hl1 : len ≤ 4 * L.length) (hl2 : len = 0 → L = []) (hl3 : u' → L.length = (len + 3) / 4)
    (hLn : L.Nodup) (hdis : ∀ p, R p → p ≠ q → ∀ x ∈ L, x ∉ ch p) (ht : ∀ p, R p → p ≠ q → ∀ x ∈ ch p, t' x = t x) : Inv u' c' t' (fun x => if x = q then L else ch x) R lv := by
  obtain ⟨h1, h2, h3, h4, h5⟩ := h
  have c0 : ∀ p, c' (4 * p) = c (4 * p) := fun p => hc p 0 (by decide) (fun z => absurd z.2 (by decide))
  have c1 : ∀ p, c' (4 * p + 1) = c (4 * p + 1) := fun p => hc p 1 (by decide) (fun z => absurd z.2 (by decide))
  have ci : ∀ p i, p ≠ q → i < 4 → c' (4 * p + i) = c (4 * p + i) := fun p i hp hi => hc p i hi (fun z => hp z.1)
  have hdir : ∀ p, dirP c' p = dirP c p := fun p => dirP_congr (c1 p)
  have dne : ∀ p, dirP c p = true → p ≠ q := fun p hp z => by rw [z, hqd] at hp; cases hp
  refine ⟨h1, fun p hp => ?_, fun p r hp hr hpr x hx hx2 => ?_, fun p hp hd => ?_, fun p hp hd => ?_⟩
  · obtain ⟨g1, g2, g3⟩ := h2 p hp
    refine ⟨g1, ?_, ?_⟩
    · show (if p = q then L else ch p).Nodup
      split
      · exact hLn
      · exact g2
    · rcases g3 with e | ⟨e1, s, hs, hsd, hm, hn⟩
      · exact Or.inl e
      · refine Or.inr ⟨e1, s, hs, by rw [hdir s]; exact hsd, ?_, by rw [c0 p]; exact hn⟩
        show p ∈ (if s = q then L else ch s)
        rw [if_neg (dne s hsd)]; exact hm
  · have hx : x ∈ (if p = q then L else ch p) := hx
    have hx2 : x ∈ (if r = q then L else ch r) := hx2
    by_cases e : p = q <;> by_cases e2 : r = q
    · exact hpr (e.trans e2.symm)
    · rw [if_pos e] at hx; rw [if_neg e2] at hx2
      exact hdis r hr e2 x hx hx2
    · rw [if_neg e] at hx; rw [if_pos e2] at hx2
      exact hdis p hp e x hx2 hx
    · rw [if_neg e] at hx; rw [if_neg e2] at hx2
      exact h3 p r hp hr hpr x hx hx2
  · rw [hdir p] at hd
    have e := dne p hd
    obtain ⟨g1, g2, g3, g4, g5⟩ := h4 p hp hd
    have ec : (fun x => if x = q then L else ch x) p = ch p := if_neg e
    unfold iD
    rw [ec]
    refine ⟨by rw [fsP_congr (ci p 2 e (by decide))]; exact Chain_congr g1 (ht p hp e), g2, fun x hx => ?_, fun x hx y hy hxy hne => ?_, fun hl => by rw [ci p 3 e (by decide)]; exact g5 hl⟩
    · rcases g3 x hx with z | ⟨z1, z2, z3, z4⟩
      · exact Or.inl (by rw [c0 x]; exact z)
      · exact Or.inr ⟨by rw [c0 x]; exact z1, z2, z3, by rw [c1 x]; exact z4⟩
    · rw [c0 x, c0 y] at hxy
      rw [c0 x] at hne
      exact g4 x hx y hy hxy hne
  · rw [hdir p] at hd
    by_cases e : p = q
    · subst e
      have ec : (fun x => if x = p then L else ch x) p = L := if_pos rfl
      unfold iF
      rw [ec]
      exact ⟨hch, len, hl, hl1, hl2, hl3⟩
    · have ec : (fun x => if x = q then L else ch x) p = ch p := if_neg e
      unfold iF
      rw [ec, ci p 2 e (by decide), ci p 3 e (by decide)]
      obtain ⟨g1, len', g2, g3, g4, g5⟩ := h5 p hp hd
      refine ⟨Chain_congr g1 (ht p hp e), len', g2, g3, g4, fun hu' => ?_⟩
      obtain ⟨-, len2, k2, k3, k4, k5⟩ := hu p hp e hd hu'
      have b1 := nodup_le 32 _ (h2 p hp).2.1 (fun _ ha => g1.lt _ ha)
      have : len2 = len' := (nI_eq (by omega) (by omega)).mp (k2.symm.trans g2)
      rw [← this]
      exact k5 hu'
end IV
/-- writes in a row keep I up to the last, then J -/
def SafeW (I J : (Nat → Int32) → (Nat → Int32) → Prop) : List Wr → (Nat → Int32) → (Nat → Int32) → Prop
  | [], c, t => J c t
  | w :: ws, c, t => I c t ∧ SafeW I J ws (w (c, t)).1 (w (c, t)).2
theorem SafeW.run {I J : (Nat → Int32) → (Nat → Int32) → Prop} : ∀ {ws : List Wr} {c t : Nat → Int32} {lf : Int32}, SafeW I J ws c t → ((rW ws c t lf).2.2.2 = true → I (rW ws c t lf).1 (rW ws c t lf).2.1) ∧ ((rW ws c t lf).2.2.2 = false → J (rW ws c t lf).1 (rW ws c t lf).2.1) := by
  intro ws
  induction ws with
  | nil => intro c t lf h; exact ⟨fun z => (by cases z), fun _ => h⟩
  | cons w ws ih =>
    intro c t lf h
    rw [rW]
    by_cases e : lf = 0
    · rw [if_pos e]; exact ⟨fun _ => h.1, fun z => by cases z⟩
    · rw [if_neg e]; exact ih h.2
end
section
/-! names as bits -/
theorem i32_ext {x y : Int32} (h : x.toBitVec.toNat = y.toBitVec.toNat) : x = y := Int32.toBitVec_inj.mp (BitVec.eq_of_toNat_eq h)
theorem nI_or {a b : Nat} (ha : a < 2 ^ 31) (hb : b < 2 ^ 31) : nI a ||| nI b = nI (a ||| b) := by
  apply i32_ext
  have h : a ||| b < 2 ^ 31 := Nat.or_lt_two_pow ha hb
  rw [Int32.toBitVec_or, BitVec.toNat_or, pk_tn (by omega), pk_tn (by omega), pk_tn (by omega)]
theorem nI_and {a b : Nat} (ha : a < 2 ^ 32) (hb : b < 2 ^ 32) : nI a &&& nI b = nI (a &&& b) := by
  apply i32_ext
  have h : a &&& b ≤ a := Nat.and_le_left
  rw [Int32.toBitVec_and, BitVec.toNat_and, pk_tn ha, pk_tn hb, pk_tn (by omega)]
theorem or_add : ∀ (d m : Nat), m.testBit d = false → m ||| 2 ^ d = m + 2 ^ d := by
  intro d
  induction d with
  | zero =>
    intro m h
    rw [Nat.testBit_zero] at h
    have h0 : m % 2 = 0 := by
      have := of_decide_eq_false h
      omega
    have h1 : (m ||| 2 ^ 0) / 2 = m / 2 ||| 2 ^ 0 / 2 := Nat.or_div_two
    have h2 : (m ||| 2 ^ 0) % 2 = 1 := Nat.or_mod_two_eq_one.mpr (Or.inr rfl)
    have h3 : m / 2 ||| 2 ^ 0 / 2 = m / 2 := Nat.or_zero _
    rw [h3] at h1
    simp only [Nat.pow_zero] at *
    omega
  | succ d ih =>
    intro m h
    rw [Nat.testBit_succ] at h
    have h1 : (m ||| 2 ^ (d + 1)) / 2 = m / 2 ||| 2 ^ (d + 1) / 2 := Nat.or_div_two
    have e : 2 ^ (d + 1) = 2 * 2 ^ d := by rw [Nat.pow_succ]; omega
    have e2 : 2 ^ (d + 1) / 2 = 2 ^ d := by omega
    rw [e2, ih _ h] at h1
    have h2 : (m ||| 2 ^ (d + 1)) % 2 = 1 ↔ m % 2 = 1 ∨ 2 ^ (d + 1) % 2 = 1 := Nat.or_mod_two_eq_one
    omega
theorem tb_add : ∀ (d m i : Nat), m.testBit d = false → i ≠ d → (m + 2 ^ d).testBit i = m.testBit i := by
  intro d m i h hi
  rw [← or_add d m h, Nat.testBit_or, Nat.testBit_two_pow]
  simp [Ne.symm hi]
def popc : Nat → Nat → Nat
  | 0, _ => 0
  | k + 1, m => m % 2 + popc k (m / 2)
theorem popc_add : ∀ (k d m : Nat), d < k → m.testBit d = false → popc k (m + 2 ^ d) = popc k m + 1 := by
  intro k
  induction k with
  | zero => intro d m h _; omega
  | succ k ih =>
    intro d m h hb
    cases d with
    | zero =>
      rw [Nat.testBit_zero] at hb
      have h0 : m % 2 = 0 := by
        have := of_decide_eq_false hb
        omega
      simp only [popc, Nat.pow_zero]
      have e1 : (m + 1) / 2 = m / 2 := by omega
      have e2 : (m + 1) % 2 = 1 := by omega
      rw [e1, e2, h0]; omega
    | succ d =>
      rw [Nat.testBit_succ] at hb
      simp only [popc]
      have e : 2 ^ (d + 1) = 2 * 2 ^ d := by rw [Nat.pow_succ]; omega
      have e1 : (m + 2 ^ (d + 1)) / 2 = m / 2 + 2 ^ d := by omega
      have e2 : (m + 2 ^ (d + 1)) % 2 = m % 2 := by omega
      rw [e1, e2, ih d (m / 2) (by omega) hb]; omega
def nmD (c : Nat → Int32) (a : Nat) : Nat := (c (4 * a)).toNatClampNeg
/-- names of a list: small, and no two alike -/
def okN (c : Nat → Int32) (l : List Nat) : Prop := (∀ a ∈ l, c (4 * a) = nI (nmD c a) ∧ nmD c a ≤ 15) ∧ (∀ a ∈ l, ∀ b ∈ l, nmD c a = nmD c b → ¬ nmD c a = 0 → a = b) ∧ l.Nodup
def mN (c : Nat → Int32) (m : Nat) (l : List Nat) : Nat :=
  match l with
  | [] => m
  | a :: l => mN c (if nmD c a = 0 then m else m + 2 ^ nmD c a) l
theorem sh1 {d : Nat} (hd : d ≤ 15) : nI 1 <<< (nI d &&& 31) = nI (2 ^ d) := by
  have : ∀ d : Fin 16, nI 1 <<< (nI d.val &&& 31) = nI (2 ^ d.val) := by decide
  exact this ⟨d, by omega⟩
theorem p15 {d : Nat} (hd : d ≤ 15) : 2 ^ d ≤ 32768 := by
  have : ∀ d : Fin 16, 2 ^ d.val ≤ 32768 := by decide
  exact this ⟨d, by omega⟩
theorem okN_tl {c : Nat → Int32} {a : Nat} {l : List Nat} (h : okN c (a :: l)) : okN c l := ⟨fun x hx => h.1 x (List.mem_cons_of_mem _ hx), fun x hx y hy => h.2.1 x (List.mem_cons_of_mem _ hx) y (List.mem_cons_of_mem _ hy), (List.nodup_cons.mp h.2.2).2⟩
theorem bits_all {c : Nat → Int32} : ∀ (l : List Nat) (k m : Nat), okN c l → m = 2 * (k / 2) → k < 65536 → (∀ a ∈ l, ¬ nmD c a = 0 → k.testBit (nmD c a) = false) →
    nmsM c (nI m) l = nI (mN c m l) ∧ (∃ k', nmsI c (nI k) l = nI k' ∧ mN c m l = 2 * (k' / 2) ∧ k' < 65536) ∧ popc 16 (mN c m l) = cntN c (popc 16 m) l := by
  intro l
  induction l with
  | nil => intro k m _ hm hk _; exact ⟨rfl, ⟨k, rfl, hm, hk⟩, rfl⟩
  | cons a l ih =>
    intro k m hok hm hk hb
    obtain ⟨h1, h2⟩ := hok.1 a List.mem_cons_self
    have hsh := sh1 h2
    have hp := p15 h2
    simp only [nmsM, nmsI, mN, cntN]
    rw [h1, hsh]
    by_cases h0 : nmD c a = 0
    · have hle : nI (nmD c a) ≤ 0 := by rw [h0]; decide
      rw [if_pos h0, if_pos hle, if_pos hle, nI_or (by omega) (by omega)]
      have hor : (k ||| 2 ^ nmD c a) / 2 = k / 2 := by
        rw [h0]
        have e1 : (k ||| 2 ^ 0) / 2 = k / 2 ||| 2 ^ 0 / 2 := Nat.or_div_two
        rw [e1]; exact Nat.or_zero _
      have hlt : k ||| 2 ^ nmD c a < 65536 := Nat.or_lt_two_pow (n := 16) hk (by omega)
      refine ih (k ||| 2 ^ nmD c a) m (okN_tl hok) (by rw [hor]; exact hm) hlt (fun x hx hx0 => ?_)
      rw [Nat.testBit_or, hb x (List.mem_cons_of_mem _ hx) hx0, h0, Nat.testBit_two_pow]
      simp; omega
    · have hle : ¬ nI (nmD c a) ≤ 0 := nI_nle (by omega) (by omega)
      rw [if_neg h0, if_neg hle, if_neg hle, nI_or (by omega) (by omega), nI_add]
      have hbk := hb a List.mem_cons_self h0
      rw [or_add _ _ hbk]
      obtain ⟨d, hd⟩ : ∃ d, nmD c a = d + 1 := ⟨nmD c a - 1, by omega⟩
      have hbm : m.testBit (nmD c a) = false := by
        rw [hd, Nat.testBit_succ] at hbk ⊢
        rw [show m / 2 = k / 2 by omega]; exact hbk
      have e : 2 ^ (d + 1) = 2 * 2 ^ d := by rw [Nat.pow_succ]; omega
      have hlt : k + 2 ^ nmD c a < 65536 := by
        rw [← or_add _ _ hbk]; exact Nat.or_lt_two_pow (n := 16) hk (by omega)
      have hpc := popc_add 16 (nmD c a) m (by omega) hbm
      rw [← hpc]
      refine ih (k + 2 ^ nmD c a) (m + 2 ^ nmD c a) (okN_tl hok) (by rw [hd, e]; omega) hlt (fun x hx hx0 => ?_)
      rw [tb_add _ _ _ hbk ?_]
      · exact hb x (List.mem_cons_of_mem _ hx) hx0
      · intro q
        have := hok.2.1 x (List.mem_cons_of_mem _ hx) a List.mem_cons_self q hx0
        exact (List.nodup_cons.mp hok.2.2).1 (this ▸ hx)
theorem and2 {k : Nat} (hk : k < 65536) : nI k &&& (-2) = nI (2 * (k / 2)) := by
  have e : (-2 : Int32) = nI (2 ^ 32 - 2) := by decide
  rw [e, nI_and (by omega) (by decide)]
  congr 1
  have h1 : (k &&& (2 ^ 32 - 2)) / 2 = k / 2 &&& (2 ^ 32 - 2) / 2 := Nat.and_div_two
  have h2 : (k &&& (2 ^ 32 - 2)) % 2 = 1 ↔ k % 2 = 1 ∧ (2 ^ 32 - 2) % 2 = 1 := Nat.and_mod_two_eq_one
  have h3 : k / 2 &&& (2 ^ 32 - 2) / 2 = k / 2 := by
    have : (2 ^ 32 - 2) / 2 = 2 ^ 31 - 1 := by decide
    rw [this, Nat.and_two_pow_sub_one_eq_mod]
    exact Nat.mod_eq_of_lt (by omega)
  rw [h3] at h1
  omega
/-- both ways of names, and their number -/
theorem names_all {c : Nat → Int32} {l : List Nat} (hok : okN c l) : ∃ m, m < 65536 ∧ nmsI c (nI 0) l &&& (-2) = nI m ∧ nmsM c (nI 0) l = nI m ∧ popc 16 m = cntN c 0 l := by
  obtain ⟨h1, ⟨k', h2, h3, h4⟩, h5⟩ := bits_all l 0 0 hok rfl (by decide) (fun _ _ _ => Nat.zero_testBit _)
  refine ⟨mN c 0 l, by omega, ?_, h1, h5⟩
  rw [h2, and2 h4, h3]
end
section
/-! Integer.bitCount of sixteen bits -/
def us (a : Int32) (k : Nat) : Int32 := (a.toUInt32 >>> ((nI k).toUInt32 &&& Int32.toUInt32 31)).toInt32
def f1 (m : Nat) : Nat := m - (m / 2 &&& 1431655765)
def f2 (m : Nat) : Nat := (m &&& 858993459) + (m / 4 &&& 858993459)
def f3 (m : Nat) : Nat := (m + m / 16) &&& 252645135
def f4 (m : Nat) : Nat := m + m / 256
def f5 (m : Nat) : Nat := m + m / 65536
theorem and2s {a b p q : Nat} (hb : b < 2) (hq : q < 2) : (2 * a + b) &&& (2 * p + q) = 2 * (a &&& p) + (b &&& q) := by
  have h1 : ((2 * a + b) &&& (2 * p + q)) / 2 = (2 * a + b) / 2 &&& (2 * p + q) / 2 := Nat.and_div_two
  have h2 : ((2 * a + b) &&& (2 * p + q)) % 2 = 1 ↔ (2 * a + b) % 2 = 1 ∧ (2 * p + q) % 2 = 1 := Nat.and_mod_two_eq_one
  have e1 : (2 * a + b) / 2 = a := by omega
  have e2 : (2 * p + q) / 2 = p := by omega
  rw [e1, e2] at h1
  have h3 : ∀ b q : Fin 2, b.val &&& q.val = if b.val = 1 ∧ q.val = 1 then 1 else 0 := by decide
  have h4 := h3 ⟨b, hb⟩ ⟨q, hq⟩
  have h4 : b &&& q = if b = 1 ∧ q = 1 then 1 else 0 := h4
  rw [h4]
  split
  · omega
  · omega
theorem and16 {a b p q : Nat} (hb : b < 16) (hq : q < 16) : (16 * a + b) &&& (16 * p + q) = 16 * (a &&& p) + (b &&& q) := by
  have x : ∀ a b : Nat, b < 16 → 16 * a + b = 2 * (2 * (2 * (2 * a + b / 8) + b / 4 % 2) + b / 2 % 2) + b % 2 := by intro a b h; omega
  have y : ∀ b : Nat, b < 16 → b = 2 * (2 * (2 * (b / 8) + b / 4 % 2) + b / 2 % 2) + b % 2 := by intro b h; omega
  have l : (16 * a + b) &&& (16 * p + q) = 2 * (2 * (2 * (2 * (a &&& p) + (b / 8 &&& q / 8)) + (b / 4 % 2 &&& q / 4 % 2)) + (b / 2 % 2 &&& q / 2 % 2)) + (b % 2 &&& q % 2) := by
    rw [x a b hb, x p q hq, and2s (by omega) (by omega), and2s (by omega) (by omega), and2s (by omega) (by omega), and2s (by omega) (by omega)]
  have r : b &&& q = 2 * (2 * (2 * (b / 8 &&& q / 8) + (b / 4 % 2 &&& q / 4 % 2)) + (b / 2 % 2 &&& q / 2 % 2)) + (b % 2 &&& q % 2) := by
    have h : b &&& q = (2 * (2 * (2 * (b / 8) + b / 4 % 2) + b / 2 % 2) + b % 2) &&& (2 * (2 * (2 * (q / 8) + q / 4 % 2) + q / 2 % 2) + q % 2) := by rw [← y b hb, ← y q hq]
    rw [h, and2s (by omega) (by omega), and2s (by omega) (by omega), and2s (by omega) (by omega)]
  rw [l, r]; omega
def D4 (a b d e : Nat) : Nat := 16 * (16 * (16 * a + b) + d) + e
theorem and64 {a b d e p q r z : Nat} (hb : b < 16) (hd : d < 16) (he : e < 16) (hq : q < 16) (hr : r < 16) (hz : z < 16) : D4 a b d e &&& D4 p q r z = D4 (a &&& p) (b &&& q) (d &&& r) (e &&& z) := by
  unfold D4
  rw [and16 he hz, and16 hd hr, and16 hb hq]
theorem popc_split {k x y : Nat} (hy : y < 16) : popc (k + 4) (16 * x + y) = popc 4 y + popc k x := by
  simp only [popc]
  have e0 : (16 * x + y) % 2 = y % 2 := by omega
  have e1 : (16 * x + y) / 2 % 2 = y / 2 % 2 := by omega
  have e2 : (16 * x + y) / 2 / 2 % 2 = y / 2 / 2 % 2 := by omega
  have e3 : (16 * x + y) / 2 / 2 / 2 % 2 = y / 2 / 2 / 2 % 2 := by omega
  have e4 : (16 * x + y) / 2 / 2 / 2 / 2 = x := by omega
  rw [e0, e1, e2, e3, e4]; omega
def eY (y : Nat) : Nat := y - (y / 2 &&& 5)
def gY (y : Nat) : Nat := (y &&& 3) + y / 4
theorem s1 : ∀ (x : Fin 2) (y : Fin 16), (8 * x.val + y.val / 2) &&& 5 = y.val / 2 &&& 5 := by decide
theorem s2 : ∀ y : Fin 16, y.val / 2 &&& 349525 = y.val / 2 &&& 5 := by decide
theorem s3 : ∀ y : Fin 16, (y.val / 2 &&& 5) ≤ y.val := by decide
theorem s4 : ∀ (x : Fin 4) (y : Fin 16), (4 * x.val + y.val / 4) &&& 3 = y.val / 4 := by decide
theorem s5 : ∀ y : Fin 16, y.val &&& 209715 = y.val &&& 3 := by decide
theorem s6 : ∀ y : Fin 16, y.val / 4 &&& 209715 = y.val / 4 := by decide
theorem s7 : ∀ y : Fin 16, gY (eY y.val) = popc 4 y.val ∧ popc 4 y.val ≤ 4 := by decide
theorem s8 : ∀ y : Fin 5, y.val &&& 61680 = 0 := by decide
theorem s9 : ∀ y : Fin 16, y.val &&& 15 = y.val := by decide
theorem f1_D {a b d e : Nat} (ha : a < 16) (hb : b < 16) (hd : d < 16) (he : e < 16) : f1 (D4 a b d e) = D4 (eY a) (eY b) (eY d) (eY e) := by
  have hk : 1431655765 = D4 349525 5 5 5 := rfl
  have hh : D4 a b d e / 2 = D4 (a / 2) (8 * (a % 2) + b / 2) (8 * (b % 2) + d / 2) (8 * (d % 2) + e / 2) := by unfold D4; omega
  unfold f1
  rw [hk, hh, and64 (by omega) (by omega) (by omega) (by decide) (by decide) (by decide)]
  have q1 := s1 ⟨a % 2, by omega⟩ ⟨b, hb⟩
  have q2 := s1 ⟨b % 2, by omega⟩ ⟨d, hd⟩
  have q3 := s1 ⟨d % 2, by omega⟩ ⟨e, he⟩
  have q4 := s2 ⟨a, ha⟩
  have q1 : (8 * (a % 2) + b / 2) &&& 5 = b / 2 &&& 5 := q1
  have q2 : (8 * (b % 2) + d / 2) &&& 5 = d / 2 &&& 5 := q2
  have q3 : (8 * (d % 2) + e / 2) &&& 5 = e / 2 &&& 5 := q3
  have q4 : a / 2 &&& 349525 = a / 2 &&& 5 := q4
  have r1 : a / 2 &&& 5 ≤ a := s3 ⟨a, ha⟩
  have r2 : b / 2 &&& 5 ≤ b := s3 ⟨b, hb⟩
  have r3 : d / 2 &&& 5 ≤ d := s3 ⟨d, hd⟩
  have r4 : e / 2 &&& 5 ≤ e := s3 ⟨e, he⟩
  rw [q1, q2, q3, q4]
  unfold D4 eY
  omega
theorem f2_D {a b d e : Nat} (ha : a < 16) (hb : b < 16) (hd : d < 16) (he : e < 16) : f2 (D4 a b d e) = D4 (gY a) (gY b) (gY d) (gY e) := by
  have hk : 858993459 = D4 209715 3 3 3 := rfl
  have hh : D4 a b d e / 4 = D4 (a / 4) (4 * (a % 4) + b / 4) (4 * (b % 4) + d / 4) (4 * (d % 4) + e / 4) := by unfold D4; omega
  unfold f2
  rw [hk, hh, and64 hb hd he (by decide) (by decide) (by decide), and64 (by omega) (by omega) (by omega) (by decide) (by decide) (by decide)]
  have q1 : (4 * (a % 4) + b / 4) &&& 3 = b / 4 := s4 ⟨a % 4, by omega⟩ ⟨b, hb⟩
  have q2 : (4 * (b % 4) + d / 4) &&& 3 = d / 4 := s4 ⟨b % 4, by omega⟩ ⟨d, hd⟩
  have q3 : (4 * (d % 4) + e / 4) &&& 3 = e / 4 := s4 ⟨d % 4, by omega⟩ ⟨e, he⟩
  have q4 : a &&& 209715 = a &&& 3 := s5 ⟨a, ha⟩
  have q5 : a / 4 &&& 209715 = a / 4 := s6 ⟨a, ha⟩
  rw [q1, q2, q3, q4, q5]
  unfold D4 gY
  omega
theorem f3_D {a b d e : Nat} (ha : a < 5) (hb : b < 5) (hd : d < 5) (he : e < 5) : f3 (D4 a b d e) = 256 * (a + b) + (d + e) := by
  have hk : 252645135 = D4 61680 15 0 15 := rfl
  have hh : D4 a b d e + D4 a b d e / 16 = D4 a (a + b) (b + d) (d + e) := by unfold D4; omega
  unfold f3
  rw [hk, hh, and64 (by omega) (by omega) (by omega) (by decide) (by decide) (by decide)]
  have q1 : a &&& 61680 = 0 := s8 ⟨a, ha⟩
  have q2 : (a + b) &&& 15 = a + b := s9 ⟨a + b, by omega⟩
  have q3 : (d + e) &&& 15 = d + e := s9 ⟨d + e, by omega⟩
  rw [q1, q2, q3, Nat.and_zero]
  unfold D4
  omega
theorem bc_ok {m : Nat} (h : m < 65536) : f5 (f4 (f3 (f2 (f1 m)))) &&& 63 = popc 16 m := by
  have hm : m = D4 (m / 4096) (m / 256 % 16) (m / 16 % 16) (m % 16) := by unfold D4; omega
  have e4 : m / 4096 < 16 := by omega
  generalize m / 4096 = a at hm e4
  have e3 : m / 256 % 16 < 16 := by omega
  generalize m / 256 % 16 = b at hm e3
  have e2 : m / 16 % 16 < 16 := by omega
  generalize m / 16 % 16 = d at hm e2
  have e1 : m % 16 < 16 := by omega
  generalize m % 16 = e at hm e1
  subst hm
  have el : ∀ y, y < 16 → eY y < 16 := fun y hy => by unfold eY; omega
  have p1 : gY (eY a) = popc 4 a ∧ popc 4 a ≤ 4 := s7 ⟨a, e4⟩
  have p2 : gY (eY b) = popc 4 b ∧ popc 4 b ≤ 4 := s7 ⟨b, e3⟩
  have p3 : gY (eY d) = popc 4 d ∧ popc 4 d ≤ 4 := s7 ⟨d, e2⟩
  have p4 : gY (eY e) = popc 4 e ∧ popc 4 e ≤ 4 := s7 ⟨e, e1⟩
  rw [f1_D e4 e3 e2 e1, f2_D (el _ e4) (el _ e3) (el _ e2) (el _ e1), p1.1, p2.1, p3.1, p4.1, f3_D (by omega) (by omega) (by omega) (by omega)]
  have hp : popc 16 (D4 a b d e) = popc 4 e + (popc 4 d + (popc 4 b + popc 4 a)) := by
    unfold D4
    rw [popc_split (k := 12) e1, popc_split (k := 8) e2, popc_split (k := 4) e3]
  rw [hp]
  have hs : (63 : Nat) = 2 ^ 6 - 1 := rfl
  rw [hs, Nat.and_two_pow_sub_one_eq_mod]
  have hA : popc 4 a + popc 4 b ≤ 8 := by omega
  have hB : popc 4 d + popc 4 e ≤ 8 := by omega
  rw [show popc 4 e + (popc 4 d + (popc 4 b + popc 4 a)) = (popc 4 a + popc 4 b) + (popc 4 d + popc 4 e) by omega]
  generalize popc 4 a + popc 4 b = A at hA ⊢
  generalize popc 4 d + popc 4 e = B at hB ⊢
  have g4 : f4 (256 * A + B) = 256 * A + B + A := by unfold f4; omega
  have g5 : f5 (256 * A + B + A) = 256 * A + B + A := by unfold f5; omega
  rw [g4, g5]
  omega
theorem us_nI {m k : Nat} (h : m < 2 ^ 32) (hk : k < 32) : us (nI m) k = nI (m / 2 ^ k) := by
  have : ∀ k : Fin 32, (((nI k.val).toUInt32 &&& Int32.toUInt32 31).toBitVec % 32).toNat = k.val := by decide
  exact pk_ushrN h (nI k) k (this ⟨k, hk⟩)
theorem e_bc {Ls : Nat} {xs : Nat → Int32} {m : Nat} {h : mH} (hm : m < 65536) : mEv Ls xs 98 (0, [some (.int (nI m))], [], h) (rV (nI (popc 16 m)) h) := by
  have a1 : m / 2 &&& 1431655765 ≤ m / 2 := Nat.and_le_left
  have g1 : f1 m < 65536 := by unfold f1; omega
  have e1 : nI m - (us (nI m) 1 &&& nI 1431655765) = nI (f1 m) := by
    rw [us_nI (by omega) (by decide), nI_and (by omega) (by decide), show m / 2 ^ 1 = m / 2 from rfl, pk_sub (by omega)]; rfl
  have a2 : f1 m &&& 858993459 ≤ f1 m := Nat.and_le_left
  have a3 : f1 m / 4 &&& 858993459 ≤ f1 m / 4 := Nat.and_le_left
  have g2 : f2 (f1 m) < 131072 := by unfold f2; omega
  have e2 : (nI (f1 m) &&& nI 858993459) + (us (nI (f1 m)) 2 &&& nI 858993459) = nI (f2 (f1 m)) := by
    rw [us_nI (by omega) (by decide), nI_and (by omega) (by decide), nI_and (by omega) (by decide), nI_add]; rfl
  have a4 : (f2 (f1 m) + f2 (f1 m) / 16) &&& 252645135 ≤ f2 (f1 m) + f2 (f1 m) / 16 := Nat.and_le_left
  have g3 : f3 (f2 (f1 m)) < 262144 := by unfold f3; omega
  have e3 : (nI (f2 (f1 m)) + us (nI (f2 (f1 m))) 4) &&& nI 252645135 = nI (f3 (f2 (f1 m))) := by
    rw [us_nI (by omega) (by decide), nI_add, nI_and (by omega) (by decide)]; rfl
  have g4 : f4 (f3 (f2 (f1 m))) < 524288 := by unfold f4; omega
  have e4 : nI (f3 (f2 (f1 m))) + us (nI (f3 (f2 (f1 m)))) 8 = nI (f4 (f3 (f2 (f1 m)))) := by
    rw [us_nI (by omega) (by decide), nI_add]; rfl
  have g5 : f5 (f4 (f3 (f2 (f1 m)))) < 1048576 := by unfold f5; omega
  have e5 : nI (f4 (f3 (f2 (f1 m)))) + us (nI (f4 (f3 (f2 (f1 m))))) 16 = nI (f5 (f4 (f3 (f2 (f1 m))))) := by
    rw [us_nI (by omega) (by decide), nI_add]; rfl
  have e6 : nI (f5 (f4 (f3 (f2 (f1 m))))) &&& nI 63 = nI (popc 16 m) := by
    rw [nI_and (by omega) (by decide), bc_ok hm]
  refine fEv.steps (st := (10, [some (.int (nI m - (us (nI m) 1 &&& nI 1431655765)))], [], h)) 8 rfl ?_
  rw [e1]
  refine fEv.steps (st := (24, [some (.int ((nI (f1 m) &&& nI 858993459) + (us (nI (f1 m)) 2 &&& nI 858993459)))], [], h)) 10 rfl ?_
  rw [e2]
  refine fEv.steps (st := (34, [some (.int ((nI (f2 (f1 m)) + us (nI (f2 (f1 m))) 4) &&& nI 252645135))], [], h)) 8 rfl ?_
  rw [e3]
  refine fEv.steps (st := (41, [some (.int (nI (f3 (f2 (f1 m))) + us (nI (f3 (f2 (f1 m)))) 8))], [], h)) 6 rfl ?_
  rw [e4]
  refine fEv.steps (st := (48, [some (.int (nI (f4 (f3 (f2 (f1 m)))) + us (nI (f4 (f3 (f2 (f1 m))))) 16))], [], h)) 6 rfl ?_
  rw [e5, ← e6]
  exact fEv.retV rfl rfl
end
section
/-! a call on both sides -/
def I1 (c t : Nat → Int32) : Prop := ∃ ch R lv, Inv False c t ch R lv
def J1 (c t : Nat → Int32) : Prop := ∃ ch R lv, Inv True c t ch R lv
def St (c t : Nat → Int32) (dn : Int32) : Prop := (dn = 0 ∧ J1 c t) ∨ (dn = 1 ∧ I1 c t)
def xj (x5 j : Nat) : Nat := if j = 5 then x5 else j - 1
/-- the highest code of a method -/
def jmx (k x5 : Nat) : Nat := if k = 36 then 3 else if k = 38 then 1 else if x5 = 0 then 4 else 5
theorem jmx_pos (k x5 : Nat) : 1 ≤ jmx k x5 := by
  unfold jmx
  split
  · decide
  · split
    · decide
    · split <;> decide
def Op (Ls : Nat) (xs : Nat → Int32) (k k' : Nat) (av : List Value) (x5 : Nat) (c t : Nat → Int32) (lf dn : Int32) : Prop :=
  ∃ (c' t' : Nat → Int32) (lf' dn' : Int32) (j : Nat) (v : Int32), St c' t' dn' ∧ j ≤ jmx k x5 ∧
    (∀ re en n M, mEv Ls xs k (mEnt k (.ref 0 :: av) (hV c t lf dn re en n M)) (if j = 0 then rV v (hV c' t' lf' dn' re en n M) else rX (xj x5 j) (hV c' t' lf' dn' re en n M))) ∧
    (∀ P T cd mk hm he fr, ∃ w hm' he' fr', (j = 0 → w = v) ∧ mEv Ls xs k' (mEnt k' (.ref 6 :: av) (hM P T cd (c, t, lf, dn) mk hm he fr)) (rV w (hM P T (nI j) (c', t', lf', dn') mk hm' he' fr')))
section OP
variable {Ls : Nat} {xs : Nat → Int32} {k k' x5 : Nat} {av : List Value} {c t : Nat → Int32} {lf dn : Int32}
theorem Op.err (j : Nat) {x : Nat} (hj : ¬ j = 0) (hj5 : j ≤ jmx k x5) (hx : xj x5 j = x) (hs : St c t dn) (hc : ∀ re en n M, mEv Ls xs k (mEnt k (.ref 0 :: av) (hV c t lf dn re en n M)) (rX x (hV c t lf dn re en n M)))
    (hm : ∀ P T cd mk hm he fr, ∃ w hm' he' fr', mEv Ls xs k' (mEnt k' (.ref 6 :: av) (hM P T cd (c, t, lf, dn) mk hm he fr)) (rV w (hM P T (nI j) (c, t, lf, dn) mk hm' he' fr'))) : Op Ls xs k k' av x5 c t lf dn := by
  refine ⟨c, t, lf, dn, j, 0, hs, hj5, fun re en n M => ?_, fun P T cd mk hm' he fr => ?_⟩
  · rw [if_neg hj, hx]; exact hc re en n M
  · obtain ⟨w, a, b, d, h⟩ := hm P T cd mk hm' he fr
    exact ⟨w, a, b, d, fun z => absurd z hj, h⟩
theorem Op.val {v : Int32} (hs : St c t dn) (hc : ∀ re en n M, mEv Ls xs k (mEnt k (.ref 0 :: av) (hV c t lf dn re en n M)) (rV v (hV c t lf dn re en n M)))
    (hm : ∀ P T cd mk hm he fr, ∃ hm' he' fr', mEv Ls xs k' (mEnt k' (.ref 6 :: av) (hM P T cd (c, t, lf, dn) mk hm he fr)) (rV v (hM P T (nI 0) (c, t, lf, dn) mk hm' he' fr'))) : Op Ls xs k k' av x5 c t lf dn := by
  refine ⟨c, t, lf, dn, 0, v, hs, Nat.zero_le _, fun re en n M => ?_, fun P T cd mk hm' he fr => ?_⟩
  · rw [if_pos rfl]; exact hc re en n M
  · obtain ⟨a, b, d, h⟩ := hm P T cd mk hm' he fr
    exact ⟨v, a, b, d, fun _ => rfl, h⟩
theorem Op.wr {v : Int32} {ws : List Wr} (hs : SafeW I1 J1 ws c t) (hc : ∀ re en n M, mEv Ls xs k (mEnt k (.ref 0 :: av) (hV c t lf 0 re en n M)) (rsC re en n M (some (.int v)) ws c t lf))
    (hm : ∀ P T cd mk hm he fr, ∃ hm' he' fr', mEv Ls xs k' (mEnt k' (.ref 6 :: av) (hM P T cd (c, t, lf, 0) mk hm he fr)) (rE P T mk v (mws ws (c, t, lf, 0)) hm' he' fr')) : Op Ls xs k k' av x5 c t lf 0 := by
  have h1 := hs.run (lf := lf)
  have h2 := mws_rW ws c t lf
  cases hr : rW ws c t lf with
  | mk c' r =>
    obtain ⟨t', lf', b⟩ := r
    rw [hr] at h1 h2
    have h2 : mws ws (c, t, lf, 0) = (c', t', lf', bI b) := h2
    cases b with
    | true =>
      refine ⟨c', t', lf', 1, 1, v, Or.inr ⟨rfl, h1.1 rfl⟩, jmx_pos k x5, fun re en n M => ?_, fun P T cd mk hm' he fr => ?_⟩
      · have := hc re en n M
        unfold rsC at this
        rw [hr] at this
        rw [if_neg (by decide)]
        exact this
      · obtain ⟨a, b, d, h⟩ := hm P T cd mk hm' he fr
        unfold rE at h
        rw [h2, if_neg (show ¬ MS.dn (c', t', lf', bI true) = 0 by show ¬ (1 : Int32) = 0; decide), if_neg (show ¬ MS.dn (c', t', lf', bI true) = 0 by show ¬ (1 : Int32) = 0; decide)] at h
        exact ⟨_, a, b, d, fun z => absurd z (by decide), h⟩
    | false =>
      refine ⟨c', t', lf', 0, 0, v, Or.inl ⟨rfl, h1.2 rfl⟩, Nat.zero_le _, fun re en n M => ?_, fun P T cd mk hm' he fr => ?_⟩
      · have := hc re en n M
        unfold rsC at this
        rw [hr] at this
        rw [if_pos rfl]
        exact this
      · obtain ⟨a, b, d, h⟩ := hm P T cd mk hm' he fr
        unfold rE at h
        rw [h2, if_pos (show MS.dn (c', t', lf', bI false) = 0 by rfl), if_pos (show MS.dn (c', t', lf', bI false) = 0 by rfl)] at h
        exact ⟨_, a, b, d, fun _ => rfl, h⟩
end OP
/-- a path is bad or good -/
theorem path_cases (a : Int32) : badP a ∨ ∃ p : Nat, p < 65536 ∧ a = nI p ∧ okP p = true := by
  rcases pk_ix a (n := 65536) (by decide) with h | h | ⟨p, hp, rfl⟩
  · exact Or.inl (Or.inl (Or.inl h))
  · refine Or.inl (Or.inl (Or.inr ?_))
    have e : nI 65535 < nI 65536 := nI_lt (by decide) (by decide)
    exact Int32.lt_of_lt_of_le e h
  · rcases b_cases (okP p) with h | h
    · exact Or.inr ⟨p, hp, rfl, h⟩
    · exact Or.inl (Or.inr ⟨p, hp, rfl, h⟩)
theorem okN_of {u : Prop} {c t : Nat → Int32} {ch : Nat → List Nat} {R : Nat → Prop} {lv : Nat → Nat} (h : Inv u c t ch R lv) {p : Nat} (hp : R p) (hd : dirP c p = true) : okN c (ch p) := by
  obtain ⟨g1, g2, g3, g4, g5⟩ := h.2.2.2.1 p hp hd
  have hn : ∀ a ∈ ch p, c (4 * a) = nI (nmD c a) ∧ nmD c a ≤ 15 := by
    intro a ha
    unfold nmD
    rcases g3 a ha with e | ⟨⟨d, e1, e2, e3⟩, -⟩
    · rw [e]; exact ⟨rfl, by decide⟩
    · rw [e3, nI_clamp (by omega)]; exact ⟨rfl, e2⟩
  refine ⟨hn, fun a ha b hb hab h0 => ?_, (h.2.1 p hp).2.1⟩
  refine g4 a ha b hb ?_ ?_
  · rw [(hn a ha).1, (hn b hb).1, hab]
  · rw [(hn a ha).1]
    intro z
    have := hn a ha
    exact h0 ((nI_eq (by omega) (by decide)).mp z)
end
section
/-! reads on both sides -/
theorem gH_some {c : Nat → Int32} {ch : Nat → List Nat} {p z : Nat} (hp : p < 65536) (ho : okP p = true) (h : gH c ch p = some z) : wk c ch (p / 16) = some z ∧ dirP c z = true := by
  rw [gH_eq hp ho] at h
  obtain ⟨y, h1, h2⟩ := Option.bind_eq_some_iff.mp h
  split at h2
  · rename_i hd
    cases h2
    exact ⟨h1, hd⟩
  · cases h2
theorem gH_none {c : Nat → Int32} {ch : Nat → List Nat} {p : Nat} (hp : p < 65536) (ho : okP p = true) (h : gH c ch p = none) : wk c ch (p / 16) = none ∨ ∃ z, wk c ch (p / 16) = some z ∧ dirP c z = false := by
  rw [gH_eq hp ho] at h
  cases hw : wk c ch (p / 16) with
  | none => exact Or.inl rfl
  | some z =>
    refine Or.inr ⟨z, rfl, ?_⟩
    rw [hw, Option.bind_some] at h
    rcases b_cases (dirP c z) with hd | hd
    · rw [if_pos hd] at h; cases h
    · exact hd
theorem gH_of {c : Nat → Int32} {ch : Nat → List Nat} {p z : Nat} (hp : p < 65536) (ho : okP p = true) (hw : wk c ch (p / 16) = some z) (hd : dirP c z = true) : gH c ch p = some z := by
  rw [gH_eq hp ho, hw, Option.bind_some, if_pos hd]
section OR
variable {Ls : Nat} {xs : Nat → Int32} {c t : Nat → Int32} {lf dn : Int32} {u : Prop} {ch : Nat → List Nat} {R : Nat → Prop} {lv : Nat → Nat}
theorem wk_par (h : Inv u c t ch R lv) {p q : Nat} (hp : p < 65536) (h0 : ¬ p = 0) (ho : okP p = true) (hw : wk c ch p = some q) :
    ∃ z, gH c ch p = some z ∧ wk c ch (p / 16) = some z ∧ R z ∧ dirP c z = true ∧ q ∈ ch z ∧ c (4 * q) = nI (p % 16) ∧ q < 32 ∧ R q := by
  have hl := ok_low hp ho h0
  rw [wk_low hp ho h0] at hw
  obtain ⟨z, hg, hk⟩ := Option.bind_eq_some_iff.mp hw
  obtain ⟨h1, h2⟩ := gH_some hp ho hg
  have hz := wk_R h.rc h.r32 h1
  obtain ⟨k1, k2⟩ := lkO_some hk
  obtain ⟨k3, k4⟩ := ((h.rc z hz).2 h2).2.2 q k1 (by rw [k2]; intro e; exact hl ((nI_eq (by omega) (by decide)).mp e))
  exact ⟨z, hg, h1, hz, h2, k1, k2, k4, k3⟩
theorem op_free (hs : St c t dn) : Op Ls xs 38 79 [] 0 c t lf dn := by
  rcases hs with ⟨rfl, h⟩ | ⟨rfl, h⟩
  · refine Op.val (v := nI (cntF t 32)) (Or.inl ⟨rfl, h⟩) (fun _ _ _ _ => e_fre) (fun P T cd mk hm he fr => ⟨hm, he, fr, ?_⟩)
    have := m_fre (Ls := Ls) (xs := xs) (P := P) (T := T) (cd := cd) (mk := mk) (hm := hm) (he := he) (fr := fr) (s := (c, t, lf, 0))
    exact this
  · refine Op.err 1 (x := 0) (by decide) (by decide) rfl (Or.inr ⟨rfl, h⟩) (fun _ _ _ _ => e_fre_down) (fun P T cd mk hm he fr => ⟨nI 0, hm, he, fr, ?_⟩)
    have := m_fre (Ls := Ls) (xs := xs) (P := P) (T := T) (cd := cd) (mk := mk) (hm := hm) (he := he) (fr := fr) (s := (c, t, lf, 1))
    exact this
theorem op_names {a : Int32} (hs : St c t dn) : Op Ls xs 37 78 [.int a] 0 c t lf dn := by
  rcases hs with ⟨rfl, ch, R, lv, h⟩ | ⟨rfl, h⟩
  · have hs : St c t 0 := Or.inl ⟨rfl, ch, R, lv, h⟩
    rcases path_cases a with hb | ⟨p, hp, rfl, ho⟩
    · exact Op.err 2 (x := 1) (by decide) (by decide) rfl hs (fun _ _ _ _ => e_nam_bad hb) (fun P T cd mk hm he fr => ⟨_, _, _, _, m_namL (m_lackB rfl hb) (by decide)⟩)
    · cases hw : wk c ch p with
      | none =>
        refine Op.err 3 (x := 2) (by decide) (by decide) rfl hs (fun _ _ _ _ => e_nam_no hp ho h.rc h.r32 hw) (fun P T cd mk hm he fr => ?_)
        obtain ⟨hm', he', hh⟩ := m_lackN (Ls := Ls) (xs := xs) (P := P) (T := T) (cd := cd) (hm := hm) (he := he) (fr := fr) (mk := mk) (s := (c, t, lf, 0)) rfl h.rc h.r32 hp ho hw
        exact ⟨_, hm', he', fr, m_namL hh (by decide)⟩
      | some q =>
        have hRq : R q := wk_R h.rc h.r32 hw
        by_cases h0 : p = 0
        · subst h0
          rw [wk_0] at hw
          cases hw
          obtain ⟨m, -, m1, m2, -⟩ := names_all (okN_of h h.r32 dirP_32)
          refine Op.val (v := nI m) hs (fun re en n M => ?_) (fun P T cd mk hm he fr => ⟨hm, he, fr, ?_⟩)
          · rw [← m1]; exact e_nam hp ho h.rc h.r32 wk_0 dirP_32
          · rw [← m2]; exact m_nam_root (s := (c, t, lf, 0)) rfl (h.chain h.r32)
        · obtain ⟨z, hg, hz1, hz2, hz3, hz4, hz5, hq, -⟩ := wk_par h hp h0 ho hw
          rcases b_cases (dirP c q) with hd | hd
          · obtain ⟨m, -, m1, m2, -⟩ := names_all (okN_of h hRq hd)
            refine Op.val (v := nI m) hs (fun re en n M => ?_) (fun P T cd mk hm he fr => ?_)
            · rw [← m1]; exact e_nam hp ho h.rc h.r32 hw hd
            · obtain ⟨z, -, -, -, hF⟩ := m_FK (Ls := Ls) (xs := xs) (P := P) (T := T) (mk := mk) (s := (c, t, lf, 0)) rfl h.rc h.r32 hp h0 ho hw hq
              refine ⟨fsP c z, hE z, fr, ?_⟩
              rw [← m2]
              have hc := h.chain hRq
              rw [fsP_lt hq] at hc
              exact m_nam_dir hF hp h0 hq hd hc
          · refine Op.err 4 (x := 3) (by decide) (by decide) rfl hs (fun _ _ _ _ => e_nam_file hp ho h.rc h.r32 hw hd) (fun P T cd mk hm he fr => ?_)
            obtain ⟨z, -, -, -, hF⟩ := m_FK (Ls := Ls) (xs := xs) (P := P) (T := T) (mk := mk) (s := (c, t, lf, 0)) rfl h.rc h.r32 hp h0 ho hw hq
            exact ⟨_, _, _, fr, m_nam_file hF hp h0 hq hd⟩
  · exact Op.err 1 (x := 0) (by decide) (by decide) rfl (Or.inr ⟨rfl, h⟩) (fun _ _ _ _ => e_nam_down) (fun P T cd mk hm he fr => ⟨_, _, _, _, m_namL (m_lackD (show ¬ (1 : Int32) = 0 by decide)) (by decide)⟩)
theorem op_length {a : Int32} (hs : St c t dn) : Op Ls xs 36 77 [.int a] 0 c t lf dn := by
  rcases hs with ⟨rfl, ch, R, lv, h⟩ | ⟨rfl, h⟩
  · have hs : St c t 0 := Or.inl ⟨rfl, ch, R, lv, h⟩
    rcases path_cases a with hb | ⟨p, hp, rfl, ho⟩
    · exact Op.err 2 (x := 1) (by decide) (by decide) rfl hs (fun _ _ _ _ => e_lgt_bad hb) (fun P T cd mk hm he fr => ⟨_, _, _, _, m_lgtL (m_lackB rfl hb) (by decide)⟩)
    · cases hw : wk c ch p with
      | none =>
        refine Op.err 3 (x := 2) (by decide) (by decide) rfl hs (fun _ _ _ _ => e_lgt_no hp ho h.rc h.r32 hw) (fun P T cd mk hm he fr => ?_)
        obtain ⟨hm', he', hh⟩ := m_lackN (Ls := Ls) (xs := xs) (P := P) (T := T) (cd := cd) (hm := hm) (he := he) (fr := fr) (mk := mk) (s := (c, t, lf, 0)) rfl h.rc h.r32 hp ho hw
        exact ⟨_, hm', he', fr, m_lgtL hh (by decide)⟩
      | some q =>
        have hRq : R q := wk_R h.rc h.r32 hw
        by_cases h0 : p = 0
        · subst h0
          rw [wk_0] at hw
          cases hw
          obtain ⟨m, m0, m1, m2, m3⟩ := names_all (okN_of h h.r32 dirP_32)
          refine Op.val (v := -1 - nI (popc 16 m)) hs (fun re en n M => ?_) (fun P T cd mk hm he fr => ⟨hm, he, fr, ?_⟩)
          · exact e_lgt_dir hp ho h.rc h.r32 wk_0 dirP_32 (by rw [m1]; exact e_bc m0)
          · rw [m3]; exact m_lgt_root (s := (c, t, lf, 0)) rfl (h.chain h.r32)
        · obtain ⟨z, hg, hz1, hz2, hz3, hz4, hz5, hq, -⟩ := wk_par h hp h0 ho hw
          rcases b_cases (dirP c q) with hd | hd
          · obtain ⟨m, m0, m1, m2, m3⟩ := names_all (okN_of h hRq hd)
            refine Op.val (v := -1 - nI (popc 16 m)) hs (fun re en n M => ?_) (fun P T cd mk hm he fr => ?_)
            · exact e_lgt_dir hp ho h.rc h.r32 hw hd (by rw [m1]; exact e_bc m0)
            · obtain ⟨z, -, -, -, hF⟩ := m_FK (Ls := Ls) (xs := xs) (P := P) (T := T) (mk := mk) (s := (c, t, lf, 0)) rfl h.rc h.r32 hp h0 ho hw hq
              refine ⟨fsP c z, hE z, fr, ?_⟩
              rw [m3]
              have hc := h.chain hRq
              rw [fsP_lt hq] at hc
              exact m_lgt_dir hF hp h0 hq hd hc
          · refine Op.val (v := c (4 * q + 3)) hs (fun _ _ _ _ => e_lgt_file hp ho h.rc h.r32 hw hq hd) (fun P T cd mk hm he fr => ?_)
            obtain ⟨z, -, -, -, hF⟩ := m_FK (Ls := Ls) (xs := xs) (P := P) (T := T) (mk := mk) (s := (c, t, lf, 0)) rfl h.rc h.r32 hp h0 ho hw hq
            exact ⟨_, _, fr, m_lgt_file hF hp h0 hq hd⟩
  · exact Op.err 1 (x := 0) (by decide) (by decide) rfl (Or.inr ⟨rfl, h⟩) (fun _ _ _ _ => e_lgt_down) (fun P T cd mk hm he fr => ⟨_, _, _, _, m_lgtL (m_lackD (show ¬ (1 : Int32) = 0 by decide)) (by decide)⟩)
end OR
end
section
/-! get, put, rename, remove on both sides -/
theorem ix_bad {i : Int32} {len : Nat} (hl : len ≤ 128) (hi : i < 0 ∨ nI len ≤ i) : ¬ (nI 0 ≤ i ∧ i ≤ nI len - nI 1) := by
  rintro ⟨h1, h2⟩
  rcases hi with hi | hi
  · exact Int32.not_lt.mpr h1 hi
  · have h3 : nI len ≤ nI len - nI 1 := Int32.le_trans hi h2
    cases len with
    | zero => exact absurd h3 (by decide)
    | succ m =>
      rw [pk_sub (by omega)] at h3
      exact Int32.not_le.mpr (nI_lt (show m + 1 - 1 < m + 1 by omega) (by omega)) h3
theorem ix_good {i len : Nat} (hl : len ≤ 128) (hi : i < len) : nI 0 ≤ nI i ∧ nI i ≤ nI len - nI 1 := by
  refine ⟨nI_pos' (by omega), ?_⟩
  rw [pk_sub (by omega)]
  exact nI_le (by omega) (by omega)
theorem lkO_none {c : Nat → Int32} {d : Nat} {l : List Nat} (h : lkO c d l = none) : ∀ x ∈ l, ¬ c (4 * x) = nI d := by
  intro x hx hc
  unfold lkO at h
  rw [List.find?_eq_none] at h
  exact h x hx (by simpa using hc)
theorem cntN_ge {c : Nat → Int32} : ∀ (l : List Nat) (k : Nat), k ≤ cntN c k l := by
  intro l
  induction l with
  | nil => intro k; exact Nat.le_refl _
  | cons a l ih =>
    intro k
    rw [cntN]
    split
    · exact ih k
    · exact Nat.le_trans (by omega) (ih (k + 1))
theorem cntN_zero {c : Nat → Int32} : ∀ (l : List Nat), cntN c 0 l = 0 → ∀ a ∈ l, c (4 * a) ≤ 0 := by
  intro l
  induction l with
  | nil => intro _ a ha; cases ha
  | cons b l ih =>
    intro h a ha
    rw [cntN] at h
    split at h
    · rename_i hb
      rcases List.mem_cons.mp ha with rfl | ha
      · exact hb
      · exact ih h a ha
    · have := cntN_ge (c := c) l (0 + 1)
      omega
section OS
variable {Ls : Nat} {xs : Nat → Int32} {c t : Nat → Int32} {lf dn : Int32} {u : Prop} {ch : Nat → List Nat} {R : Nat → Prop} {lv : Nat → Nat}
/-- a file: its chain, its length -/
theorem Inv.fil (h : Inv True c t ch R lv) {q : Nat} (hq : R q) (hd : dirP c q = false) : Chain t (c (4 * q + 2)) (ch q) ∧ (ch q).Nodup ∧ (ch q).length ≤ 32 ∧ ∃ len, c (4 * q + 3) = nI len ∧ len ≤ 128 ∧ (ch q).length = (len + 3) / 4 := by
  obtain ⟨h1, len, h2, h3, h4, h5⟩ := h.2.2.2.2 q hq hd
  have := h.len hq
  exact ⟨h1, (h.2.1 q hq).2.1, this, len, h2, by omega, h5 trivial⟩
theorem op_get {a i : Int32} (hs : St c t dn) : Op Ls xs 31 72 [.int a, .int i] 5 c t lf dn := by
  rcases hs with ⟨rfl, ch, R, lv, h⟩ | ⟨rfl, h⟩
  · have hs : St c t 0 := Or.inl ⟨rfl, ch, R, lv, h⟩
    rcases path_cases a with hb | ⟨p, hp, rfl, ho⟩
    · exact Op.err 2 (x := 1) (by decide) (by decide) rfl hs (fun _ _ _ _ => e_get_bad hb) (fun P T cd mk hm he fr => ⟨_, _, _, _, m_getL (m_locL (m_lofL (m_lackB rfl hb) (by decide)) (by decide)) (by decide)⟩)
    · cases hw : wk c ch p with
      | none =>
        refine Op.err 3 (x := 2) (by decide) (by decide) rfl hs (fun _ _ _ _ => e_get_no hp ho h.rc h.r32 hw) (fun P T cd mk hm he fr => ?_)
        obtain ⟨hm', he', hh⟩ := m_lackN (Ls := Ls) (xs := xs) (P := P) (T := T) (cd := cd) (hm := hm) (he := he) (fr := fr) (mk := mk) (s := (c, t, lf, 0)) rfl h.rc h.r32 hp ho hw
        exact ⟨_, hm', he', fr, m_getL (m_locL (m_lofL hh (by decide)) (by decide)) (by decide)⟩
      | some q =>
        have hRq : R q := wk_R h.rc h.r32 hw
        by_cases h0 : p = 0
        · subst h0
          rw [wk_0] at hw
          cases hw
          exact Op.err 4 (x := 3) (by decide) (by decide) rfl hs (fun _ _ _ _ => e_get_dir hp ho h.rc h.r32 wk_0 dirP_32) (fun P T cd mk hm he fr => ⟨_, _, _, _, m_getL (m_locL (m_lof0 rfl) (by decide)) (by decide)⟩)
        · obtain ⟨z, hg, hz1, hz2, hz3, hz4, hz5, hq, -⟩ := wk_par h hp h0 ho hw
          have FKs := fun P T mk => m_FK (Ls := Ls) (xs := xs) (P := P) (T := T) (mk := mk) (s := (c, t, lf, 0)) rfl h.rc h.r32 hp h0 ho hw hq
          rcases b_cases (dirP c q) with hd | hd
          · refine Op.err 4 (x := 3) (by decide) (by decide) rfl hs (fun _ _ _ _ => e_get_dir hp ho h.rc h.r32 hw hd) (fun P T cd mk hm he fr => ?_)
            obtain ⟨z, -, -, -, hF⟩ := FKs P T mk
            exact ⟨_, _, _, fr, m_getL (m_locL (m_lofD hF hp h0 hq hd) (by decide)) (by decide)⟩
          · obtain ⟨f1, f2, f3, len, f4, f5, f6⟩ := h.fil hRq hd
            have bad : (i < 0 ∨ nI len ≤ i) → Op Ls xs 31 72 [.int (nI p), .int i] 5 c t lf 0 := by
              intro hi
              refine Op.err 5 (x := 5) (by decide) (by decide) rfl hs (fun _ _ _ _ => e_get_ix hp ho h.rc h.r32 hw hq hd f4 hi) (fun P T cd mk hm he fr => ?_)
              obtain ⟨z, -, -, -, hF⟩ := FKs P T mk
              have hl := m_loc (cd := cd) (hm := hm) (he := he) (fr := fr) (i := i) hF hp h0 hq hd f4
              rw [if_neg (ix_bad f5 hi)] at hl
              exact ⟨_, _, _, fr, m_getL hl (by decide)⟩
            rcases pk_ix i (n := len) (by omega) with hi | hi | ⟨j, hj, rfl⟩
            · exact bad (Or.inl hi)
            · exact bad (Or.inr hi)
            · refine Op.val (v := c (4 * (ch q).getD (j / 4) 0 + j % 4)) hs (fun _ _ _ _ => e_get hp ho h.rc h.r32 hw hq hd f4 f5 hj f1 (by omega)) (fun P T cd mk hm he fr => ?_)
              obtain ⟨z, -, -, -, hF⟩ := FKs P T mk
              have hl := m_loc (cd := cd) (hm := hm) (he := he) (fr := fr) (i := nI j) hF hp h0 hq hd f4
              rw [if_pos (ix_good f5 hj)] at hl
              exact ⟨_, _, fr, m_get hl hF hq (by omega) f1 (by omega)⟩
  · exact Op.err 1 (x := 0) (by decide) (by decide) rfl (Or.inr ⟨rfl, h⟩) (fun _ _ _ _ => e_get_down) (fun P T cd mk hm he fr => ⟨_, _, _, _, m_getL (m_locL (m_lofL (m_lackD (show ¬ (1 : Int32) = 0 by decide)) (by decide)) (by decide)) (by decide)⟩)
theorem op_put {a i v : Int32} (hs : St c t dn) : Op Ls xs 33 75 [.int a, .int i, .int v] 5 c t lf dn := by
  rcases hs with ⟨rfl, ch, R, lv, h⟩ | ⟨rfl, h⟩
  · have hs : St c t 0 := Or.inl ⟨rfl, ch, R, lv, h⟩
    rcases path_cases a with hb | ⟨p, hp, rfl, ho⟩
    · exact Op.err 2 (x := 1) (by decide) (by decide) rfl hs (fun _ _ _ _ => e_put_bad hb) (fun P T cd mk hm he fr => ⟨_, _, _, _, m_putL (m_locL (m_lofL (m_lackB rfl hb) (by decide)) (by decide)) (by decide)⟩)
    · cases hw : wk c ch p with
      | none =>
        refine Op.err 3 (x := 2) (by decide) (by decide) rfl hs (fun _ _ _ _ => e_put_no hp ho h.rc h.r32 hw) (fun P T cd mk hm he fr => ?_)
        obtain ⟨hm', he', hh⟩ := m_lackN (Ls := Ls) (xs := xs) (P := P) (T := T) (cd := cd) (hm := hm) (he := he) (fr := fr) (mk := mk) (s := (c, t, lf, 0)) rfl h.rc h.r32 hp ho hw
        exact ⟨_, hm', he', fr, m_putL (m_locL (m_lofL hh (by decide)) (by decide)) (by decide)⟩
      | some q =>
        have hRq : R q := wk_R h.rc h.r32 hw
        by_cases h0 : p = 0
        · subst h0
          rw [wk_0] at hw
          cases hw
          exact Op.err 4 (x := 3) (by decide) (by decide) rfl hs (fun _ _ _ _ => e_put_dir hp ho h.rc h.r32 wk_0 dirP_32) (fun P T cd mk hm he fr => ⟨_, _, _, _, m_putL (m_locL (m_lof0 rfl) (by decide)) (by decide)⟩)
        · obtain ⟨z, hg, hz1, hz2, hz3, hz4, hz5, hq, -⟩ := wk_par h hp h0 ho hw
          have FKs := fun P T mk => m_FK (Ls := Ls) (xs := xs) (P := P) (T := T) (mk := mk) (s := (c, t, lf, 0)) rfl h.rc h.r32 hp h0 ho hw hq
          rcases b_cases (dirP c q) with hd | hd
          · refine Op.err 4 (x := 3) (by decide) (by decide) rfl hs (fun _ _ _ _ => e_put_dir hp ho h.rc h.r32 hw hd) (fun P T cd mk hm he fr => ?_)
            obtain ⟨z, -, -, -, hF⟩ := FKs P T mk
            exact ⟨_, _, _, fr, m_putL (m_locL (m_lofD hF hp h0 hq hd) (by decide)) (by decide)⟩
          · obtain ⟨f1, f2, f3, len, f4, f5, f6⟩ := h.fil hRq hd
            have bad : (i < 0 ∨ nI len ≤ i) → Op Ls xs 33 75 [.int (nI p), .int i, .int v] 5 c t lf 0 := by
              intro hi
              refine Op.err 5 (x := 5) (by decide) (by decide) rfl hs (fun _ _ _ _ => e_put_ix hp ho h.rc h.r32 hw hq hd f4 hi) (fun P T cd mk hm he fr => ?_)
              obtain ⟨z, -, -, -, hF⟩ := FKs P T mk
              have hl := m_loc (cd := cd) (hm := hm) (he := he) (fr := fr) (i := i) hF hp h0 hq hd f4
              rw [if_neg (ix_bad f5 hi)] at hl
              exact ⟨_, _, _, fr, m_putL hl (by decide)⟩
            rcases pk_ix i (n := len) (by omega) with hi | hi | ⟨j, hj, rfl⟩
            · exact bad (Or.inl hi)
            · exact bad (Or.inr hi)
            · have hmem : (ch q).getD (j / 4) 0 ∈ ch q := getD_mem (by omega)
              have hsafe : SafeW I1 J1 [wK ((ch q).getD (j / 4) 0) (j % 4) v] c t := by
                refine ⟨⟨ch, R, lv, h.weak⟩, ch, R, lv, ?_⟩
                refine h.frame (fun _ _ _ _ => rfl) (fun p' hp' hd' b hb e he => ?_)
                have hne : p' ≠ q := by intro z; rw [z, hd] at hd'; cases hd'
                have hbn : b ≠ (ch q).getD (j / 4) 0 := by intro z; exact h.2.2.1 p' q hp' hRq hne b hb (z ▸ hmem)
                show upd c _ v (4 * b + e) = c (4 * b + e)
                exact pk_un (by omega)
              refine Op.wr (v := c (4 * (ch q).getD (j / 4) 0 + j % 4)) hsafe (fun _ _ _ _ => e_put hp ho h.rc h.r32 hw hq hd f4 f5 hj f1 (by omega)) (fun P T cd mk hm he fr => ?_)
              obtain ⟨z, -, -, -, hF⟩ := FKs P T mk
              have hl := m_loc (cd := cd) (hm := hm) (he := he) (fr := fr) (i := nI j) hF hp h0 hq hd f4
              rw [if_pos (ix_good f5 hj)] at hl
              exact ⟨_, _, fr, m_put hl hF hq (by omega) f1 (by omega)⟩
  · exact Op.err 1 (x := 0) (by decide) (by decide) rfl (Or.inr ⟨rfl, h⟩) (fun _ _ _ _ => e_put_down) (fun P T cd mk hm he fr => ⟨_, _, _, _, m_putL (m_locL (m_lofL (m_lackD (show ¬ (1 : Int32) = 0 by decide)) (by decide)) (by decide)) (by decide)⟩)
theorem ren_val {p b : Nat} (hp : p < 65536) (hb : b ≤ 15) : (nI (p / 16) <<< (nI 4 &&& 31)) ||| nI b = nI p - (nI p &&& nI 15) + nI b := by
  have h1 : nI (p / 16) <<< (nI 4 &&& 31) = nI (p / 16 * 2 ^ 4) := pk_shlN _ 4 (by decide) (by omega)
  have h2 : p / 16 * 2 ^ 4 ||| b = p / 16 * 2 ^ 4 + b := by
    have := Nat.two_pow_add_eq_or_of_lt (i := 4) (b := b) (by omega) (p / 16)
    rw [Nat.mul_comm (p / 16)]
    exact this.symm
  rw [h1, nI_or (by omega) (by omega), h2, an15 hp, pk_sub (by omega), nI_add]
  congr 1
  omega
theorem op_rename {a b : Int32} (hs : St c t dn) : Op Ls xs 26 68 [.int a, .int b] 0 c t lf dn := by
  rcases hs with ⟨rfl, ch, R, lv, h⟩ | ⟨rfl, h⟩
  · have hs : St c t 0 := Or.inl ⟨rfl, ch, R, lv, h⟩
    rcases path_cases a with hb | ⟨p, hp, rfl, ho⟩
    · exact Op.err 2 (x := 1) (by decide) (by decide) rfl hs (fun _ _ _ _ => e_ren_bad hb) (fun P T cd mk hm he fr => ⟨_, _, _, _, m_ren_bad rfl hb⟩)
    · have bad : (b < nI 1 ∨ nI 15 < b) → Op Ls xs 26 68 [.int (nI p), .int b] 0 c t lf 0 := by
        intro hb
        exact Op.err 2 (x := 1) (by decide) (by decide) rfl hs (fun _ _ _ _ => e_ren_name hp ho hb) (fun P T cd mk hm he fr => ⟨_, _, _, _, m_ren_name rfl hp ho hb⟩)
      rcases pk_ix b (n := 16) (by decide) with hb | hb | ⟨j, hj, rfl⟩
      · exact bad (Or.inl (Int32.lt_of_lt_of_le hb (by decide)))
      · exact bad (Or.inr (Int32.lt_of_lt_of_le (by decide) hb))
      · by_cases hj0 : j = 0
        · exact bad (Or.inl (by rw [hj0]; decide))
        · have hj1 : 1 ≤ j := by omega
          have hj2 : j ≤ 15 := by omega
          cases hw : wk c ch p with
          | none =>
            refine Op.err 3 (x := 2) (by decide) (by decide) rfl hs (fun _ _ _ _ => e_ren_no hp ho hj1 hj2 h.rc h.r32 hw) (fun P T cd mk hm he fr => ?_)
            obtain ⟨hm', he', hh⟩ := m_ren_no (Ls := Ls) (xs := xs) (P := P) (T := T) (cd := cd) (hm := hm) (he := he) (fr := fr) (mk := mk) (s := (c, t, lf, 0)) rfl h.rc h.r32 hp ho hj1 hj2 hw
            exact ⟨_, hm', he', fr, hh⟩
          | some q =>
            by_cases h0 : p = 0
            · subst h0
              rw [wk_0] at hw
              cases hw
              exact Op.err 4 (x := 3) (by decide) (by decide) rfl hs (fun _ _ _ _ => e_ren_root hp ho hj1 hj2 h.rc h.r32 wk_0) (fun P T cd mk hm he fr => ⟨_, _, _, _, m_ren_root rfl hj1 hj2⟩)
            · obtain ⟨z, hg, hz1, hz2, hz3, hz4, hz5, hq, hRq⟩ := wk_par h hp h0 ho hw
              have hl := ok_low hp ho h0
              have hcz := h.chain hz2
              cases hlk : lkO c j (ch z) with
              | some y =>
                have hy : y < 32 := hcz.lt y (lkO_some hlk).1
                refine Op.err 4 (x := 3) (by decide) (by decide) rfl hs (fun _ _ _ _ => e_ren_is hp ho hj1 hj2 h.rc h.r32 hw hq hz1 hz3 hlk hy) (fun P T cd mk hm he fr => ?_)
                obtain ⟨z', hg', -, -, hF⟩ := m_FK (Ls := Ls) (xs := xs) (P := P) (T := T) (mk := mk) (s := (c, t, lf, 0)) rfl h.rc h.r32 hp h0 ho hw hq
                have hg' : gH c ch p = some z' := hg'
                have ez : z' = z := by rw [hg] at hg'; cases hg'; rfl
                subst ez
                exact ⟨_, _, _, fr, m_ren_is rfl hF hp h0 ho hj1 hj2 hcz hlk hy⟩
              | none =>
                have hsafe : SafeW I1 J1 [wK q 0 (nI j)] c t := by
                  refine ⟨⟨ch, R, lv, h.weak⟩, ch, R, lv, ?_⟩
                  refine h.ren hz2 hz3 hz4 (by rw [hz5]; intro e; exact hl ((nI_eq (by omega) (by decide)).mp e)) hj1 hj2 (lkO_none hlk) (fun p' e he hne => ?_) ?_
                  · show upd c (4 * q + 0) _ (4 * p' + e) = _
                    exact pk_un (by omega)
                  · show upd c (4 * q + 0) _ (4 * q) = _
                    exact pk_us
                refine Op.wr (v := (nI (p / 16) <<< (nI 4 &&& 31)) ||| nI j) hsafe (fun _ _ _ _ => e_ren hp ho hj1 hj2 h.rc h.r32 hw hq hz1 hz3 hlk) (fun P T cd mk hm he fr => ?_)
                obtain ⟨z', hg', -, -, hF⟩ := m_FK (Ls := Ls) (xs := xs) (P := P) (T := T) (mk := mk) (s := (c, t, lf, 0)) rfl h.rc h.r32 hp h0 ho hw hq
                have hg' : gH c ch p = some z' := hg'
                have ez : z' = z := by rw [hg] at hg'; cases hg'; rfl
                subst ez
                rw [ren_val hp hj2]
                exact ⟨_, _, fr, m_ren rfl hF hq hp h0 ho hj1 hj2 hcz hlk⟩
  · exact Op.err 1 (x := 0) (by decide) (by decide) rfl (Or.inr ⟨rfl, h⟩) (fun _ _ _ _ => e_ren_down) (fun P T cd mk hm he fr => ⟨_, _, _, _, m_ren_down (show ¬ (1 : Int32) = 0 by decide)⟩)
/-- clusters that nobody owns are freed -/
theorem safe_free : ∀ (l : List Nat) (t : Nat → Int32), Inv True c t ch R lv → (∀ a ∈ l, ∀ p, R p → a ∉ ch p) → SafeW I1 J1 (wF l) c t := by
  intro l
  induction l with
  | nil => intro t h _; exact ⟨ch, R, lv, h⟩
  | cons a l ih =>
    intro t h hl
    refine ⟨⟨ch, R, lv, h.weak⟩, ?_⟩
    refine ih (upd t a (-2)) (h.frame (fun p hp b hb => pk_un (fun z => hl a List.mem_cons_self p hp (z ▸ hb))) (fun _ _ _ _ _ _ _ => rfl)) (fun b hb => hl b (List.mem_cons_of_mem _ hb))
theorem op_remove {a : Int32} (hs : St c t dn) : Op Ls xs 23 63 [.int a] 0 c t lf dn := by
  rcases hs with ⟨rfl, ch, R, lv, h⟩ | ⟨rfl, h⟩
  · have hs : St c t 0 := Or.inl ⟨rfl, ch, R, lv, h⟩
    rcases path_cases a with hb | ⟨p, hp, rfl, ho⟩
    · exact Op.err 2 (x := 1) (by decide) (by decide) rfl hs (fun _ _ _ _ => e_rem_bad hb) (fun P T cd mk hm he fr => ⟨_, _, _, _, m_remL (m_lackB rfl hb) (by decide)⟩)
    · cases hw : wk c ch p with
      | none =>
        refine Op.err 3 (x := 2) (by decide) (by decide) rfl hs (fun _ _ _ _ => e_rem_no hp ho h.rc h.r32 hw) (fun P T cd mk hm he fr => ?_)
        obtain ⟨hm', he', hh⟩ := m_lackN (Ls := Ls) (xs := xs) (P := P) (T := T) (cd := cd) (hm := hm) (he := he) (fr := fr) (mk := mk) (s := (c, t, lf, 0)) rfl h.rc h.r32 hp ho hw
        exact ⟨_, hm', he', fr, m_remL hh (by decide)⟩
      | some q =>
        by_cases h0 : p = 0
        · subst h0
          rw [wk_0] at hw
          cases hw
          exact Op.err 4 (x := 3) (by decide) (by decide) rfl hs (fun _ _ _ _ => e_rem_root hp ho h.rc h.r32 wk_0) (fun P T cd mk hm he fr => ⟨_, _, _, _, m_rem_root rfl⟩)
        · obtain ⟨z, hg, hz1, hz2, hz3, hz4, hz5, hq, hRq⟩ := wk_par h hp h0 ho hw
          have hcq := h.chain hRq
          have hcq' : Chain t (c (4 * q + 2)) (ch q) := by rw [fsP_lt hq] at hcq; exact hcq
          have go : (dirP c q = true → nmsI c (nI 0) (ch q) &&& (-2) = 0 ∧ nmsM c (nI 0) (ch q) ≤ 0 ∧ ∀ x ∈ ch q, c (4 * x) = nI 0) → Op Ls xs 23 63 [.int (nI p)] 0 c t lf 0 := by
            intro hno
            have hsafe : SafeW I1 J1 (wC q (nI 0) (nI 0) (nI 0) (nI 0) :: wF (ch q)) c t := by
              refine ⟨⟨ch, R, lv, h.weak⟩, ?_⟩
              have h2 : Inv True (w4 c q (nI 0) (nI 0) (nI 0) (nI 0)) t ch (fun x => R x ∧ x ≠ q) lv := by
                refine h.del hRq hq (fun hd => (hno hd).2.2) (fun p' i hp' hi => w4_at hp' hi) ?_
                unfold w4
                rw [pk_un (by omega), pk_un (by omega), pk_un (by omega), pk_us]
              exact safe_free (ch q) t h2 (fun b hb p' hp' hm => h.2.2.1 q p' hRq hp'.1 (Ne.symm hp'.2) b hb hm)
            have d1 : dirP c q = false ∨ nmsI c (nI 0) (ch q) &&& (-2) = 0 := by
              rcases b_cases (dirP c q) with hd | hd
              · exact Or.inr (hno hd).1
              · exact Or.inl hd
            have d2 : dirP c q = false ∨ nmsM c (nI 0) (ch q) ≤ 0 := by
              rcases b_cases (dirP c q) with hd | hd
              · exact Or.inr (hno hd).2.1
              · exact Or.inl hd
            refine Op.wr (v := nI (ch q).length) hsafe (fun _ _ _ _ => e_rem hp ho h.rc h.r32 hw hq d1 hcq (h.2.1 q hRq).2.1 (h.len hRq)) (fun P T cd mk hm he fr => ?_)
            obtain ⟨hm', he', hh⟩ := m_rem (Ls := Ls) (xs := xs) (P := P) (T := T) (cd := cd) (hm := hm) (he := he) (fr := fr) (mk := mk) (s := (c, t, lf, 0)) rfl h.rc h.r32 hp h0 ho hw hq d2 hcq' (h.2.1 q hRq).2.1
            exact ⟨hm', he', _, hh⟩
          rcases b_cases (dirP c q) with hd | hd
          · obtain ⟨m, m0, m1, m2, m3⟩ := names_all (okN_of h hRq hd)
            by_cases hm0 : m = 0
            · subst hm0
              refine go (fun _ => ⟨m1, by rw [m2]; decide, fun x hx => ?_⟩)
              have hz : popc 16 0 = 0 := by decide
              have h1 := cntN_zero (ch q) (m3.symm.trans hz) x hx
              rcases (h.2.2.2.1 q hRq hd).2.2.1 x hx with e | ⟨⟨d, e1, e2, e3⟩, -⟩
              · exact e
              · rw [e3] at h1
                exact absurd h1 (nI_nle (by omega) (by omega))
            · refine Op.err 4 (x := 3) (by decide) (by decide) rfl hs (fun _ _ _ _ => e_rem_names hp ho h.rc h.r32 hw hq hd (by rw [m1]; exact nI_ne0 (by omega) (by omega))) (fun P T cd mk hm he fr => ?_)
              obtain ⟨hm', he', hh⟩ := m_rem_names (Ls := Ls) (xs := xs) (P := P) (T := T) (cd := cd) (hm := hm) (he := he) (fr := fr) (mk := mk) (s := (c, t, lf, 0)) rfl h.rc h.r32 hp h0 ho hw hq hd hcq' (by show ¬ nmsM c (nI 0) (ch q) ≤ 0; rw [m2]; exact nI_nle (by omega) (by omega))
              exact ⟨_, hm', he', _, hh⟩
          · exact go (fun hd' => by rw [hd] at hd'; cases hd')
  · exact Op.err 1 (x := 0) (by decide) (by decide) rfl (Or.inr ⟨rfl, h⟩) (fun _ _ _ _ => e_rem_down) (fun P T cd mk hm he fr => ⟨_, _, _, _, m_remL (m_lackD (show ¬ (1 : Int32) = 0 by decide)) (by decide)⟩)
end OS
end
section
/-! make, append, shorten on both sides -/
theorem free_cases (t : Nat → Int32) : ∀ n, (∀ i, i < n → ¬ t i = -2) ∨ ∃ a, a < n ∧ t a = -2 ∧ ∀ i, i < a → ¬ t i = -2 := by
  intro n
  induction n with
  | zero => exact Or.inl (fun i hi => absurd hi (by omega))
  | succ n ih =>
    rcases ih with h | ⟨a, h1, h2, h3⟩
    · by_cases e : t n = -2
      · exact Or.inr ⟨n, by omega, e, h⟩
      · refine Or.inl (fun i hi => ?_)
        by_cases z : i = n
        · rw [z]; exact e
        · exact h i (by omega)
    · exact Or.inr ⟨a, by omega, h2, h3⟩
theorem lastI_mem : ∀ (l : List Nat) (b : Nat), lastI b l ∈ b :: l := by
  intro l
  induction l with
  | nil => intro b; exact List.mem_cons_self
  | cons y l ih => intro b; exact List.mem_cons_of_mem _ (ih y)
theorem Chain_snoc {t t' : Nat → Int32} {a : Nat} (ha : a < 32) (hta : t' a = -1) : ∀ (l : List Nat) (b : Nat) (x : Int32), Chain t x (b :: l) → (b :: l).Nodup → t' (lastI b l) = nI a → (∀ y ∈ b :: l, y ≠ lastI b l → t' y = t y) → Chain t' x (b :: l ++ [a]) := by
  intro l
  induction l with
  | nil =>
    intro b x h _ hl _
    exact ⟨h.1, h.2.1, hl, ha, hta⟩
  | cons y l ih =>
    intro b x h hn hl ht
    obtain ⟨n1, n2⟩ := List.nodup_cons.mp hn
    refine ⟨h.1, h.2.1, ?_⟩
    rw [ht b List.mem_cons_self (fun z => n1 (z ▸ lastI_mem l y))]
    exact ih y _ h.2.2 n2 hl (fun w hw => ht w (List.mem_cons_of_mem _ hw))
theorem Chain_cut {t : Nat → Int32} : ∀ (j : Nat) (l : List Nat) (x : Int32), Chain t x l → j < l.length → l.Nodup → Chain (upd t (l.getD j 0) (-1)) x (l.take (j + 1)) ∧ Chain t (t (l.getD j 0)) (l.drop (j + 1)) := by
  intro j
  induction j with
  | zero =>
    intro l x h hj hn
    cases l with
    | nil => cases hj
    | cons a l => exact ⟨⟨h.1, h.2.1, pk_us⟩, h.2.2⟩
  | succ j ih =>
    intro l x h hj hn
    cases l with
    | nil => cases hj
    | cons a l =>
      obtain ⟨n1, n2⟩ := List.nodup_cons.mp hn
      have hj : j < l.length := by simpa using hj
      obtain ⟨h1, h2⟩ := ih l _ h.2.2 hj n2
      have hm : l.getD j 0 ∈ l := getD_mem hj
      refine ⟨⟨h.1, h.2.1, ?_⟩, h2⟩
      have e : upd t (l.getD j 0) (-1) a = t a := pk_un (fun z => n1 (z ▸ hm))
      show Chain (upd t (l.getD j 0) (-1)) (upd t (l.getD j 0) (-1) a) (l.take (j + 1))
      rw [e]
      exact h1
theorem nodup_one {a : Nat} : [a].Nodup := by simp
theorem nodup_snoc {l : List Nat} {a : Nat} (hn : l.Nodup) (ha : a ∉ l) : (l ++ [a]).Nodup := by
  induction l with
  | nil => exact nodup_one
  | cons b l ih =>
    obtain ⟨n1, n2⟩ := List.nodup_cons.mp hn
    refine List.nodup_cons.mpr ⟨fun h => ?_, ih n2 (fun h => ha (List.mem_cons_of_mem _ h))⟩
    rcases List.mem_append.mp h with h | h
    · exact n1 h
    · have : b = a := by simpa using h
      exact ha (this ▸ List.mem_cons_self)
theorem w4_0 {c : Nat → Int32} {j : Nat} {v0 v1 v2 v3 : Int32} : w4 c j v0 v1 v2 v3 (4 * j) = v0 := by unfold w4; rw [pk_un (by omega), pk_un (by omega), pk_un (by omega), pk_us]
theorem w4_1 {c : Nat → Int32} {j : Nat} {v0 v1 v2 v3 : Int32} : w4 c j v0 v1 v2 v3 (4 * j + 1) = v1 := by unfold w4; rw [pk_un (by omega), pk_un (by omega), pk_us]
theorem w4_i2 {c : Nat → Int32} {j : Nat} {v0 v1 v2 v3 : Int32} : w4 c j v0 v1 v2 v3 (4 * j + 2) = v2 := by unfold w4; rw [pk_un (by omega), pk_us]
theorem w4_i3 {c : Nat → Int32} {j : Nat} {v0 v1 v2 v3 : Int32} : w4 c j v0 v1 v2 v3 (4 * j + 3) = v3 := by unfold w4; rw [pk_us]
theorem J1.of {c t : Nat → Int32} {ch : Nat → List Nat} {R : Nat → Prop} {lv : Nat → Nat} (h : Inv True c t ch R lv) : J1 c t := ⟨ch, R, lv, h⟩
theorem I1.of {c t : Nat → Int32} {ch : Nat → List Nat} {R : Nat → Prop} {lv : Nat → Nat} (h : Inv False c t ch R lv) : I1 c t := ⟨ch, R, lv, h⟩
section OT
variable {Ls : Nat} {xs : Nat → Int32} {c t : Nat → Int32} {lf dn : Int32} {u : Prop} {ch : Nat → List Nat} {R : Nat → Prop} {lv : Nat → Nat}
theorem lv_le (h : Inv u c t ch R lv) {p q : Nat} (hp : p < 65536) (hw : wk c ch (p / 16) = some q) : lv q ≤ 3 := by
  have key : ∀ a d b, R a → d < 16 → stp c ch a d = some b → R b ∧ lv b ≤ lv a + 1 := by
    intro a d b ha hd hs
    unfold stp at hs
    split at hs
    · cases hs; exact ⟨ha, by omega⟩
    · rename_i hd0
      split at hs
      · rename_i hdir
        obtain ⟨h1, h2⟩ := lkO_some hs
        rcases (h.2.2.2.1 a ha hdir).2.2.1 b h1 with e | ⟨-, e1, e2, -⟩
        · rw [h2] at e
          exact absurd ((nI_eq (by omega) (by decide)).mp e) hd0
        · exact ⟨e1, by omega⟩
      · cases hs
  rw [wk16 hp] at hw
  obtain ⟨a1, e1, hw⟩ := Option.bind_eq_some_iff.mp hw
  obtain ⟨a2, e2, hw⟩ := Option.bind_eq_some_iff.mp hw
  obtain ⟨k1, k2⟩ := key _ _ _ h.r32 (dg_lt _ _) e1
  obtain ⟨k3, k4⟩ := key _ _ _ k1 (dg_lt _ _) e2
  obtain ⟨k5, k6⟩ := key _ _ _ k3 (dg_lt _ _) hw
  have := h.1.2
  omega
/-- a free cluster is written -/
theorem Inv.wfree (h : Inv u c t ch R lv) {a : Nat} {v0 v1 v2 v3 : Int32} (hf : t a = -2) : Inv u (w4 c a v0 v1 v2 v3) t ch R lv := by
  refine h.frame (fun _ _ _ _ => rfl) (fun p hp hd b hb i hi => w4_at (fun z => h.notIn hf p hp (z ▸ hb)) hi)
theorem Inv.tfree (h : Inv u c t ch R lv) {a : Nat} {v : Int32} (hf : ∀ p, R p → a ∉ ch p) : Inv u c (upd t a v) ch R lv :=
  h.frame (fun p hp b hb => pk_un (fun z => hf p hp (z ▸ hb))) (fun _ _ _ _ _ _ _ => rfl)
theorem op_make {a d : Int32} (hs : St c t dn) : Op Ls xs 15 51 [.int a, .int d] 4 c t lf dn := by
  rcases hs with ⟨rfl, ch, R, lv, h⟩ | ⟨rfl, h⟩
  · have hs : St c t 0 := Or.inl ⟨rfl, ch, R, lv, h⟩
    rcases path_cases a with hb | ⟨p, hp, rfl, ho⟩
    · exact Op.err 2 (x := 1) (by decide) (by decide) rfl hs (fun _ _ _ _ => e_make_bad hb) (fun P T cd mk hm he fr => ⟨_, _, _, _, m_make_bad rfl hb⟩)
    · cases hg : gH c ch p with
      | none =>
        refine Op.err 3 (x := 2) (by decide) (by decide) rfl hs (fun _ _ _ _ => ?_) (fun P T cd mk hm he fr => ?_)
        · rcases gH_none hp ho hg with hw | ⟨z, hw, hd⟩
          · exact e_make_no hp ho h.rc h.r32 hw
          · exact e_make_file hp ho h.rc h.r32 hw hd
        · obtain ⟨hm', he', hh⟩ := m_make_no (Ls := Ls) (xs := xs) (P := P) (T := T) (cd := cd) (hm := hm) (he := he) (fr := fr) (mk := mk) (s := (c, t, lf, 0)) (d := d) rfl h.rc h.r32 hp ho hg
          exact ⟨_, hm', he', fr, hh⟩
      | some q =>
        obtain ⟨hw, hqd⟩ := gH_some hp ho hg
        have hRq : R q := wk_R h.rc h.r32 hw
        have hlv := lv_le h hp hw
        have isThere : (p = 0 ∨ ∃ a, lkO c (p % 16) (ch q) = some a ∧ a < 32) → Op Ls xs 15 51 [.int (nI p), .int d] 4 c t lf 0 := fun hl =>
          Op.err 4 (x := 3) (by decide) (by decide) rfl hs (fun _ _ _ _ => e_make_is hp ho h.rc h.r32 hw hqd hl) (fun P T cd mk hm he fr => ⟨_, _, _, fr, m_make_is (s := (c, t, lf, 0)) rfl h.rc h.r32 hp ho hg hRq hqd hl⟩)
        by_cases h0 : p = 0
        · exact isThere (Or.inl h0)
        · cases hl : lkO c (p % 16) (ch q) with
          | some y => exact isThere (Or.inr ⟨y, hl, h.lt hRq (lkO_some hl).1⟩)
          | none =>
            have hlow := ok_low hp ho h0
            have hk : (if d = 0 then nI 1 else nI 2) = nI 1 ∨ (if d = 0 then nI 1 else nI 2) = nI 2 := by
              by_cases e : d = 0
              · rw [if_pos e]; exact Or.inl rfl
              · rw [if_neg e]; exact Or.inr rfl
            cases he0 : lkO c 0 (ch q) with
            | some a =>
              obtain ⟨a1, a2⟩ := lkO_some he0
              have a3 : a < 32 := h.lt hRq a1
              have aR : ¬ R a := by
                intro hR
                rcases (h.2.1 a hR).2.2 with e | ⟨-, r, -, -, -, e⟩
                · omega
                · exact e a2
              have hqa : q ≠ a := fun z => aR (z ▸ hRq)
              have hsafe : SafeW I1 J1 [wC a (nI (p % 16)) (if d = 0 then nI 1 else nI 2) (-1) (nI 0)] c t := by
                refine ⟨⟨ch, R, lv, h.weak⟩, ?_⟩
                refine J1.of <| h.add (c' := w4 c a (nI (p % 16)) (if d = 0 then nI 1 else nI 2) (-1) (nI 0)) (t' := t) (q := q) (a := a) (d := p % 16) (L := ch q) hRq hqd hlv aR a3 (fun r hr hrq hm => h.2.2.1 r q hr hRq hrq a hm a1) a1 (h.2.1 q hRq).2.1 (fun x hx => Or.inr hx) (fun x hx => hx) (fun r i hr hi _ => w4_at hr hi) (by omega) (by omega) w4_0 ?_ w4_i2 w4_i3 ?_ (fun _ _ _ _ _ => rfl) (fun x hx _ => lkO_none hl x hx)
                · rw [w4_1]; exact hk
                · rw [fsP_congr (w4_at hqa (by decide))]; exact h.chain hRq
              exact Op.wr (v := nI a) hsafe (fun _ _ _ _ => e_make_empty hp h0 ho h.rc h.r32 hw hqd hl he0 a3) (fun P T cd mk hm he fr => ⟨_, _, fr, m_make_empty (s := (c, t, lf, 0)) rfl h.rc h.r32 hp h0 ho hg hRq hqd hl he0 a3⟩)
            | none =>
              rcases free_cases t 32 with hf | ⟨a, a3, af, am⟩
              · exact Op.err 5 (x := 4) (by decide) (by decide) rfl hs (fun _ _ _ _ => e_make_full hp h0 ho h.rc h.r32 hw hqd hl he0 hf) (fun P T cd mk hm he fr => ⟨_, _, _, fr, m_make_full (s := (c, t, lf, 0)) rfl h.rc h.r32 hp h0 ho hg hRq hqd hl he0 hf⟩)
              · have aR : ¬ R a := h.notR a3 af
                have aN := h.notIn af
                have hqa : q ≠ a := fun z => aR (z ▸ hRq)
                have h1 : Inv True (w4 c a (nI (p % 16)) (if d = 0 then nI 1 else nI 2) (-1) (nI 0)) t ch R lv := h.wfree af
                have h2 : Inv True (w4 c a (nI (p % 16)) (if d = 0 then nI 1 else nI 2) (-1) (nI 0)) (upd t a (-1)) ch R lv := h1.tfree aN
                have hD := h.2.2.2.1 q hRq hqd
                cases hcq : ch q with
                | nil =>
                  have hq3 : q < 32 := by
                    have := h.le hRq
                    by_cases e : q = 32
                    · have hx := h.chain hRq
                      rw [hcq, e] at hx
                      exact absurd (show (nI 0 : Int32) = -1 from hx) (by decide)
                    · omega
                  have hq1 : c (4 * q + 2) = -1 := by
                    have hx := h.chain hRq
                    rw [hcq, fsP_lt hq3] at hx
                    exact hx
                  have hsafe : SafeW I1 J1 [wC a (nI (p % 16)) (if d = 0 then nI 1 else nI 2) (-1) (nI 0), wT a (-1), wK q 2 (nI a)] c t := by
                    refine ⟨⟨ch, R, lv, h.weak⟩, ⟨ch, R, lv, h1.weak⟩, ⟨ch, R, lv, h2.weak⟩, ?_⟩
                    show J1 (upd (w4 c a (nI (p % 16)) (if d = 0 then nI 1 else nI 2) (-1) (nI 0)) (4 * q + 2) (nI a)) (upd t a (-1))
                    refine J1.of <| h.add (q := q) (a := a) (d := p % 16) (L := [a]) hRq hqd hlv aR a3 (fun r hr _ => aN r hr) List.mem_cons_self nodup_one (fun x hx => Or.inl (by simpa using hx)) (fun x hx => by rw [hcq] at hx; cases hx) (fun r i hr hi hn => ?_) (by omega) (by omega) ?_ ?_ ?_ ?_ ?_ (fun r hr _ x hx => pk_un (fun z => aN r hr (z ▸ hx))) (fun x hx _ => lkO_none hl x hx)
                    · rw [pk_un (by omega)]; exact w4_at hr hi
                    · rw [pk_un (by omega)]; exact w4_0
                    · rw [pk_un (by omega), w4_1]; exact hk
                    · rw [pk_un (by omega)]; exact w4_i2
                    · rw [pk_un (by omega)]; exact w4_i3
                    · rw [fsP_lt hq3, pk_us]; exact ⟨rfl, a3, pk_us⟩
                  exact Op.wr (v := nI a) hsafe (fun _ _ _ _ => e_make_new0 hp h0 ho h.rc h.r32 hw hqd hl he0 a3 af am hq3 hq1 hqa) (fun P T cd mk hm he fr => ⟨_, _, fr, m_make_new0 (s := (c, t, lf, 0)) rfl h.rc h.r32 hp h0 ho hg hRq hqd hl he0 a3 af am hq3 hq1 (hD.2.2.2.2 hq3) hqa⟩)
                | cons b l =>
                  have hal : a ∉ b :: l := by rw [← hcq]; exact aN q hRq
                  have hlm : lastI b l ∈ ch q := by rw [hcq]; exact lastI_mem l b
                  have hla : lastI b l < 32 := h.lt hRq hlm
                  have hna : lastI b l ≠ a := fun z => aN q hRq (z ▸ hlm)
                  have hsafe : SafeW I1 J1 [wC a (nI (p % 16)) (if d = 0 then nI 1 else nI 2) (-1) (nI 0), wT a (-1), wT (lastI b l) (nI a)] c t := by
                    refine ⟨⟨ch, R, lv, h.weak⟩, ⟨ch, R, lv, h1.weak⟩, ⟨ch, R, lv, h2.weak⟩, ?_⟩
                    show J1 (w4 c a (nI (p % 16)) (if d = 0 then nI 1 else nI 2) (-1) (nI 0)) (upd (upd t a (-1)) (lastI b l) (nI a))
                    refine J1.of <| h.add (q := q) (a := a) (d := p % 16) (L := ch q ++ [a]) hRq hqd hlv aR a3 (fun r hr _ => aN r hr) (by simp) (nodup_snoc (h.2.1 q hRq).2.1 (aN q hRq)) (fun x hx => ?_) (fun x hx => List.mem_append.mpr (Or.inl hx)) (fun r i hr hi _ => w4_at hr hi) (by omega) (by omega) w4_0 ?_ w4_i2 w4_i3 ?_ (fun r hr hrq x hx => ?_) (fun x hx _ => lkO_none hl x hx)
                    · rcases List.mem_append.mp hx with hx | hx
                      · exact Or.inr hx
                      · exact Or.inl (by simpa using hx)
                    · rw [w4_1]; exact hk
                    · rw [fsP_congr (w4_at hqa (by decide))]
                      have hc := h.chain hRq
                      have hn := (h.2.1 q hRq).2.1
                      rw [hcq] at hc hn ⊢
                      refine Chain_snoc a3 ?_ l b _ hc hn pk_us (fun y hy hyl => ?_)
                      · rw [pk_un (Ne.symm hna), pk_us]
                      · rw [pk_un hyl, pk_un (show y ≠ a from fun z => hal (z ▸ hy))]
                    · rw [pk_un (show x ≠ lastI b l from fun z => h.2.2.1 r q hr hRq hrq x hx (z ▸ hlm)), pk_un (show x ≠ a from fun z => aN r hr (z ▸ hx))]
                  exact Op.wr (v := nI a) hsafe (fun _ _ _ _ => e_make_new1 hp h0 ho h.rc h.r32 hw hqd hl he0 a3 af am hcq hal hqa) (fun P T cd mk hm he fr => ⟨_, _, fr, m_make_new1 (s := (c, t, lf, 0)) rfl h.rc h.r32 hp h0 ho hg hRq hqd hl he0 a3 af am hcq hal hla⟩)
  · exact Op.err 1 (x := 0) (by decide) (by decide) rfl (Or.inr ⟨rfl, h⟩) (fun _ _ _ _ => e_make_down) (fun P T cd mk hm he fr => ⟨_, _, _, _, m_make_down (show ¬ (1 : Int32) = 0 by decide)⟩)
end OT
end
section
/-! append, shorten on both sides -/
section OU
variable {Ls : Nat} {xs : Nat → Int32} {c t : Nat → Int32} {lf dn : Int32} {u : Prop} {ch : Nat → List Nat} {R : Nat → Prop} {lv : Nat → Nat}
theorem op_append {a v : Int32} (hs : St c t dn) : Op Ls xs 27 70 [.int a, .int v] 4 c t lf dn := by
  rcases hs with ⟨rfl, ch, R, lv, h⟩ | ⟨rfl, h⟩
  · have hs : St c t 0 := Or.inl ⟨rfl, ch, R, lv, h⟩
    rcases path_cases a with hb | ⟨p, hp, rfl, ho⟩
    · exact Op.err 2 (x := 1) (by decide) (by decide) rfl hs (fun _ _ _ _ => e_app_bad hb) (fun P T cd mk hm he fr => ⟨_, _, _, _, m_appL (m_lofL (m_lackB rfl hb) (by decide)) (by decide)⟩)
    · cases hw : wk c ch p with
      | none =>
        refine Op.err 3 (x := 2) (by decide) (by decide) rfl hs (fun _ _ _ _ => e_app_no hp ho h.rc h.r32 hw) (fun P T cd mk hm he fr => ?_)
        obtain ⟨hm', he', hh⟩ := m_lackN (Ls := Ls) (xs := xs) (P := P) (T := T) (cd := cd) (hm := hm) (he := he) (fr := fr) (mk := mk) (s := (c, t, lf, 0)) rfl h.rc h.r32 hp ho hw
        exact ⟨_, hm', he', fr, m_appL (m_lofL hh (by decide)) (by decide)⟩
      | some q =>
        have hRq : R q := wk_R h.rc h.r32 hw
        by_cases h0 : p = 0
        · subst h0
          rw [wk_0] at hw
          cases hw
          exact Op.err 4 (x := 3) (by decide) (by decide) rfl hs (fun _ _ _ _ => e_app_dir hp ho h.rc h.r32 wk_0 dirP_32) (fun P T cd mk hm he fr => ⟨_, _, _, _, m_appL (m_lof0 rfl) (by decide)⟩)
        · obtain ⟨z, hg, hz1, hz2, hz3, hz4, hz5, hq, -⟩ := wk_par h hp h0 ho hw
          have FKs := fun P T mk => m_FK (Ls := Ls) (xs := xs) (P := P) (T := T) (mk := mk) (s := (c, t, lf, 0)) rfl h.rc h.r32 hp h0 ho hw hq
          rcases b_cases (dirP c q) with hd | hd
          · refine Op.err 4 (x := 3) (by decide) (by decide) rfl hs (fun _ _ _ _ => e_app_dir hp ho h.rc h.r32 hw hd) (fun P T cd mk hm he fr => ?_)
            obtain ⟨z, -, -, -, hF⟩ := FKs P T mk
            exact ⟨_, _, _, fr, m_appL (m_lofD hF hp h0 hq hd) (by decide)⟩
          · obtain ⟨f1, f2, f3, len, f4, f5, f6⟩ := h.fil hRq hd
            have hqz : q ≠ z := by intro e; rw [e, hz3] at hd; cases hd
            have hqq : q ∉ ch q := fun hm => h.2.2.1 q z hRq hz2 hqz q hm hz4
            have hdne : ∀ r, dirP c r = true → r ≠ q := fun r hr e => by rw [e, hd] at hr; cases hr
            by_cases h4 : len % 4 = 0
            · rcases free_cases t 32 with hf | ⟨a, a3, af, am⟩
              · refine Op.err 5 (x := 4) (by decide) (by decide) rfl hs (fun _ _ _ _ => e_app_full hp ho h.rc h.r32 hw hq hd f4 f5 h4 hf) (fun P T cd mk hm he fr => ?_)
                obtain ⟨z, -, -, -, hF⟩ := FKs P T mk
                cases hcq : ch q with
                | nil =>
                  rw [hcq] at f1
                  exact ⟨_, _, _, fr, m_app_full (s := (c, t, lf, 0)) hF hp h0 hq hd f4 f5 h4 f1 m_lastOfN hf⟩
                | cons b l =>
                  rw [hcq] at f1
                  exact ⟨_, _, _, fr, m_app_full (s := (c, t, lf, 0)) hF hp h0 hq hd f4 f5 h4 f1.1 (m_lastOf f1.2.1 f1.2.2) hf⟩
              · have aR : ¬ R a := h.notR a3 af
                have aN := h.notIn af
                have hqa : q ≠ a := fun z => aR (z ▸ hRq)
                have h1 : Inv True (w4 c a v (nI 0) (nI 0) (nI 0)) t ch R lv := h.wfree af
                have h2 : Inv True (w4 c a v (nI 0) (nI 0) (nI 0)) (upd t a (-1)) ch R lv := h1.tfree aN
                have hd2 : dirP (w4 c a v (nI 0) (nI 0) (nI 0)) q = false := by rw [dirP_congr (w4_at hqa (by decide))]; exact hd
                by_cases hl0 : len = 0
                · subst hl0
                  have hcq : ch q = [] := by
                    cases hcq : ch q with
                    | nil => rfl
                    | cons b l => rw [hcq] at f6; simp at f6
                  have hfi : c (4 * q + 2) = -1 := by rw [hcq] at f1; exact f1
                  have hsafe : SafeW I1 J1 [wC a v (nI 0) (nI 0) (nI 0), wT a (-1), wC q (c (4 * q)) (c (4 * q + 1)) (nI a) (nI 1)] c t := by
                    refine ⟨⟨ch, R, lv, h.weak⟩, ⟨ch, R, lv, h1.weak⟩, ⟨ch, R, lv, h2.weak⟩, ?_⟩
                    show J1 (w4 (w4 c a v (nI 0) (nI 0) (nI 0)) q (c (4 * q)) (c (4 * q + 1)) (nI a) (nI 1)) (upd t a (-1))
                    refine J1.of <| h2.file (u' := True) (q := q) (len := 1) (L := [a]) (fun r hr _ hrd _ => h2.2.2.2.2 r hr hrd) hRq hd2 (fun r i hi hn => ?_) ?_ w4_i3 (by simp) (by omega) (fun _ => rfl) nodup_one (fun r hr _ x hx => ?_) (fun _ _ _ _ _ => rfl)
                    · by_cases e : r = q
                      · subst e
                        by_cases e0 : i = 0
                        · subst e0
                          show w4 _ r _ _ _ _ (4 * r) = w4 _ a _ _ _ _ (4 * r + 0)
                          rw [w4_0, w4_at hqa (by decide), Nat.add_zero]
                        · have e1 : i = 1 := by omega
                          subst e1
                          rw [w4_1, w4_at hqa (by decide)]
                      · rw [w4_at e hi]
                    · rw [w4_i2]; exact ⟨rfl, a3, pk_us⟩
                    · have : x = a := by simpa using hx
                      rw [this]; exact aN r hr
                  refine Op.wr (v := nI (0 + 1)) hsafe (fun _ _ _ _ => e_app_new0 hp ho h.rc h.r32 hw hq hd f4 a3 af am hqa) (fun P T cd mk hm he fr => ?_)
                  obtain ⟨z, -, -, -, hF⟩ := FKs P T mk
                  exact ⟨_, _, fr, m_app_new0 (s := (c, t, lf, 0)) hF hp h0 hq hd f4 hfi a3 af am hqa⟩
                · cases hcq : ch q with
                  | nil => rw [hcq] at f6; simp only [List.length_nil] at f6; omega
                  | cons b l =>
                    have hal : a ∉ b :: l := by rw [← hcq]; exact aN q hRq
                    have hlm : lastI b l ∈ ch q := by rw [hcq]; exact lastI_mem l b
                    have hla : lastI b l < 32 := h.lt hRq hlm
                    have hna : lastI b l ≠ a := fun z => aN q hRq (z ▸ hlm)
                    have f1' := f1
                    rw [hcq] at f1'
                    have hll : l.length ≤ 32 := by rw [hcq] at f3; simp only [List.length_cons] at f3; omega
                    have hlen : (ch q ++ [a]).length = (ch q).length + 1 := by simp
                    have hcc : Chain (upd (upd t a (-1)) (lastI b l) (nI a)) (nI b) (ch q ++ [a]) := by
                      rw [hcq]
                      refine Chain_snoc a3 ?_ l b _ (show Chain t (nI b) (b :: l) from ⟨rfl, f1'.2⟩) (hcq ▸ f2) pk_us (fun y hy hyl => ?_)
                      · rw [pk_un (Ne.symm hna), pk_us]
                      · rw [pk_un hyl, pk_un (show y ≠ a from fun z => hal (z ▸ hy))]
                    have hdis : ∀ r, R r → r ≠ q → ∀ x ∈ ch q ++ [a], x ∉ ch r := by
                      intro r hr hrq x hx hx2
                      rcases List.mem_append.mp hx with hx | hx
                      · exact h.2.2.1 q r hRq hr (Ne.symm hrq) x hx hx2
                      · have : x = a := by simpa using hx
                        exact aN r hr (this ▸ hx2)
                    have htt : ∀ r, R r → r ≠ q → ∀ x ∈ ch r, upd (upd t a (-1)) (lastI b l) (nI a) x = upd t a (-1) x := by
                      intro r hr hrq x hx
                      exact pk_un (fun z => h.2.2.1 r q hr hRq hrq x hx (z ▸ hlm))
                    have hsafe : SafeW I1 J1 [wC a v (nI 0) (nI 0) (nI 0), wT a (-1), wT (lastI b l) (nI a), wC q (c (4 * q)) (c (4 * q + 1)) (nI b) (nI (len + 1))] c t := by
                      refine ⟨⟨ch, R, lv, h.weak⟩, ⟨ch, R, lv, h1.weak⟩, ⟨ch, R, lv, h2.weak⟩, ?_, ?_⟩
                      · show I1 (w4 c a v (nI 0) (nI 0) (nI 0)) (upd (upd t a (-1)) (lastI b l) (nI a))
                        refine I1.of <| h2.file (u' := False) (q := q) (len := len) (L := ch q ++ [a]) (fun r hr _ hrd z => z.elim) hRq hd2 (fun r i hi hn => rfl) ?_ ?_ (by omega) (fun z => absurd z hl0) (fun z => z.elim) (nodup_snoc f2 (aN q hRq)) hdis htt
                        · rw [w4_at hqa (by decide), f1'.1]; exact hcc
                        · rw [w4_at hqa (by decide)]; exact f4
                      · show J1 (w4 (w4 c a v (nI 0) (nI 0) (nI 0)) q (c (4 * q)) (c (4 * q + 1)) (nI b) (nI (len + 1))) (upd (upd t a (-1)) (lastI b l) (nI a))
                        refine J1.of <| h2.file (u' := True) (q := q) (len := len + 1) (L := ch q ++ [a]) (fun r hr _ hrd _ => h2.2.2.2.2 r hr hrd) hRq hd2 (fun r i hi hn => ?_) ?_ w4_i3 (by omega) (by omega) (fun _ => by omega) (nodup_snoc f2 (aN q hRq)) hdis htt
                        · by_cases e : r = q
                          · subst e
                            by_cases e0 : i = 0
                            · subst e0
                              show w4 _ r _ _ _ _ (4 * r) = w4 _ a _ _ _ _ (4 * r + 0)
                              rw [w4_0, w4_at hqa (by decide), Nat.add_zero]
                            · have e1 : i = 1 := by omega
                              subst e1
                              rw [w4_1, w4_at hqa (by decide)]
                          · rw [w4_at e hi]
                        · rw [w4_i2]; exact hcc
                    refine Op.wr (v := nI (len + 1)) hsafe (fun _ _ _ _ => e_app_new1 hp ho h.rc h.r32 hw hq hd f4 f5 h4 hl0 a3 af am hqa f1'.1 f1'.2.1 f1'.2.2 hll hla hal) (fun P T cd mk hm he fr => ?_)
                    obtain ⟨z, -, -, -, hF⟩ := FKs P T mk
                    exact ⟨_, _, fr, m_app_new1 (s := (c, t, lf, 0)) hF hp h0 hq hd f4 f5 h4 hl0 f1'.1 f1'.2.1 f1'.2.2 hla a3 af am hqa⟩
            · cases hcq : ch q with
              | nil => rw [hcq] at f6; simp only [List.length_nil] at f6; omega
              | cons b l =>
                have hlm : lastI b l ∈ ch q := by rw [hcq]; exact lastI_mem l b
                have hla : lastI b l < 32 := h.lt hRq hlm
                have hql : q ≠ lastI b l := fun z => hqq (by rw [z] at hqq ⊢; exact absurd (z ▸ hlm) hqq)
                have f1' := f1
                rw [hcq] at f1'
                have hll : l.length ≤ 32 := by rw [hcq] at f3; simp only [List.length_cons] at f3; omega
                have h1 : Inv True (upd c (4 * lastI b l + len % 4) v) t ch R lv := by
                  refine h.frame (fun _ _ _ _ => rfl) (fun r hr hrd x hx i hi => pk_un (fun z => ?_))
                  have : x = lastI b l := by omega
                  exact h.2.2.1 r q hr hRq (hdne r hrd) x hx (this ▸ hlm)
                have hd2 : dirP (upd c (4 * lastI b l + len % 4) v) q = false := by rw [dirP_congr (pk_un (by omega))]; exact hd
                have hsafe : SafeW I1 J1 [wK (lastI b l) (len % 4) v, wK q 3 (nI (len + 1))] c t := by
                  refine ⟨⟨ch, R, lv, h.weak⟩, ⟨ch, R, lv, h1.weak⟩, ?_⟩
                  show J1 (upd (upd c (4 * lastI b l + len % 4) v) (4 * q + 3) (nI (len + 1))) t
                  refine J1.of <| h1.file (u' := True) (q := q) (len := len + 1) (L := ch q) (fun r hr _ hrd _ => h1.2.2.2.2 r hr hrd) hRq hd2 (fun r i hi hn => pk_un (by omega)) ?_ pk_us (by omega) (by omega) (fun _ => by omega) f2 (fun r hr hrq x hx hx2 => h.2.2.1 q r hRq hr (Ne.symm hrq) x hx hx2) (fun _ _ _ _ _ => rfl)
                  rw [pk_un (by omega), pk_un (by omega)]; exact f1
                refine Op.wr (v := nI (len + 1)) hsafe (fun _ _ _ _ => e_app_in hp ho h.rc h.r32 hw hq hd f4 f5 h4 f1'.1 f1'.2.1 f1'.2.2 hll hla) (fun P T cd mk hm he fr => ?_)
                obtain ⟨z, -, -, -, hF⟩ := FKs P T mk
                exact ⟨_, _, fr, m_app_in (s := (c, t, lf, 0)) hF hp h0 hq hd f4 f5 h4 f1'.1 f1'.2.1 f1'.2.2 hla hql⟩
  · exact Op.err 1 (x := 0) (by decide) (by decide) rfl (Or.inr ⟨rfl, h⟩) (fun _ _ _ _ => e_app_down) (fun P T cd mk hm he fr => ⟨_, _, _, _, m_appL (m_lofL (m_lackD (show ¬ (1 : Int32) = 0 by decide)) (by decide)) (by decide)⟩)
theorem w4_ext {c : Nat → Int32} {q : Nat} {x y : Int32} {r i : Nat} (hi : i < 4) (hn : ¬ (r = q ∧ 2 ≤ i)) : w4 c q (c (4 * q)) (c (4 * q + 1)) x y (4 * r + i) = c (4 * r + i) := by
  by_cases e : r = q
  · subst e
    by_cases e0 : i = 0
    · subst e0
      show w4 _ r _ _ _ _ (4 * r) = _
      rw [w4_0, Nat.add_zero]
    · have e1 : i = 1 := by omega
      subst e1
      rw [w4_1]
  · rw [w4_at e hi]
theorem getD_drop {l : List Nat} {k b : Nat} {l2 : List Nat} (h : l.drop k = b :: l2) : l.getD k 0 = b := by
  induction l generalizing k with
  | nil => simp at h
  | cons a l ih =>
    cases k with
    | zero => simp at h; exact h.1
    | succ k => exact ih (by simpa using h)
theorem op_shorten {a v : Int32} (hs : St c t dn) : Op Ls xs 34 76 [.int a, .int v] 5 c t lf dn := by
  rcases hs with ⟨rfl, ch, R, lv, h⟩ | ⟨rfl, h⟩
  · have hs : St c t 0 := Or.inl ⟨rfl, ch, R, lv, h⟩
    rcases path_cases a with hb | ⟨p, hp, rfl, ho⟩
    · exact Op.err 2 (x := 1) (by decide) (by decide) rfl hs (fun _ _ _ _ => e_sho_bad hb) (fun P T cd mk hm he fr => ⟨_, _, _, _, m_shoL (m_lofL (m_lackB rfl hb) (by decide)) (by decide)⟩)
    · cases hw : wk c ch p with
      | none =>
        refine Op.err 3 (x := 2) (by decide) (by decide) rfl hs (fun _ _ _ _ => e_sho_no hp ho h.rc h.r32 hw) (fun P T cd mk hm he fr => ?_)
        obtain ⟨hm', he', hh⟩ := m_lackN (Ls := Ls) (xs := xs) (P := P) (T := T) (cd := cd) (hm := hm) (he := he) (fr := fr) (mk := mk) (s := (c, t, lf, 0)) rfl h.rc h.r32 hp ho hw
        exact ⟨_, hm', he', fr, m_shoL (m_lofL hh (by decide)) (by decide)⟩
      | some q =>
        have hRq : R q := wk_R h.rc h.r32 hw
        by_cases h0 : p = 0
        · subst h0
          rw [wk_0] at hw
          cases hw
          exact Op.err 4 (x := 3) (by decide) (by decide) rfl hs (fun _ _ _ _ => e_sho_dir hp ho h.rc h.r32 wk_0 dirP_32) (fun P T cd mk hm he fr => ⟨_, _, _, _, m_shoL (m_lof0 rfl) (by decide)⟩)
        · obtain ⟨z, hg, hz1, hz2, hz3, hz4, hz5, hq, -⟩ := wk_par h hp h0 ho hw
          have FKs := fun P T mk => m_FK (Ls := Ls) (xs := xs) (P := P) (T := T) (mk := mk) (s := (c, t, lf, 0)) rfl h.rc h.r32 hp h0 ho hw hq
          rcases b_cases (dirP c q) with hd | hd
          · refine Op.err 4 (x := 3) (by decide) (by decide) rfl hs (fun _ _ _ _ => e_sho_dir hp ho h.rc h.r32 hw hd) (fun P T cd mk hm he fr => ?_)
            obtain ⟨z, -, -, -, hF⟩ := FKs P T mk
            exact ⟨_, _, _, fr, m_shoL (m_lofD hF hp h0 hq hd) (by decide)⟩
          · obtain ⟨f1, f2, f3, len, f4, f5, f6⟩ := h.fil hRq hd
            have bad : (v < 0 ∨ nI len < v) → Op Ls xs 34 76 [.int (nI p), .int v] 5 c t lf 0 := by
              intro hi
              refine Op.err 5 (x := 5) (by decide) (by decide) rfl hs (fun _ _ _ _ => e_sho_ix hp ho h.rc h.r32 hw hq hd f4 hi) (fun P T cd mk hm he fr => ?_)
              obtain ⟨z, -, -, -, hF⟩ := FKs P T mk
              exact ⟨_, _, _, fr, m_sho_ix (s := (c, t, lf, 0)) hF hp h0 hq hd f4 hi⟩
            have dis : ∀ r, R r → r ≠ q → ∀ x ∈ ch q, x ∉ ch r := fun r hr hrq x hx hx2 => h.2.2.1 q r hRq hr (Ne.symm hrq) x hx hx2
            rcases pk_ix v (n := len + 1) (by omega) with hi | hi | ⟨m, hm, rfl⟩
            · exact bad (Or.inl hi)
            · exact bad (Or.inr (Int32.lt_of_lt_of_le (nI_lt (by omega) (by omega)) hi))
            · by_cases hml : m = len
              · subst hml
                refine Op.val (v := nI 0) hs (fun _ _ _ _ => e_sho_same hp ho h.rc h.r32 hw hq hd f4 f5) (fun P T cd mk hm he fr => ?_)
                obtain ⟨z, -, -, -, hF⟩ := FKs P T mk
                exact ⟨_, _, fr, m_sho_same (s := (c, t, lf, 0)) hF hp h0 hq hd f4 f5⟩
              · have hml : m < len := by omega
                by_cases hm0 : m = 0
                · subst hm0
                  have hsafe : SafeW I1 J1 (wC q (c (4 * q)) (c (4 * q + 1)) (-1) (nI 0) :: wF (ch q)) c t := by
                    refine ⟨⟨ch, R, lv, h.weak⟩, ?_⟩
                    have h2 : Inv True (w4 c q (c (4 * q)) (c (4 * q + 1)) (-1) (nI 0)) t (fun x => if x = q then [] else ch x) R lv := by
                      refine h.file (u' := True) (q := q) (len := 0) (L := []) (fun r hr _ hrd _ => h.2.2.2.2 r hr hrd) hRq hd (fun r i hi hn => w4_ext hi hn) ?_ w4_i3 (by omega) (fun _ => rfl) (fun _ => rfl) List.nodup_nil (fun r hr _ x hx => by cases hx) (fun _ _ _ _ _ => rfl)
                      rw [w4_i2]; rfl
                    refine safe_free (ch q) t h2 (fun b hb r hr hm => ?_)
                    have hm : b ∈ (if r = q then [] else ch r) := hm
                    by_cases e : r = q
                    · rw [if_pos e] at hm; cases hm
                    · rw [if_neg e] at hm; exact dis r hr e b hb hm
                  refine Op.wr (v := nI (ch q).length) hsafe (fun _ _ _ _ => e_sho_all hp ho h.rc h.r32 hw hq hd f4 f5 (by omega) f1 f2 f3) (fun P T cd mk hm he fr => ?_)
                  obtain ⟨z, -, -, -, hF⟩ := FKs P T mk
                  exact ⟨_, _, _, m_sho_all (s := (c, t, lf, 0)) hF hp h0 hq hd f4 f5 (by omega) f1 f2 (by omega)⟩
                · have hj : (m - 1) / 4 < (ch q).length := by omega
                  have hjm := getD_mem hj
                  have hj3 : (ch q).getD ((m - 1) / 4) 0 < 32 := h.lt hRq hjm
                  obtain ⟨k1, k2⟩ := Chain_cut ((m - 1) / 4) (ch q) _ f1 hj f2
                  cases hdr : (ch q).drop ((m - 1) / 4 + 1) with
                  | nil =>
                    have e1 : (ch q).length ≤ (m - 1) / 4 + 1 := List.drop_eq_nil_iff.mp hdr
                    have hk : (m + 3) / 4 = (len + 3) / 4 := by omega
                    rw [hdr] at k2
                    have hsafe : SafeW I1 J1 [wC q (c (4 * q)) (c (4 * q + 1)) (c (4 * q + 2)) (nI m)] c t := by
                      refine ⟨⟨ch, R, lv, h.weak⟩, ?_⟩
                      refine J1.of <| h.file (c' := w4 c q (c (4 * q)) (c (4 * q + 1)) (c (4 * q + 2)) (nI m)) (t' := t) (u' := True) (q := q) (len := m) (L := ch q) (fun r hr _ hrd _ => h.2.2.2.2 r hr hrd) hRq hd (fun r i hi hn => w4_ext hi hn) ?_ w4_i3 (by omega) (by omega) (fun _ => by omega) f2 dis (fun _ _ _ _ _ => rfl)
                      rw [w4_i2]; exact f1
                    refine Op.wr (v := nI 0) hsafe (fun _ _ _ _ => e_sho_in hp ho h.rc h.r32 hw hq hd f4 f5 (by omega) hml f1 hj hj3 k2) (fun P T cd mk hm he fr => ?_)
                    obtain ⟨z, -, -, -, hF⟩ := FKs P T mk
                    exact ⟨_, _, _, m_sho_in (s := (c, t, lf, 0)) hF hp h0 hq hd f4 f5 (by omega) hml f1 hk f6.symm⟩
                  | cons b l2 =>
                    rw [hdr] at k2
                    have hlen2 : (ch q).length = (m - 1) / 4 + 1 + (l2.length + 1) := by
                      have e1 := congrArg List.length hdr
                      simp only [List.length_drop, List.length_cons] at e1
                      omega
                    have hap : (ch q).take ((m - 1) / 4 + 1) ++ b :: l2 = ch q := by rw [← hdr]; exact List.take_append_drop _ _
                    have hsub : ∀ x ∈ b :: l2, x ∈ ch q := fun x hx => by rw [← hap]; exact List.mem_append.mpr (Or.inr hx)
                    have hsub1 : ∀ x ∈ (ch q).take ((m - 1) / 4 + 1), x ∈ ch q := fun x hx => List.mem_of_mem_take hx
                    have hnd : ((ch q).take ((m - 1) / 4 + 1) ++ b :: l2).Nodup := by rw [hap]; exact f2
                    obtain ⟨nd1, nd2, nd3⟩ := List.nodup_append.mp hnd
                    have hjt : (ch q).getD ((m - 1) / 4) 0 ∈ (ch q).take ((m - 1) / 4 + 1) := by
                      have e1 : ((ch q).take ((m - 1) / 4 + 1)).getD ((m - 1) / 4) 0 = (ch q).getD ((m - 1) / 4) 0 := by
                        rw [List.getD_eq_getElem?_getD, List.getD_eq_getElem?_getD, List.getElem?_take_of_lt (by omega)]
                      rw [← e1]
                      exact getD_mem (by rw [List.length_take]; omega)
                    have hal : (ch q).getD ((m - 1) / 4) 0 ∉ b :: l2 := fun hx => nd3 _ hjt _ hx rfl
                    have hkl : (m + 3) / 4 < (len + 3) / 4 := by omega
                    have hbk : (ch q).getD ((m + 3) / 4) 0 = b := by
                      rw [show (m + 3) / 4 = (m - 1) / 4 + 1 by omega]
                      exact getD_drop hdr
                    have hlt : ((ch q).take ((m - 1) / 4 + 1)).length = (m - 1) / 4 + 1 := by rw [List.length_take]; omega
                    have hsafe : SafeW I1 J1 (wC q (c (4 * q)) (c (4 * q + 1)) (c (4 * q + 2)) (nI m) :: wT ((ch q).getD ((m - 1) / 4) 0) (-1) :: wF (b :: l2)) c t := by
                      refine ⟨⟨ch, R, lv, h.weak⟩, ?_, ?_⟩
                      · refine I1.of <| h.file (c' := w4 c q (c (4 * q)) (c (4 * q + 1)) (c (4 * q + 2)) (nI m)) (t' := t) (u' := False) (q := q) (len := m) (L := ch q) (fun r hr _ hrd z => z.elim) hRq hd (fun r i hi hn => w4_ext hi hn) ?_ w4_i3 (by omega) (by omega) (fun z => z.elim) f2 dis (fun _ _ _ _ _ => rfl)
                        rw [w4_i2]; exact f1
                      · have h2 : Inv True (w4 c q (c (4 * q)) (c (4 * q + 1)) (c (4 * q + 2)) (nI m)) (upd t ((ch q).getD ((m - 1) / 4) 0) (-1)) (fun x => if x = q then (ch q).take ((m - 1) / 4 + 1) else ch x) R lv := by
                          refine h.file (u' := True) (q := q) (len := m) (L := (ch q).take ((m - 1) / 4 + 1)) (fun r hr _ hrd _ => h.2.2.2.2 r hr hrd) hRq hd (fun r i hi hn => w4_ext hi hn) ?_ w4_i3 (by omega) (by omega) (fun _ => by omega) nd1 (fun r hr hrq x hx => dis r hr hrq x (hsub1 x hx)) (fun r hr hrq x hx => pk_un (fun z => dis r hr hrq _ hjm (z ▸ hx)))
                          rw [w4_i2]; exact k1
                        refine safe_free (b :: l2) _ h2 (fun y hy r hr hm => ?_)
                        have hm : y ∈ (if r = q then (ch q).take ((m - 1) / 4 + 1) else ch r) := hm
                        by_cases e : r = q
                        · rw [if_pos e] at hm; exact nd3 y hm y hy rfl
                        · rw [if_neg e] at hm; exact dis r hr e y (hsub y hy) hm
                    refine Op.wr (v := nI (l2.length + 1)) hsafe (fun _ _ _ _ => e_sho_cut hp ho h.rc h.r32 hw hq hd f4 f5 (by omega) hml f1 hj hj3 k2.1 k2.2.1 k2.2.2 nd2 hal (by omega)) (fun P T cd mk hm he fr => ?_)
                    obtain ⟨z, -, -, -, hF⟩ := FKs P T mk
                    exact ⟨_, _, _, m_sho_cut (s := (c, t, lf, 0)) hF hp h0 hq hd f4 f5 (by omega) hml f1 hkl f6.symm hbk k2.2.1 k2.2.2 nd2 hal⟩
  · exact Op.err 1 (x := 0) (by decide) (by decide) rfl (Or.inr ⟨rfl, h⟩) (fun _ _ _ _ => e_sho_down) (fun P T cd mk hm he fr => ⟨_, _, _, _, m_shoL (m_lofL (m_lackD (show ¬ (1 : Int32) = 0 by decide)) (by decide)) (by decide)⟩)
end OU
end
section
/-! the check after a loss of power: mathematics -/
def lastL : List Nat → List Nat
  | [] => []
  | [a] => [a]
  | _ :: b :: l => lastL (b :: l)
def tL (t : Nat → Int32) (C : List Nat) : Nat → Int32 := fun a => if a ∈ C then -1 else t a
def mL (m : Nat → Int32) (C : List Nat) : Nat → Int32 := fun a => if a ∈ C then 1 else m a
theorem tL_nil {t : Nat → Int32} : tL t [] = t := by
  funext a; unfold tL; rw [if_neg (by intro h; cases h)]
theorem mL_nil {t : Nat → Int32} : mL t [] = t := by
  funext a; unfold mL; rw [if_neg (by intro h; cases h)]
theorem tL_app {t : Nat → Int32} {C D : List Nat} : tL (tL t C) D = tL t (C ++ D) := by
  funext a
  unfold tL
  by_cases h1 : a ∈ D
  · rw [if_pos h1, if_pos (List.mem_append.mpr (Or.inr h1))]
  · rw [if_neg h1]
    by_cases h2 : a ∈ C
    · rw [if_pos h2, if_pos (List.mem_append.mpr (Or.inl h2))]
    · rw [if_neg h2, if_neg (fun h => (List.mem_append.mp h).elim h2 h1)]
theorem mL_app {t : Nat → Int32} {C D : List Nat} : mL (mL t C) D = mL t (C ++ D) := by
  funext a
  unfold mL
  by_cases h1 : a ∈ D
  · rw [if_pos h1, if_pos (List.mem_append.mpr (Or.inr h1))]
  · rw [if_neg h1]
    by_cases h2 : a ∈ C
    · rw [if_pos h2, if_pos (List.mem_append.mpr (Or.inl h2))]
    · rw [if_neg h2, if_neg (fun h => (List.mem_append.mp h).elim h2 h1)]
theorem tL_one {t : Nat → Int32} {a : Nat} : upd t a (-1) = tL t [a] := by
  funext x
  unfold tL
  by_cases h : x = a
  · subst h; rw [pk_us, if_pos List.mem_cons_self]
  · rw [pk_un h, if_neg (by simpa using h)]
theorem mL_one {t : Nat → Int32} {a : Nat} : upd t a 1 = mL t [a] := by
  funext x
  unfold mL
  by_cases h : x = a
  · subst h; rw [pk_us, if_pos List.mem_cons_self]
  · rw [pk_un h, if_neg (by simpa using h)]
theorem tL_in {t : Nat → Int32} {C : List Nat} {a : Nat} (h : a ∈ C) : tL t C a = -1 := if_pos h
theorem tL_out {t : Nat → Int32} {C : List Nat} {a : Nat} (h : a ∉ C) : tL t C a = t a := if_neg h
theorem lastL_sub : ∀ (l : List Nat), ∀ a ∈ lastL l, a ∈ l
  | [], a, h => h
  | [_], a, h => h
  | _ :: b :: l, a, h => List.mem_cons_of_mem _ (lastL_sub (b :: l) a h)
theorem lastL_take : ∀ (l : List Nat) (k : Nat), k < l.length → lastL (l.take (k + 1)) = [l.getD k 0] := by
  intro l
  induction l with
  | nil => intro k h; cases h
  | cons a l ih =>
    intro k h
    cases k with
    | zero => rfl
    | succ k =>
      cases l with
      | nil => simp at h
      | cons b l =>
        have := ih k (by simpa using h)
        exact this
/-- a chain's beginning -/
def Pf (t : Nat → Int32) : Int32 → List Nat → Prop
  | _, [] => True
  | x, a :: l => x = nI a ∧ a < 32 ∧ Pf t (t a) l
theorem Pf_take {t : Nat → Int32} : ∀ (k : Nat) (l : List Nat) (x : Int32), Chain t x l → Pf t x (l.take k) := by
  intro k
  induction k with
  | zero => intro l x _; exact trivial
  | succ k ih =>
    intro l x h
    cases l with
    | nil => exact trivial
    | cons a l => exact ⟨h.1, h.2.1, ih l _ h.2.2⟩
theorem Pf_tL {t : Nat → Int32} {C : List Nat} : ∀ (K : List Nat) (x : Int32), Pf t x K → K.Nodup → (∀ a ∈ K, a ∈ C → a ∈ lastL K) → Pf (tL t C) x K
  | [], _, _, _, _ => trivial
  | [a], _, h, _, _ => ⟨h.1, h.2.1, trivial⟩
  | a :: b :: K, x, h, hn, hc => by
    obtain ⟨n1, n2⟩ := List.nodup_cons.mp hn
    have ha : a ∉ C := fun z => n1 (lastL_sub (b :: K) a (hc a List.mem_cons_self z))
    refine ⟨h.1, h.2.1, ?_⟩
    rw [tL_out ha]
    exact Pf_tL (b :: K) _ h.2.2 n2 (fun y hy hy2 => hc y (List.mem_cons_of_mem _ hy) hy2)
theorem take_nodup {l : List Nat} {k : Nat} (h : l.Nodup) : (l.take k).Nodup := by
  have h2 : (l.take k ++ l.drop k).Nodup := by rw [List.take_append_drop]; exact h
  exact (List.nodup_append.mp h2).1
section MM
variable (c : Nat → Int32) (ch : Nat → List Nat)
def lnF (x : Nat) : Nat := (c (4 * x + 3)).toNatClampNeg
abbrev fiF (x : Nat) : Prop := ¬ c (4 * x) = nI 0 ∧ c (4 * x + 1) = nI 1
def kF (x : Nat) : List Nat := if fiF c x then (ch x).take ((lnF c x + 3) / 4) else []
def cF (x : Nat) : List Nat := lastL (kF c ch x)
abbrev diF (x : Nat) : Prop := ¬ c (4 * x) = nI 0 ∧ c (4 * x + 1) = nI 2
def bF (x : Nat) : List Nat := if diF c x then ch x else []
def cov (N : List Nat) : List Nat := N.flatMap fun x => x :: kF c ch x
def cut (N : List Nat) : List Nat := N.flatMap (cF c ch)
def vis : Nat → Nat → List Nat
  | 0, x => [x]
  | d + 1, x => x :: (bF c ch x).flatMap (vis d)
end MM
def Vx (c : Nat → Int32) (ch : Nat → List Nat) (R : Nat → Prop) (x : Nat) : Prop := ∃ p, R p ∧ dirP c p = true ∧ x ∈ ch p
section MV
variable {u : Prop} {c t : Nat → Int32} {ch : Nat → List Nat} {R : Nat → Prop} {lv : Nat → Nat}
theorem dirP_lt {x : Nat} (hx : x < 32) : dirP c x = decide (c (4 * x + 1) = nI 2) := by
  unfold dirP
  rw [decide_eq_false (show ¬ x = 32 by omega)]
  rfl
theorem Vx.lt (h : Inv u c t ch R lv) {x : Nat} (hx : Vx c ch R x) : x < 32 := by
  obtain ⟨p, h1, _, h3⟩ := hx
  exact h.lt h1 h3
/-- an entry's place: empty, a file, a directory -/
theorem Vx.cases (h : Inv u c t ch R lv) {x : Nat} (hx : Vx c ch R x) : c (4 * x) = nI 0 ∨ (∃ d, 1 ≤ d ∧ d ≤ 15 ∧ c (4 * x) = nI d ∧ R x ∧ ((c (4 * x + 1) = nI 1 ∧ dirP c x = false ∧ fiF c x ∧ ¬ diF c x) ∨ (c (4 * x + 1) = nI 2 ∧ dirP c x = true ∧ diF c x ∧ ¬ fiF c x))) := by
  have hx3 := hx.lt h
  obtain ⟨p, h1, h2, h3⟩ := hx
  rcases (h.2.2.2.1 p h1 h2).2.2.1 x h3 with e | ⟨⟨d, d1, d2, d3⟩, e1, e2, e3⟩
  · exact Or.inl e
  · refine Or.inr ⟨d, d1, d2, d3, e1, ?_⟩
    have n0 : ¬ c (4 * x) = nI 0 := by
      rw [d3]; intro z; have := (nI_eq (by omega) (by decide)).mp z; omega
    rcases e3 with e3 | e3
    · refine Or.inl ⟨e3, ?_, ⟨n0, e3⟩, fun z => ?_⟩
      · rw [dirP_lt hx3, e3]; decide
      · exact absurd (e3.symm.trans z.2) (by decide)
    · refine Or.inr ⟨e3, ?_, ⟨n0, e3⟩, fun z => ?_⟩
      · rw [dirP_lt hx3, e3]; decide
      · exact absurd (e3.symm.trans z.2) (by decide)
theorem fi_R (h : Inv u c t ch R lv) {x : Nat} (hx : Vx c ch R x) (hf : fiF c x) : R x ∧ dirP c x = false := by
  rcases hx.cases h with e | ⟨d, -, -, -, e1, e | e⟩
  · exact absurd e hf.1
  · exact ⟨e1, e.2.1⟩
  · exact absurd hf e.2.2.2
theorem di_R (h : Inv u c t ch R lv) {x : Nat} (hx : Vx c ch R x) (hf : diF c x) : R x ∧ dirP c x = true := by
  rcases hx.cases h with e | ⟨d, -, -, -, e1, e | e⟩
  · exact absurd e hf.1
  · exact absurd hf e.2.2.2
  · exact ⟨e1, e.2.1⟩
/-- a file's facts -/
theorem fi_all (h : Inv u c t ch R lv) {x : Nat} (hx : R x) (hd : dirP c x = false) : c (4 * x + 3) = nI (lnF c x) ∧ lnF c x ≤ 128 ∧ (lnF c x + 3) / 4 ≤ (ch x).length ∧ (lnF c x = 0 → ch x = []) ∧ Chain t (c (4 * x + 2)) (ch x) ∧ (ch x).Nodup := by
  obtain ⟨h1, len, h2, h3, h4, -⟩ := h.2.2.2.2 x hx hd
  have hl := h.len hx
  have e : lnF c x = len := by unfold lnF; rw [h2, nI_clamp (by omega)]
  rw [e]
  exact ⟨h2, by omega, by omega, h4, h1, (h.2.1 x hx).2.1⟩
theorem kF_sub (h : Inv u c t ch R lv) {x : Nat} (hx : Vx c ch R x) {a : Nat} (ha : a ∈ kF c ch x) : R x ∧ dirP c x = false ∧ a ∈ ch x := by
  unfold kF at ha
  split at ha
  · rename_i hf
    obtain ⟨h1, h2⟩ := fi_R h hx hf
    exact ⟨h1, h2, List.mem_of_mem_take ha⟩
  · cases ha
theorem cut_mem {N : List Nat} {a : Nat} : a ∈ cut c ch N ↔ ∃ x ∈ N, a ∈ cF c ch x := List.mem_flatMap
theorem cov_mem {N : List Nat} {a : Nat} : a ∈ cov c ch N ↔ ∃ x ∈ N, a ∈ x :: kF c ch x := List.mem_flatMap
/-- directories' chains are not cut -/
theorem cut_dir (h : Inv u c t ch R lv) {N : List Nat} (hN : ∀ x ∈ N, Vx c ch R x) {p a : Nat} (hp : R p) (hd : dirP c p = true) (ha : a ∈ ch p) : a ∉ cut c ch N := by
  intro hc
  obtain ⟨x, hx, hc⟩ := cut_mem.mp hc
  obtain ⟨h1, h2, h3⟩ := kF_sub h (hN x hx) (lastL_sub _ a hc)
  exact h.2.2.1 p x hp h1 (by intro z; rw [z, h2] at hd; cases hd) a ha h3
theorem cut_fil (h : Inv u c t ch R lv) {N : List Nat} (hN : ∀ x ∈ N, Vx c ch R x) {p a : Nat} (hp : R p) (ha : a ∈ ch p) (hc : a ∈ cut c ch N) : p ∈ N ∧ a ∈ cF c ch p := by
  obtain ⟨x, hx, hc⟩ := cut_mem.mp hc
  obtain ⟨h1, h2, h3⟩ := kF_sub h (hN x hx) (lastL_sub _ a hc)
  by_cases e : p = x
  · rw [e]; exact ⟨hx, hc⟩
  · exact absurd h3 (h.2.2.1 p x hp h1 e a ha)
theorem tN_dir (h : Inv u c t ch R lv) {N : List Nat} (hN : ∀ x ∈ N, Vx c ch R x) {x : Nat} (hx : Vx c ch R x) : tL t (cut c ch N) x = t x := by
  obtain ⟨p, h1, h2, h3⟩ := hx
  exact tL_out (cut_dir h hN h1 h2 h3)
theorem kF_Pf (h : Inv u c t ch R lv) {N : List Nat} (hN : ∀ x ∈ N, Vx c ch R x) {x : Nat} (hx : Vx c ch R x) : Pf (tL t (cut c ch N)) (c (4 * x + 2)) (kF c ch x) := by
  by_cases hf : fiF c x
  · obtain ⟨h1, h2⟩ := fi_R h hx hf
    obtain ⟨-, -, -, -, f5, f6⟩ := fi_all h h1 h2
    have e : kF c ch x = (ch x).take ((lnF c x + 3) / 4) := if_pos hf
    refine Pf_tL _ _ (by rw [e]; exact Pf_take _ _ _ f5) (by rw [e]; exact take_nodup f6) (fun a ha hc => ?_)
    exact (cut_fil h hN h1 (kF_sub h hx ha).2.2 hc).2
  · have e : kF c ch x = [] := if_neg hf
    rw [e]; exact trivial
/-- two rows that name the same entries -/
theorem cov_congr {N N' : List Nat} (h : ∀ x, x ∈ N ↔ x ∈ N') (a : Nat) : a ∈ cov c ch N ↔ a ∈ cov c ch N' := by
  rw [cov_mem, cov_mem]
  exact ⟨fun ⟨x, h1, h2⟩ => ⟨x, (h x).mp h1, h2⟩, fun ⟨x, h1, h2⟩ => ⟨x, (h x).mpr h1, h2⟩⟩
theorem cut_congr {N N' : List Nat} (h : ∀ x, x ∈ N ↔ x ∈ N') : tL t (cut c ch N) = tL t (cut c ch N') := by
  funext a
  have : a ∈ cut c ch N ↔ a ∈ cut c ch N' := by
    rw [cut_mem, cut_mem]
    exact ⟨fun ⟨x, h1, h2⟩ => ⟨x, (h x).mp h1, h2⟩, fun ⟨x, h1, h2⟩ => ⟨x, (h x).mpr h1, h2⟩⟩
  unfold tL
  by_cases e : a ∈ cut c ch N
  · rw [if_pos e, if_pos (this.mp e)]
  · rw [if_neg e, if_neg (fun z => e (this.mpr z))]
/-- what the model goes through -/
theorem bF_V (h : Inv u c t ch R lv) {x : Nat} (hx : Vx c ch R x) : ∀ y ∈ bF c ch x, Vx c ch R y := by
  intro y hy
  unfold bF at hy
  split at hy
  · rename_i hd
    obtain ⟨h1, h2⟩ := di_R h hx hd
    exact ⟨x, h1, h2, hy⟩
  · cases hy
theorem vis_V (h : Inv u c t ch R lv) : ∀ (d x : Nat), Vx c ch R x → ∀ y ∈ vis c ch d x, Vx c ch R y := by
  intro d
  induction d with
  | zero =>
    intro x hx y hy
    have : y = x := by simpa [vis] using hy
    exact this ▸ hx
  | succ d ih =>
    intro x hx y hy
    rw [vis] at hy
    rcases List.mem_cons.mp hy with rfl | hy
    · exact hx
    · obtain ⟨z, hz, hy⟩ := List.mem_flatMap.mp hy
      exact ih z (bF_V h hx z hz) y hy
theorem flat_V (h : Inv u c t ch R lv) {d : Nat} {l : List Nat} (hl : ∀ x ∈ l, Vx c ch R x) : ∀ y ∈ l.flatMap (vis c ch d), Vx c ch R y := by
  intro y hy
  obtain ⟨z, hz, hy⟩ := List.mem_flatMap.mp hy
  exact vis_V h d z (hl z hz) y hy
theorem vis_self {d x : Nat} : x ∈ vis c ch d x := by
  cases d <;> exact List.mem_cons_self
/-- a parent is a level above -/
theorem up_lv (h : Inv u c t ch R lv) {p : Nat} (hp : R p) (h3 : p ≠ 32) : ∃ q, R q ∧ dirP c q = true ∧ p ∈ ch q ∧ lv p = lv q + 1 ∧ ¬ c (4 * p) = nI 0 := by
  rcases (h.2.1 p hp).2.2 with e | ⟨-, q, h1, h2, h4, h5⟩
  · exact absurd e h3
  · rcases (h.2.2.2.1 q h1 h2).2.2.1 p h4 with e | ⟨-, -, e, -⟩
    · exact absurd e h5
    · exact ⟨q, h1, h2, h4, e, h5⟩
theorem R_di (h : Inv u c t ch R lv) {p : Nat} (hp : R p) (h3 : p ≠ 32) (hd : dirP c p = true) : diF c p := by
  obtain ⟨q, h1, h2, h4, -, h5⟩ := up_lv h hp h3
  rcases Vx.cases h (x := p) ⟨q, h1, h2, h4⟩ with e | ⟨d, -, -, -, -, e | e⟩
  · exact absurd e h5
  · rw [e.2.1] at hd; cases hd
  · exact e.2.2.1
theorem lv_0 (h : Inv u c t ch R lv) {p : Nat} (hp : R p) (h0 : lv p = 0) : p = 32 := by
  by_cases e : p = 32
  · exact e
  · obtain ⟨q, -, -, -, h1, -⟩ := up_lv h hp e
    omega
/-- everything that is reached lies in the model's row -/
theorem vis_all (h : Inv u c t ch R lv) : ∀ (n p : Nat), R p → dirP c p = true → lv p = n → n ≤ 3 → ∀ x ∈ ch p, (n = 0 → x ∈ ch 32) ∧ ∀ d, 3 = d + n → ∃ y ∈ ch 32, ∀ z ∈ vis c ch d x, z ∈ vis c ch 3 y := by
  intro n
  induction n with
  | zero =>
    intro p hp hd hl _ x hx
    have := lv_0 h hp hl
    subst this
    refine ⟨fun _ => hx, fun d hd3 => ⟨x, hx, fun z hz => ?_⟩⟩
    have : d = 3 := by omega
    subst this
    exact hz
  | succ n ih =>
    intro p hp hd hl hn x hx
    refine ⟨fun z => by omega, fun d hd3 => ?_⟩
    have hp3 : p ≠ 32 := by intro e; rw [e, h.1.2] at hl; omega
    obtain ⟨q, h1, h2, h4, h5, -⟩ := up_lv h hp hp3
    obtain ⟨y, hy, hsub⟩ := (ih q h1 h2 (by omega) (by omega) p h4).2 (d + 1) (by omega)
    refine ⟨y, hy, fun z hz => hsub z ?_⟩
    rw [vis]
    refine List.mem_cons_of_mem _ (List.mem_flatMap.mpr ⟨x, ?_, hz⟩)
    unfold bF
    rw [if_pos (R_di h hp hp3 hd)]
    exact hx
theorem vis_row (h : Inv u c t ch R lv) (x : Nat) : x ∈ (ch 32).flatMap (vis c ch 3) ↔ Vx c ch R x := by
  constructor
  · exact flat_V h (fun y hy => ⟨32, h.r32, dirP_32, hy⟩) x
  · rintro ⟨p, h1, h2, h3⟩
    have hl : lv p ≤ 3 := by
      have := (h.2.1 p h1).1
      by_cases e : lv p = 4
      · rw [(h.2.2.2.1 p h1 h2).2.1 e] at h3; cases h3
      · omega
    obtain ⟨y, hy, hs⟩ := (vis_all h (lv p) p h1 h2 rfl hl x h3).2 (3 - lv p) (by omega)
    exact List.mem_flatMap.mpr ⟨y, hy, hs x vis_self⟩
end MV
/-- the last sweep -/
def sw (m t : Nat → Int32) : Nat → (Nat → Int32) × Nat
  | 0 => (t, 0)
  | i + 1 => if m i = 0 ∧ ¬ (sw m t i).1 i = -2 then (upd (sw m t i).1 i (-2), (sw m t i).2 + 1) else sw m t i
theorem sw_congr {m m' t : Nat → Int32} : ∀ n, (∀ i, i < n → (m i = 0 ↔ m' i = 0)) → sw m t n = sw m' t n := by
  intro n
  induction n with
  | zero => intro _; rfl
  | succ n ih =>
    intro h
    have h1 := ih (fun i hi => h i (by omega))
    rw [sw, sw, ← h1]
    have h2 := h n (by omega)
    by_cases e : m n = 0 ∧ ¬ (sw m t n).1 n = -2
    · rw [if_pos e, if_pos ⟨h2.mp e.1, e.2⟩]
    · rw [if_neg e, if_neg (fun z => e ⟨h2.mpr z.1, z.2⟩)]
theorem sw_le {m t : Nat → Int32} : ∀ n, (sw m t n).2 ≤ n := by
  intro n
  induction n with
  | zero => exact Nat.le_refl _
  | succ n ih =>
    rw [sw]
    split
    · show (sw m t n).2 + 1 ≤ n + 1
      omega
    · omega
theorem sw_at {m t : Nat → Int32} : ∀ n a, (sw m t n).1 a = if a < n ∧ m a = 0 then -2 else t a := by
  intro n
  induction n with
  | zero => intro a; rw [if_neg (by omega)]; rfl
  | succ n ih =>
    intro a
    rw [sw]
    by_cases e : m n = 0 ∧ ¬ (sw m t n).1 n = -2
    · rw [if_pos e]
      show upd (sw m t n).1 n (-2) a = _
      by_cases ea : a = n
      · subst ea
        rw [pk_us, if_pos ⟨by omega, e.1⟩]
      · rw [pk_un ea, ih a]
        by_cases e2 : a < n ∧ m a = 0
        · rw [if_pos e2, if_pos ⟨by omega, e2.2⟩]
        · rw [if_neg e2, if_neg (fun z => e2 ⟨by omega, z.2⟩)]
    · rw [if_neg e, ih a]
      by_cases ea : a = n
      · subst ea
        rw [if_neg (by omega)]
        by_cases e2 : m a = 0
        · have : (sw m t a).1 a = -2 := Decidable.of_not_not (fun z => e ⟨e2, z⟩)
          rw [ih a, if_neg (by omega)] at this
          rw [this, if_pos ⟨by omega, e2⟩]
        · rw [if_neg (fun z => e2 z.2)]
      · by_cases e2 : a < n ∧ m a = 0
        · rw [if_pos e2, if_pos ⟨by omega, e2.2⟩]
        · rw [if_neg e2, if_neg (fun z => e2 ⟨by omega, z.2⟩)]
/-- after the check everything is exact -/
theorem Inv.mount {u : Prop} {c t m : Nat → Int32} {ch : Nat → List Nat} {R : Nat → Prop} {lv : Nat → Nat} {N : List Nat} (h : Inv u c t ch R lv) (hN : ∀ x, x ∈ N ↔ Vx c ch R x) (hm : ∀ a, a < 32 → (m a = 0 ↔ a ∉ cov c ch N)) :
    Inv True c (sw m (tL t (cut c ch N)) 32).1 (fun p => if dirP c p = true then ch p else kF c ch p) R lv := by
  have hV : ∀ x ∈ N, Vx c ch R x := fun x hx => (hN x).mp hx
  have fiR : ∀ p, R p → dirP c p = false → Vx c ch R p ∧ fiF c p := by
    intro p hp hd
    have h3 : p ≠ 32 := by intro e; rw [e, dirP_32] at hd; cases hd
    obtain ⟨q, h1, h2, h4, -, h5⟩ := up_lv h hp h3
    have hv : Vx c ch R p := ⟨q, h1, h2, h4⟩
    rcases hv.cases h with e | ⟨d, -, -, -, -, e | e⟩
    · exact absurd e h5
    · exact ⟨hv, e.2.2.1⟩
    · rw [e.2.1] at hd; cases hd
  have hk : ∀ p, R p → dirP c p = false → kF c ch p = (ch p).take ((lnF c p + 3) / 4) := fun p hp hd => if_pos (fiR p hp hd).2
  have hsub : ∀ p, R p → ∀ a, a ∈ (if dirP c p = true then ch p else kF c ch p) → a ∈ ch p := by
    intro p hp a ha
    rcases b_cases (dirP c p) with e | e
    · rw [if_pos e] at ha; exact ha
    · rw [if_neg (by rw [e]; decide), hk p hp e] at ha; exact List.mem_of_mem_take ha
  have keep : ∀ a, a < 32 → a ∈ cov c ch N → (sw m (tL t (cut c ch N)) 32).1 a = tL t (cut c ch N) a := by
    intro a ha hc
    rw [sw_at, if_neg (fun z => (hm a ha).mp z.2 hc)]
  refine ⟨h.1, fun p hp => ?_, fun p q hp hq hpq a ha ha2 => h.2.2.1 p q hp hq hpq a (hsub p hp a ha) (hsub q hq a ha2), fun p hp hd => ?_, fun p hp hd => ?_⟩
  · obtain ⟨g1, g2, g3⟩ := h.2.1 p hp
    refine ⟨g1, ?_, ?_⟩
    · show (if dirP c p = true then ch p else kF c ch p).Nodup
      rcases b_cases (dirP c p) with e | e
      · rw [if_pos e]; exact g2
      · rw [if_neg (by rw [e]; decide), hk p hp e]; exact take_nodup g2
    · rcases g3 with e | ⟨e1, q, e2, e3, e4, e5⟩
      · exact Or.inl e
      · refine Or.inr ⟨e1, q, e2, e3, ?_, e5⟩
        show p ∈ (if dirP c q = true then ch q else kF c ch q)
        rw [if_pos e3]; exact e4
  · obtain ⟨g1, g2, g3, g4, g5⟩ := h.2.2.2.1 p hp hd
    have ec : (fun p => if dirP c p = true then ch p else kF c ch p) p = ch p := if_pos hd
    unfold iD
    rw [ec]
    refine ⟨Chain_congr g1 (fun a ha => ?_), g2, g3, g4, g5⟩
    have hv : Vx c ch R a := ⟨p, hp, hd, ha⟩
    rw [keep a (h.lt hp ha) (cov_mem.mpr ⟨a, (hN a).mpr hv, List.mem_cons_self⟩)]
    exact tN_dir h hV hv
  · obtain ⟨hv, hf⟩ := fiR p hp hd
    obtain ⟨f1, f2, f3, f4, f5, f6⟩ := fi_all h hp hd
    have ec : (fun p => if dirP c p = true then ch p else kF c ch p) p = (ch p).take ((lnF c p + 3) / 4) := by
      show (if dirP c p = true then ch p else kF c ch p) = _
      rw [if_neg (by rw [hd]; decide)]; exact hk p hp hd
    have hpN : p ∈ N := (hN p).mpr hv
    unfold iF
    rw [ec]
    have hlen : ((ch p).take ((lnF c p + 3) / 4)).length = (lnF c p + 3) / 4 := by rw [List.length_take]; omega
    refine ⟨?_, lnF c p, f1, by omega, fun z => ?_, fun _ => hlen⟩
    · by_cases hl : lnF c p = 0
      · rw [f4 hl] at f5
        rw [f4 hl, List.take_nil]
        exact f5
      · have hj : (lnF c p - 1) / 4 < (ch p).length := by omega
        have ek : (lnF c p + 3) / 4 = (lnF c p - 1) / 4 + 1 := by omega
        have k1 := (Chain_cut ((lnF c p - 1) / 4) (ch p) _ f5 hj f6).1
        have el : cF c ch p = [(ch p).getD ((lnF c p - 1) / 4) 0] := by
          unfold cF
          rw [hk p hp hd, ek]
          exact lastL_take _ _ hj
        rw [ek]
        refine Chain_congr k1 (fun a ha => ?_)
        have hac : a ∈ ch p := List.mem_of_mem_take ha
        have hak : a ∈ kF c ch p := by rw [hk p hp hd, ek]; exact ha
        rw [keep a (h.lt hp hac) (cov_mem.mpr ⟨p, hpN, List.mem_cons_of_mem _ hak⟩)]
        by_cases e : a = (ch p).getD ((lnF c p - 1) / 4) 0
        · have e1 : a ∈ cut c ch N := cut_mem.mpr ⟨p, hpN, by rw [el, e]; exact List.mem_cons_self⟩
          rw [tL_in e1, ← e, pk_us]
        · rw [pk_un e]
          refine tL_out (fun z => e ?_)
          have := (cut_fil h hV hp hac z).2
          rw [el] at this
          simpa using this
    · rw [z]; rfl
end
section
/-! the class's check -/
def pu : List Nat → (Nat → Int32) → Nat → (Nat → Int32)
  | [], en, _ => en
  | a :: l, en, n => pu l (upd en n (nI a)) (n + 1)
theorem pu_lt : ∀ (l : List Nat) (en : Nat → Int32) (n j : Nat), j < n → pu l en n j = en j := by
  intro l
  induction l with
  | nil => intro en n j _; rfl
  | cons a l ih =>
    intro en n j h
    rw [pu, ih _ _ _ (by omega), pk_un (by omega)]
theorem pu_ge : ∀ (l : List Nat) (en : Nat → Int32) (n j : Nat), j < l.length → pu l en n (n + j) = nI (l.getD j 0) := by
  intro l
  induction l with
  | nil => intro en n j h; cases h
  | cons a l ih =>
    intro en n j h
    cases j with
    | zero => rw [pu, pu_lt _ _ _ _ (by omega), Nat.add_zero, pk_us]; rfl
    | succ j =>
      rw [pu, show n + (j + 1) = n + 1 + j by omega, ih _ _ _ (by simpa using h)]
      rfl
def clr (re : Nat → Int32) (i : Nat) : Nat → Int32 := fun a => if a < i then 0 else re a
theorem clr_s {re : Nat → Int32} {i : Nat} : upd (clr re i) i 0 = clr re (i + 1) := by
  funext a
  by_cases e : a = i
  · subst e; rw [pk_us]; unfold clr; rw [if_pos (by omega)]
  · rw [pk_un e]
    unfold clr
    by_cases e2 : a < i
    · rw [if_pos e2, if_pos (by omega)]
    · rw [if_neg e2, if_neg (by omega)]
theorem clr_0 {re : Nat → Int32} : clr re 0 = re := by
  funext a; unfold clr; rw [if_neg (by omega)]
theorem getD_mid {D T : List Nat} {x : Nat} : (D ++ x :: T).getD D.length 0 = x := by
  induction D with
  | nil => rfl
  | cons a D ih => exact ih
theorem getD_app {Q l : List Nat} : ∀ {j : Nat}, j < Q.length → (Q ++ l).getD j 0 = Q.getD j 0 := by
  induction Q with
  | nil => intro j h; cases h
  | cons a Q ih =>
    intro j h
    cases j with
    | zero => rfl
    | succ j => exact ih (by simpa using h)
theorem getD_app2 {Q l : List Nat} {j : Nat} : (Q ++ l).getD (Q.length + j) 0 = l.getD j 0 := by
  induction Q with
  | nil => rw [List.nil_append, List.length_nil, Nat.zero_add]
  | cons a Q ih =>
    rw [List.length_cons, show Q.length + 1 + j = Q.length + j + 1 by omega]
    exact ih
section KM
variable {Ls : Nat} {xs : Nat → Int32} {c t re en : Nat → Int32} {lf dn n : Int32} {M : mH}
theorem rc_loop0 {x0 fl : Int32} (hfl : fl = 0) : ∀ (l : List Nat) (x : Int32) (st : Nat) (re : Nat → Int32), Chain t x l → st + l.length ≤ 32 → mEv Ls xs 5 (5, [some (.ref 0), some (.int x0), some (.int fl), some (.int x), some (.int (nI st))], [], hV c t lf dn re en n M) (rN (hV c t lf dn (mL re l) en n M)) := by
  intro l
  induction l with
  | nil =>
    intro x st re hx hs
    have hx : x = -1 := hx
    subst hx
    rw [mL_nil]
    refine fEv.br rfl (fun h1 => ?_) (fun h1 => ?_)
    · exact fEv.retV rfl rfl
    · refine fEv.calli rfl e_isC ?_
      rw [isC_m1]
      refine fEv.brT rfl (by decide) ?_
      exact fEv.retV rfl rfl
  | cons a l ih =>
    intro x st re hx hs
    obtain ⟨rfl, ha, hc⟩ := hx
    simp only [List.length_cons] at hs
    refine fEv.brF rfl (decide_eq_false (nI_ge (a := st) (b := 32) (by omega) (by decide))) ?_
    refine fEv.calli rfl e_isC ?_
    rw [isC_nI ha]
    refine fEv.brF rfl (by decide) ?_
    refine fEv.brT rfl (bT ha) ?_
    refine fEv.brT rfl (decide_eq_true hfl) ?_
    refine fEv.calli rfl e_nextAfter ?_
    rw [nextA_nI ha, kT ha]
    have h2 := ih (t a) (st + 1) (upd re a 1) hc (by omega)
    rw [← nI_add, mL_one, mL_app, ← mL_one] at h2
    exact fEv.steps 3 rfl h2
theorem rc_loop1 {x0 fl : Int32} (hfl : ¬ fl = 0) : ∀ (l : List Nat) (x : Int32) (st n : Nat) (re en : Nat → Int32), Chain t x l → st + l.length ≤ 32 → n + l.length ≤ 32 → mEv Ls xs 5 (5, [some (.ref 0), some (.int x0), some (.int fl), some (.int x), some (.int (nI st))], [], hV c t lf dn re en (nI n) M) (rN (hV c t lf dn (mL re l) (pu l en n) (nI (n + l.length)) M)) := by
  intro l
  induction l with
  | nil =>
    intro x st n re en hx hs hn
    have hx : x = -1 := hx
    subst hx
    rw [mL_nil]
    refine fEv.br rfl (fun h1 => ?_) (fun h1 => ?_)
    · exact fEv.retV rfl rfl
    · refine fEv.calli rfl e_isC ?_
      rw [isC_m1]
      refine fEv.brT rfl (by decide) ?_
      exact fEv.retV rfl rfl
  | cons a l ih =>
    intro x st n re en hx hs hn
    obtain ⟨rfl, ha, hc⟩ := hx
    simp only [List.length_cons] at hs hn
    refine fEv.brF rfl (decide_eq_false (nI_ge (a := st) (b := 32) (by omega) (by decide))) ?_
    refine fEv.calli rfl e_isC ?_
    rw [isC_nI ha]
    refine fEv.brF rfl (by decide) ?_
    refine fEv.brT rfl (bT ha) ?_
    refine fEv.brF rfl (decide_eq_false hfl) ?_
    refine fEv.brF rfl (decide_eq_false (nI_ge (a := n) (b := 32) (by omega) (by decide))) ?_
    refine fEv.brT rfl (bT (a := n) (by omega)) ?_
    refine fEv.calli rfl e_nextAfter ?_
    rw [nextA_nI ha, kT ha, kT (show n < 32 by omega)]
    have h2 := ih (t a) (st + 1) (n + 1) (upd re a 1) (upd en n (nI a)) hc (by omega) (by omega)
    rw [← nI_add, mL_one, mL_app, ← mL_one, show n + 1 + l.length = n + (l.length + 1) by omega, ← nI_add (a := n)] at h2
    exact fEv.steps 3 rfl h2
theorem e_reach0 {x fl : Int32} {l : List Nat} (hfl : fl = 0) (hc : Chain t x l) (hl : l.length ≤ 32) : mEv Ls xs 5 (0, [some (.ref 0), some (.int x), some (.int fl), none, none], [], (hV c t lf dn re en n M)) (rN (hV c t lf dn (mL re l) en n M)) := fEv.steps 4 rfl (rc_loop0 hfl l x 0 re hc (by omega))
theorem e_reach1 {x fl : Int32} {l : List Nat} {n : Nat} (hfl : ¬ fl = 0) (hc : Chain t x l) (hl : l.length ≤ 32) (hn : n + l.length ≤ 32) : mEv Ls xs 5 (0, [some (.ref 0), some (.int x), some (.int fl), none, none], [], (hV c t lf dn re en (nI n) M)) (rN (hV c t lf dn (mL re l) (pu l en n) (nI (n + l.length)) M)) := fEv.steps 4 rfl (rc_loop1 hfl l x 0 n re en hc (by omega) hn)
theorem e_cut0 {q : Nat} (hq : q < 32) (hl : c (4 * q + 3) = nI 0) : mEv Ls xs 8 (0, [some (.ref 0), some (.int (nI q)), none], [], (hV c t lf dn re en n M)) (rN (hV c t lf dn re en n M)) := by
  refine fEv.calli rfl (e_lenN hq) ?_
  rw [hl]
  refine fEv.brT rfl (by decide) ?_
  exact fEv.retV rfl rfl
theorem e_cut1 {q m : Nat} {l : List Nat} (hlf : lf = -1) (hq : q < 32) (hl : c (4 * q + 3) = nI (m + 1)) (hm : m < 200) (hc : Chain t (c (4 * q + 2)) l) (hml : m / 4 < l.length) : mEv Ls xs 8 (0, [some (.ref 0), some (.int (nI q)), none], [], (hV c t lf dn re en n M)) (rN (hV c (upd t (l.getD (m / 4) 0) (-1)) lf dn re en n M)) := by
  subst hlf
  have hlt : l.getD (m / 4) 0 < 32 := hc.lt _ (getD_mem hml)
  refine fEv.calli rfl (e_lenN hq) ?_
  rw [hl]
  refine fEv.brF rfl (decide_eq_false (nI_nle (by omega) (by omega))) ?_
  have h2 := e_clusterOfPlace (Ls := Ls) (xs := xs) (c := c) (t := t) (lf := -1) (dn := dn) (re := re) (en := en) (n := n) (M := M) (e := nI q) (i := m) (l := l) (by omega) (by unfold fstC; rw [if_neg (nI_ne3 hq), cellA_nI hq (by decide)]; exact hc) hml
  rw [show nI m = nI (m + 1) - nI 1 by rw [pk_sub (by omega)]; rfl] at h2
  refine fEv.calli rfl h2 ?_
  refine fEv.calln rfl (e_writeTable1 (by decide) hlt) ?_
  exact fEv.retV rfl rfl
end KM
end
section
/-! the class's mount -/
section KN
variable {Ls : Nat} {xs : Nat → Int32} {c t re en : Nat → Int32} {lf dn n : Int32} {M : mH} {u : Prop} {ch : Nat → List Nat} {R : Nat → Prop} {lv : Nat → Nat}
theorem cl_loop {r : mR} (k : ∀ o, mEv Ls xs 4 (21, [some (.ref 0), some (.int o), none, none], [], hV c t lf dn (clr re 32) en n M) r) : ∀ (m i : Nat), i + m = 32 → mEv Ls xs 4 (2, [some (.ref 0), some (.int (nI i)), none, none], [], hV c t lf dn (clr re i) en n M) r := by
  intro m
  induction m with
  | zero =>
    intro i hi
    have hi : i = 32 := hi
    subst hi
    exact fEv.brT rfl (by decide) (k _)
  | succ m ih =>
    intro i hi
    refine fEv.brF rfl (decide_eq_false (nI_ge (a := i) (b := 32) (by omega) (by decide))) ?_
    refine fEv.brT rfl (bT (a := i) (by omega)) ?_
    rw [kT (show i < 32 by omega)]
    have h2 := ih (i + 1) (by omega)
    rw [← nI_add, ← clr_s] at h2
    exact fEv.steps 2 rfl h2
/-- how far the class has come: D behind it, T before it -/
def Bf (c : Nat → Int32) (ch : Nat → List Nat) (R : Nat → Prop) (D T W : List Nat) (en : Nat → Int32) : Prop :=
  (∀ x ∈ D ++ T, Vx c ch R x) ∧ (D ++ T).Nodup ∧ (∀ j, j < (D ++ T).length → en j = nI ((D ++ T).getD j 0)) ∧ ((∀ x ∈ ch 32, x ∈ D ++ T) ∧ ∀ p ∈ D, diF c p → ∀ x ∈ ch p, x ∈ D ++ T) ∧ (∀ x ∈ D ++ T, x ∈ ch 32 ∨ ∃ p ∈ D, diF c p ∧ x ∈ ch p) ∧ (∀ a, a ∈ W ↔ (a ∈ D ++ T ∨ ∃ x ∈ D, a ∈ kF c ch x))
theorem Bf.all (h : Inv u c t ch R lv) {D W : List Nat} {en : Nat → Int32} (hb : Bf c ch R D [] W en) : ∀ x, x ∈ D ↔ Vx c ch R x := by
  obtain ⟨b1, b2, b3, ⟨b4, b5⟩, b6, b7⟩ := hb
  rw [List.append_nil] at b1 b4 b5
  have key : ∀ n p, R p → dirP c p = true → lv p = n → ∀ x ∈ ch p, x ∈ D := by
    intro n
    induction n with
    | zero =>
      intro p hp hd hl x hx
      rw [lv_0 h hp hl] at hx
      exact b4 x hx
    | succ n ih =>
      intro p hp hd hl x hx
      have hp3 : p ≠ 32 := by intro e; rw [e, h.1.2] at hl; omega
      obtain ⟨q, h1, h2, h4, h5, -⟩ := up_lv h hp hp3
      exact b5 p (ih q h1 h2 (by omega) p h4) (R_di h hp hp3 hd) x hx
  intro x
  exact ⟨b1 x, fun ⟨p, h1, h2, h3⟩ => key (lv p) p h1 h2 rfl x h3⟩
/-- the head goes behind -/
theorem Bf.step {D T W L K : List Nat} {x : Nat} {en en' : Nat → Int32} (hb : Bf c ch R D (x :: T) W en) (hK : ∀ a, a ∈ K ↔ a ∈ L ∨ a ∈ kF c ch x) (hL : ∀ y ∈ L, Vx c ch R y ∧ y ∉ D ++ x :: T) (hLn : L.Nodup) (hL2 : diF c x → L = ch x) (hL3 : ¬ diF c x → L = []) (hen : ∀ j, j < (D ++ x :: T).length → en' j = en j) (hen2 : ∀ j, j < L.length → en' ((D ++ x :: T).length + j) = nI (L.getD j 0)) :
    Bf c ch R (D ++ [x]) (T ++ L) (W ++ K) en' := by
  obtain ⟨b1, b2, b3, ⟨b4, b5⟩, b6, b7⟩ := hb
  have e : (D ++ [x]) ++ (T ++ L) = (D ++ x :: T) ++ L := by simp
  unfold Bf
  rw [e]
  refine ⟨fun y hy => ?_, ?_, fun j hj => ?_, ⟨fun y hy => List.mem_append.mpr (Or.inl (b4 y hy)), fun p hp hd y hy => ?_⟩, fun y hy => ?_, fun a => ?_⟩
  · rcases List.mem_append.mp hy with hy | hy
    · exact b1 y hy
    · exact (hL y hy).1
  · exact List.nodup_append.mpr ⟨b2, hLn, fun a ha b hb hab => (hL b hb).2 (hab ▸ ha)⟩
  · by_cases hlt : j < (D ++ x :: T).length
    · rw [hen j hlt, b3 j hlt, getD_app hlt]
    · rw [List.length_append] at hj
      have e2 : j = (D ++ x :: T).length + (j - (D ++ x :: T).length) := by omega
      rw [e2, hen2 _ (by omega), getD_app2]
  · rcases List.mem_append.mp hp with hp | hp
    · exact List.mem_append.mpr (Or.inl (b5 p hp hd y hy))
    · have : p = x := by simpa using hp
      subst this
      exact List.mem_append.mpr (Or.inr (by rw [hL2 hd]; exact hy))
  · rcases List.mem_append.mp hy with hy | hy
    · rcases b6 y hy with z | ⟨p, p1, p2, p3⟩
      · exact Or.inl z
      · exact Or.inr ⟨p, List.mem_append.mpr (Or.inl p1), p2, p3⟩
    · by_cases hd : diF c x
      · rw [hL2 hd] at hy
        exact Or.inr ⟨x, by simp, hd, hy⟩
      · rw [hL3 hd] at hy; cases hy
  · rw [List.mem_append, b7, hK, List.mem_append (s := D ++ x :: T)]
    constructor
    · rintro ((z | ⟨y, y1, y2⟩) | (z | z))
      · exact Or.inl (Or.inl z)
      · exact Or.inr ⟨y, List.mem_append.mpr (Or.inl y1), y2⟩
      · exact Or.inl (Or.inr z)
      · exact Or.inr ⟨x, by simp, z⟩
    · rintro ((z | z) | ⟨y, y1, y2⟩)
      · exact Or.inl (Or.inl z)
      · exact Or.inr (Or.inl z)
      · rcases List.mem_append.mp y1 with y1 | y1
        · exact Or.inl (Or.inr ⟨y, y1, y2⟩)
        · have : y = x := by simpa using y1
          exact Or.inr (Or.inr (this ▸ y2))
theorem cut_snoc {D : List Nat} {x : Nat} : cut c ch (D ++ [x]) = cut c ch D ++ cF c ch x := by
  unfold cut
  rw [List.flatMap_append]
  simp
theorem ck_head {o3 : Option Value} {x : Nat} {a : Int32} {r : mR} (h3 : oInt o3) (hx3 : x < 32) (k : mEv Ls xs 4 (64, [some (.ref 0), some (.int a), some (.int (nI x)), o3], [.int (c (4 * x))], hV c t lf dn re en n M) r) : mEv Ls xs 4 (55, [some (.ref 0), some (.int a), some (.int (nI x)), o3], [], hV c t lf dn re en n M) r := by
  rcases h3 with rfl | ⟨z, rfl⟩ <;>
  · refine fEv.calli rfl e_cellAt ?_
    rw [cellA_nI hx3 (by decide), Nat.add_zero]
    exact k
theorem ck_dir {o3 : Option Value} {x : Nat} {a : Int32} {r : mR} (h3 : oInt o3) (hx3 : x < 32) (k : mEv Ls xs 4 (76, [some (.ref 0), some (.int a), some (.int (nI x)), some (.int (bI (dirP c x)))], [], hV c t lf dn re en n M) r) : mEv Ls xs 4 (70, [some (.ref 0), some (.int a), some (.int (nI x)), o3], [], hV c t lf dn re en n M) r := by
  have h7 := e_isDir (Ls := Ls) (xs := xs) (c := c) (t := t) (lf := lf) (dn := dn) (re := re) (en := en) (n := n) (M := M) (e := eC x)
  rw [dirC_e (by omega), eC_lt hx3] at h7
  rcases h3 with rfl | ⟨z, rfl⟩ <;>
  · refine fEv.calli rfl h7 ?_
    exact fEv.steps 1 rfl k
theorem bf_loop (h : Inv u c t ch R lv) {re0 : Nat → Int32} : ∀ (m : Nat) (D T W : List Nat) (en : Nat → Int32) (o2 o3 : Option Value), oInt o2 → oInt o3 → D.length + m = 32 → Bf c ch R D T W en → ∃ Q W' en', (∀ x, x ∈ Q ↔ Vx c ch R x) ∧ (∀ a, a ∈ W' ↔ a ∈ cov c ch Q) ∧
    mEv Ls xs 4 (34, [some (.ref 0), some (.int (nI D.length)), o2, o3], [], hV c (tL t (cut c ch D)) (-1) 0 (mL re0 W) en (nI (D ++ T).length) M) (rN (hV c (tL t (cut c ch Q)) (-1) 0 (mL re0 W') en' (nI Q.length) M)) := by
  intro m
  induction m with
  | zero =>
    intro D T W en o2 o3 ho2 ho3 hm hb
    have hT : T = [] := by
      have := nodup_le 32 _ hb.2.1 (fun a ha => (hb.1 a ha).lt h)
      rw [List.length_append] at this
      cases T with
      | nil => rfl
      | cons x T => simp only [List.length_cons] at this; omega
    subst hT
    have hall := hb.all h
    refine ⟨D, W, en, hall, fun a => ?_, ?_⟩
    · rw [hb.2.2.2.2.2, cov_mem, List.append_nil]
      constructor
      · rintro (z | ⟨x, x1, x2⟩)
        · exact ⟨a, z, List.mem_cons_self⟩
        · exact ⟨x, x1, List.mem_cons_of_mem _ x2⟩
      · rintro ⟨x, x1, x2⟩
        rcases List.mem_cons.mp x2 with z | z
        · exact Or.inl (z ▸ x1)
        · exact Or.inr ⟨x, x1, z⟩
    · rw [List.append_nil]
      have hm : D.length = 32 := hm
      rw [hm]
      refine fEv.brT rfl (by decide) ?_
      exact fEv.retV rfl rfl
  | succ m ih =>
    intro D T W en o2 o3 ho2 ho3 hm hb
    have hD : D.length < 32 := by omega
    cases T with
    | nil =>
      have hall := hb.all h
      refine ⟨D, W, en, hall, fun a => ?_, ?_⟩
      · rw [hb.2.2.2.2.2, cov_mem, List.append_nil]
        constructor
        · rintro (z | ⟨x, x1, x2⟩)
          · exact ⟨a, z, List.mem_cons_self⟩
          · exact ⟨x, x1, List.mem_cons_of_mem _ x2⟩
        · rintro ⟨x, x1, x2⟩
          rcases List.mem_cons.mp x2 with z | z
          · exact Or.inl (z ▸ x1)
          · exact Or.inr ⟨x, x1, z⟩
      · rw [List.append_nil]
        refine fEv.brF rfl (decide_eq_false (nI_ge (b := 32) hD (by decide))) ?_
        refine fEv.brT rfl (decide_eq_true (Int32.le_refl _)) ?_
        exact fEv.retV rfl rfl
    | cons x T =>
      obtain ⟨b1, b2, b3, b45, b6, b7⟩ := id hb
      have hxm : x ∈ D ++ x :: T := by simp
      have hv : Vx c ch R x := b1 x hxm
      have hx3 : x < 32 := hv.lt h
      have hxD : x ∉ D := fun z => (List.nodup_append.mp b2).2.2 x z x List.mem_cons_self rfl
      have hDV : ∀ y ∈ D, Vx c ch R y := fun y hy => b1 y (List.mem_append.mpr (Or.inl hy))
      have hQ : (D ++ x :: T).length ≤ 32 := nodup_le 32 _ b2 (fun a ha => (b1 a ha).lt h)
      have hlt : D.length < (D ++ x :: T).length := by rw [List.length_append]; simp
      have hex : en D.length = nI x := by rw [b3 _ hlt, getD_mid]
      have hlen1 : D.length + 1 = (D ++ [x]).length := by simp
      have hqn : ∀ L, (D ++ x :: T).length + List.length L = ((D ++ [x]) ++ (T ++ L)).length := by intro L; simp; omega
      suffices hgo : ∃ Q W' en', (∀ x, x ∈ Q ↔ Vx c ch R x) ∧ (∀ a, a ∈ W' ↔ a ∈ cov c ch Q) ∧
          mEv Ls xs 4 (55, [some (.ref 0), some (.int (nI D.length)), some (.int (nI x)), o3], [], hV c (tL t (cut c ch D)) (-1) 0 (mL re0 W) en (nI (D ++ x :: T).length) M) (rN (hV c (tL t (cut c ch Q)) (-1) 0 (mL re0 W') en' (nI Q.length) M)) by
        obtain ⟨Q, W', en', g1, g2, g3⟩ := hgo
        refine ⟨Q, W', en', g1, g2, ?_⟩
        refine fEv.brF rfl (decide_eq_false (nI_ge (b := 32) hD (by decide))) ?_
        refine fEv.brF rfl (decide_eq_false (nI_ge hlt (by omega))) ?_
        refine fEv.brT rfl (bT hD) ?_
        rw [kT hD, hex]
        exact fEv.steps 1 rfl g3
      have hnext : ∀ (L K : List Nat) (en' : Nat → Int32) (o2 o3 : Option Value), oInt o2 → oInt o3 → Bf c ch R (D ++ [x]) (T ++ L) (W ++ K) en' → ∃ Q W' en'', (∀ x, x ∈ Q ↔ Vx c ch R x) ∧ (∀ a, a ∈ W' ↔ a ∈ cov c ch Q) ∧
          mEv Ls xs 4 (95, [some (.ref 0), some (.int (nI D.length)), o2, o3], [], hV c (tL t (cut c ch (D ++ [x]))) (-1) 0 (mL re0 (W ++ K)) en' (nI ((D ++ x :: T).length + L.length)) M) (rN (hV c (tL t (cut c ch Q)) (-1) 0 (mL re0 W') en'' (nI Q.length) M)) := by
        intro L K en' o2 o3 ho2 ho3 hb'
        obtain ⟨Q, W', en'', g1, g2, g3⟩ := ih (D ++ [x]) (T ++ L) (W ++ K) en' o2 o3 ho2 ho3 (by omega) hb'
        refine ⟨Q, W', en'', g1, g2, ?_⟩
        rw [← hlen1, ← nI_add, ← hqn] at g3
        exact fEv.steps 2 rfl g3
      rcases hv.cases h with hc0 | ⟨d, d1, d2, hcd, hR, ⟨hk, hdir, hfi, hdi⟩ | ⟨hk, hdir, hdi, hfi⟩⟩
      · have nfi : ¬ fiF c x := fun z => z.1 hc0
        have ndi : ¬ diF c x := fun z => z.1 hc0
        have hk0 : kF c ch x = [] := if_neg nfi
        have hcx : cF c ch x = [] := by unfold cF; rw [hk0]; rfl
        obtain ⟨Q, W', en'', g1, g2, g3⟩ := hnext [] [] en (some (.int (nI x))) o3 (Or.inr ⟨_, rfl⟩) ho3 (hb.step (fun a => by rw [hk0]; simp) (fun y hy => by cases hy) List.nodup_nil (fun z => absurd z ndi) (fun _ => rfl) (fun _ _ => rfl) (fun j hj => by cases hj))
        refine ⟨Q, W', en'', g1, g2, ?_⟩
        rw [cut_snoc, hcx, List.append_nil, List.append_nil] at g3
        refine ck_head ho3 hx3 ?_
        rw [hc0]
        refine fEv.brF rfl (by decide) ?_
        exact fEv.steps 1 rfl g3
      · have hne : ¬ c (4 * x) = 0 := hfi.1
        obtain ⟨f1, f2, f3, f4, f5, f6⟩ := fi_all h hR hdir
        have hkk : kF c ch x = (ch x).take ((lnF c x + 3) / 4) := if_pos hfi
        have hfull : Chain (tL t (cut c ch D)) (c (4 * x + 2)) (ch x) := Chain_congr f5 (fun a ha => tL_out (fun z => hxD (cut_fil h hDV hR ha z).1))
        obtain ⟨Q, W', en'', g1, g2, g3⟩ := hnext [] (kF c ch x) en (some (.int (nI x))) (some (.int (bI (dirP c x)))) (Or.inr ⟨_, rfl⟩) (Or.inr ⟨_, rfl⟩) (hb.step (fun a => by simp) (fun y hy => by cases hy) List.nodup_nil (fun z => absurd z hdi) (fun _ => rfl) (fun _ _ => rfl) (fun j hj => by cases hj))
        refine ⟨Q, W', en'', g1, g2, ?_⟩
        rw [cut_snoc, ← tL_app, ← mL_app] at g3
        have hl32 := h.len hR
        refine ck_head ho3 hx3 ?_
        refine fEv.brT rfl (decide_eq_true hne) ?_
        refine ck_dir ho3 hx3 ?_
        rw [hdir] at g3 ⊢
        refine fEv.brF rfl (by decide) ?_
        by_cases hl : lnF c x = 0
        · have hch0 : ch x = [] := f4 hl
          have hk0 : kF c ch x = [] := by rw [hkk, hch0, List.take_nil]
          have hcx : cF c ch x = [] := by unfold cF; rw [hk0]; rfl
          rw [hcx, hk0, tL_nil, mL_nil] at g3
          refine fEv.calln rfl (e_cut0 hx3 (by rw [f1, hl])) ?_
          refine fEv.calli rfl (e_fstN hx3) ?_
          rw [hch0] at hfull
          refine fEv.calln rfl (e_reach0 (by rfl) hfull (by decide)) ?_
          rw [mL_nil]
          exact g3
        · obtain ⟨k, hk1⟩ : ∃ k, lnF c x = k + 1 := ⟨lnF c x - 1, by omega⟩
          have hj : k / 4 < (ch x).length := by omega
          have ek : (lnF c x + 3) / 4 = k / 4 + 1 := by omega
          have k1 := (Chain_cut (k / 4) (ch x) _ hfull hj f6).1
          have el : cF c ch x = [(ch x).getD (k / 4) 0] := by
            unfold cF
            rw [hkk, ek]
            exact lastL_take _ _ hj
          rw [el, ← tL_one] at g3
          refine fEv.calln rfl (e_cut1 rfl hx3 (by rw [f1, hk1]) (by omega) hfull hj) ?_
          refine fEv.calli rfl (e_fstN hx3) ?_
          rw [← ek, ← hkk] at k1
          refine fEv.calln rfl (e_reach0 (by rfl) k1 (by rw [hkk, List.length_take]; omega)) ?_
          exact g3
      · have hne : ¬ c (4 * x) = 0 := hdi.1
        have hk0 : kF c ch x = [] := if_neg hfi
        have hcx : cF c ch x = [] := by unfold cF; rw [hk0]; rfl
        have hchx := h.chain hR
        rw [fsP_lt hx3] at hchx
        have hfull : Chain (tL t (cut c ch D)) (c (4 * x + 2)) (ch x) := Chain_congr hchx (fun a ha => tL_out (cut_dir h hDV hR hdir ha))
        have hdis : ∀ y ∈ ch x, Vx c ch R y ∧ y ∉ D ++ x :: T := by
          intro y hy
          refine ⟨⟨x, hR, hdir, hy⟩, fun hm => ?_⟩
          rcases b6 y hm with z | ⟨p, p1, p2, p3⟩
          · exact h.2.2.1 x 32 hR h.r32 (by omega) y hy z
          · exact h.2.2.1 x p hR (di_R h (hDV p p1) p2).1 (fun e => hxD (e ▸ p1)) y hy p3
        have hnd := (h.2.1 x hR).2.1
        have hsum : (D ++ x :: T).length + (ch x).length ≤ 32 := by
          have h1 : ((D ++ x :: T) ++ ch x).Nodup := List.nodup_append.mpr ⟨b2, hnd, fun a ha b hb hab => (hdis b hb).2 (hab ▸ ha)⟩
          have h2 := nodup_le 32 _ h1 (fun a ha => by
            rcases List.mem_append.mp ha with ha | ha
            · exact (b1 a ha).lt h
            · exact h.lt hR ha)
          rw [List.length_append] at h2
          exact h2
        obtain ⟨Q, W', en'', g1, g2, g3⟩ := hnext (ch x) (ch x) (pu (ch x) en (D ++ x :: T).length) (some (.int (nI x))) (some (.int (bI (dirP c x)))) (Or.inr ⟨_, rfl⟩) (Or.inr ⟨_, rfl⟩) (hb.step (fun a => by rw [hk0]; simp) hdis hnd (fun _ => rfl) (fun z => absurd hdi z) (fun j hj => pu_lt _ _ _ _ hj) (fun j hj => pu_ge _ _ _ _ hj))
        refine ⟨Q, W', en'', g1, g2, ?_⟩
        rw [cut_snoc, hcx, List.append_nil, ← mL_app] at g3
        refine ck_head ho3 hx3 ?_
        refine fEv.brT rfl (decide_eq_true hne) ?_
        refine ck_dir ho3 hx3 ?_
        rw [hdir] at g3 ⊢
        refine fEv.brT rfl (by decide) ?_
        refine fEv.calli rfl (e_fstN hx3) ?_
        refine fEv.calln rfl (e_reach1 (by decide) hfull (h.len hR) hsum) ?_
        exact g3
end KN
end
section
/-! the class's mount, whole -/
section KO
variable {Ls : Nat} {xs : Nat → Int32} {c t re en : Nat → Int32} {lf dn n : Int32} {M : mH} {u : Prop} {ch : Nat → List Nat} {R : Nat → Prop} {lv : Nat → Nat}
theorem fu_loop : ∀ (m i : Nat), i + m = 32 → mEv Ls xs 12 (4, [some (.ref 0), some (.int (nI (sw re t i).2)), some (.int (nI i))], [], hV c (sw re t i).1 (-1) 0 re en n M) (rV (nI (sw re t 32).2) (hV c (sw re t 32).1 (-1) 0 re en n M)) := by
  intro m
  induction m with
  | zero =>
    intro i hi
    have hi : i = 32 := hi
    subst hi
    refine fEv.brT rfl (by decide) ?_
    exact fEv.retV rfl rfl
  | succ m ih =>
    intro i hi
    have hi3 : i < 32 := by omega
    have h2 := ih (i + 1) (by omega)
    rw [← nI_add, sw] at h2
    refine fEv.brF rfl (decide_eq_false (nI_ge (a := i) (b := 32) (by omega) (by decide))) ?_
    refine fEv.brT rfl (bT hi3) ?_
    rw [kT hi3]
    refine fEv.br rfl (fun h1 => ?_) (fun h1 => ?_)
    · rw [if_neg (fun z => h1 z.1)] at h2
      exact fEv.steps 2 rfl h2
    · refine fEv.calli rfl e_nextAfter ?_
      rw [nextA_nI hi3]
      refine fEv.br rfl (fun h3 => ?_) (fun h3 => ?_)
      · rw [if_neg (fun z => z.2 h3)] at h2
        exact fEv.steps 2 rfl h2
      · rw [if_pos ⟨Decidable.of_not_not h1, h3⟩] at h2
        refine fEv.calln rfl (e_writeTable1 (by decide) hi3) ?_
        have h2 : mEv Ls xs 12 (4, [some (.ref 0), some (.int (nI ((sw re t i).2 + 1))), some (.int (nI i + nI 1))], [], hV c (upd (sw re t i).1 i (-2)) (-1) 0 re en n M) (rV (nI (sw re t 32).2) (hV c (sw re t 32).1 (-1) 0 re en n M)) := h2
        rw [← nI_add] at h2
        exact fEv.steps 3 rfl h2
theorem e_freeUn : mEv Ls xs 12 (0, [some (.ref 0), none, none], [], (hV c t (-1) 0 re en n M)) (rV (nI (sw re t 32).2) (hV c (sw re t 32).1 (-1) 0 re en n M)) := fEv.steps 4 rfl (fu_loop (t := t) 32 0 (by omega))
theorem e_power : mEv Ls xs 42 (0, [some (.ref 1)], [], (hV c t lf dn re en n M)) (rN (hV c t (-1) 0 re en n M)) := fEv.retV rfl rfl
theorem e_check (h : Inv u c t ch R lv) : ∃ Q W en', (∀ x, x ∈ Q ↔ Vx c ch R x) ∧ (∀ a, a ∈ W ↔ a ∈ cov c ch Q) ∧ mEv Ls xs 4 (0, [some (.ref 0), none, none, none], [], (hV c t (-1) 0 re en n M)) (rN (hV c (tL t (cut c ch Q)) (-1) 0 (mL (clr re 32) W) en' (nI Q.length) M)) := by
  have hl := h.len h.r32
  have hc : Chain t (nI 0) (ch 32) := h.chain h.r32
  have hb : Bf c ch R [] (ch 32) (ch 32) (pu (ch 32) en 0) := by
    unfold Bf
    rw [List.nil_append]
    refine ⟨fun x hx => ⟨32, h.r32, dirP_32, hx⟩, (h.2.1 32 h.r32).2.1, fun j hj => ?_, ⟨fun x hx => hx, fun p hp => by cases hp⟩, fun x hx => Or.inl hx, fun a => ⟨fun z => Or.inl z, fun z => ?_⟩⟩
    · have := pu_ge (ch 32) en 0 j hj
      rwa [Nat.zero_add] at this
    · rcases z with z | ⟨x, hx, -⟩
      · exact z
      · cases hx
  obtain ⟨Q, W, en', g1, g2, g3⟩ := bf_loop (Ls := Ls) (xs := xs) (M := M) (re0 := clr re 32) h 32 [] (ch 32) (ch 32) (pu (ch 32) en 0) none none (Or.inl rfl) (Or.inl rfl) (by decide) hb
  refine ⟨Q, W, en', g1, g2, ?_⟩
  have e0 : cut c ch [] = [] := rfl
  rw [e0, tL_nil, List.nil_append] at g3
  have h1 := cl_loop (Ls := Ls) (xs := xs) (c := c) (t := t) (re := re) (en := en) (lf := -1) (dn := 0) (n := n) (M := M) (r := rN (hV c (tL t (cut c ch Q)) (-1) 0 (mL (clr re 32) W) en' (nI Q.length) M)) (fun o => by
    have h5 := e_reach1 (Ls := Ls) (xs := xs) (c := c) (t := t) (re := clr re 32) (en := en) (lf := -1) (dn := 0) (n := 0) (M := M) (x := nI 0) (fl := nI 1) (by decide) hc hl (by omega)
    rw [Nat.zero_add] at h5
    refine fEv.calln rfl h5 ?_
    exact fEv.steps 2 rfl g3) 32 0 (by omega)
  rw [clr_0] at h1
  exact fEv.steps 2 rfl h1
theorem e_mount (h : Inv u c t ch R lv) : ∃ Q W en' n', (∀ x, x ∈ Q ↔ Vx c ch R x) ∧ (∀ a, a ∈ W ↔ a ∈ cov c ch Q) ∧ mEv Ls xs 3 (0, [some (.ref 0)], [], (hV c t lf dn re en n M)) (rV (nI (sw (mL (clr re 32) W) (tL t (cut c ch Q)) 32).2) (hV c (sw (mL (clr re 32) W) (tL t (cut c ch Q)) 32).1 (-1) 0 (mL (clr re 32) W) en' n' M)) := by
  obtain ⟨Q, W, en', g1, g2, g3⟩ := e_check (Ls := Ls) (xs := xs) (re := re) (en := en) (n := n) (M := M) h
  refine ⟨Q, W, en', nI Q.length, g1, g2, ?_⟩
  refine fEv.calln rfl e_power ?_
  refine fEv.calln rfl g3 ?_
  refine fEv.calli rfl e_freeUn ?_
  exact fEv.retV rfl rfl
end KO
end
section
/-! the model's check -/
section KQ
variable {Ls : Nat} {xs : Nat → Int32} {P : Px} {T : mH} {cd hm he fr lf dn : Int32} {c t mk : Nat → Int32}
theorem nt_loop {x : Nat} {fl : Int32} {k : Nat} (hk : k ≤ 32) : ∀ (K : List Nat) (t : Nat → Int32) (f : Int32) (i : Nat) (mk : Nat → Int32) (o6 : Option Value), oInt o6 → i + K.length = k → Pf t f K → mEv Ls xs 84 (76, [some (.ref 6), some (.int (nI x)), some (.int fl), some (.int (nI k)), some (.int f), some (.int (nI i)), o6], [], hM P T cd (c, t, lf, dn) mk hm he fr) (rN (hM P T cd (c, tL t (lastL K), lf, dn) (mL mk K) hm he fr)) := by
  intro K
  induction K with
  | nil =>
    intro t f i mk o6 h6 hi _
    have hi : i = k := hi
    subst hi
    have e0 : lastL [] = [] := rfl
    rw [e0, tL_nil, mL_nil]
    refine fEv.brT rfl (decide_eq_true (Int32.le_refl _)) ?_
    exact fEv.retV rfl rfl
  | cons a K ih =>
    intro t f i mk o6 h6 hi hp
    obtain ⟨rfl, ha, hp⟩ := hp
    simp only [List.length_cons] at hi
    refine fEv.brF rfl (decide_eq_false (nI_ge (a := i) (b := k) (by omega) (by omega))) ?_
    refine fEv.brT rfl (bT ha) ?_
    refine fEv.brT rfl (bT ha) ?_
    cases K with
    | nil =>
      simp only [List.length_nil] at hi
      refine fEv.brF rfl (decide_eq_false (fun z => z (by show nI i = nI k - nI 1; rw [pk_sub (by omega)]; congr 1; omega))) ?_
      refine fEv.brT rfl (bT ha) ?_
      rw [kT ha]
      have h2 := ih (upd t a (-1)) (t a) (i + 1) (upd mk a 1) (some (.int (t a))) (Or.inr ⟨_, rfl⟩) (by simp; omega) trivial
      have e0 : lastL [] = [] := rfl
      have e1 : lastL [a] = [a] := rfl
      rw [← nI_add, e0, tL_nil, mL_nil] at h2
      rw [e1, ← tL_one, ← mL_one]
      exact fEv.steps 4 rfl h2
    | cons b K =>
      refine fEv.brT rfl (decide_eq_true (fun z => ?_)) ?_
      · have z : nI i = nI k - nI 1 := z
        rw [pk_sub (by omega)] at z
        have := (nI_eq (by omega) (by omega)).mp z
        simp only [List.length_cons] at hi
        omega
      · refine fEv.brT rfl (bT ha) ?_
        rw [kT ha]
        have h2 := ih (upd t a (t a)) (t a) (i + 1) (upd mk a 1) (some (.int (t a))) (Or.inr ⟨_, rfl⟩) (by simp only [List.length_cons] at hi ⊢; omega) (by rw [upd_self rfl]; exact hp)
        have e1 : lastL (a :: b :: K) = lastL (b :: K) := rfl
        rw [← nI_add, mL_one, mL_app, ← mL_one] at h2
        rw [e1]
        have e2 : tL t (lastL (b :: K)) = tL (upd t a (t a)) (lastL (b :: K)) := by rw [upd_self rfl]
        rw [e2]
        exact fEv.steps 4 rfl h2
theorem m_note0 {x : Nat} (hx : x < 32) (hf : c (4 * x) ≤ 0 ∨ ¬ c (4 * x + 1) = nI 1) : mEv Ls xs 84 (0, [some (.ref 6), some (.int (nI x)), none, none, none, none, none], [], (hM P T cd (c, t, lf, dn) mk hm he fr)) (rN (hM P T cd (c, t, lf, dn) (upd mk x 1) hm he fr)) := by
  have fin : ∀ fl : Int32, fl = 0 → mEv Ls xs 84 (38, [some (.ref 6), some (.int (nI x)), some (.int fl), none, none, none, none], [], hM P T cd (c, t, lf, dn) (upd mk x 1) hm he fr) (rN (hM P T cd (c, t, lf, dn) (upd mk x 1) hm he fr)) := by
    rintro fl rfl
    refine fEv.brT rfl (by decide) ?_
    refine fEv.brT rfl (b4i hx (i := 2) (by decide)) ?_
    rw [k4i hx (by decide)]
    refine fEv.brT rfl (by decide) ?_
    exact fEv.retV rfl rfl
  refine fEv.brT rfl (bT hx) ?_
  rw [kT hx]
  refine fEv.brT rfl (b4 hx) ?_
  rw [k4 hx]
  refine fEv.br rfl (fun h1 => ?_) (fun h1 => ?_)
  · exact fEv.steps 2 rfl (fin (nI 0) rfl)
  · have h1 : ¬ c (4 * x) ≤ 0 := h1
    refine fEv.brT rfl (b4i hx (i := 1) (by decide)) ?_
    rw [k4i hx (by decide)]
    refine fEv.brT rfl (decide_eq_true (hf.resolve_left h1)) ?_
    exact fEv.steps 2 rfl (fin (nI 0) rfl)
theorem m_note1 {x len : Nat} {K : List Nat} (hx : x < 32) (h0 : ¬ c (4 * x) ≤ 0) (h1 : c (4 * x + 1) = nI 1) (hl : c (4 * x + 3) = nI len) (hlen : len ≤ 128) (hK : K.length = (len + 3) / 4) (hP : Pf t (c (4 * x + 2)) K) : mEv Ls xs 84 (0, [some (.ref 6), some (.int (nI x)), none, none, none, none, none], [], (hM P T cd (c, t, lf, dn) mk hm he fr)) (rN (hM P T cd (c, tL t (lastL K), lf, dn) (mL (upd mk x 1) K) hm he fr)) := by
  refine fEv.brT rfl (bT hx) ?_
  rw [kT hx]
  refine fEv.brT rfl (b4 hx) ?_
  rw [k4 hx]
  refine fEv.brF rfl (decide_eq_false h0) ?_
  refine fEv.brT rfl (b4i hx (i := 1) (by decide)) ?_
  rw [k4i hx (by decide)]
  refine fEv.brF rfl (decide_eq_false (fun z => z h1)) ?_
  refine fEv.brF rfl (by decide) ?_
  refine fEv.brT rfl (b4i hx (i := 3) (by decide)) ?_
  rw [k4i hx (by decide)]
  rw [show MS.c (c, t, lf, dn) (4 * x + 3) = nI len from hl]
  refine fEv.brT rfl (b4i hx (i := 2) (by decide)) ?_
  rw [k4i hx (by decide)]
  have h2 := nt_loop (Ls := Ls) (xs := xs) (P := P) (T := T) (cd := cd) (hm := hm) (he := he) (fr := fr) (lf := lf) (dn := dn) (c := c) (x := x) (fl := nI 1) (k := (len + 3) / 4) (by omega) K t (c (4 * x + 2)) 0 (upd mk x 1) none (Or.inl rfl) (by omega) hP
  rw [← pk_div (a := len + 3) (d := 4) (by omega) (by decide) (by decide), ← nI_add] at h2
  exact fEv.steps 3 rfl h2
theorem m_below0 {x : Nat} (hx : x < 32) (hf : c (4 * x) ≤ 0 ∨ ¬ c (4 * x + 1) = nI 2) : mEv Ls xs 85 (0, [some (.ref 6), some (.int (nI x))], [], (hM P T cd (c, t, lf, dn) mk hm he fr)) (rV (-1) (hM P T cd (c, t, lf, dn) mk hm he fr)) := by
  refine fEv.brT rfl (b4 hx) ?_
  rw [k4 hx]
  refine fEv.br rfl (fun h1 => ?_) (fun h1 => ?_)
  · exact fEv.retV rfl rfl
  · have h1 : ¬ c (4 * x) ≤ 0 := h1
    refine fEv.brT rfl (b4i hx (i := 1) (by decide)) ?_
    rw [k4i hx (by decide)]
    refine fEv.brT rfl (decide_eq_true (hf.resolve_left h1)) ?_
    exact fEv.retV rfl rfl
theorem m_below1 {x : Nat} (hx : x < 32) (h0 : ¬ c (4 * x) ≤ 0) (h1 : c (4 * x + 1) = nI 2) : mEv Ls xs 85 (0, [some (.ref 6), some (.int (nI x))], [], (hM P T cd (c, t, lf, dn) mk hm he fr)) (rV (c (4 * x + 2)) (hM P T cd (c, t, lf, dn) mk hm he fr)) := by
  refine fEv.brT rfl (b4 hx) ?_
  rw [k4 hx]
  refine fEv.brF rfl (decide_eq_false h0) ?_
  refine fEv.brT rfl (b4i hx (i := 1) (by decide)) ?_
  rw [k4i hx (by decide)]
  refine fEv.brF rfl (decide_eq_false (fun z => z h1)) ?_
  refine fEv.brT rfl (b4i hx (i := 2) (by decide)) ?_
  rw [k4i hx (by decide)]
  exact fEv.retV rfl rfl
end KQ
end
section
/-! the model's check and mount -/
def hN (P : Px) (T : mH) (cd : Int32) (c t : Nat → Int32) (ch : Nat → List Nat) (lf dn : Int32) (mk : Nat → Int32) (hm he fr : Int32) (N : List Nat) : mH := hM P T cd (c, tL t (cut c ch N), lf, dn) (mL mk (cov c ch N)) hm he fr
def vB (c : Nat → Int32) (x : Nat) : Int32 := if diF c x then c (4 * x + 2) else -1
section KR2
variable {Ls : Nat} {xs : Nat → Int32} {P : Px} {T : mH} {cd hm he fr lf dn : Int32} {c t mk : Nat → Int32} {u : Prop} {ch : Nat → List Nat} {R : Nat → Prop} {lv : Nat → Nat} {N : List Nat}
theorem cov_snoc {D : List Nat} {x : Nat} : cov c ch (D ++ [x]) = cov c ch D ++ (x :: kF c ch x) := by
  unfold cov
  rw [List.flatMap_append]
  simp
theorem m_noteV (h : Inv u c t ch R lv) (hN' : ∀ y ∈ N, Vx c ch R y) {x : Nat} (hx : Vx c ch R x) : mEv Ls xs 84 (0, [some (.ref 6), some (.int (nI x)), none, none, none, none, none], [], (hN P T cd c t ch lf dn mk hm he fr N)) (rN (hN P T cd c t ch lf dn mk hm he fr (N ++ [x]))) := by
  have hx3 := hx.lt h
  unfold hN
  rw [cut_snoc, cov_snoc]
  have no : ¬ fiF c x → (c (4 * x) ≤ 0 ∨ ¬ c (4 * x + 1) = nI 1) → mEv Ls xs 84 (0, [some (.ref 6), some (.int (nI x)), none, none, none, none, none], [], (hM P T cd (c, tL t (cut c ch N), lf, dn) (mL mk (cov c ch N)) hm he fr)) (rN (hM P T cd (c, tL t (cut c ch N ++ cF c ch x), lf, dn) (mL mk (cov c ch N ++ (x :: kF c ch x))) hm he fr)) := by
    intro hf ho
    have hk0 : kF c ch x = [] := if_neg hf
    have hcx : cF c ch x = [] := by unfold cF; rw [hk0]; rfl
    rw [hcx, hk0, List.append_nil, ← mL_app, ← mL_one]
    exact m_note0 hx3 ho
  rcases hx.cases h with hc0 | ⟨d, d1, d2, hcd, hR, ⟨hk, hdir, hfi, hdi⟩ | ⟨hk, hdir, hdi, hfi⟩⟩
  · exact no (fun z => z.1 hc0) (Or.inl (by rw [hc0]; decide))
  · obtain ⟨f1, f2, f3, f4, f5, f6⟩ := fi_all h hR hdir
    have hkk : kF c ch x = (ch x).take ((lnF c x + 3) / 4) := if_pos hfi
    have h2 := m_note1 (Ls := Ls) (xs := xs) (P := P) (T := T) (cd := cd) (hm := hm) (he := he) (fr := fr) (lf := lf) (dn := dn) (c := c) (t := tL t (cut c ch N)) (mk := mL mk (cov c ch N)) (K := kF c ch x) hx3 (by rw [hcd]; exact nI_nle (by omega) (by omega)) hk f1 f2 (by rw [hkk, List.length_take]; omega) (kF_Pf h hN' hx)
    rw [tL_app, mL_one, mL_app, mL_app] at h2
    exact h2
  · exact no hfi (Or.inr (by rw [hk]; decide))
theorem m_belowV (h : Inv u c t ch R lv) {x : Nat} (hx : Vx c ch R x) : mEv Ls xs 85 (0, [some (.ref 6), some (.int (nI x))], [], (hN P T cd c t ch lf dn mk hm he fr N)) (rV (vB c x) (hN P T cd c t ch lf dn mk hm he fr N)) := by
  have hx3 := hx.lt h
  unfold hN vB
  rcases hx.cases h with hc0 | ⟨d, d1, d2, hcd, hR, ⟨hk, hdir, hfi, hdi⟩ | ⟨hk, hdir, hdi, hfi⟩⟩
  · rw [if_neg (fun z => z.1 hc0)]
    exact m_below0 hx3 (Or.inl (by rw [hc0]; decide))
  · rw [if_neg hdi]
    exact m_below0 hx3 (Or.inr (by rw [hk]; decide))
  · rw [if_pos hdi]
    exact m_below1 hx3 (by rw [hcd]; exact nI_nle (by omega) (by omega)) hk
theorem vB_chain (h : Inv u c t ch R lv) {x : Nat} (hx : Vx c ch R x) : Chain t (vB c x) (bF c ch x) := by
  unfold vB bF
  by_cases hd : diF c x
  · rw [if_pos hd, if_pos hd]
    have := h.chain (di_R h hx hd).1
    rwa [fsP_lt (hx.lt h)] at this
  · rw [if_neg hd, if_neg hd]
    rfl
theorem N_snoc {x : Nat} (hN' : ∀ y ∈ N, Vx c ch R y) (hx : Vx c ch R x) : ∀ y ∈ N ++ [x], Vx c ch R y := by
  intro y hy
  rcases List.mem_append.mp hy with hy | hy
  · exact hN' y hy
  · have : y = x := by simpa using hy
    exact this ▸ hx
theorem N_app {K : List Nat} (hN' : ∀ y ∈ N, Vx c ch R y) (hx : ∀ y ∈ K, Vx c ch R y) : ∀ y ∈ N ++ K, Vx c ch R y := by
  intro y hy
  rcases List.mem_append.mp hy with hy | hy
  · exact hN' y hy
  · exact hx y hy
theorem c4 (h : Inv u c t ch R lv) {r : mR} {a1 a2 a3 : Int32} : ∀ (l : List Nat) (x : Int32) (N : List Nat), Chain t x l → (∀ y ∈ l, Vx c ch R y) → (∀ y ∈ N, Vx c ch R y) →
    mEv Ls xs 83 (92, [some (.ref 6), some (.int a1), some (.int a2), some (.int a3), some (.int (-1))], [], hN P T cd c t ch lf dn mk hm he fr (N ++ l.flatMap (vis c ch 0))) r → mEv Ls xs 83 (69, [some (.ref 6), some (.int a1), some (.int a2), some (.int a3), some (.int x)], [], hN P T cd c t ch lf dn mk hm he fr N) r := by
  intro l
  induction l with
  | nil =>
    intro x N hx _ _ k
    have hx : x = -1 := hx
    subst hx
    have e : N ++ List.flatMap (vis c ch 0) [] = N := by simp
    rw [e] at k
    exact fEv.brT rfl (by decide) k
  | cons a l ih =>
    intro x N hx hl hN' k
    obtain ⟨rfl, ha, hc⟩ := hx
    have hv := hl a List.mem_cons_self
    have e : N ++ List.flatMap (vis c ch 0) (a :: l) = (N ++ [a]) ++ List.flatMap (vis c ch 0) l := by simp [vis]
    rw [e] at k
    have h2 := ih (t a) (N ++ [a]) hc (fun y hy => hl y (List.mem_cons_of_mem _ hy)) (N_snoc hN' hv) k
    refine fEv.brF rfl (decide_eq_false (nI_pos (by omega))) ?_
    refine fEv.calln rfl (m_noteV h hN' hv) ?_
    refine fEv.brT rfl (bT ha) ?_
    rw [kT ha, show MS.t (c, tL t (cut c ch (N ++ [a])), lf, dn) a = t a from tN_dir h (N_snoc hN' hv) hv]
    exact fEv.steps 2 rfl h2
theorem c3 (h : Inv u c t ch R lv) {r : mR} {a1 a2 : Int32} : ∀ (l : List Nat) (x : Int32) (N : List Nat) (o4 : Option Value), oInt o4 → Chain t x l → (∀ y ∈ l, Vx c ch R y) → (∀ y ∈ N, Vx c ch R y) →
    (∀ o4, oInt o4 → mEv Ls xs 83 (102, [some (.ref 6), some (.int a1), some (.int a2), some (.int (-1)), o4], [], hN P T cd c t ch lf dn mk hm he fr (N ++ l.flatMap (vis c ch 1))) r) → mEv Ls xs 83 (53, [some (.ref 6), some (.int a1), some (.int a2), some (.int x), o4], [], hN P T cd c t ch lf dn mk hm he fr N) r := by
  intro l
  induction l with
  | nil =>
    intro x N o4 h4 hx _ _ k
    have hx : x = -1 := hx
    subst hx
    have e : N ++ List.flatMap (vis c ch 1) [] = N := by simp
    rw [e] at k
    exact fEv.brT rfl (by decide) (k o4 h4)
  | cons a l ih =>
    intro x N o4 h4 hx hl hN' k
    obtain ⟨rfl, ha, hc⟩ := hx
    have hv := hl a List.mem_cons_self
    have e : N ++ List.flatMap (vis c ch 1) (a :: l) = (N ++ [a] ++ (bF c ch a).flatMap (vis c ch 0)) ++ List.flatMap (vis c ch 1) l := by
      simp [vis]
    rw [e] at k
    have hN2 : ∀ y ∈ N ++ [a] ++ (bF c ch a).flatMap (vis c ch 0), Vx c ch R y := N_app (N_snoc hN' hv) (flat_V h (bF_V h hv))
    have h2 := ih (t a) (N ++ [a] ++ (bF c ch a).flatMap (vis c ch 0)) (some (.int (-1))) (Or.inr ⟨_, rfl⟩) hc (fun y hy => hl y (List.mem_cons_of_mem _ hy)) hN2 k
    have h3 : mEv Ls xs 83 (92, [some (.ref 6), some (.int a1), some (.int a2), some (.int (nI a)), some (.int (-1))], [], hN P T cd c t ch lf dn mk hm he fr (N ++ [a] ++ (bF c ch a).flatMap (vis c ch 0))) r := by
      refine fEv.brT rfl (bT ha) ?_
      rw [kT ha, show MS.t (c, tL t (cut c ch (N ++ [a] ++ (bF c ch a).flatMap (vis c ch 0))), lf, dn) a = t a from tN_dir h hN2 hv]
      exact fEv.steps 2 rfl h2
    have h4' := c4 h (bF c ch a) (vB c a) (N ++ [a]) (vB_chain h hv) (bF_V h hv) (N_snoc hN' hv) h3
    rcases h4 with rfl | ⟨z, rfl⟩ <;>
    · refine fEv.brF rfl (decide_eq_false (nI_pos (by omega))) ?_
      refine fEv.calln rfl (m_noteV h hN' hv) ?_
      refine fEv.calli rfl (m_belowV h hv) ?_
      exact fEv.steps 1 rfl h4'
theorem c2 (h : Inv u c t ch R lv) {r : mR} {a1 : Int32} : ∀ (l : List Nat) (x : Int32) (N : List Nat) (o3 o4 : Option Value), oInt o3 → oInt o4 → Chain t x l → (∀ y ∈ l, Vx c ch R y) → (∀ y ∈ N, Vx c ch R y) →
    (∀ o3 o4, oInt o3 → oInt o4 → mEv Ls xs 83 (112, [some (.ref 6), some (.int a1), some (.int (-1)), o3, o4], [], hN P T cd c t ch lf dn mk hm he fr (N ++ l.flatMap (vis c ch 2))) r) → mEv Ls xs 83 (38, [some (.ref 6), some (.int a1), some (.int x), o3, o4], [], hN P T cd c t ch lf dn mk hm he fr N) r := by
  intro l
  induction l with
  | nil =>
    intro x N o3 o4 h3 h4 hx _ _ k
    have hx : x = -1 := hx
    subst hx
    have e : N ++ List.flatMap (vis c ch 2) [] = N := by simp
    rw [e] at k
    exact fEv.brT rfl (by decide) (k o3 o4 h3 h4)
  | cons a l ih =>
    intro x N o3 o4 h3 h4 hx hl hN' k
    obtain ⟨rfl, ha, hc⟩ := hx
    have hv := hl a List.mem_cons_self
    have e : N ++ List.flatMap (vis c ch 2) (a :: l) = (N ++ [a] ++ (bF c ch a).flatMap (vis c ch 1)) ++ List.flatMap (vis c ch 2) l := by
      rw [List.flatMap_cons, vis]
      simp
    rw [e] at k
    have hN2 : ∀ y ∈ N ++ [a] ++ (bF c ch a).flatMap (vis c ch 1), Vx c ch R y := N_app (N_snoc hN' hv) (flat_V h (bF_V h hv))
    have h5 : ∀ o4, oInt o4 → mEv Ls xs 83 (102, [some (.ref 6), some (.int a1), some (.int (nI a)), some (.int (-1)), o4], [], hN P T cd c t ch lf dn mk hm he fr (N ++ [a] ++ (bF c ch a).flatMap (vis c ch 1))) r := by
      intro o4 ho4
      have h2 := ih (t a) (N ++ [a] ++ (bF c ch a).flatMap (vis c ch 1)) (some (.int (-1))) o4 (Or.inr ⟨_, rfl⟩) ho4 hc (fun y hy => hl y (List.mem_cons_of_mem _ hy)) hN2 k
      refine fEv.brT rfl (bT ha) ?_
      rw [kT ha, show MS.t (c, tL t (cut c ch (N ++ [a] ++ (bF c ch a).flatMap (vis c ch 1))), lf, dn) a = t a from tN_dir h hN2 hv]
      exact fEv.steps 2 rfl h2
    have h6 := c3 h (bF c ch a) (vB c a) (N ++ [a]) o4 h4 (vB_chain h hv) (bF_V h hv) (N_snoc hN' hv) h5
    rcases h3 with rfl | ⟨z, rfl⟩ <;> rcases h4 with rfl | ⟨z', rfl⟩ <;>
    · refine fEv.brF rfl (decide_eq_false (nI_pos (by omega))) ?_
      refine fEv.calln rfl (m_noteV h hN' hv) ?_
      refine fEv.calli rfl (m_belowV h hv) ?_
      exact fEv.steps 1 rfl h6
theorem c1 (h : Inv u c t ch R lv) {r : mR} : ∀ (l : List Nat) (x : Int32) (N : List Nat) (o2 o3 o4 : Option Value), oInt o2 → oInt o3 → oInt o4 → Chain t x l → (∀ y ∈ l, Vx c ch R y) → (∀ y ∈ N, Vx c ch R y) →
    (∀ o2 o3 o4, oInt o2 → oInt o3 → oInt o4 → mEv Ls xs 83 (122, [some (.ref 6), some (.int (-1)), o2, o3, o4], [], hN P T cd c t ch lf dn mk hm he fr (N ++ l.flatMap (vis c ch 3))) r) → mEv Ls xs 83 (23, [some (.ref 6), some (.int x), o2, o3, o4], [], hN P T cd c t ch lf dn mk hm he fr N) r := by
  intro l
  induction l with
  | nil =>
    intro x N o2 o3 o4 h2 h3 h4 hx _ _ k
    have hx : x = -1 := hx
    subst hx
    have e : N ++ List.flatMap (vis c ch 3) [] = N := by simp
    rw [e] at k
    exact fEv.brT rfl (by decide) (k o2 o3 o4 h2 h3 h4)
  | cons a l ih =>
    intro x N o2 o3 o4 ho2 h3 h4 hx hl hN' k
    obtain ⟨rfl, ha, hc⟩ := hx
    have hv := hl a List.mem_cons_self
    have e : N ++ List.flatMap (vis c ch 3) (a :: l) = (N ++ [a] ++ (bF c ch a).flatMap (vis c ch 2)) ++ List.flatMap (vis c ch 3) l := by
      rw [List.flatMap_cons, vis]
      simp
    rw [e] at k
    have hN2 : ∀ y ∈ N ++ [a] ++ (bF c ch a).flatMap (vis c ch 2), Vx c ch R y := N_app (N_snoc hN' hv) (flat_V h (bF_V h hv))
    have h5 : ∀ o3 o4, oInt o3 → oInt o4 → mEv Ls xs 83 (112, [some (.ref 6), some (.int (nI a)), some (.int (-1)), o3, o4], [], hN P T cd c t ch lf dn mk hm he fr (N ++ [a] ++ (bF c ch a).flatMap (vis c ch 2))) r := by
      intro o3 o4 ho3 ho4
      have h2 := ih (t a) (N ++ [a] ++ (bF c ch a).flatMap (vis c ch 2)) (some (.int (-1))) o3 o4 (Or.inr ⟨_, rfl⟩) ho3 ho4 hc (fun y hy => hl y (List.mem_cons_of_mem _ hy)) hN2 k
      refine fEv.brT rfl (bT ha) ?_
      rw [kT ha, show MS.t (c, tL t (cut c ch (N ++ [a] ++ (bF c ch a).flatMap (vis c ch 2))), lf, dn) a = t a from tN_dir h hN2 hv]
      exact fEv.steps 2 rfl h2
    have h6 := c2 h (bF c ch a) (vB c a) (N ++ [a]) o3 o4 h3 h4 (vB_chain h hv) (bF_V h hv) (N_snoc hN' hv) h5
    rcases ho2 with rfl | ⟨z2, rfl⟩ <;> rcases h3 with rfl | ⟨z, rfl⟩ <;> rcases h4 with rfl | ⟨z', rfl⟩ <;>
    · refine fEv.brF rfl (decide_eq_false (nI_pos (by omega))) ?_
      refine fEv.calln rfl (m_noteV h hN' hv) ?_
      refine fEv.calli rfl (m_belowV h hv) ?_
      exact fEv.steps 1 rfl h6
theorem mcl_loop {s : MS} {r : mR} (k : ∀ o, mEv Ls xs 83 (21, [some (.ref 6), some (.int o), none, none, none], [], hM P T cd s (clr mk 32) hm he fr) r) : ∀ (m i : Nat), i + m = 32 → mEv Ls xs 83 (2, [some (.ref 6), some (.int (nI i)), none, none, none], [], hM P T cd s (clr mk i) hm he fr) r := by
  intro m
  induction m with
  | zero =>
    intro i hi
    have hi : i = 32 := hi
    subst hi
    exact fEv.brT rfl (by decide) (k _)
  | succ m ih =>
    intro i hi
    refine fEv.brF rfl (decide_eq_false (nI_ge (a := i) (b := 32) (by omega) (by decide))) ?_
    refine fEv.brT rfl (bT (a := i) (by omega)) ?_
    rw [kT (show i < 32 by omega)]
    have h2 := ih (i + 1) (by omega)
    rw [← nI_add, ← clr_s] at h2
    exact fEv.steps 2 rfl h2
theorem m_check (h : Inv u c t ch R lv) : mEv Ls xs 83 (0, [some (.ref 6), none, none, none, none], [], (hM P T cd (c, t, lf, dn) mk hm he fr)) (rN (hN P T cd c t ch lf dn (clr mk 32) hm he fr ((ch 32).flatMap (vis c ch 3)))) := by
  have h1 := mcl_loop (Ls := Ls) (xs := xs) (P := P) (T := T) (cd := cd) (hm := hm) (he := he) (fr := fr) (mk := mk) (s := (c, t, lf, dn)) (r := rN (hN P T cd c t ch lf dn (clr mk 32) hm he fr ((ch 32).flatMap (vis c ch 3)))) (fun o => by
    have h2 := c1 (Ls := Ls) (xs := xs) (P := P) (T := T) (cd := cd) (hm := hm) (he := he) (fr := fr) (lf := lf) (dn := dn) (mk := clr mk 32) (r := rN (hN P T cd c t ch lf dn (clr mk 32) hm he fr ((ch 32).flatMap (vis c ch 3)))) h (ch 32) (nI 0) [] none none none (Or.inl rfl) (Or.inl rfl) (Or.inl rfl) (h.chain h.r32) (fun y hy => ⟨32, h.r32, dirP_32, hy⟩) (fun y hy => by cases hy) (fun o2 o3 o4 k2 k3 k4 => by
      rw [List.nil_append]
      exact fEv.retV rfl rfl)
    have e0 : hN P T cd c t ch lf dn (clr mk 32) hm he fr [] = hM P T cd (c, t, lf, dn) (clr mk 32) hm he fr := by
      unfold hN
      have e1 : cut c ch [] = [] := rfl
      have e2 : cov c ch [] = [] := rfl
      rw [e1, e2, tL_nil, mL_nil]
    rw [e0] at h2
    exact fEv.steps 2 rfl h2) 32 0 (by omega)
  rw [clr_0] at h1
  exact fEv.steps 2 rfl h1
theorem mu_loop : ∀ (m i : Nat), i + m = 32 → mEv Ls xs 82 (23, [some (.ref 6), some (.int (nI (sw mk t i).2)), some (.int (nI i))], [], hM P T cd (c, (sw mk t i).1, lf, dn) mk hm he fr) (rV (nI (sw mk t 32).2) (hM P T cd (c, (sw mk t 32).1, lf, dn) mk hm he fr)) := by
  intro m
  induction m with
  | zero =>
    intro i hi
    have hi : i = 32 := hi
    subst hi
    refine fEv.brT rfl (by decide) ?_
    exact fEv.retV rfl rfl
  | succ m ih =>
    intro i hi
    have hi3 : i < 32 := by omega
    have h2 := ih (i + 1) (by omega)
    rw [← nI_add, sw] at h2
    refine fEv.brF rfl (decide_eq_false (nI_ge (a := i) (b := 32) (by omega) (by decide))) ?_
    refine fEv.brT rfl (bT hi3) ?_
    rw [kT hi3]
    refine fEv.br rfl (fun h1 => ?_) (fun h1 => ?_)
    · rw [if_neg (fun z => h1 z.1)] at h2
      exact fEv.steps 2 rfl h2
    · refine fEv.brT rfl (bT hi3) ?_
      rw [kT hi3]
      refine fEv.br rfl (fun h3 => ?_) (fun h3 => ?_)
      · rw [if_neg (fun z => z.2 h3)] at h2
        exact fEv.steps 2 rfl h2
      · rw [if_pos ⟨Decidable.of_not_not h1, h3⟩] at h2
        refine fEv.brT rfl (bT hi3) ?_
        rw [kT hi3]
        have h2 : mEv Ls xs 82 (23, [some (.ref 6), some (.int (nI ((sw mk t i).2 + 1))), some (.int (nI i + nI 1))], [], hM P T cd (c, upd (sw mk t i).1 i (-2), lf, dn) mk hm he fr) (rV (nI (sw mk t 32).2) (hM P T cd (c, (sw mk t 32).1, lf, dn) mk hm he fr)) := h2
        rw [← nI_add] at h2
        exact fEv.steps 3 rfl h2
theorem m_mount (h : Inv u c t ch R lv) : mEv Ls xs 82 (0, [some (.ref 6), none, none], [], (hM P T cd (c, t, lf, dn) mk hm he fr)) (rV (nI (sw (mL (clr mk 32) (cov c ch ((ch 32).flatMap (vis c ch 3)))) (tL t (cut c ch ((ch 32).flatMap (vis c ch 3)))) 32).2) (hM P T (nI 0) (c, (sw (mL (clr mk 32) (cov c ch ((ch 32).flatMap (vis c ch 3)))) (tL t (cut c ch ((ch 32).flatMap (vis c ch 3)))) 32).1, -1, 0) (mL (clr mk 32) (cov c ch ((ch 32).flatMap (vis c ch 3)))) hm he fr)) := by
  refine fEv.calln rfl (m_check (cd := nI 0) (lf := -1) (dn := 0) h) ?_
  exact fEv.steps 4 rfl (mu_loop (lf := -1) (dn := 0) (c := c) (t := tL t (cut c ch ((ch 32).flatMap (vis c ch 3)))) (mk := mL (clr mk 32) (cov c ch ((ch 32).flatMap (vis c ch 3)))) 32 0 (by omega))
end KR2
/-- mount on both sides -/
theorem op_mount {Ls : Nat} {xs : Nat → Int32} {c t : Nat → Int32} (hs : I1 c t) : ∃ (t' : Nat → Int32) (v : Int32), J1 c t' ∧
    (∀ lf dn re en n M, ∃ re' en' n', mEv Ls xs 3 (0, [some (.ref 0)], [], (hV c t lf dn re en n M)) (rV v (hV c t' (-1) 0 re' en' n' M))) ∧
    (∀ P T cd lf dn mk hm he fr, ∃ mk', mEv Ls xs 82 (0, [some (.ref 6), none, none], [], (hM P T cd (c, t, lf, dn) mk hm he fr)) (rV v (hM P T (nI 0) (c, t', -1, 0) mk' hm he fr))) := by
  obtain ⟨ch, R, lv, h⟩ := hs
  have hrow := vis_row h
  have hbase : ∀ (re : Nat → Int32) (W : List Nat), (∀ a, a ∈ W ↔ a ∈ cov c ch ((ch 32).flatMap (vis c ch 3))) → ∀ i, i < 32 → (mL (clr re 32) W i = 0 ↔ mL (fun _ => 0) (cov c ch ((ch 32).flatMap (vis c ch 3))) i = 0) := by
    intro re W hW i hi
    unfold mL
    by_cases e : i ∈ W
    · rw [if_pos e, if_pos ((hW i).mp e)]
    · rw [if_neg e, if_neg (fun z => e ((hW i).mpr z))]
      unfold clr
      rw [if_pos hi]
  refine ⟨(sw (mL (fun _ => 0) (cov c ch ((ch 32).flatMap (vis c ch 3)))) (tL t (cut c ch ((ch 32).flatMap (vis c ch 3)))) 32).1, nI (sw (mL (fun _ => 0) (cov c ch ((ch 32).flatMap (vis c ch 3)))) (tL t (cut c ch ((ch 32).flatMap (vis c ch 3)))) 32).2, J1.of (h.mount hrow (fun a _ => ?_)), fun lf dn re en n M => ?_, fun P T cd lf dn mk hm he fr => ?_⟩
  · unfold mL
    by_cases e : a ∈ cov c ch ((ch 32).flatMap (vis c ch 3))
    · rw [if_pos e]; exact ⟨fun z => absurd z (by decide), fun z => absurd e z⟩
    · rw [if_neg e]; exact ⟨fun _ => e, fun _ => rfl⟩
  · obtain ⟨Q, W, en', n', g1, g2, g3⟩ := e_mount (Ls := Ls) (xs := xs) (lf := lf) (dn := dn) (re := re) (en := en) (n := n) (M := M) h
    have hQ : ∀ x, x ∈ Q ↔ x ∈ (ch 32).flatMap (vis c ch 3) := fun x => (g1 x).trans (hrow x).symm
    rw [cut_congr hQ, sw_congr 32 (hbase re W (fun a => (g2 a).trans (cov_congr hQ a)))] at g3
    exact ⟨_, en', n', g3⟩
  · have g3 := m_mount (Ls := Ls) (xs := xs) (P := P) (T := T) (cd := cd) (hm := hm) (he := he) (fr := fr) (lf := lf) (dn := dn) (mk := mk) h
    rw [sw_congr 32 (hbase mk _ (fun a => Iff.rfl))] at g3
    exact ⟨_, g3⟩
end
section
/-! the law's own heap -/
def hMt (cd : Int32) (s : MS) (mk : Nat → Int32) (hm he fr : Int32) (o : Nat → Int64) : mH := [.inr (2, [.int cd, .ref 7, .ref 8, .int (MS.dn s), .int (MS.lf s), .ref 9, .int hm, .int he, .int fr]), .inl (0, 32, .inl (MS.t s)), .inl (0, 128, .inl (MS.c s)), .inl (1, 32, .inl mk), .inl (2, 1, .inr (.inl o))]
def Pc (c t : Nat → Int32) (lf dn : Int32) (re en : Nat → Int32) (n : Int32) : Px := fun i => match i with
  | 0 => .inr (0, [.ref 1, .ref 4, .ref 5, .int n])
  | 1 => .inr (1, [.ref 2, .ref 3, .int lf, .int dn])
  | 2 => .inl (0, 128, .inl c)
  | 3 => .inl (0, 32, .inl t)
  | 4 => .inl (1, 32, .inl re)
  | _ => .inl (0, 32, .inl en)
def Fx (c t : Nat → Int32) (lf dn : Int32) (re en : Nat → Int32) (n cd : Int32) (s : MS) (mk : Nat → Int32) (hm he fr : Int32) (o : Nat → Int64) : mH := hV c t lf dn re en n (hMt cd s mk hm he fr o)
theorem Fx_M {c t re en mk : Nat → Int32} {lf dn n cd hm he fr : Int32} {s : MS} {o : Nat → Int64} : hM (Pc c t lf dn re en n) [.inl (2, 1, .inr (.inl o))] cd s mk hm he fr = Fx c t lf dn re en n cd s mk hm he fr o := rfl
theorem cmp_self (a : Int64) : lg_cmp a a = 0 := by
  unfold lg_cmp
  simp
theorem upL0 {o : Nat → Int64} {x : Int64} : vp_updL o 0 x 0 = x := by unfold vp_updL; rw [if_pos rfl]
section LH
variable {Ls : Nat} {xs : Nat → Int32} {c t c' t' re en mk : Nat → Int32} {lf dn lf' dn' n cd hm he fr : Int32} {s : MS} {o : Nat → Int64}
theorem h_make {a d v : Int32} {j : Nat} (hj : j ≤ jmx 15 4) (hc : ∀ re en n M, mEv Ls xs 15 (0, [some (.ref 0), some (.int a), some (.int d), none, none, none, none, none], [], (hV c t lf dn re en n M)) (if j = 0 then rV v (hV c' t' lf' dn' re en n M) else rX (xj 4 j) (hV c' t' lf' dn' re en n M))) :
    ∃ z w o', z ≤ 1 ∧ w ≤ 6 ∧ (j = 0 → o' 0 = v.toInt64) ∧ mEv Ls xs 88 (0, [some (.ref 0), some (.int a), some (.int d), some (.ref 10), none], [], (Fx c t lf dn re en n cd s mk hm he fr o)) (.inl (some (.int (nI j))), Fx c' t' lf' dn' re en n cd s mk hm he fr o', z, w) := by
  have h1 := hc re en n (hMt cd s mk hm he fr o)
  have hj : j ≤ 5 := hj
  match j, hj with
  | 0, _ =>
    refine ⟨0, 0, vp_updL o 0 v.toInt64, by omega, by omega, fun _ => upL0, ?_⟩
    refine fEv.calli rfl h1 ?_
    refine fEv.brT rfl (by decide) ?_
    exact fEv.retV rfl rfl
  | 1, _ => exact ⟨1, 6, o, by omega, by omega, fun z => absurd z (by decide), fEv.cat rfl h1 (by decide) rfl (fEv.retV rfl rfl)⟩
  | 2, _ => exact ⟨1, 6, o, by omega, by omega, fun z => absurd z (by decide), fEv.cat rfl h1 (by decide) rfl (fEv.retV rfl rfl)⟩
  | 3, _ => exact ⟨1, 6, o, by omega, by omega, fun z => absurd z (by decide), fEv.cat rfl h1 (by decide) rfl (fEv.retV rfl rfl)⟩
  | 4, _ => exact ⟨1, 6, o, by omega, by omega, fun z => absurd z (by decide), fEv.cat rfl h1 (by decide) rfl (fEv.retV rfl rfl)⟩
  | 5, _ => exact ⟨1, 6, o, by omega, by omega, fun z => absurd z (by decide), fEv.cat rfl h1 (by decide) rfl (fEv.retV rfl rfl)⟩
theorem h_remove {a v : Int32} {j : Nat} (hj : j ≤ jmx 23 0) (hc : ∀ re en n M, mEv Ls xs 23 (0, [some (.ref 0), some (.int a), none, none], [], (hV c t lf dn re en n M)) (if j = 0 then rV v (hV c' t' lf' dn' re en n M) else rX (xj 0 j) (hV c' t' lf' dn' re en n M))) :
    ∃ z w o', z ≤ 1 ∧ w ≤ 6 ∧ (j = 0 → o' 0 = v.toInt64) ∧ mEv Ls xs 89 (0, [some (.ref 0), some (.int a), some (.ref 10), none], [], (Fx c t lf dn re en n cd s mk hm he fr o)) (.inl (some (.int (nI j))), Fx c' t' lf' dn' re en n cd s mk hm he fr o', z, w) := by
  have h1 := hc re en n (hMt cd s mk hm he fr o)
  have hj : j ≤ 4 := hj
  match j, hj with
  | 0, _ =>
    refine ⟨0, 0, vp_updL o 0 v.toInt64, by omega, by omega, fun _ => upL0, ?_⟩
    refine fEv.calli rfl h1 ?_
    refine fEv.brT rfl (by decide) ?_
    exact fEv.retV rfl rfl
  | 1, _ => exact ⟨1, 6, o, by omega, by omega, fun z => absurd z (by decide), fEv.cat rfl h1 (by decide) rfl (fEv.retV rfl rfl)⟩
  | 2, _ => exact ⟨1, 6, o, by omega, by omega, fun z => absurd z (by decide), fEv.cat rfl h1 (by decide) rfl (fEv.retV rfl rfl)⟩
  | 3, _ => exact ⟨1, 6, o, by omega, by omega, fun z => absurd z (by decide), fEv.cat rfl h1 (by decide) rfl (fEv.retV rfl rfl)⟩
  | 4, _ => exact ⟨1, 6, o, by omega, by omega, fun z => absurd z (by decide), fEv.cat rfl h1 (by decide) rfl (fEv.retV rfl rfl)⟩
theorem h_rename {a b v : Int32} {j : Nat} (hj : j ≤ jmx 26 0) (hc : ∀ re en n M, mEv Ls xs 26 (0, [some (.ref 0), some (.int a), some (.int b), none, none], [], (hV c t lf dn re en n M)) (if j = 0 then rV v (hV c' t' lf' dn' re en n M) else rX (xj 0 j) (hV c' t' lf' dn' re en n M))) :
    ∃ z w o', z ≤ 1 ∧ w ≤ 6 ∧ (j = 0 → o' 0 = v.toInt64) ∧ mEv Ls xs 90 (0, [some (.ref 0), some (.int a), some (.int b), some (.ref 10), none], [], (Fx c t lf dn re en n cd s mk hm he fr o)) (.inl (some (.int (nI j))), Fx c' t' lf' dn' re en n cd s mk hm he fr o', z, w) := by
  have h1 := hc re en n (hMt cd s mk hm he fr o)
  have hj : j ≤ 4 := hj
  match j, hj with
  | 0, _ =>
    refine ⟨0, 0, vp_updL o 0 v.toInt64, by omega, by omega, fun _ => upL0, ?_⟩
    refine fEv.calli rfl h1 ?_
    refine fEv.brT rfl (by decide) ?_
    exact fEv.retV rfl rfl
  | 1, _ => exact ⟨1, 6, o, by omega, by omega, fun z => absurd z (by decide), fEv.cat rfl h1 (by decide) rfl (fEv.retV rfl rfl)⟩
  | 2, _ => exact ⟨1, 6, o, by omega, by omega, fun z => absurd z (by decide), fEv.cat rfl h1 (by decide) rfl (fEv.retV rfl rfl)⟩
  | 3, _ => exact ⟨1, 6, o, by omega, by omega, fun z => absurd z (by decide), fEv.cat rfl h1 (by decide) rfl (fEv.retV rfl rfl)⟩
  | 4, _ => exact ⟨1, 6, o, by omega, by omega, fun z => absurd z (by decide), fEv.cat rfl h1 (by decide) rfl (fEv.retV rfl rfl)⟩
theorem h_append {a b v : Int32} {j : Nat} (hj : j ≤ jmx 27 4) (hc : ∀ re en n M, mEv Ls xs 27 (0, [some (.ref 0), some (.int a), some (.int b), none, none, none], [], (hV c t lf dn re en n M)) (if j = 0 then rV v (hV c' t' lf' dn' re en n M) else rX (xj 4 j) (hV c' t' lf' dn' re en n M))) :
    ∃ z w o', z ≤ 1 ∧ w ≤ 6 ∧ (j = 0 → o' 0 = v.toInt64) ∧ mEv Ls xs 91 (0, [some (.ref 0), some (.int a), some (.int b), some (.ref 10), none], [], (Fx c t lf dn re en n cd s mk hm he fr o)) (.inl (some (.int (nI j))), Fx c' t' lf' dn' re en n cd s mk hm he fr o', z, w) := by
  have h1 := hc re en n (hMt cd s mk hm he fr o)
  have hj : j ≤ 5 := hj
  match j, hj with
  | 0, _ =>
    refine ⟨0, 0, vp_updL o 0 v.toInt64, by omega, by omega, fun _ => upL0, ?_⟩
    refine fEv.calli rfl h1 ?_
    refine fEv.brT rfl (by decide) ?_
    exact fEv.retV rfl rfl
  | 1, _ => exact ⟨1, 6, o, by omega, by omega, fun z => absurd z (by decide), fEv.cat rfl h1 (by decide) rfl (fEv.retV rfl rfl)⟩
  | 2, _ => exact ⟨1, 6, o, by omega, by omega, fun z => absurd z (by decide), fEv.cat rfl h1 (by decide) rfl (fEv.retV rfl rfl)⟩
  | 3, _ => exact ⟨1, 6, o, by omega, by omega, fun z => absurd z (by decide), fEv.cat rfl h1 (by decide) rfl (fEv.retV rfl rfl)⟩
  | 4, _ => exact ⟨1, 6, o, by omega, by omega, fun z => absurd z (by decide), fEv.cat rfl h1 (by decide) rfl (fEv.retV rfl rfl)⟩
  | 5, _ => exact ⟨1, 6, o, by omega, by omega, fun z => absurd z (by decide), fEv.cat rfl h1 (by decide) rfl (fEv.retV rfl rfl)⟩
theorem h_get {a b v : Int32} {j : Nat} (hj : j ≤ jmx 31 5) (hc : ∀ re en n M, mEv Ls xs 31 (0, [some (.ref 0), some (.int a), some (.int b), none], [], (hV c t lf dn re en n M)) (if j = 0 then rV v (hV c' t' lf' dn' re en n M) else rX (xj 5 j) (hV c' t' lf' dn' re en n M))) :
    ∃ z w o', z ≤ 1 ∧ w ≤ 6 ∧ (j = 0 → o' 0 = v.toInt64) ∧ mEv Ls xs 92 (0, [some (.ref 0), some (.int a), some (.int b), some (.ref 10), none], [], (Fx c t lf dn re en n cd s mk hm he fr o)) (.inl (some (.int (nI j))), Fx c' t' lf' dn' re en n cd s mk hm he fr o', z, w) := by
  have h1 := hc re en n (hMt cd s mk hm he fr o)
  have hj : j ≤ 5 := hj
  match j, hj with
  | 0, _ =>
    refine ⟨0, 0, vp_updL o 0 v.toInt64, by omega, by omega, fun _ => upL0, ?_⟩
    refine fEv.calli rfl h1 ?_
    refine fEv.brT rfl (by decide) ?_
    exact fEv.retV rfl rfl
  | 1, _ => exact ⟨1, 6, o, by omega, by omega, fun z => absurd z (by decide), fEv.cat rfl h1 (by decide) rfl (fEv.retV rfl rfl)⟩
  | 2, _ => exact ⟨1, 6, o, by omega, by omega, fun z => absurd z (by decide), fEv.cat rfl h1 (by decide) rfl (fEv.retV rfl rfl)⟩
  | 3, _ => exact ⟨1, 6, o, by omega, by omega, fun z => absurd z (by decide), fEv.cat rfl h1 (by decide) rfl (fEv.retV rfl rfl)⟩
  | 4, _ => exact ⟨1, 6, o, by omega, by omega, fun z => absurd z (by decide), fEv.cat rfl h1 (by decide) rfl (fEv.retV rfl rfl)⟩
  | 5, _ => exact ⟨1, 6, o, by omega, by omega, fun z => absurd z (by decide), fEv.cat rfl h1 (by decide) rfl (fEv.retV rfl rfl)⟩
theorem h_put {a b d v : Int32} {j : Nat} (hj : j ≤ jmx 33 5) (hc : ∀ re en n M, mEv Ls xs 33 (0, [some (.ref 0), some (.int a), some (.int b), some (.int d), none, none, none], [], (hV c t lf dn re en n M)) (if j = 0 then rV v (hV c' t' lf' dn' re en n M) else rX (xj 5 j) (hV c' t' lf' dn' re en n M))) :
    ∃ z w o', z ≤ 1 ∧ w ≤ 6 ∧ (j = 0 → o' 0 = v.toInt64) ∧ mEv Ls xs 93 (0, [some (.ref 0), some (.int a), some (.int b), some (.int d), some (.ref 10), none], [], (Fx c t lf dn re en n cd s mk hm he fr o)) (.inl (some (.int (nI j))), Fx c' t' lf' dn' re en n cd s mk hm he fr o', z, w) := by
  have h1 := hc re en n (hMt cd s mk hm he fr o)
  have hj : j ≤ 5 := hj
  match j, hj with
  | 0, _ =>
    refine ⟨0, 0, vp_updL o 0 v.toInt64, by omega, by omega, fun _ => upL0, ?_⟩
    refine fEv.calli rfl h1 ?_
    refine fEv.brT rfl (by decide) ?_
    exact fEv.retV rfl rfl
  | 1, _ => exact ⟨1, 6, o, by omega, by omega, fun z => absurd z (by decide), fEv.cat rfl h1 (by decide) rfl (fEv.retV rfl rfl)⟩
  | 2, _ => exact ⟨1, 6, o, by omega, by omega, fun z => absurd z (by decide), fEv.cat rfl h1 (by decide) rfl (fEv.retV rfl rfl)⟩
  | 3, _ => exact ⟨1, 6, o, by omega, by omega, fun z => absurd z (by decide), fEv.cat rfl h1 (by decide) rfl (fEv.retV rfl rfl)⟩
  | 4, _ => exact ⟨1, 6, o, by omega, by omega, fun z => absurd z (by decide), fEv.cat rfl h1 (by decide) rfl (fEv.retV rfl rfl)⟩
  | 5, _ => exact ⟨1, 6, o, by omega, by omega, fun z => absurd z (by decide), fEv.cat rfl h1 (by decide) rfl (fEv.retV rfl rfl)⟩
theorem h_shorten {a b v : Int32} {j : Nat} (hj : j ≤ jmx 34 5) (hc : ∀ re en n M, mEv Ls xs 34 (0, [some (.ref 0), some (.int a), some (.int b), none, none, none], [], (hV c t lf dn re en n M)) (if j = 0 then rV v (hV c' t' lf' dn' re en n M) else rX (xj 5 j) (hV c' t' lf' dn' re en n M))) :
    ∃ z w o', z ≤ 1 ∧ w ≤ 6 ∧ (j = 0 → o' 0 = v.toInt64) ∧ mEv Ls xs 94 (0, [some (.ref 0), some (.int a), some (.int b), some (.ref 10), none], [], (Fx c t lf dn re en n cd s mk hm he fr o)) (.inl (some (.int (nI j))), Fx c' t' lf' dn' re en n cd s mk hm he fr o', z, w) := by
  have h1 := hc re en n (hMt cd s mk hm he fr o)
  have hj : j ≤ 5 := hj
  match j, hj with
  | 0, _ =>
    refine ⟨0, 0, vp_updL o 0 v.toInt64, by omega, by omega, fun _ => upL0, ?_⟩
    refine fEv.calli rfl h1 ?_
    refine fEv.brT rfl (by decide) ?_
    exact fEv.retV rfl rfl
  | 1, _ => exact ⟨1, 6, o, by omega, by omega, fun z => absurd z (by decide), fEv.cat rfl h1 (by decide) rfl (fEv.retV rfl rfl)⟩
  | 2, _ => exact ⟨1, 6, o, by omega, by omega, fun z => absurd z (by decide), fEv.cat rfl h1 (by decide) rfl (fEv.retV rfl rfl)⟩
  | 3, _ => exact ⟨1, 6, o, by omega, by omega, fun z => absurd z (by decide), fEv.cat rfl h1 (by decide) rfl (fEv.retV rfl rfl)⟩
  | 4, _ => exact ⟨1, 6, o, by omega, by omega, fun z => absurd z (by decide), fEv.cat rfl h1 (by decide) rfl (fEv.retV rfl rfl)⟩
  | 5, _ => exact ⟨1, 6, o, by omega, by omega, fun z => absurd z (by decide), fEv.cat rfl h1 (by decide) rfl (fEv.retV rfl rfl)⟩
theorem h_length {a v : Int32} {j : Nat} (hj : j ≤ jmx 36 0) (hc : ∀ re en n M, mEv Ls xs 36 (0, [some (.ref 0), some (.int a), none], [], (hV c t lf dn re en n M)) (if j = 0 then rV v (hV c' t' lf' dn' re en n M) else rX (xj 0 j) (hV c' t' lf' dn' re en n M))) :
    ∃ z w o', z ≤ 1 ∧ w ≤ 6 ∧ (j = 0 → o' 0 = v.toInt64) ∧ mEv Ls xs 95 (0, [some (.ref 0), some (.int a), some (.ref 10), none], [], (Fx c t lf dn re en n cd s mk hm he fr o)) (.inl (some (.int (nI j))), Fx c' t' lf' dn' re en n cd s mk hm he fr o', z, w) := by
  have h1 := hc re en n (hMt cd s mk hm he fr o)
  have hj : j ≤ 3 := hj
  match j, hj with
  | 0, _ =>
    refine ⟨0, 0, vp_updL o 0 v.toInt64, by omega, by omega, fun _ => upL0, ?_⟩
    refine fEv.calli rfl h1 ?_
    refine fEv.brT rfl (by decide) ?_
    exact fEv.retV rfl rfl
  | 1, _ => exact ⟨1, 6, o, by omega, by omega, fun z => absurd z (by decide), fEv.cat rfl h1 (by decide) rfl (fEv.retV rfl rfl)⟩
  | 2, _ => exact ⟨1, 6, o, by omega, by omega, fun z => absurd z (by decide), fEv.cat rfl h1 (by decide) rfl (fEv.retV rfl rfl)⟩
  | 3, _ => exact ⟨1, 6, o, by omega, by omega, fun z => absurd z (by decide), fEv.cat rfl h1 (by decide) rfl (fEv.retV rfl rfl)⟩
theorem h_names {a v : Int32} {j : Nat} (hj : j ≤ jmx 37 0) (hc : ∀ re en n M, mEv Ls xs 37 (0, [some (.ref 0), some (.int a), none], [], (hV c t lf dn re en n M)) (if j = 0 then rV v (hV c' t' lf' dn' re en n M) else rX (xj 0 j) (hV c' t' lf' dn' re en n M))) :
    ∃ z w o', z ≤ 1 ∧ w ≤ 6 ∧ (j = 0 → o' 0 = v.toInt64) ∧ mEv Ls xs 96 (0, [some (.ref 0), some (.int a), some (.ref 10), none], [], (Fx c t lf dn re en n cd s mk hm he fr o)) (.inl (some (.int (nI j))), Fx c' t' lf' dn' re en n cd s mk hm he fr o', z, w) := by
  have h1 := hc re en n (hMt cd s mk hm he fr o)
  have hj : j ≤ 4 := hj
  match j, hj with
  | 0, _ =>
    refine ⟨0, 0, vp_updL o 0 v.toInt64, by omega, by omega, fun _ => upL0, ?_⟩
    refine fEv.calli rfl h1 ?_
    refine fEv.brT rfl (by decide) ?_
    exact fEv.retV rfl rfl
  | 1, _ => exact ⟨1, 6, o, by omega, by omega, fun z => absurd z (by decide), fEv.cat rfl h1 (by decide) rfl (fEv.retV rfl rfl)⟩
  | 2, _ => exact ⟨1, 6, o, by omega, by omega, fun z => absurd z (by decide), fEv.cat rfl h1 (by decide) rfl (fEv.retV rfl rfl)⟩
  | 3, _ => exact ⟨1, 6, o, by omega, by omega, fun z => absurd z (by decide), fEv.cat rfl h1 (by decide) rfl (fEv.retV rfl rfl)⟩
  | 4, _ => exact ⟨1, 6, o, by omega, by omega, fun z => absurd z (by decide), fEv.cat rfl h1 (by decide) rfl (fEv.retV rfl rfl)⟩
theorem h_free {v : Int32} {j : Nat} (hj : j ≤ jmx 38 0) (hc : ∀ re en n M, mEv Ls xs 38 (0, [some (.ref 0), none, none], [], (hV c t lf dn re en n M)) (if j = 0 then rV v (hV c' t' lf' dn' re en n M) else rX (xj 0 j) (hV c' t' lf' dn' re en n M))) :
    ∃ z w o', z ≤ 1 ∧ w ≤ 6 ∧ (j = 0 → o' 0 = v.toInt64) ∧ mEv Ls xs 97 (0, [some (.ref 0), some (.ref 10), none], [], (Fx c t lf dn re en n cd s mk hm he fr o)) (.inl (some (.int (nI j))), Fx c' t' lf' dn' re en n cd s mk hm he fr o', z, w) := by
  have h1 := hc re en n (hMt cd s mk hm he fr o)
  have hj : j ≤ 1 := hj
  match j, hj with
  | 0, _ =>
    refine ⟨0, 0, vp_updL o 0 v.toInt64, by omega, by omega, fun _ => upL0, ?_⟩
    refine fEv.calli rfl h1 ?_
    refine fEv.brT rfl (by decide) ?_
    exact fEv.retV rfl rfl
  | 1, _ => exact ⟨1, 6, o, by omega, by omega, fun z => absurd z (by decide), fEv.cat rfl h1 (by decide) rfl (fEv.retV rfl rfl)⟩
theorem f_thrown : mEv Ls xs 50 (0, [some (.ref 6)], [], (Fx c t lf dn re en n cd s mk hm he fr o)) (rV cd (Fx c t lf dn re en n cd s mk hm he fr o)) := fEv.retV rfl rfl
end LH
end
section
/-! the law's calls -/
def Lg (h : mH) : Prop := ∃ (c t : Nat → Int32) (lf dn : Int32) (re en : Nat → Int32) (n cd : Int32) (mk : Nat → Int32) (hm he fr : Int32) (o : Nat → Int64), St c t dn ∧ h = Fx c t lf dn re en n cd (c, t, lf, dn) mk hm he fr o
def Gd (Ls : Nat) (xs : Nat → Int32) (pc : Nat) (i : Int32) (A B : Nat) (o5 o6 : Option Value) (h : mH) : Prop := ∃ h' kc ks, mEv Ls xs 99 (pc, [some (.ref mSC), some (.ref 0), some (.ref 6), some (.ref 10), some (.int i), o5, o6], [], h) (.inl (some (.int 1)), h', kc, ks) ∧ kc ≤ A ∧ ks ≤ B
def Gk (Ls : Nat) (xs : Nat → Int32) (q A B : Nat) : Prop := ∀ h' o5' o6', Lg h' → oInt o5' → oInt o6' → Gd Ls xs 871 (nI (4 * q)) A B o5' o6' h'
theorem fEv.callc {Ls : Nat} {xs : Nat → Int32} {k pc k' pc' c s : Nat} {L : List (Option Value)} {S : List Value} {hh : mH} {r : mR} {av S' : List Value} {L' : List (Option Value)} {h h' : mH} {v : Int32} (hs : fGo Ls xs 300 k pc L S hh = some (.inr (.inr (.inr (.inl (k', av, (pc', L', S', h))))))) (hc : mEv Ls xs k' (mEnt k' av h) (.inl (some (.int v)), h', c, s))
    (he : mEv Ls xs k (pc', L', .int v :: S', h') r) : mEv Ls xs k (pc, L, S, hh) (mAdd c s r) := fEv.call hs hc he
section LC
variable {Ls : Nat} {xs : Nat → Int32} {h : mH} {q A B : Nat} {o5 o6 : Option Value}
theorem iC {q d : Nat} (h : 4 * q + d < 2 ^ 31) : (nI (4 * q) + nI d).toNatClampNeg = 4 * q + d := by rw [nI_add, nI_clamp h]
theorem iB {Ls q d : Nat} (h : 4 * q + d < Ls) (hL : Ls ≤ 2048) : mInb (nI (4 * q) + nI d) Ls = true := inb_of (nI_add _ _) h (by omega)
theorem l_remove (hq : 4 * q + 4 ≤ Ls) (hL : Ls ≤ 2048) (h5 : oInt o5) (h6 : oInt o6) (hg : Lg h) (k : Gk Ls xs q A B) : Gd Ls xs 196 (nI (4 * q)) (A + 1) (B + 6) o5 o6 h := by
  obtain ⟨c, t, lf, dn, re, en, n, cd, mk, hm, he, fr, o, hs, rfl⟩ := hg
  obtain ⟨c', t', lf', dn', j, v, hs', hj, hcl, hmo⟩ := op_remove (Ls := Ls) (xs := xs) (lf := lf) (a := xs (4 * q + 1)) hs
  obtain ⟨z, w, o', hz, hw, ho, hh⟩ := h_remove (re := re) (en := en) (n := n) (cd := cd) (s := (c, t, lf, dn)) (mk := mk) (hm := hm) (he := he) (fr := fr) (o := o) hj hcl
  obtain ⟨w', hm', he', fr', hv, hmm⟩ := hmo (Pc c' t' lf' dn' re en n) [.inl (2, 1, .inr (.inl o'))] cd mk hm he fr
  rw [Fx_M, Fx_M] at hmm
  obtain ⟨h', kc, ks, hE, hkc, hks⟩ := k (Fx c' t' lf' dn' re en n (nI j) (c', t', lf', dn') mk hm' he' fr' o') (some (.int (nI j))) (some (.int w')) ⟨c', t', lf', dn', re, en, n, nI j, mk, hm', he', fr', o', hs', rfl⟩ (Or.inr ⟨_, rfl⟩) (Or.inr ⟨_, rfl⟩)
  have hj5 : j ≤ 5 := by
    have : jmx 23 0 ≤ 5 := by decide
    omega
  refine ⟨h', z + kc, w + ks, ?_, by omega, by omega⟩
  show mEv Ls xs 99 _ (mAdd z w (.inl (some (.int 1)), h', kc, ks))
  rcases h5 with rfl | ⟨y5, rfl⟩ <;> rcases h6 with rfl | ⟨y6, rfl⟩ <;>
  · skip
    refine fEv.brT rfl (iB (d := 1) (by omega) hL) ?_
    rw [iC (d := 1) (by omega)]
    refine fEv.callc rfl hh ?_
    refine fEv.brT rfl (iB (d := 1) (by omega) hL) ?_
    rw [iC (d := 1) (by omega)]
    refine fEv.calli rfl hmm ?_
    refine fEv.calli rfl f_thrown ?_
    refine fEv.brT rfl (decide_eq_true rfl) ?_
    by_cases hj0 : j = 0
    · subst hj0
      refine fEv.brF rfl (by decide) ?_
      refine fEv.brT rfl (by decide) ?_
      rw [kT (show 0 < 32 by decide), ho rfl, hv rfl]
      rw [hv rfl] at hE
      refine fEv.brT rfl (decide_eq_true (cmp_self _)) ?_
      exact fEv.steps 1 rfl hE
    · refine fEv.brT rfl (decide_eq_true (nI_ne0 (by omega) (by omega))) ?_
      exact fEv.steps 1 rfl hE
theorem l_rename (hq : 4 * q + 4 ≤ Ls) (hL : Ls ≤ 2048) (h5 : oInt o5) (h6 : oInt o6) (hg : Lg h) (k : Gk Ls xs q A B) : Gd Ls xs 252 (nI (4 * q)) (A + 1) (B + 6) o5 o6 h := by
  obtain ⟨c, t, lf, dn, re, en, n, cd, mk, hm, he, fr, o, hs, rfl⟩ := hg
  obtain ⟨c', t', lf', dn', j, v, hs', hj, hcl, hmo⟩ := op_rename (Ls := Ls) (xs := xs) (lf := lf) (a := xs (4 * q + 1)) (b := xs (4 * q + 2)) hs
  obtain ⟨z, w, o', hz, hw, ho, hh⟩ := h_rename (re := re) (en := en) (n := n) (cd := cd) (s := (c, t, lf, dn)) (mk := mk) (hm := hm) (he := he) (fr := fr) (o := o) hj hcl
  obtain ⟨w', hm', he', fr', hv, hmm⟩ := hmo (Pc c' t' lf' dn' re en n) [.inl (2, 1, .inr (.inl o'))] cd mk hm he fr
  rw [Fx_M, Fx_M] at hmm
  obtain ⟨h', kc, ks, hE, hkc, hks⟩ := k (Fx c' t' lf' dn' re en n (nI j) (c', t', lf', dn') mk hm' he' fr' o') (some (.int (nI j))) (some (.int w')) ⟨c', t', lf', dn', re, en, n, nI j, mk, hm', he', fr', o', hs', rfl⟩ (Or.inr ⟨_, rfl⟩) (Or.inr ⟨_, rfl⟩)
  have hj5 : j ≤ 5 := by
    have : jmx 26 0 ≤ 5 := by decide
    omega
  refine ⟨h', z + kc, w + ks, ?_, by omega, by omega⟩
  show mEv Ls xs 99 _ (mAdd z w (.inl (some (.int 1)), h', kc, ks))
  rcases h5 with rfl | ⟨y5, rfl⟩ <;> rcases h6 with rfl | ⟨y6, rfl⟩ <;>
  · skip
    refine fEv.brT rfl (iB (d := 1) (by omega) hL) ?_
    rw [iC (d := 1) (by omega)]
    refine fEv.brT rfl (iB (d := 2) (by omega) hL) ?_
    rw [iC (d := 2) (by omega)]
    refine fEv.callc rfl hh ?_
    refine fEv.brT rfl (iB (d := 1) (by omega) hL) ?_
    rw [iC (d := 1) (by omega)]
    refine fEv.brT rfl (iB (d := 2) (by omega) hL) ?_
    rw [iC (d := 2) (by omega)]
    refine fEv.calli rfl hmm ?_
    refine fEv.calli rfl f_thrown ?_
    refine fEv.brT rfl (decide_eq_true rfl) ?_
    by_cases hj0 : j = 0
    · subst hj0
      refine fEv.brF rfl (by decide) ?_
      refine fEv.brT rfl (by decide) ?_
      rw [kT (show 0 < 32 by decide), ho rfl, hv rfl]
      rw [hv rfl] at hE
      refine fEv.brT rfl (decide_eq_true (cmp_self _)) ?_
      exact fEv.steps 1 rfl hE
    · refine fEv.brT rfl (decide_eq_true (nI_ne0 (by omega) (by omega))) ?_
      exact fEv.steps 1 rfl hE
theorem l_append (hq : 4 * q + 4 ≤ Ls) (hL : Ls ≤ 2048) (h5 : oInt o5) (h6 : oInt o6) (hg : Lg h) (k : Gk Ls xs q A B) : Gd Ls xs 320 (nI (4 * q)) (A + 1) (B + 6) o5 o6 h := by
  obtain ⟨c, t, lf, dn, re, en, n, cd, mk, hm, he, fr, o, hs, rfl⟩ := hg
  obtain ⟨c', t', lf', dn', j, v, hs', hj, hcl, hmo⟩ := op_append (Ls := Ls) (xs := xs) (lf := lf) (a := xs (4 * q + 1)) (v := xs (4 * q + 2)) hs
  obtain ⟨z, w, o', hz, hw, ho, hh⟩ := h_append (re := re) (en := en) (n := n) (cd := cd) (s := (c, t, lf, dn)) (mk := mk) (hm := hm) (he := he) (fr := fr) (o := o) hj hcl
  obtain ⟨w', hm', he', fr', hv, hmm⟩ := hmo (Pc c' t' lf' dn' re en n) [.inl (2, 1, .inr (.inl o'))] cd mk hm he fr
  rw [Fx_M, Fx_M] at hmm
  obtain ⟨h', kc, ks, hE, hkc, hks⟩ := k (Fx c' t' lf' dn' re en n (nI j) (c', t', lf', dn') mk hm' he' fr' o') (some (.int (nI j))) (some (.int w')) ⟨c', t', lf', dn', re, en, n, nI j, mk, hm', he', fr', o', hs', rfl⟩ (Or.inr ⟨_, rfl⟩) (Or.inr ⟨_, rfl⟩)
  have hj5 : j ≤ 5 := by
    have : jmx 27 4 ≤ 5 := by decide
    omega
  refine ⟨h', z + kc, w + ks, ?_, by omega, by omega⟩
  show mEv Ls xs 99 _ (mAdd z w (.inl (some (.int 1)), h', kc, ks))
  rcases h5 with rfl | ⟨y5, rfl⟩ <;> rcases h6 with rfl | ⟨y6, rfl⟩ <;>
  · skip
    refine fEv.brT rfl (iB (d := 1) (by omega) hL) ?_
    rw [iC (d := 1) (by omega)]
    refine fEv.brT rfl (iB (d := 2) (by omega) hL) ?_
    rw [iC (d := 2) (by omega)]
    refine fEv.callc rfl hh ?_
    refine fEv.brT rfl (iB (d := 1) (by omega) hL) ?_
    rw [iC (d := 1) (by omega)]
    refine fEv.brT rfl (iB (d := 2) (by omega) hL) ?_
    rw [iC (d := 2) (by omega)]
    refine fEv.calli rfl hmm ?_
    refine fEv.calli rfl f_thrown ?_
    refine fEv.brT rfl (decide_eq_true rfl) ?_
    by_cases hj0 : j = 0
    · subst hj0
      refine fEv.brF rfl (by decide) ?_
      refine fEv.brT rfl (by decide) ?_
      rw [kT (show 0 < 32 by decide), ho rfl, hv rfl]
      rw [hv rfl] at hE
      refine fEv.brT rfl (decide_eq_true (cmp_self _)) ?_
      exact fEv.steps 1 rfl hE
    · refine fEv.brT rfl (decide_eq_true (nI_ne0 (by omega) (by omega))) ?_
      exact fEv.steps 1 rfl hE
theorem l_get (hq : 4 * q + 4 ≤ Ls) (hL : Ls ≤ 2048) (h5 : oInt o5) (h6 : oInt o6) (hg : Lg h) (k : Gk Ls xs q A B) : Gd Ls xs 388 (nI (4 * q)) (A + 1) (B + 6) o5 o6 h := by
  obtain ⟨c, t, lf, dn, re, en, n, cd, mk, hm, he, fr, o, hs, rfl⟩ := hg
  obtain ⟨c', t', lf', dn', j, v, hs', hj, hcl, hmo⟩ := op_get (Ls := Ls) (xs := xs) (lf := lf) (a := xs (4 * q + 1)) (i := xs (4 * q + 2)) hs
  obtain ⟨z, w, o', hz, hw, ho, hh⟩ := h_get (re := re) (en := en) (n := n) (cd := cd) (s := (c, t, lf, dn)) (mk := mk) (hm := hm) (he := he) (fr := fr) (o := o) hj hcl
  obtain ⟨w', hm', he', fr', hv, hmm⟩ := hmo (Pc c' t' lf' dn' re en n) [.inl (2, 1, .inr (.inl o'))] cd mk hm he fr
  rw [Fx_M, Fx_M] at hmm
  obtain ⟨h', kc, ks, hE, hkc, hks⟩ := k (Fx c' t' lf' dn' re en n (nI j) (c', t', lf', dn') mk hm' he' fr' o') (some (.int (nI j))) (some (.int w')) ⟨c', t', lf', dn', re, en, n, nI j, mk, hm', he', fr', o', hs', rfl⟩ (Or.inr ⟨_, rfl⟩) (Or.inr ⟨_, rfl⟩)
  have hj5 : j ≤ 5 := by
    have : jmx 31 5 ≤ 5 := by decide
    omega
  refine ⟨h', z + kc, w + ks, ?_, by omega, by omega⟩
  show mEv Ls xs 99 _ (mAdd z w (.inl (some (.int 1)), h', kc, ks))
  rcases h5 with rfl | ⟨y5, rfl⟩ <;> rcases h6 with rfl | ⟨y6, rfl⟩ <;>
  · skip
    refine fEv.brT rfl (iB (d := 1) (by omega) hL) ?_
    rw [iC (d := 1) (by omega)]
    refine fEv.brT rfl (iB (d := 2) (by omega) hL) ?_
    rw [iC (d := 2) (by omega)]
    refine fEv.callc rfl hh ?_
    refine fEv.brT rfl (iB (d := 1) (by omega) hL) ?_
    rw [iC (d := 1) (by omega)]
    refine fEv.brT rfl (iB (d := 2) (by omega) hL) ?_
    rw [iC (d := 2) (by omega)]
    refine fEv.calli rfl hmm ?_
    refine fEv.calli rfl f_thrown ?_
    refine fEv.brT rfl (decide_eq_true rfl) ?_
    by_cases hj0 : j = 0
    · subst hj0
      refine fEv.brF rfl (by decide) ?_
      refine fEv.brT rfl (by decide) ?_
      rw [kT (show 0 < 32 by decide), ho rfl, hv rfl]
      rw [hv rfl] at hE
      refine fEv.brT rfl (decide_eq_true (cmp_self _)) ?_
      exact fEv.steps 1 rfl hE
    · refine fEv.brT rfl (decide_eq_true (nI_ne0 (by omega) (by omega))) ?_
      exact fEv.steps 1 rfl hE
theorem l_put (hq : 4 * q + 4 ≤ Ls) (hL : Ls ≤ 2048) (h5 : oInt o5) (h6 : oInt o6) (hg : Lg h) (k : Gk Ls xs q A B) : Gd Ls xs 456 (nI (4 * q)) (A + 1) (B + 6) o5 o6 h := by
  obtain ⟨c, t, lf, dn, re, en, n, cd, mk, hm, he, fr, o, hs, rfl⟩ := hg
  obtain ⟨c', t', lf', dn', j, v, hs', hj, hcl, hmo⟩ := op_put (Ls := Ls) (xs := xs) (lf := lf) (a := xs (4 * q + 1)) (i := xs (4 * q + 2)) (v := xs (4 * q + 3)) hs
  obtain ⟨z, w, o', hz, hw, ho, hh⟩ := h_put (re := re) (en := en) (n := n) (cd := cd) (s := (c, t, lf, dn)) (mk := mk) (hm := hm) (he := he) (fr := fr) (o := o) hj hcl
  obtain ⟨w', hm', he', fr', hv, hmm⟩ := hmo (Pc c' t' lf' dn' re en n) [.inl (2, 1, .inr (.inl o'))] cd mk hm he fr
  rw [Fx_M, Fx_M] at hmm
  obtain ⟨h', kc, ks, hE, hkc, hks⟩ := k (Fx c' t' lf' dn' re en n (nI j) (c', t', lf', dn') mk hm' he' fr' o') (some (.int (nI j))) (some (.int w')) ⟨c', t', lf', dn', re, en, n, nI j, mk, hm', he', fr', o', hs', rfl⟩ (Or.inr ⟨_, rfl⟩) (Or.inr ⟨_, rfl⟩)
  have hj5 : j ≤ 5 := by
    have : jmx 33 5 ≤ 5 := by decide
    omega
  refine ⟨h', z + kc, w + ks, ?_, by omega, by omega⟩
  show mEv Ls xs 99 _ (mAdd z w (.inl (some (.int 1)), h', kc, ks))
  rcases h5 with rfl | ⟨y5, rfl⟩ <;> rcases h6 with rfl | ⟨y6, rfl⟩ <;>
  · skip
    refine fEv.brT rfl (iB (d := 1) (by omega) hL) ?_
    rw [iC (d := 1) (by omega)]
    refine fEv.brT rfl (iB (d := 2) (by omega) hL) ?_
    rw [iC (d := 2) (by omega)]
    refine fEv.brT rfl (iB (d := 3) (by omega) hL) ?_
    rw [iC (d := 3) (by omega)]
    refine fEv.callc rfl hh ?_
    refine fEv.brT rfl (iB (d := 1) (by omega) hL) ?_
    rw [iC (d := 1) (by omega)]
    refine fEv.brT rfl (iB (d := 2) (by omega) hL) ?_
    rw [iC (d := 2) (by omega)]
    refine fEv.brT rfl (iB (d := 3) (by omega) hL) ?_
    rw [iC (d := 3) (by omega)]
    refine fEv.calli rfl hmm ?_
    refine fEv.calli rfl f_thrown ?_
    refine fEv.brT rfl (decide_eq_true rfl) ?_
    by_cases hj0 : j = 0
    · subst hj0
      refine fEv.brF rfl (by decide) ?_
      refine fEv.brT rfl (by decide) ?_
      rw [kT (show 0 < 32 by decide), ho rfl, hv rfl]
      rw [hv rfl] at hE
      refine fEv.brT rfl (decide_eq_true (cmp_self _)) ?_
      exact fEv.steps 1 rfl hE
    · refine fEv.brT rfl (decide_eq_true (nI_ne0 (by omega) (by omega))) ?_
      exact fEv.steps 1 rfl hE
theorem l_shorten (hq : 4 * q + 4 ≤ Ls) (hL : Ls ≤ 2048) (h5 : oInt o5) (h6 : oInt o6) (hg : Lg h) (k : Gk Ls xs q A B) : Gd Ls xs 536 (nI (4 * q)) (A + 1) (B + 6) o5 o6 h := by
  obtain ⟨c, t, lf, dn, re, en, n, cd, mk, hm, he, fr, o, hs, rfl⟩ := hg
  obtain ⟨c', t', lf', dn', j, v, hs', hj, hcl, hmo⟩ := op_shorten (Ls := Ls) (xs := xs) (lf := lf) (a := xs (4 * q + 1)) (v := xs (4 * q + 2)) hs
  obtain ⟨z, w, o', hz, hw, ho, hh⟩ := h_shorten (re := re) (en := en) (n := n) (cd := cd) (s := (c, t, lf, dn)) (mk := mk) (hm := hm) (he := he) (fr := fr) (o := o) hj hcl
  obtain ⟨w', hm', he', fr', hv, hmm⟩ := hmo (Pc c' t' lf' dn' re en n) [.inl (2, 1, .inr (.inl o'))] cd mk hm he fr
  rw [Fx_M, Fx_M] at hmm
  obtain ⟨h', kc, ks, hE, hkc, hks⟩ := k (Fx c' t' lf' dn' re en n (nI j) (c', t', lf', dn') mk hm' he' fr' o') (some (.int (nI j))) (some (.int w')) ⟨c', t', lf', dn', re, en, n, nI j, mk, hm', he', fr', o', hs', rfl⟩ (Or.inr ⟨_, rfl⟩) (Or.inr ⟨_, rfl⟩)
  have hj5 : j ≤ 5 := by
    have : jmx 34 5 ≤ 5 := by decide
    omega
  refine ⟨h', z + kc, w + ks, ?_, by omega, by omega⟩
  show mEv Ls xs 99 _ (mAdd z w (.inl (some (.int 1)), h', kc, ks))
  rcases h5 with rfl | ⟨y5, rfl⟩ <;> rcases h6 with rfl | ⟨y6, rfl⟩ <;>
  · skip
    refine fEv.brT rfl (iB (d := 1) (by omega) hL) ?_
    rw [iC (d := 1) (by omega)]
    refine fEv.brT rfl (iB (d := 2) (by omega) hL) ?_
    rw [iC (d := 2) (by omega)]
    refine fEv.callc rfl hh ?_
    refine fEv.brT rfl (iB (d := 1) (by omega) hL) ?_
    rw [iC (d := 1) (by omega)]
    refine fEv.brT rfl (iB (d := 2) (by omega) hL) ?_
    rw [iC (d := 2) (by omega)]
    refine fEv.calli rfl hmm ?_
    refine fEv.calli rfl f_thrown ?_
    refine fEv.brT rfl (decide_eq_true rfl) ?_
    by_cases hj0 : j = 0
    · subst hj0
      refine fEv.brF rfl (by decide) ?_
      refine fEv.brT rfl (by decide) ?_
      rw [kT (show 0 < 32 by decide), ho rfl, hv rfl]
      rw [hv rfl] at hE
      refine fEv.brT rfl (decide_eq_true (cmp_self _)) ?_
      exact fEv.steps 1 rfl hE
    · refine fEv.brT rfl (decide_eq_true (nI_ne0 (by omega) (by omega))) ?_
      exact fEv.steps 1 rfl hE
theorem l_length (hq : 4 * q + 4 ≤ Ls) (hL : Ls ≤ 2048) (h5 : oInt o5) (h6 : oInt o6) (hg : Lg h) (k : Gk Ls xs q A B) : Gd Ls xs 604 (nI (4 * q)) (A + 1) (B + 6) o5 o6 h := by
  obtain ⟨c, t, lf, dn, re, en, n, cd, mk, hm, he, fr, o, hs, rfl⟩ := hg
  obtain ⟨c', t', lf', dn', j, v, hs', hj, hcl, hmo⟩ := op_length (Ls := Ls) (xs := xs) (lf := lf) (a := xs (4 * q + 1)) hs
  obtain ⟨z, w, o', hz, hw, ho, hh⟩ := h_length (re := re) (en := en) (n := n) (cd := cd) (s := (c, t, lf, dn)) (mk := mk) (hm := hm) (he := he) (fr := fr) (o := o) hj hcl
  obtain ⟨w', hm', he', fr', hv, hmm⟩ := hmo (Pc c' t' lf' dn' re en n) [.inl (2, 1, .inr (.inl o'))] cd mk hm he fr
  rw [Fx_M, Fx_M] at hmm
  obtain ⟨h', kc, ks, hE, hkc, hks⟩ := k (Fx c' t' lf' dn' re en n (nI j) (c', t', lf', dn') mk hm' he' fr' o') (some (.int (nI j))) (some (.int w')) ⟨c', t', lf', dn', re, en, n, nI j, mk, hm', he', fr', o', hs', rfl⟩ (Or.inr ⟨_, rfl⟩) (Or.inr ⟨_, rfl⟩)
  have hj5 : j ≤ 5 := by
    have : jmx 36 0 ≤ 5 := by decide
    omega
  refine ⟨h', z + kc, w + ks, ?_, by omega, by omega⟩
  show mEv Ls xs 99 _ (mAdd z w (.inl (some (.int 1)), h', kc, ks))
  rcases h5 with rfl | ⟨y5, rfl⟩ <;> rcases h6 with rfl | ⟨y6, rfl⟩ <;>
  · skip
    refine fEv.brT rfl (iB (d := 1) (by omega) hL) ?_
    rw [iC (d := 1) (by omega)]
    refine fEv.callc rfl hh ?_
    refine fEv.brT rfl (iB (d := 1) (by omega) hL) ?_
    rw [iC (d := 1) (by omega)]
    refine fEv.calli rfl hmm ?_
    refine fEv.calli rfl f_thrown ?_
    refine fEv.brT rfl (decide_eq_true rfl) ?_
    by_cases hj0 : j = 0
    · subst hj0
      refine fEv.brF rfl (by decide) ?_
      refine fEv.brT rfl (by decide) ?_
      rw [kT (show 0 < 32 by decide), ho rfl, hv rfl]
      rw [hv rfl] at hE
      refine fEv.brT rfl (decide_eq_true (cmp_self _)) ?_
      exact fEv.steps 1 rfl hE
    · refine fEv.brT rfl (decide_eq_true (nI_ne0 (by omega) (by omega))) ?_
      exact fEv.steps 1 rfl hE
theorem l_names (hq : 4 * q + 4 ≤ Ls) (hL : Ls ≤ 2048) (h5 : oInt o5) (h6 : oInt o6) (hg : Lg h) (k : Gk Ls xs q A B) : Gd Ls xs 660 (nI (4 * q)) (A + 1) (B + 6) o5 o6 h := by
  obtain ⟨c, t, lf, dn, re, en, n, cd, mk, hm, he, fr, o, hs, rfl⟩ := hg
  obtain ⟨c', t', lf', dn', j, v, hs', hj, hcl, hmo⟩ := op_names (Ls := Ls) (xs := xs) (lf := lf) (a := xs (4 * q + 1)) hs
  obtain ⟨z, w, o', hz, hw, ho, hh⟩ := h_names (re := re) (en := en) (n := n) (cd := cd) (s := (c, t, lf, dn)) (mk := mk) (hm := hm) (he := he) (fr := fr) (o := o) hj hcl
  obtain ⟨w', hm', he', fr', hv, hmm⟩ := hmo (Pc c' t' lf' dn' re en n) [.inl (2, 1, .inr (.inl o'))] cd mk hm he fr
  rw [Fx_M, Fx_M] at hmm
  obtain ⟨h', kc, ks, hE, hkc, hks⟩ := k (Fx c' t' lf' dn' re en n (nI j) (c', t', lf', dn') mk hm' he' fr' o') (some (.int (nI j))) (some (.int w')) ⟨c', t', lf', dn', re, en, n, nI j, mk, hm', he', fr', o', hs', rfl⟩ (Or.inr ⟨_, rfl⟩) (Or.inr ⟨_, rfl⟩)
  have hj5 : j ≤ 5 := by
    have : jmx 37 0 ≤ 5 := by decide
    omega
  refine ⟨h', z + kc, w + ks, ?_, by omega, by omega⟩
  show mEv Ls xs 99 _ (mAdd z w (.inl (some (.int 1)), h', kc, ks))
  rcases h5 with rfl | ⟨y5, rfl⟩ <;> rcases h6 with rfl | ⟨y6, rfl⟩ <;>
  · skip
    refine fEv.brT rfl (iB (d := 1) (by omega) hL) ?_
    rw [iC (d := 1) (by omega)]
    refine fEv.callc rfl hh ?_
    refine fEv.brT rfl (iB (d := 1) (by omega) hL) ?_
    rw [iC (d := 1) (by omega)]
    refine fEv.calli rfl hmm ?_
    refine fEv.calli rfl f_thrown ?_
    refine fEv.brT rfl (decide_eq_true rfl) ?_
    by_cases hj0 : j = 0
    · subst hj0
      refine fEv.brF rfl (by decide) ?_
      refine fEv.brT rfl (by decide) ?_
      rw [kT (show 0 < 32 by decide), ho rfl, hv rfl]
      rw [hv rfl] at hE
      refine fEv.brT rfl (decide_eq_true (cmp_self _)) ?_
      exact fEv.steps 1 rfl hE
    · refine fEv.brT rfl (decide_eq_true (nI_ne0 (by omega) (by omega))) ?_
      exact fEv.steps 1 rfl hE
theorem l_free (hq : 4 * q + 4 ≤ Ls) (hL : Ls ≤ 2048) (h5 : oInt o5) (h6 : oInt o6) (hg : Lg h) (k : Gk Ls xs q A B) : Gd Ls xs 716 (nI (4 * q)) (A + 1) (B + 6) o5 o6 h := by
  obtain ⟨c, t, lf, dn, re, en, n, cd, mk, hm, he, fr, o, hs, rfl⟩ := hg
  obtain ⟨c', t', lf', dn', j, v, hs', hj, hcl, hmo⟩ := op_free (Ls := Ls) (xs := xs) (lf := lf)  hs
  obtain ⟨z, w, o', hz, hw, ho, hh⟩ := h_free (re := re) (en := en) (n := n) (cd := cd) (s := (c, t, lf, dn)) (mk := mk) (hm := hm) (he := he) (fr := fr) (o := o) hj hcl
  obtain ⟨w', hm', he', fr', hv, hmm⟩ := hmo (Pc c' t' lf' dn' re en n) [.inl (2, 1, .inr (.inl o'))] cd mk hm he fr
  rw [Fx_M, Fx_M] at hmm
  obtain ⟨h', kc, ks, hE, hkc, hks⟩ := k (Fx c' t' lf' dn' re en n (nI j) (c', t', lf', dn') mk hm' he' fr' o') (some (.int (nI j))) (some (.int w')) ⟨c', t', lf', dn', re, en, n, nI j, mk, hm', he', fr', o', hs', rfl⟩ (Or.inr ⟨_, rfl⟩) (Or.inr ⟨_, rfl⟩)
  have hj5 : j ≤ 5 := by
    have : jmx 38 0 ≤ 5 := by decide
    omega
  refine ⟨h', z + kc, w + ks, ?_, by omega, by omega⟩
  show mEv Ls xs 99 _ (mAdd z w (.inl (some (.int 1)), h', kc, ks))
  rcases h5 with rfl | ⟨y5, rfl⟩ <;> rcases h6 with rfl | ⟨y6, rfl⟩ <;>
  · skip
    refine fEv.callc rfl hh ?_
    refine fEv.calli rfl hmm ?_
    refine fEv.calli rfl f_thrown ?_
    refine fEv.brT rfl (decide_eq_true rfl) ?_
    by_cases hj0 : j = 0
    · subst hj0
      refine fEv.brF rfl (by decide) ?_
      refine fEv.brT rfl (by decide) ?_
      rw [kT (show 0 < 32 by decide), ho rfl, hv rfl]
      rw [hv rfl] at hE
      refine fEv.brT rfl (decide_eq_true (cmp_self _)) ?_
      exact fEv.steps 1 rfl hE
    · refine fEv.brT rfl (decide_eq_true (nI_ne0 (by omega) (by omega))) ?_
      exact fEv.steps 1 rfl hE
end LC
end
section
/-! the law's other calls -/
section LD
variable {Ls : Nat} {xs : Nat → Int32} {h : mH} {q A B : Nat} {o5 o6 : Option Value}
theorem l_make (hq : 4 * q + 4 ≤ Ls) (hL : Ls ≤ 2048) (h5 : oInt o5) (h6 : oInt o6) (hg : Lg h) (k : Gk Ls xs q A B) : Gd Ls xs 112 (nI (4 * q)) (A + 1) (B + 6) o5 o6 h := by
  obtain ⟨c, t, lf, dn, re, en, n, cd, mk, hm, he, fr, o, hs, rfl⟩ := hg
  by_cases hx : xs (4 * q + 2) = 0
  · obtain ⟨c', t', lf', dn', j, v, hs', hj, hcl, hmo⟩ := op_make (Ls := Ls) (xs := xs) (lf := lf) (a := xs (4 * q + 1)) (d := nI 0) hs
    obtain ⟨z, w, o', hz, hw, ho, hh⟩ := h_make (re := re) (en := en) (n := n) (cd := cd) (s := (c, t, lf, dn)) (mk := mk) (hm := hm) (he := he) (fr := fr) (o := o) hj hcl
    obtain ⟨w', hm', he', fr', hv, hmm⟩ := hmo (Pc c' t' lf' dn' re en n) [.inl (2, 1, .inr (.inl o'))] cd mk hm he fr
    rw [Fx_M, Fx_M] at hmm
    obtain ⟨h', kc, ks, hE, hkc, hks⟩ := k (Fx c' t' lf' dn' re en n (nI j) (c', t', lf', dn') mk hm' he' fr' o') (some (.int (nI j))) (some (.int w')) ⟨c', t', lf', dn', re, en, n, nI j, mk, hm', he', fr', o', hs', rfl⟩ (Or.inr ⟨_, rfl⟩) (Or.inr ⟨_, rfl⟩)
    have hj5 : j ≤ 5 := hj
    refine ⟨h', z + kc, w + ks, ?_, by omega, by omega⟩
    show mEv Ls xs 99 _ (mAdd z w (.inl (some (.int 1)), h', kc, ks))
    rcases h5 with rfl | ⟨y5, rfl⟩ <;> rcases h6 with rfl | ⟨y6, rfl⟩ <;>
    · refine fEv.brT rfl (iB (d := 1) (by omega) hL) ?_
      rw [iC (d := 1) (by omega)]
      refine fEv.brT rfl (iB (d := 2) (by omega) hL) ?_
      rw [iC (d := 2) (by omega)]
      refine fEv.brT rfl (decide_eq_true hx) ?_
      refine fEv.callc rfl hh ?_
      refine fEv.brT rfl (iB (d := 1) (by omega) hL) ?_
      rw [iC (d := 1) (by omega)]
      refine fEv.brT rfl (iB (d := 2) (by omega) hL) ?_
      rw [iC (d := 2) (by omega)]
      refine fEv.brT rfl (decide_eq_true hx) ?_
      refine fEv.calli rfl hmm ?_
      refine fEv.calli rfl f_thrown ?_
      refine fEv.brT rfl (decide_eq_true rfl) ?_
      by_cases hj0 : j = 0
      · subst hj0
        refine fEv.brF rfl (by decide) ?_
        refine fEv.brT rfl (by decide) ?_
        rw [kT (show 0 < 32 by decide), ho rfl, hv rfl]
        rw [hv rfl] at hE
        refine fEv.brT rfl (decide_eq_true (cmp_self _)) ?_
        exact fEv.steps 1 rfl hE
      · refine fEv.brT rfl (decide_eq_true (nI_ne0 (by omega) (by omega))) ?_
        exact fEv.steps 1 rfl hE
  · obtain ⟨c', t', lf', dn', j, v, hs', hj, hcl, hmo⟩ := op_make (Ls := Ls) (xs := xs) (lf := lf) (a := xs (4 * q + 1)) (d := nI 1) hs
    obtain ⟨z, w, o', hz, hw, ho, hh⟩ := h_make (re := re) (en := en) (n := n) (cd := cd) (s := (c, t, lf, dn)) (mk := mk) (hm := hm) (he := he) (fr := fr) (o := o) hj hcl
    obtain ⟨w', hm', he', fr', hv, hmm⟩ := hmo (Pc c' t' lf' dn' re en n) [.inl (2, 1, .inr (.inl o'))] cd mk hm he fr
    rw [Fx_M, Fx_M] at hmm
    obtain ⟨h', kc, ks, hE, hkc, hks⟩ := k (Fx c' t' lf' dn' re en n (nI j) (c', t', lf', dn') mk hm' he' fr' o') (some (.int (nI j))) (some (.int w')) ⟨c', t', lf', dn', re, en, n, nI j, mk, hm', he', fr', o', hs', rfl⟩ (Or.inr ⟨_, rfl⟩) (Or.inr ⟨_, rfl⟩)
    have hj5 : j ≤ 5 := hj
    refine ⟨h', z + kc, w + ks, ?_, by omega, by omega⟩
    show mEv Ls xs 99 _ (mAdd z w (.inl (some (.int 1)), h', kc, ks))
    rcases h5 with rfl | ⟨y5, rfl⟩ <;> rcases h6 with rfl | ⟨y6, rfl⟩ <;>
    · refine fEv.brT rfl (iB (d := 1) (by omega) hL) ?_
      rw [iC (d := 1) (by omega)]
      refine fEv.brT rfl (iB (d := 2) (by omega) hL) ?_
      rw [iC (d := 2) (by omega)]
      refine fEv.brF rfl (decide_eq_false hx) ?_
      refine fEv.callc rfl hh ?_
      refine fEv.brT rfl (iB (d := 1) (by omega) hL) ?_
      rw [iC (d := 1) (by omega)]
      refine fEv.brT rfl (iB (d := 2) (by omega) hL) ?_
      rw [iC (d := 2) (by omega)]
      refine fEv.brF rfl (decide_eq_false hx) ?_
      refine fEv.calli rfl hmm ?_
      refine fEv.calli rfl f_thrown ?_
      refine fEv.brT rfl (decide_eq_true rfl) ?_
      by_cases hj0 : j = 0
      · subst hj0
        refine fEv.brF rfl (by decide) ?_
        refine fEv.brT rfl (by decide) ?_
        rw [kT (show 0 < 32 by decide), ho rfl, hv rfl]
        rw [hv rfl] at hE
        refine fEv.brT rfl (decide_eq_true (cmp_self _)) ?_
        exact fEv.steps 1 rfl hE
      · refine fEv.brT rfl (decide_eq_true (nI_ne0 (by omega) (by omega))) ?_
        exact fEv.steps 1 rfl hE
theorem St.dn {c t : Nat → Int32} {dn : Int32} (h : St c t dn) : dn = 0 ∨ dn = 1 := by
  rcases h with ⟨h, -⟩ | ⟨h, -⟩
  · exact Or.inl h
  · exact Or.inr h
theorem St.I {c t : Nat → Int32} {dn : Int32} (h : St c t dn) : I1 c t := by
  rcases h with ⟨-, ch, R, lv, h⟩ | ⟨-, h⟩
  · exact ⟨ch, R, lv, h.weak⟩
  · exact h
theorem l_arm (hq : 4 * q + 4 ≤ Ls) (hL : Ls ≤ 2048) (h5 : oInt o5) (h6 : oInt o6) (hg : Lg h) (k : Gk Ls xs q A B) : Gd Ls xs 760 (nI (4 * q)) A B o5 o6 h := by
  obtain ⟨c, t, lf, dn, re, en, n, cd, mk, hm, he, fr, o, hs, rfl⟩ := hg
  have h1 := e_arm (Ls := Ls) (xs := xs) (c := c) (t := t) (lf := lf) (dn := dn) (re := re) (en := en) (n := n) (M := hMt cd (c, t, lf, dn) mk hm he fr o) (v := xs (4 * q + 1))
  have h2 := m_arm (Ls := Ls) (xs := xs) (P := Pc c t (armV (xs (4 * q + 1))) dn re en n) (T := [.inl (2, 1, .inr (.inl o))]) (cd := cd) (s := (c, t, lf, dn)) (mk := mk) (hm := hm) (he := he) (fr := fr) (v := xs (4 * q + 1))
  rw [Fx_M, Fx_M] at h2
  obtain ⟨h', kc, ks, hE, hkc, hks⟩ := k (Fx c t (armV (xs (4 * q + 1))) dn re en n (nI 0) (c, t, armV (xs (4 * q + 1)), dn) mk hm he fr o) o5 o6 ⟨c, t, _, dn, re, en, n, nI 0, mk, hm, he, fr, o, hs, rfl⟩ h5 h6
  refine ⟨h', kc, ks, ?_, hkc, hks⟩
  rcases h5 with rfl | ⟨y5, rfl⟩ <;> rcases h6 with rfl | ⟨y6, rfl⟩ <;>
  · refine fEv.brT rfl (iB (d := 1) (by omega) hL) ?_
    rw [iC (d := 1) (by omega)]
    refine fEv.calln rfl h1 ?_
    refine fEv.brT rfl (iB (d := 1) (by omega) hL) ?_
    rw [iC (d := 1) (by omega)]
    refine fEv.calln rfl h2 ?_
    exact fEv.steps 1 rfl hE
theorem l_isDown (h5 : oInt o5) (h6 : oInt o6) (hg : Lg h) (k : Gk Ls xs q A B) : Gd Ls xs 783 (nI (4 * q)) A B o5 o6 h := by
  obtain ⟨c, t, lf, dn, re, en, n, cd, mk, hm, he, fr, o, hs, rfl⟩ := hg
  have h1 := e_isDown (Ls := Ls) (xs := xs) (c := c) (t := t) (lf := lf) (dn := dn) (re := re) (en := en) (n := n) (M := hMt cd (c, t, lf, dn) mk hm he fr o) hs.dn
  have h2 := m_isDown (Ls := Ls) (xs := xs) (P := Pc c t lf dn re en n) (T := [.inl (2, 1, .inr (.inl o))]) (cd := cd) (s := (c, t, lf, dn)) (mk := mk) (hm := hm) (he := he) (fr := fr) hs.dn
  rw [Fx_M, Fx_M] at h2
  obtain ⟨h', kc, ks, hE, hkc, hks⟩ := k (Fx c t lf dn re en n (nI 0) (c, t, lf, dn) mk hm he fr o) o5 o6 ⟨c, t, lf, dn, re, en, n, nI 0, mk, hm, he, fr, o, hs, rfl⟩ h5 h6
  refine ⟨h', kc, ks, ?_, hkc, hks⟩
  rcases h5 with rfl | ⟨y5, rfl⟩ <;> rcases h6 with rfl | ⟨y6, rfl⟩ <;>
  · refine fEv.calli rfl h1 ?_
    refine fEv.calli rfl h2 ?_
    refine fEv.brT rfl (decide_eq_true rfl) ?_
    exact hE
theorem l_mount (h5 : oInt o5) (h6 : oInt o6) (hg : Lg h) (k : Gk Ls xs q A B) : Gd Ls xs 796 (nI (4 * q)) A B o5 o6 h := by
  obtain ⟨c, t, lf, dn, re, en, n, cd, mk, hm, he, fr, o, hs, rfl⟩ := hg
  obtain ⟨t', v, hJ, hc, hm2⟩ := op_mount (Ls := Ls) (xs := xs) hs.I
  obtain ⟨re', en', n', h1⟩ := hc lf dn re en n (hMt cd (c, t, lf, dn) mk hm he fr o)
  obtain ⟨mk', h2⟩ := hm2 (Pc c t' (-1) 0 re' en' n') [.inl (2, 1, .inr (.inl o))] cd lf dn mk hm he fr
  rw [Fx_M, Fx_M] at h2
  obtain ⟨h', kc, ks, hE, hkc, hks⟩ := k (Fx c t' (-1) 0 re' en' n' (nI 0) (c, t', -1, 0) mk' hm he fr o) o5 o6 ⟨c, t', -1, 0, re', en', n', nI 0, mk', hm, he, fr, o, Or.inl ⟨rfl, hJ⟩, rfl⟩ h5 h6
  refine ⟨h', kc, ks, ?_, hkc, hks⟩
  rcases h5 with rfl | ⟨y5, rfl⟩ <;> rcases h6 with rfl | ⟨y6, rfl⟩ <;>
  · refine fEv.calli rfl h1 ?_
    refine fEv.calli rfl h2 ?_
    refine fEv.brT rfl (decide_eq_true rfl) ?_
    exact hE
theorem l_cell (hq : 4 * q + 4 ≤ Ls) (hL : Ls ≤ 2048) (h5 : oInt o5) (h6 : oInt o6) (hg : Lg h) (k : Gk Ls xs q A B) : Gd Ls xs 809 (nI (4 * q)) A B o5 o6 h := by
  obtain ⟨c, t, lf, dn, re, en, n, cd, mk, hm, he, fr, o, hs, rfl⟩ := hg
  have h1 := e_cell (Ls := Ls) (xs := xs) (c := c) (t := t) (lf := lf) (dn := dn) (re := re) (en := en) (n := n) (M := hMt cd (c, t, lf, dn) mk hm he fr o) (a := xs (4 * q + 1)) (i := xs (4 * q + 2))
  have h2 := m_cell (Ls := Ls) (xs := xs) (P := Pc c t lf dn re en n) (T := [.inl (2, 1, .inr (.inl o))]) (cd := cd) (s := (c, t, lf, dn)) (mk := mk) (hm := hm) (he := he) (fr := fr) (a := xs (4 * q + 1)) (i := xs (4 * q + 2))
  rw [Fx_M, Fx_M] at h2
  obtain ⟨h', kc, ks, hE, hkc, hks⟩ := k (Fx c t lf dn re en n (nI 0) (c, t, lf, dn) mk hm he fr o) o5 o6 ⟨c, t, lf, dn, re, en, n, nI 0, mk, hm, he, fr, o, hs, rfl⟩ h5 h6
  refine ⟨h', kc, ks, ?_, hkc, hks⟩
  rcases h5 with rfl | ⟨y5, rfl⟩ <;> rcases h6 with rfl | ⟨y6, rfl⟩ <;>
  · refine fEv.brT rfl (iB (d := 1) (by omega) hL) ?_
    rw [iC (d := 1) (by omega)]
    refine fEv.brT rfl (iB (d := 2) (by omega) hL) ?_
    rw [iC (d := 2) (by omega)]
    refine fEv.calli rfl h1 ?_
    refine fEv.brT rfl (iB (d := 1) (by omega) hL) ?_
    rw [iC (d := 1) (by omega)]
    refine fEv.brT rfl (iB (d := 2) (by omega) hL) ?_
    rw [iC (d := 2) (by omega)]
    refine fEv.calli rfl h2 ?_
    refine fEv.brT rfl (decide_eq_true rfl) ?_
    exact hE
theorem l_table (hq : 4 * q + 4 ≤ Ls) (hL : Ls ≤ 2048) (h5 : oInt o5) (h6 : oInt o6) (hg : Lg h) (k : Gk Ls xs q A B) : Gd Ls xs 846 (nI (4 * q)) A B o5 o6 h := by
  obtain ⟨c, t, lf, dn, re, en, n, cd, mk, hm, he, fr, o, hs, rfl⟩ := hg
  have h1 := e_table (Ls := Ls) (xs := xs) (c := c) (t := t) (lf := lf) (dn := dn) (re := re) (en := en) (n := n) (M := hMt cd (c, t, lf, dn) mk hm he fr o) (a := xs (4 * q + 1))
  have h2 := m_table (Ls := Ls) (xs := xs) (P := Pc c t lf dn re en n) (T := [.inl (2, 1, .inr (.inl o))]) (cd := cd) (s := (c, t, lf, dn)) (mk := mk) (hm := hm) (he := he) (fr := fr) (a := xs (4 * q + 1))
  rw [Fx_M, Fx_M] at h2
  obtain ⟨h', kc, ks, hE, hkc, hks⟩ := k (Fx c t lf dn re en n (nI 0) (c, t, lf, dn) mk hm he fr o) o5 o6 ⟨c, t, lf, dn, re, en, n, nI 0, mk, hm, he, fr, o, hs, rfl⟩ h5 h6
  refine ⟨h', kc, ks, ?_, hkc, hks⟩
  rcases h5 with rfl | ⟨y5, rfl⟩ <;> rcases h6 with rfl | ⟨y6, rfl⟩ <;>
  · refine fEv.brT rfl (iB (d := 1) (by omega) hL) ?_
    rw [iC (d := 1) (by omega)]
    refine fEv.calli rfl h1 ?_
    refine fEv.brT rfl (iB (d := 1) (by omega) hL) ?_
    rw [iC (d := 1) (by omega)]
    refine fEv.calli rfl h2 ?_
    refine fEv.brT rfl (decide_eq_true rfl) ?_
    exact hE
end LD
end
section
/-! the law's loop -/
theorem and15 (v : Int32) : ∃ k, k < 16 ∧ v &&& nI 15 = nI k := by
  refine ⟨v.toBitVec.toNat % 16, Nat.mod_lt _ (by decide), ?_⟩
  apply i32_ext
  have h := Nat.and_two_pow_sub_one_eq_mod v.toBitVec.toNat 4
  have h2 : v.toBitVec.toNat % 16 < 16 := Nat.mod_lt _ (by decide)
  rw [Int32.toBitVec_and, BitVec.toNat_and, pk_tn (by decide), pk_tn (by omega)]
  exact h
section LE
variable {Ls : Nat} {xs : Nat → Int32} {h : mH} {q A B : Nat} {o5 o6 : Option Value}
theorem Gd.more {pc : Nat} {i : Int32} (hg : Gd Ls xs pc i A B o5 o6 h) : Gd Ls xs pc i (A + 1) (B + 6) o5 o6 h := by
  obtain ⟨h', kc, ks, h1, h2, h3⟩ := hg
  exact ⟨h', kc, ks, h1, by omega, by omega⟩
theorem l_switch (hq : 4 * q + 4 ≤ Ls) (hL : Ls ≤ 2048) (h5 : oInt o5) (h6 : oInt o6) (hg : Lg h) (k : Gk Ls xs q A B) : ∃ h' kc ks, mEv Ls xs 99 (39, [some (.ref mSC), some (.ref 0), some (.ref 6), some (.ref 10), some (.int (nI (4 * q))), o5, o6], [.int (xs (4 * q) &&& nI 15)], h) (.inl (some (.int 1)), h', kc, ks) ∧ kc ≤ A + 1 ∧ ks ≤ B + 6 := by
  obtain ⟨j, hj, e⟩ := and15 (xs (4 * q))
  rw [e]
  have go : ∀ pc, mSw 39 0 14 832 [73, 157, 213, 281, 349, 417, 497, 565, 621, 677, 721, 744, 757, 770, 807] (nI j).toInt = pc → Gd Ls xs pc (nI (4 * q)) (A + 1) (B + 6) o5 o6 h → ∃ h' kc ks, mEv Ls xs 99 (39, [some (.ref mSC), some (.ref 0), some (.ref 6), some (.ref 10), some (.int (nI (4 * q))), o5, o6], [.int (nI j)], h) (.inl (some (.int 1)), h', kc, ks) ∧ kc ≤ A + 1 ∧ ks ≤ B + 6 := by
    intro pc hpc hgd
    subst hpc
    obtain ⟨h', kc, ks, h1, h2, h3⟩ := hgd
    exact ⟨h', kc, ks, fEv.steps 1 rfl h1, h2, h3⟩
  match j, hj with
  | 0, _ => exact go 112 (by decide) (l_make hq hL h5 h6 hg k)
  | 1, _ => exact go 196 (by decide) (l_remove hq hL h5 h6 hg k)
  | 2, _ => exact go 252 (by decide) (l_rename hq hL h5 h6 hg k)
  | 3, _ => exact go 320 (by decide) (l_append hq hL h5 h6 hg k)
  | 4, _ => exact go 388 (by decide) (l_get hq hL h5 h6 hg k)
  | 5, _ => exact go 456 (by decide) (l_put hq hL h5 h6 hg k)
  | 6, _ => exact go 536 (by decide) (l_shorten hq hL h5 h6 hg k)
  | 7, _ => exact go 604 (by decide) (l_length hq hL h5 h6 hg k)
  | 8, _ => exact go 660 (by decide) (l_names hq hL h5 h6 hg k)
  | 9, _ => exact go 716 (by decide) (l_free hq hL h5 h6 hg k)
  | 10, _ => exact go 760 (by decide) (l_arm hq hL h5 h6 hg k).more
  | 11, _ => exact go 783 (by decide) (l_isDown h5 h6 hg k).more
  | 12, _ => exact go 796 (by decide) (l_mount h5 h6 hg k).more
  | 13, _ => exact go 809 (by decide) (l_cell hq hL h5 h6 hg k).more
  | 14, _ => exact go 846 (by decide) (l_table hq hL h5 h6 hg k).more
  | 15, _ => exact go 871 (by decide) (k h o5 o6 hg h5 h6).more
  | n + 16, hj => exact absurd hj (by omega)
theorem l_loop (hL : Ls ≤ 2048) : ∀ (m q : Nat) (o5 o6 : Option Value) (h : mH), oInt o5 → oInt o6 → Lg h → Ls < 4 * (q + m) + 4 → q ≤ 600 → Gd Ls xs 23 (nI (4 * q)) m (6 * m) o5 o6 h := by
  intro m
  induction m with
  | zero =>
    intro q o5 o6 h h5 h6 hg hm hq
    refine ⟨h, 0, 0, ?_, by omega, by omega⟩
    refine fEv.brT rfl (decide_eq_true ?_) ?_
    · show nI Ls - nI 4 < nI (4 * q)
      by_cases h4 : 4 ≤ Ls
      · rw [pk_sub h4]
        exact nI_lt (by omega) (by omega)
      · have h0 : (0 : Int32) ≤ nI (4 * q) := nI_pos' (by omega)
        have h1 : nI Ls - nI 4 < 0 := by
          match Ls, h4 with
          | 0, _ => decide
          | 1, _ => decide
          | 2, _ => decide
          | 3, _ => decide
          | n + 4, h => exact absurd (by omega) h
        exact Int32.lt_of_lt_of_le h1 h0
    · exact fEv.retV rfl rfl
  | succ m ih =>
    intro q o5 o6 h h5 h6 hg hm hq
    by_cases hin : 4 * q + 4 ≤ Ls
    · have k : Gk Ls xs q m (6 * m) := by
        intro h' o5' o6' hg' h5' h6'
        obtain ⟨h'', kc, ks, h1, h2, h3⟩ := ih (q + 1) o5' o6' h' h5' h6' hg' (by omega) (by omega)
        refine ⟨h'', kc, ks, ?_, h2, h3⟩
        rw [show 4 * (q + 1) = 4 * q + 4 by omega, ← nI_add] at h1
        exact fEv.steps 2 rfl h1
      obtain ⟨h', kc, ks, h1, h2, h3⟩ := l_switch hin hL h5 h6 hg k
      refine ⟨h', kc, ks, ?_, h2, by omega⟩
      refine fEv.brF rfl (decide_eq_false ?_) ?_
      · show ¬ nI Ls - nI 4 < nI (4 * q)
        rw [pk_sub (by omega)]
        exact nI_nlt (by omega) (by omega)
      · refine fEv.brT rfl (inb_of rfl (show 4 * q < Ls by omega) (by omega)) ?_
        rw [nI_clamp (by omega)]
        exact fEv.steps 2 rfl h1
    · refine ⟨h, 0, 0, ?_, by omega, by omega⟩
      refine fEv.brT rfl (decide_eq_true ?_) ?_
      · show nI Ls - nI 4 < nI (4 * q)
        by_cases h4 : 4 ≤ Ls
        · rw [pk_sub h4]
          exact nI_lt (by omega) (by omega)
        · have h0 : (0 : Int32) ≤ nI (4 * q) := nI_pos' (by omega)
          have h1 : nI Ls - nI 4 < 0 := by
            match Ls, h4 with
            | 0, _ => decide
            | 1, _ => decide
            | 2, _ => decide
            | 3, _ => decide
            | n + 4, h => exact absurd (by omega) h
          exact Int32.lt_of_lt_of_le h1 h0
      · exact fEv.retV rfl rfl
end LE
end
section
/-! the constructors, the law's start -/
def tI : Nat → Nat → Int32
  | 0 => fun _ => 0
  | i + 1 => upd (tI i) i (if i = 0 then -1 else -2)
def z0 : Nat → Int32 := fun _ => 0
def vN : mC := .inr (0, [.null, .null, .null, .int 0])
theorem fEv.callz {Ls : Nat} {xs : Nat → Int32} {k pc k' pc' c s : Nat} {L : List (Option Value)} {S : List Value} {hh : mH} {r : mR} {av S' : List Value} {L' : List (Option Value)} {h h' : mH} (hs : fGo Ls xs 300 k pc L S hh = some (.inr (.inr (.inr (.inl (k', av, (pc', L', S', h))))))) (hc : mEv Ls xs k' (mEnt k' av h) (.inl none, h', c, s))
    (he : mEv Ls xs k (pc', L', S', h') r) : mEv Ls xs k (pc, L, S, hh) (mAdd c s r) := fEv.call hs hc he
section LF
variable {Ls : Nat} {xs : Nat → Int32}
theorem dk_loop : ∀ (m i : Nat), i + m = 32 → mEv Ls xs 39 (23, [some (.ref 1), some (.int (nI i))], [], [vN, .inr (1, [.ref 2, .ref 3, .int 0, .int 0]), .inl (0, 128, .inl z0), .inl (0, 32, .inl (tI i))]) (.inl none, [vN, .inr (1, [.ref 2, .ref 3, .int (-1), .int 0]), .inl (0, 128, .inl z0), .inl (0, 32, .inl (tI 32))], 0, 0) := by
  intro m
  induction m with
  | zero =>
    intro i hi
    have hi : i = 32 := hi
    subst hi
    refine fEv.brT rfl (by decide) ?_
    exact fEv.retV rfl rfl
  | succ m ih =>
    intro i hi
    have hi3 : i < 32 := by omega
    have h2 := ih (i + 1) (by omega)
    rw [← nI_add, tI] at h2
    refine fEv.brF rfl (decide_eq_false (nI_ge (a := i) (b := 32) hi3 (by decide))) ?_
    by_cases h0 : i = 0
    · rw [if_pos h0] at h2
      refine fEv.brF rfl (decide_eq_false (fun z => z (by rw [h0]; rfl))) ?_
      refine fEv.brT rfl (bT hi3) ?_
      rw [kT hi3]
      exact fEv.steps 2 rfl h2
    · rw [if_neg h0] at h2
      refine fEv.brT rfl (decide_eq_true (nI_ne0 (by omega) (by omega))) ?_
      refine fEv.brT rfl (bT hi3) ?_
      rw [kT hi3]
      exact fEv.steps 2 rfl h2
theorem i_disk : mEv Ls xs 39 (0, [some (.ref 1), none], [], [vN, .inr (1, [.null, .null, .int 0, .int 0])]) (.inl none, [vN, .inr (1, [.ref 2, .ref 3, .int (-1), .int 0]), .inl (0, 128, .inl z0), .inl (0, 32, .inl (tI 32))], 2, 160) := by
  show mEv Ls xs 39 _ (mAdd 1 128 (mAdd 1 32 (.inl none, [vN, .inr (1, [.ref 2, .ref 3, .int (-1), .int 0]), .inl (0, 128, .inl z0), .inl (0, 32, .inl (tI 32))], 0, 0)))
  refine fEv.mk rfl ?_
  show mEv Ls xs 39 (8 + 2, [some (.ref 1), none], [.ref 2, .ref 1], [vN, .inr (1, [.null, .null, .int 0, .int 0]), .inl (0, 128, .inl z0)]) _
  refine fEv.mk rfl ?_
  show mEv Ls xs 39 (16 + 2, [some (.ref 1), none], [.ref 3, .ref 1], [vN, .inr (1, [.ref 2, .null, .int 0, .int 0]), .inl (0, 128, .inl z0), .inl (0, 32, .inl (tI 0))]) _
  exact fEv.steps 3 rfl (dk_loop 32 0 (by omega))
def hV0 : mH := hV z0 (tI 32) (-1) 0 z0 z0 0 []
theorem i_vol : mEv Ls xs 0 (0, [some (.ref 0)], [], [vN]) (.inl none, hV0, 5, 228) := by
  show mEv Ls xs 0 _ (mAdd 1 4 (mAdd 2 160 (mAdd 1 32 (mAdd 1 32 (.inl none, hV0, 0, 0)))))
  refine fEv.mk rfl ?_
  show mEv Ls xs 0 (5 + 3, [some (.ref 0)], [.ref 1, .ref 0], [vN, .inr (1, [.null, .null, .int 0, .int 0])]) _
  refine fEv.callz rfl i_disk ?_
  refine fEv.mk rfl ?_
  show mEv Ls xs 0 (18 + 2, [some (.ref 0)], [.ref 4, .ref 0], [.inr (0, [.ref 1, .null, .null, .int 0]), .inr (1, [.ref 2, .ref 3, .int (-1), .int 0]), .inl (0, 128, .inl z0), .inl (0, 32, .inl (tI 32)), .inl (1, 32, .inl z0)]) _
  refine fEv.mk rfl ?_
  show mEv Ls xs 0 (26 + 2, [some (.ref 0)], [.ref 5, .ref 0], [.inr (0, [.ref 1, .ref 4, .null, .int 0]), .inr (1, [.ref 2, .ref 3, .int (-1), .int 0]), .inl (0, 128, .inl z0), .inl (0, 32, .inl (tI 32)), .inl (1, 32, .inl z0), .inl (0, 32, .inl z0)]) _
  exact fEv.retV rfl rfl
def mdN : mC := .inr (2, [.int 0, .null, .null, .int 0, .int 0, .null, .int 0, .int 0, .int 0])
theorem i_mod : mEv Ls xs 49 (0, [some (.ref 6)], [], [.inr (0, [.ref 1, .ref 4, .ref 5, .int 0]), .inr (1, [.ref 2, .ref 3, .int (-1), .int 0]), .inl (0, 128, .inl z0), .inl (0, 32, .inl (tI 32)), .inl (1, 32, .inl z0), .inl (0, 32, .inl z0), mdN]) (.inl none, [.inr (0, [.ref 1, .ref 4, .ref 5, .int 0]), .inr (1, [.ref 2, .ref 3, .int (-1), .int 0]), .inl (0, 128, .inl z0), .inl (0, 32, .inl (tI 32)), .inl (1, 32, .inl z0), .inl (0, 32, .inl z0), .inr (2, [.int 0, .ref 7, .ref 8, .int 0, .int (-1), .ref 9, .int 0, .int 0, .int 0]), .inl (0, 32, .inl (tI 32)), .inl (0, 128, .inl z0), .inl (1, 32, .inl z0)], 3, 192) := by
  show mEv Ls xs 49 _ (mAdd 1 32 (mAdd 1 128 (mAdd 1 32 (.inl none, [.inr (0, [.ref 1, .ref 4, .ref 5, .int 0]), .inr (1, [.ref 2, .ref 3, .int (-1), .int 0]), .inl (0, 128, .inl z0), .inl (0, 32, .inl (tI 32)), .inl (1, 32, .inl z0), .inl (0, 32, .inl z0), .inr (2, [.int 0, .ref 7, .ref 8, .int 0, .int (-1), .ref 9, .int 0, .int 0, .int 0]), .inl (0, 32, .inl (tI 32)), .inl (0, 128, .inl z0), .inl (1, 32, .inl z0)], 0, 0))))
  refine fEv.mk rfl ?_
  show mEv Ls xs 49 (7 + 2, [some (.ref 6)], [.ref 7, .ref 6], [.inr (0, [.ref 1, .ref 4, .ref 5, .int 0]), .inr (1, [.ref 2, .ref 3, .int (-1), .int 0]), .inl (0, 128, .inl z0), .inl (0, 32, .inl (tI 32)), .inl (1, 32, .inl z0), .inl (0, 32, .inl z0), mdN, .inl (0, 32, .inl (tI 0))]) _
  refine fEv.brT rfl (bT (a := 0) (by decide)) ?_
  rw [kT (a := 0) (by decide)]
  show mEv Ls xs 49 (12 + 1, [some (.ref 6)], [.ref 7, .ref 6], [.inr (0, [.ref 1, .ref 4, .ref 5, .int 0]), .inr (1, [.ref 2, .ref 3, .int (-1), .int 0]), .inl (0, 128, .inl z0), .inl (0, 32, .inl (tI 32)), .inl (1, 32, .inl z0), .inl (0, 32, .inl z0), mdN, .inl (0, 32, .inl (tI 1))]) _
  refine fEv.brT rfl (bT (a := 1) (by decide)) ?_
  rw [kT (a := 1) (by decide)]
  show mEv Ls xs 49 (17 + 1, [some (.ref 6)], [.ref 7, .ref 6], [.inr (0, [.ref 1, .ref 4, .ref 5, .int 0]), .inr (1, [.ref 2, .ref 3, .int (-1), .int 0]), .inl (0, 128, .inl z0), .inl (0, 32, .inl (tI 32)), .inl (1, 32, .inl z0), .inl (0, 32, .inl z0), mdN, .inl (0, 32, .inl (tI 2))]) _
  refine fEv.brT rfl (bT (a := 2) (by decide)) ?_
  rw [kT (a := 2) (by decide)]
  show mEv Ls xs 49 (22 + 1, [some (.ref 6)], [.ref 7, .ref 6], [.inr (0, [.ref 1, .ref 4, .ref 5, .int 0]), .inr (1, [.ref 2, .ref 3, .int (-1), .int 0]), .inl (0, 128, .inl z0), .inl (0, 32, .inl (tI 32)), .inl (1, 32, .inl z0), .inl (0, 32, .inl z0), mdN, .inl (0, 32, .inl (tI 3))]) _
  refine fEv.brT rfl (bT (a := 3) (by decide)) ?_
  rw [kT (a := 3) (by decide)]
  show mEv Ls xs 49 (27 + 1, [some (.ref 6)], [.ref 7, .ref 6], [.inr (0, [.ref 1, .ref 4, .ref 5, .int 0]), .inr (1, [.ref 2, .ref 3, .int (-1), .int 0]), .inl (0, 128, .inl z0), .inl (0, 32, .inl (tI 32)), .inl (1, 32, .inl z0), .inl (0, 32, .inl z0), mdN, .inl (0, 32, .inl (tI 4))]) _
  refine fEv.brT rfl (bT (a := 4) (by decide)) ?_
  rw [kT (a := 4) (by decide)]
  show mEv Ls xs 49 (32 + 1, [some (.ref 6)], [.ref 7, .ref 6], [.inr (0, [.ref 1, .ref 4, .ref 5, .int 0]), .inr (1, [.ref 2, .ref 3, .int (-1), .int 0]), .inl (0, 128, .inl z0), .inl (0, 32, .inl (tI 32)), .inl (1, 32, .inl z0), .inl (0, 32, .inl z0), mdN, .inl (0, 32, .inl (tI 5))]) _
  refine fEv.brT rfl (bT (a := 5) (by decide)) ?_
  rw [kT (a := 5) (by decide)]
  show mEv Ls xs 49 (37 + 1, [some (.ref 6)], [.ref 7, .ref 6], [.inr (0, [.ref 1, .ref 4, .ref 5, .int 0]), .inr (1, [.ref 2, .ref 3, .int (-1), .int 0]), .inl (0, 128, .inl z0), .inl (0, 32, .inl (tI 32)), .inl (1, 32, .inl z0), .inl (0, 32, .inl z0), mdN, .inl (0, 32, .inl (tI 6))]) _
  refine fEv.brT rfl (bT (a := 6) (by decide)) ?_
  rw [kT (a := 6) (by decide)]
  show mEv Ls xs 49 (43 + 1, [some (.ref 6)], [.ref 7, .ref 6], [.inr (0, [.ref 1, .ref 4, .ref 5, .int 0]), .inr (1, [.ref 2, .ref 3, .int (-1), .int 0]), .inl (0, 128, .inl z0), .inl (0, 32, .inl (tI 32)), .inl (1, 32, .inl z0), .inl (0, 32, .inl z0), mdN, .inl (0, 32, .inl (tI 7))]) _
  refine fEv.brT rfl (bT (a := 7) (by decide)) ?_
  rw [kT (a := 7) (by decide)]
  show mEv Ls xs 49 (49 + 1, [some (.ref 6)], [.ref 7, .ref 6], [.inr (0, [.ref 1, .ref 4, .ref 5, .int 0]), .inr (1, [.ref 2, .ref 3, .int (-1), .int 0]), .inl (0, 128, .inl z0), .inl (0, 32, .inl (tI 32)), .inl (1, 32, .inl z0), .inl (0, 32, .inl z0), mdN, .inl (0, 32, .inl (tI 8))]) _
  refine fEv.brT rfl (bT (a := 8) (by decide)) ?_
  rw [kT (a := 8) (by decide)]
  show mEv Ls xs 49 (55 + 1, [some (.ref 6)], [.ref 7, .ref 6], [.inr (0, [.ref 1, .ref 4, .ref 5, .int 0]), .inr (1, [.ref 2, .ref 3, .int (-1), .int 0]), .inl (0, 128, .inl z0), .inl (0, 32, .inl (tI 32)), .inl (1, 32, .inl z0), .inl (0, 32, .inl z0), mdN, .inl (0, 32, .inl (tI 9))]) _
  refine fEv.brT rfl (bT (a := 9) (by decide)) ?_
  rw [kT (a := 9) (by decide)]
  show mEv Ls xs 49 (61 + 1, [some (.ref 6)], [.ref 7, .ref 6], [.inr (0, [.ref 1, .ref 4, .ref 5, .int 0]), .inr (1, [.ref 2, .ref 3, .int (-1), .int 0]), .inl (0, 128, .inl z0), .inl (0, 32, .inl (tI 32)), .inl (1, 32, .inl z0), .inl (0, 32, .inl z0), mdN, .inl (0, 32, .inl (tI 10))]) _
  refine fEv.brT rfl (bT (a := 10) (by decide)) ?_
  rw [kT (a := 10) (by decide)]
  show mEv Ls xs 49 (67 + 1, [some (.ref 6)], [.ref 7, .ref 6], [.inr (0, [.ref 1, .ref 4, .ref 5, .int 0]), .inr (1, [.ref 2, .ref 3, .int (-1), .int 0]), .inl (0, 128, .inl z0), .inl (0, 32, .inl (tI 32)), .inl (1, 32, .inl z0), .inl (0, 32, .inl z0), mdN, .inl (0, 32, .inl (tI 11))]) _
  refine fEv.brT rfl (bT (a := 11) (by decide)) ?_
  rw [kT (a := 11) (by decide)]
  show mEv Ls xs 49 (73 + 1, [some (.ref 6)], [.ref 7, .ref 6], [.inr (0, [.ref 1, .ref 4, .ref 5, .int 0]), .inr (1, [.ref 2, .ref 3, .int (-1), .int 0]), .inl (0, 128, .inl z0), .inl (0, 32, .inl (tI 32)), .inl (1, 32, .inl z0), .inl (0, 32, .inl z0), mdN, .inl (0, 32, .inl (tI 12))]) _
  refine fEv.brT rfl (bT (a := 12) (by decide)) ?_
  rw [kT (a := 12) (by decide)]
  show mEv Ls xs 49 (79 + 1, [some (.ref 6)], [.ref 7, .ref 6], [.inr (0, [.ref 1, .ref 4, .ref 5, .int 0]), .inr (1, [.ref 2, .ref 3, .int (-1), .int 0]), .inl (0, 128, .inl z0), .inl (0, 32, .inl (tI 32)), .inl (1, 32, .inl z0), .inl (0, 32, .inl z0), mdN, .inl (0, 32, .inl (tI 13))]) _
  refine fEv.brT rfl (bT (a := 13) (by decide)) ?_
  rw [kT (a := 13) (by decide)]
  show mEv Ls xs 49 (85 + 1, [some (.ref 6)], [.ref 7, .ref 6], [.inr (0, [.ref 1, .ref 4, .ref 5, .int 0]), .inr (1, [.ref 2, .ref 3, .int (-1), .int 0]), .inl (0, 128, .inl z0), .inl (0, 32, .inl (tI 32)), .inl (1, 32, .inl z0), .inl (0, 32, .inl z0), mdN, .inl (0, 32, .inl (tI 14))]) _
  refine fEv.brT rfl (bT (a := 14) (by decide)) ?_
  rw [kT (a := 14) (by decide)]
  show mEv Ls xs 49 (91 + 1, [some (.ref 6)], [.ref 7, .ref 6], [.inr (0, [.ref 1, .ref 4, .ref 5, .int 0]), .inr (1, [.ref 2, .ref 3, .int (-1), .int 0]), .inl (0, 128, .inl z0), .inl (0, 32, .inl (tI 32)), .inl (1, 32, .inl z0), .inl (0, 32, .inl z0), mdN, .inl (0, 32, .inl (tI 15))]) _
  refine fEv.brT rfl (bT (a := 15) (by decide)) ?_
  rw [kT (a := 15) (by decide)]
  show mEv Ls xs 49 (97 + 1, [some (.ref 6)], [.ref 7, .ref 6], [.inr (0, [.ref 1, .ref 4, .ref 5, .int 0]), .inr (1, [.ref 2, .ref 3, .int (-1), .int 0]), .inl (0, 128, .inl z0), .inl (0, 32, .inl (tI 32)), .inl (1, 32, .inl z0), .inl (0, 32, .inl z0), mdN, .inl (0, 32, .inl (tI 16))]) _
  refine fEv.brT rfl (bT (a := 16) (by decide)) ?_
  rw [kT (a := 16) (by decide)]
  show mEv Ls xs 49 (103 + 1, [some (.ref 6)], [.ref 7, .ref 6], [.inr (0, [.ref 1, .ref 4, .ref 5, .int 0]), .inr (1, [.ref 2, .ref 3, .int (-1), .int 0]), .inl (0, 128, .inl z0), .inl (0, 32, .inl (tI 32)), .inl (1, 32, .inl z0), .inl (0, 32, .inl z0), mdN, .inl (0, 32, .inl (tI 17))]) _
  refine fEv.brT rfl (bT (a := 17) (by decide)) ?_
  rw [kT (a := 17) (by decide)]
  show mEv Ls xs 49 (109 + 1, [some (.ref 6)], [.ref 7, .ref 6], [.inr (0, [.ref 1, .ref 4, .ref 5, .int 0]), .inr (1, [.ref 2, .ref 3, .int (-1), .int 0]), .inl (0, 128, .inl z0), .inl (0, 32, .inl (tI 32)), .inl (1, 32, .inl z0), .inl (0, 32, .inl z0), mdN, .inl (0, 32, .inl (tI 18))]) _
  refine fEv.brT rfl (bT (a := 18) (by decide)) ?_
  rw [kT (a := 18) (by decide)]
  show mEv Ls xs 49 (115 + 1, [some (.ref 6)], [.ref 7, .ref 6], [.inr (0, [.ref 1, .ref 4, .ref 5, .int 0]), .inr (1, [.ref 2, .ref 3, .int (-1), .int 0]), .inl (0, 128, .inl z0), .inl (0, 32, .inl (tI 32)), .inl (1, 32, .inl z0), .inl (0, 32, .inl z0), mdN, .inl (0, 32, .inl (tI 19))]) _
  refine fEv.brT rfl (bT (a := 19) (by decide)) ?_
  rw [kT (a := 19) (by decide)]
  show mEv Ls xs 49 (121 + 1, [some (.ref 6)], [.ref 7, .ref 6], [.inr (0, [.ref 1, .ref 4, .ref 5, .int 0]), .inr (1, [.ref 2, .ref 3, .int (-1), .int 0]), .inl (0, 128, .inl z0), .inl (0, 32, .inl (tI 32)), .inl (1, 32, .inl z0), .inl (0, 32, .inl z0), mdN, .inl (0, 32, .inl (tI 20))]) _
  refine fEv.brT rfl (bT (a := 20) (by decide)) ?_
  rw [kT (a := 20) (by decide)]
  show mEv Ls xs 49 (127 + 1, [some (.ref 6)], [.ref 7, .ref 6], [.inr (0, [.ref 1, .ref 4, .ref 5, .int 0]), .inr (1, [.ref 2, .ref 3, .int (-1), .int 0]), .inl (0, 128, .inl z0), .inl (0, 32, .inl (tI 32)), .inl (1, 32, .inl z0), .inl (0, 32, .inl z0), mdN, .inl (0, 32, .inl (tI 21))]) _
  refine fEv.brT rfl (bT (a := 21) (by decide)) ?_
  rw [kT (a := 21) (by decide)]
  show mEv Ls xs 49 (133 + 1, [some (.ref 6)], [.ref 7, .ref 6], [.inr (0, [.ref 1, .ref 4, .ref 5, .int 0]), .inr (1, [.ref 2, .ref 3, .int (-1), .int 0]), .inl (0, 128, .inl z0), .inl (0, 32, .inl (tI 32)), .inl (1, 32, .inl z0), .inl (0, 32, .inl z0), mdN, .inl (0, 32, .inl (tI 22))]) _
  refine fEv.brT rfl (bT (a := 22) (by decide)) ?_
  rw [kT (a := 22) (by decide)]
  show mEv Ls xs 49 (139 + 1, [some (.ref 6)], [.ref 7, .ref 6], [.inr (0, [.ref 1, .ref 4, .ref 5, .int 0]), .inr (1, [.ref 2, .ref 3, .int (-1), .int 0]), .inl (0, 128, .inl z0), .inl (0, 32, .inl (tI 32)), .inl (1, 32, .inl z0), .inl (0, 32, .inl z0), mdN, .inl (0, 32, .inl (tI 23))]) _
  refine fEv.brT rfl (bT (a := 23) (by decide)) ?_
  rw [kT (a := 23) (by decide)]
  show mEv Ls xs 49 (145 + 1, [some (.ref 6)], [.ref 7, .ref 6], [.inr (0, [.ref 1, .ref 4, .ref 5, .int 0]), .inr (1, [.ref 2, .ref 3, .int (-1), .int 0]), .inl (0, 128, .inl z0), .inl (0, 32, .inl (tI 32)), .inl (1, 32, .inl z0), .inl (0, 32, .inl z0), mdN, .inl (0, 32, .inl (tI 24))]) _
  refine fEv.brT rfl (bT (a := 24) (by decide)) ?_
  rw [kT (a := 24) (by decide)]
  show mEv Ls xs 49 (151 + 1, [some (.ref 6)], [.ref 7, .ref 6], [.inr (0, [.ref 1, .ref 4, .ref 5, .int 0]), .inr (1, [.ref 2, .ref 3, .int (-1), .int 0]), .inl (0, 128, .inl z0), .inl (0, 32, .inl (tI 32)), .inl (1, 32, .inl z0), .inl (0, 32, .inl z0), mdN, .inl (0, 32, .inl (tI 25))]) _
  refine fEv.brT rfl (bT (a := 25) (by decide)) ?_
  rw [kT (a := 25) (by decide)]
  show mEv Ls xs 49 (157 + 1, [some (.ref 6)], [.ref 7, .ref 6], [.inr (0, [.ref 1, .ref 4, .ref 5, .int 0]), .inr (1, [.ref 2, .ref 3, .int (-1), .int 0]), .inl (0, 128, .inl z0), .inl (0, 32, .inl (tI 32)), .inl (1, 32, .inl z0), .inl (0, 32, .inl z0), mdN, .inl (0, 32, .inl (tI 26))]) _
  refine fEv.brT rfl (bT (a := 26) (by decide)) ?_
  rw [kT (a := 26) (by decide)]
  show mEv Ls xs 49 (163 + 1, [some (.ref 6)], [.ref 7, .ref 6], [.inr (0, [.ref 1, .ref 4, .ref 5, .int 0]), .inr (1, [.ref 2, .ref 3, .int (-1), .int 0]), .inl (0, 128, .inl z0), .inl (0, 32, .inl (tI 32)), .inl (1, 32, .inl z0), .inl (0, 32, .inl z0), mdN, .inl (0, 32, .inl (tI 27))]) _
  refine fEv.brT rfl (bT (a := 27) (by decide)) ?_
  rw [kT (a := 27) (by decide)]
  show mEv Ls xs 49 (169 + 1, [some (.ref 6)], [.ref 7, .ref 6], [.inr (0, [.ref 1, .ref 4, .ref 5, .int 0]), .inr (1, [.ref 2, .ref 3, .int (-1), .int 0]), .inl (0, 128, .inl z0), .inl (0, 32, .inl (tI 32)), .inl (1, 32, .inl z0), .inl (0, 32, .inl z0), mdN, .inl (0, 32, .inl (tI 28))]) _
  refine fEv.brT rfl (bT (a := 28) (by decide)) ?_
  rw [kT (a := 28) (by decide)]
  show mEv Ls xs 49 (175 + 1, [some (.ref 6)], [.ref 7, .ref 6], [.inr (0, [.ref 1, .ref 4, .ref 5, .int 0]), .inr (1, [.ref 2, .ref 3, .int (-1), .int 0]), .inl (0, 128, .inl z0), .inl (0, 32, .inl (tI 32)), .inl (1, 32, .inl z0), .inl (0, 32, .inl z0), mdN, .inl (0, 32, .inl (tI 29))]) _
  refine fEv.brT rfl (bT (a := 29) (by decide)) ?_
  rw [kT (a := 29) (by decide)]
  show mEv Ls xs 49 (181 + 1, [some (.ref 6)], [.ref 7, .ref 6], [.inr (0, [.ref 1, .ref 4, .ref 5, .int 0]), .inr (1, [.ref 2, .ref 3, .int (-1), .int 0]), .inl (0, 128, .inl z0), .inl (0, 32, .inl (tI 32)), .inl (1, 32, .inl z0), .inl (0, 32, .inl z0), mdN, .inl (0, 32, .inl (tI 30))]) _
  refine fEv.brT rfl (bT (a := 30) (by decide)) ?_
  rw [kT (a := 30) (by decide)]
  show mEv Ls xs 49 (187 + 1, [some (.ref 6)], [.ref 7, .ref 6], [.inr (0, [.ref 1, .ref 4, .ref 5, .int 0]), .inr (1, [.ref 2, .ref 3, .int (-1), .int 0]), .inl (0, 128, .inl z0), .inl (0, 32, .inl (tI 32)), .inl (1, 32, .inl z0), .inl (0, 32, .inl z0), mdN, .inl (0, 32, .inl (tI 31))]) _
  refine fEv.brT rfl (bT (a := 31) (by decide)) ?_
  rw [kT (a := 31) (by decide)]
  show mEv Ls xs 49 (193 + 1, [some (.ref 6)], [.ref 7, .ref 6], [.inr (0, [.ref 1, .ref 4, .ref 5, .int 0]), .inr (1, [.ref 2, .ref 3, .int (-1), .int 0]), .inl (0, 128, .inl z0), .inl (0, 32, .inl (tI 32)), .inl (1, 32, .inl z0), .inl (0, 32, .inl z0), mdN, .inl (0, 32, .inl (tI 32))]) _
  refine fEv.mk rfl ?_
  show mEv Ls xs 49 (201 + 2, [some (.ref 6)], [.ref 8, .ref 6], [.inr (0, [.ref 1, .ref 4, .ref 5, .int 0]), .inr (1, [.ref 2, .ref 3, .int (-1), .int 0]), .inl (0, 128, .inl z0), .inl (0, 32, .inl (tI 32)), .inl (1, 32, .inl z0), .inl (0, 32, .inl z0), .inr (2, [.int 0, .ref 7, .null, .int 0, .int 0, .null, .int 0, .int 0, .int 0]), .inl (0, 32, .inl (tI 32)), .inl (0, 128, .inl z0)]) _
  refine fEv.mk rfl ?_
  show mEv Ls xs 49 (214 + 2, [some (.ref 6)], [.ref 9, .ref 6], [.inr (0, [.ref 1, .ref 4, .ref 5, .int 0]), .inr (1, [.ref 2, .ref 3, .int (-1), .int 0]), .inl (0, 128, .inl z0), .inl (0, 32, .inl (tI 32)), .inl (1, 32, .inl z0), .inl (0, 32, .inl z0), .inr (2, [.int 0, .ref 7, .ref 8, .int 0, .int (-1), .null, .int 0, .int 0, .int 0]), .inl (0, 32, .inl (tI 32)), .inl (0, 128, .inl z0), .inl (1, 32, .inl z0)]) _
  exact fEv.retV rfl rfl
end LF
theorem tI_at : ∀ (n a : Nat), tI n a = if a < n then (if a = 0 then -1 else -2) else 0 := by
  intro n
  induction n with
  | zero => intro a; rw [if_neg (by omega)]; rfl
  | succ n ih =>
    intro a
    rw [tI]
    by_cases e : a = n
    · subst e
      rw [pk_us, if_pos (show a < a + 1 by omega)]
    · rw [pk_un e, ih a]
      by_cases e2 : a < n
      · rw [if_pos e2, if_pos (show a < n + 1 by omega)]
      · rw [if_neg e2, if_neg (show ¬ a < n + 1 by omega)]
/-- the new volume -/
theorem J1_0 : J1 z0 (tI 32) := by
  have d32 : ∀ p, p = 32 → dirP z0 p = true := fun p hp => by rw [hp]; exact dirP_32
  refine ⟨fun x => if x = 32 then [0] else [], fun x => x = 32, fun _ => 0, ⟨rfl, rfl⟩, ?_, ?_, ?_, ?_⟩
  · rintro p rfl
    refine ⟨Nat.zero_le _, ?_, Or.inl rfl⟩
    show (if 32 = 32 then [0] else [] : List Nat).Nodup
    rw [if_pos rfl]; exact nodup_one
  · intro p q hp hq hne
    exact absurd (hp.trans hq.symm) hne
  · rintro p rfl _
    have ec : (fun x => if x = 32 then [0] else [] : Nat → List Nat) 32 = [0] := rfl
    unfold iD
    rw [ec]
    refine ⟨⟨rfl, by decide, ?_⟩, fun z => absurd z (by decide), fun a ha => ?_, fun a ha b hb _ _ => ?_, fun z => absurd z (by decide)⟩
    · show tI 32 0 = -1
      rw [tI_at]; rfl
    · exact Or.inl rfl
    · have h1 : a = 0 := by simpa using ha
      have h2 : b = 0 := by simpa using hb
      rw [h1, h2]
  · intro p hp hd
    rw [d32 p hp] at hd; cases hd
theorem lawOk : mLawOk := by
  intro L xs hL
  have hg : Lg (Fx z0 (tI 32) (-1) 0 z0 z0 0 0 (z0, tI 32, -1, 0) z0 0 0 0 (fun _ => 0)) := ⟨z0, tI 32, -1, 0, z0, z0, 0, 0, z0, 0, 0, 0, fun _ => 0, Or.inl ⟨rfl, J1_0⟩, rfl⟩
  obtain ⟨h', kc, ks, h1, h2, h3⟩ := l_loop (xs := xs) hL 512 0 none none _ (Or.inl rfl) (Or.inl rfl) hg (by omega) (by omega)
  refine ⟨h', 1 + (5 + (1 + (3 + (1 + kc)))), 4 + (228 + (9 + (192 + (1 + ks)))), ?_, by omega, by omega⟩
  show mEv L xs 99 _ (mAdd 1 4 (mAdd 5 228 (mAdd 1 9 (mAdd 3 192 (mAdd 1 1 (.inl (some (.int 1)), h', kc, ks))))))
  refine fEv.mk rfl ?_
  show mEv L xs 99 (0 + 3, [some (.ref mSC), none, none, none, none, none, none], [.ref 0], [vN]) _
  refine fEv.callz rfl i_vol ?_
  refine fEv.mk rfl ?_
  show mEv L xs 99 (8 + 3, [some (.ref mSC), some (.ref 0), none, none, none, none, none], [.ref 6], [.inr (0, [.ref 1, .ref 4, .ref 5, .int 0]), .inr (1, [.ref 2, .ref 3, .int (-1), .int 0]), .inl (0, 128, .inl z0), .inl (0, 32, .inl (tI 32)), .inl (1, 32, .inl z0), .inl (0, 32, .inl z0), mdN]) _
  refine fEv.callz rfl i_mod ?_
  refine fEv.mk rfl ?_
  show mEv L xs 99 (17 + 2, [some (.ref mSC), some (.ref 0), some (.ref 6), none, none, none, none], [.ref 10], Fx z0 (tI 32) (-1) 0 z0 z0 0 0 (z0, tI 32, -1, 0) z0 0 0 0 (fun _ => 0)) _
  exact fEv.steps 3 rfl h1
end
section
theorem i_vc : Claimed_1_1 ∧ Claimed_1_2 := i_vc_of lawOk
end
