section
-- ===== PART A: goes FIRST, ahead of the names: the tables' words, and 'selects' of the private methods out of them =====
/-- a private method of a class that the tables say can be made, by its rows of tables_1 -/
def lw_okq (q : MethodName × Nat) : Prop := (q.1.cls ≠ "java/lang/invoke/MethodHandle" ∧ q.1.cls ≠ "java/lang/invoke/VarHandle") ∧ Cond.instantiable q.1.cls q.2 ∈ tables_1 ∧ Cond.privateMethod q.1 ∈ tables_1 ∧ Cond.instanceMethod q.1 ∈ tables_1
theorem lw_p0 : lw_okq (⟨"LampWall", "faulted", "(I)I"⟩, 7) := ⟨⟨by decide +kernel, by decide +kernel⟩, List.mem_of_getElem? (i := 11) (by decide +kernel), List.mem_of_getElem? (i := 157) (by decide +kernel), List.mem_of_getElem? (i := 158) (by decide +kernel)⟩
theorem lw_p1 : lw_okq (⟨"LampWall$Wall", "takeCode", "(II)I"⟩, 11) := ⟨⟨by decide +kernel, by decide +kernel⟩, List.mem_of_getElem? (i := 21) (by decide +kernel), List.mem_of_getElem? (i := 165) (by decide +kernel), List.mem_of_getElem? (i := 166) (by decide +kernel)⟩
theorem lw_p2 : lw_okq (⟨"LampWall$Wall", "takeCut", "(I)I"⟩, 11) := ⟨⟨by decide +kernel, by decide +kernel⟩, List.mem_of_getElem? (i := 21) (by decide +kernel), List.mem_of_getElem? (i := 169) (by decide +kernel), List.mem_of_getElem? (i := 170) (by decide +kernel)⟩
theorem lw_p3 : lw_okq (⟨"LampWall$Wall", "takeLetter", "(I)I"⟩, 11) := ⟨⟨by decide +kernel, by decide +kernel⟩, List.mem_of_getElem? (i := 21) (by decide +kernel), List.mem_of_getElem? (i := 183) (by decide +kernel), List.mem_of_getElem? (i := 184) (by decide +kernel)⟩
theorem lw_p4 : lw_okq (⟨"LampWall$Wall", "addModule", "(I)I"⟩, 11) := ⟨⟨by decide +kernel, by decide +kernel⟩, List.mem_of_getElem? (i := 21) (by decide +kernel), List.mem_of_getElem? (i := 187) (by decide +kernel), List.mem_of_getElem? (i := 188) (by decide +kernel)⟩
theorem lw_p5 : lw_okq (⟨"LampWall$Wall", "takeLevel", "(I)I"⟩, 11) := ⟨⟨by decide +kernel, by decide +kernel⟩, List.mem_of_getElem? (i := 21) (by decide +kernel), List.mem_of_getElem? (i := 191) (by decide +kernel), List.mem_of_getElem? (i := 192) (by decide +kernel)⟩
theorem lw_p6 : lw_okq (⟨"LampWall$Wall", "takeMore", "(I)I"⟩, 11) := ⟨⟨by decide +kernel, by decide +kernel⟩, List.mem_of_getElem? (i := 21) (by decide +kernel), List.mem_of_getElem? (i := 198) (by decide +kernel), List.mem_of_getElem? (i := 199) (by decide +kernel)⟩
theorem lw_p7 : lw_okq (⟨"LampWall$Wall", "canAct", "(II)Z"⟩, 11) := ⟨⟨by decide +kernel, by decide +kernel⟩, List.mem_of_getElem? (i := 21) (by decide +kernel), List.mem_of_getElem? (i := 360) (by decide +kernel), List.mem_of_getElem? (i := 361) (by decide +kernel)⟩
theorem lw_p8 : lw_okq (⟨"LampWall", "endOfDay", "(I)I"⟩, 7) := ⟨⟨by decide +kernel, by decide +kernel⟩, List.mem_of_getElem? (i := 11) (by decide +kernel), List.mem_of_getElem? (i := 366) (by decide +kernel), List.mem_of_getElem? (i := 367) (by decide +kernel)⟩
theorem lw_p9 : lw_okq (⟨"LampWall", "countWays", "(I)V"⟩, 7) := ⟨⟨by decide +kernel, by decide +kernel⟩, List.mem_of_getElem? (i := 11) (by decide +kernel), List.mem_of_getElem? (i := 412) (by decide +kernel), List.mem_of_getElem? (i := 413) (by decide +kernel)⟩
theorem lw_p10 : lw_okq (⟨"LampWall", "addLampToWays", "(I)V"⟩, 7) := ⟨⟨by decide +kernel, by decide +kernel⟩, List.mem_of_getElem? (i := 11) (by decide +kernel), List.mem_of_getElem? (i := 423) (by decide +kernel), List.mem_of_getElem? (i := 424) (by decide +kernel)⟩
theorem lw_p11 : lw_okq (⟨"LampWall", "tellBright", "(I)I"⟩, 7) := ⟨⟨by decide +kernel, by decide +kernel⟩, List.mem_of_getElem? (i := 11) (by decide +kernel), List.mem_of_getElem? (i := 467) (by decide +kernel), List.mem_of_getElem? (i := 468) (by decide +kernel)⟩
theorem lw_p12 : lw_okq (⟨"LampWall", "leaveTrace", "(I)V"⟩, 7) := ⟨⟨by decide +kernel, by decide +kernel⟩, List.mem_of_getElem? (i := 11) (by decide +kernel), List.mem_of_getElem? (i := 471) (by decide +kernel), List.mem_of_getElem? (i := 472) (by decide +kernel)⟩
theorem lw_p13 : lw_okq (⟨"LampWall", "tellHalved", "(I)I"⟩, 7) := ⟨⟨by decide +kernel, by decide +kernel⟩, List.mem_of_getElem? (i := 11) (by decide +kernel), List.mem_of_getElem? (i := 475) (by decide +kernel), List.mem_of_getElem? (i := 476) (by decide +kernel)⟩
theorem lw_p14 : lw_okq (⟨"LampWall", "tellPlain", "(I)I"⟩, 7) := ⟨⟨by decide +kernel, by decide +kernel⟩, List.mem_of_getElem? (i := 11) (by decide +kernel), List.mem_of_getElem? (i := 479) (by decide +kernel), List.mem_of_getElem? (i := 480) (by decide +kernel)⟩
theorem lw_p15 : lw_okq (⟨"LampWall", "switchBright", "()I"⟩, 7) := ⟨⟨by decide +kernel, by decide +kernel⟩, List.mem_of_getElem? (i := 11) (by decide +kernel), List.mem_of_getElem? (i := 487) (by decide +kernel), List.mem_of_getElem? (i := 488) (by decide +kernel)⟩
def lw_privs_1 : List (MethodName × Nat) := [(⟨"LampWall", "faulted", "(I)I"⟩, 7), (⟨"LampWall$Wall", "takeCode", "(II)I"⟩, 11), (⟨"LampWall$Wall", "takeCut", "(I)I"⟩, 11), (⟨"LampWall$Wall", "takeLetter", "(I)I"⟩, 11), (⟨"LampWall$Wall", "addModule", "(I)I"⟩, 11), (⟨"LampWall$Wall", "takeLevel", "(I)I"⟩, 11), (⟨"LampWall$Wall", "takeMore", "(I)I"⟩, 11), (⟨"LampWall$Wall", "canAct", "(II)Z"⟩, 11), (⟨"LampWall", "endOfDay", "(I)I"⟩, 7), (⟨"LampWall", "countWays", "(I)V"⟩, 7), (⟨"LampWall", "addLampToWays", "(I)V"⟩, 7), (⟨"LampWall", "tellBright", "(I)I"⟩, 7), (⟨"LampWall", "leaveTrace", "(I)V"⟩, 7), (⟨"LampWall", "tellHalved", "(I)I"⟩, 7), (⟨"LampWall", "tellPlain", "(I)I"⟩, 7), (⟨"LampWall", "switchBright", "()I"⟩, 7)]
theorem lw_r1 : ∀ q ∈ lw_privs_1, lw_okq q := List.forall_mem_cons.mpr ⟨lw_p0, List.forall_mem_cons.mpr ⟨lw_p1, List.forall_mem_cons.mpr ⟨lw_p2, List.forall_mem_cons.mpr ⟨lw_p3, List.forall_mem_cons.mpr ⟨lw_p4, List.forall_mem_cons.mpr ⟨lw_p5, List.forall_mem_cons.mpr ⟨lw_p6, List.forall_mem_cons.mpr ⟨lw_p7, List.forall_mem_cons.mpr ⟨lw_p8, List.forall_mem_cons.mpr ⟨lw_p9, List.forall_mem_cons.mpr ⟨lw_p10, List.forall_mem_cons.mpr ⟨lw_p11, List.forall_mem_cons.mpr ⟨lw_p12, List.forall_mem_cons.mpr ⟨lw_p13, List.forall_mem_cons.mpr ⟨lw_p14, List.forall_mem_cons.mpr ⟨lw_p15, fun _ h => absurd h List.not_mem_nil⟩⟩⟩⟩⟩⟩⟩⟩⟩⟩⟩⟩⟩⟩⟩⟩
theorem lw_p16 : lw_okq (⟨"LampWall", "switchLent", "(I)I"⟩, 7) := ⟨⟨by decide +kernel, by decide +kernel⟩, List.mem_of_getElem? (i := 11) (by decide +kernel), List.mem_of_getElem? (i := 491) (by decide +kernel), List.mem_of_getElem? (i := 492) (by decide +kernel)⟩
theorem lw_p17 : lw_okq (⟨"LampWallModel", "refused", "(I)I"⟩, 31) := ⟨⟨by decide +kernel, by decide +kernel⟩, List.mem_of_getElem? (i := 519) (by decide +kernel), List.mem_of_getElem? (i := 630) (by decide +kernel), List.mem_of_getElem? (i := 631) (by decide +kernel)⟩
theorem lw_p18 : lw_okq (⟨"LampWallModel", "cellsBarred", "(IIIJ)I"⟩, 31) := ⟨⟨by decide +kernel, by decide +kernel⟩, List.mem_of_getElem? (i := 519) (by decide +kernel), List.mem_of_getElem? (i := 635) (by decide +kernel), List.mem_of_getElem? (i := 636) (by decide +kernel)⟩
theorem lw_p19 : lw_okq (⟨"LampWallModel", "failed", "(I)I"⟩, 31) := ⟨⟨by decide +kernel, by decide +kernel⟩, List.mem_of_getElem? (i := 519) (by decide +kernel), List.mem_of_getElem? (i := 639) (by decide +kernel), List.mem_of_getElem? (i := 640) (by decide +kernel)⟩
theorem lw_p20 : lw_okq (⟨"LampWallModel", "readsWall", "(II)Z"⟩, 31) := ⟨⟨by decide +kernel, by decide +kernel⟩, List.mem_of_getElem? (i := 519) (by decide +kernel), List.mem_of_getElem? (i := 646) (by decide +kernel), List.mem_of_getElem? (i := 647) (by decide +kernel)⟩
theorem lw_p21 : lw_okq (⟨"LampWallModel", "codeAt", "(II)I"⟩, 31) := ⟨⟨by decide +kernel, by decide +kernel⟩, List.mem_of_getElem? (i := 519) (by decide +kernel), List.mem_of_getElem? (i := 650) (by decide +kernel), List.mem_of_getElem? (i := 651) (by decide +kernel)⟩
theorem lw_p22 : lw_okq (⟨"LampWallModel", "readsModule", "(II)Z"⟩, 31) := ⟨⟨by decide +kernel, by decide +kernel⟩, List.mem_of_getElem? (i := 519) (by decide +kernel), List.mem_of_getElem? (i := 655) (by decide +kernel), List.mem_of_getElem? (i := 656) (by decide +kernel)⟩
theorem lw_p23 : lw_okq (⟨"LampWallModel", "noModule", "(I)Z"⟩, 31) := ⟨⟨by decide +kernel, by decide +kernel⟩, List.mem_of_getElem? (i := 519) (by decide +kernel), List.mem_of_getElem? (i := 665) (by decide +kernel), List.mem_of_getElem? (i := 666) (by decide +kernel)⟩
theorem lw_p24 : lw_okq (⟨"LampWallModel", "noLamp", "(I)Z"⟩, 31) := ⟨⟨by decide +kernel, by decide +kernel⟩, List.mem_of_getElem? (i := 519) (by decide +kernel), List.mem_of_getElem? (i := 673) (by decide +kernel), List.mem_of_getElem? (i := 674) (by decide +kernel)⟩
theorem lw_p25 : lw_okq (⟨"LampWallModel", "frames", "()V"⟩, 31) := ⟨⟨by decide +kernel, by decide +kernel⟩, List.mem_of_getElem? (i := 519) (by decide +kernel), List.mem_of_getElem? (i := 677) (by decide +kernel), List.mem_of_getElem? (i := 678) (by decide +kernel)⟩
theorem lw_p26 : lw_okq (⟨"LampWallModel", "light", "(I)I"⟩, 31) := ⟨⟨by decide +kernel, by decide +kernel⟩, List.mem_of_getElem? (i := 519) (by decide +kernel), List.mem_of_getElem? (i := 681) (by decide +kernel), List.mem_of_getElem? (i := 682) (by decide +kernel)⟩
theorem lw_p27 : lw_okq (⟨"LampWallModel", "darkOf", "(I)I"⟩, 31) := ⟨⟨by decide +kernel, by decide +kernel⟩, List.mem_of_getElem? (i := 519) (by decide +kernel), List.mem_of_getElem? (i := 688) (by decide +kernel), List.mem_of_getElem? (i := 689) (by decide +kernel)⟩
theorem lw_p28 : lw_okq (⟨"LampWallModel", "litOf", "(I)I"⟩, 31) := ⟨⟨by decide +kernel, by decide +kernel⟩, List.mem_of_getElem? (i := 519) (by decide +kernel), List.mem_of_getElem? (i := 692) (by decide +kernel), List.mem_of_getElem? (i := 693) (by decide +kernel)⟩
theorem lw_p29 : lw_okq (⟨"LampWallModel", "litBy", "(I)I"⟩, 31) := ⟨⟨by decide +kernel, by decide +kernel⟩, List.mem_of_getElem? (i := 519) (by decide +kernel), List.mem_of_getElem? (i := 696) (by decide +kernel), List.mem_of_getElem? (i := 697) (by decide +kernel)⟩
theorem lw_p30 : lw_okq (⟨"LampWallModel", "turnsOf", "(I)I"⟩, 31) := ⟨⟨by decide +kernel, by decide +kernel⟩, List.mem_of_getElem? (i := 519) (by decide +kernel), List.mem_of_getElem? (i := 700) (by decide +kernel), List.mem_of_getElem? (i := 701) (by decide +kernel)⟩
theorem lw_p31 : lw_okq (⟨"LampWallModel", "ghostsOf", "(I)I"⟩, 31) := ⟨⟨by decide +kernel, by decide +kernel⟩, List.mem_of_getElem? (i := 519) (by decide +kernel), List.mem_of_getElem? (i := 704) (by decide +kernel), List.mem_of_getElem? (i := 705) (by decide +kernel)⟩
def lw_privs_2 : List (MethodName × Nat) := [(⟨"LampWall", "switchLent", "(I)I"⟩, 7), (⟨"LampWallModel", "refused", "(I)I"⟩, 31), (⟨"LampWallModel", "cellsBarred", "(IIIJ)I"⟩, 31), (⟨"LampWallModel", "failed", "(I)I"⟩, 31), (⟨"LampWallModel", "readsWall", "(II)Z"⟩, 31), (⟨"LampWallModel", "codeAt", "(II)I"⟩, 31), (⟨"LampWallModel", "readsModule", "(II)Z"⟩, 31), (⟨"LampWallModel", "noModule", "(I)Z"⟩, 31), (⟨"LampWallModel", "noLamp", "(I)Z"⟩, 31), (⟨"LampWallModel", "frames", "()V"⟩, 31), (⟨"LampWallModel", "light", "(I)I"⟩, 31), (⟨"LampWallModel", "darkOf", "(I)I"⟩, 31), (⟨"LampWallModel", "litOf", "(I)I"⟩, 31), (⟨"LampWallModel", "litBy", "(I)I"⟩, 31), (⟨"LampWallModel", "turnsOf", "(I)I"⟩, 31), (⟨"LampWallModel", "ghostsOf", "(I)I"⟩, 31)]
theorem lw_r2 : ∀ q ∈ lw_privs_2, lw_okq q := List.forall_mem_cons.mpr ⟨lw_p16, List.forall_mem_cons.mpr ⟨lw_p17, List.forall_mem_cons.mpr ⟨lw_p18, List.forall_mem_cons.mpr ⟨lw_p19, List.forall_mem_cons.mpr ⟨lw_p20, List.forall_mem_cons.mpr ⟨lw_p21, List.forall_mem_cons.mpr ⟨lw_p22, List.forall_mem_cons.mpr ⟨lw_p23, List.forall_mem_cons.mpr ⟨lw_p24, List.forall_mem_cons.mpr ⟨lw_p25, List.forall_mem_cons.mpr ⟨lw_p26, List.forall_mem_cons.mpr ⟨lw_p27, List.forall_mem_cons.mpr ⟨lw_p28, List.forall_mem_cons.mpr ⟨lw_p29, List.forall_mem_cons.mpr ⟨lw_p30, List.forall_mem_cons.mpr ⟨lw_p31, fun _ h => absurd h List.not_mem_nil⟩⟩⟩⟩⟩⟩⟩⟩⟩⟩⟩⟩⟩⟩⟩⟩
theorem lw_p32 : lw_okq (⟨"LampWallModel", "litIn", "(I)I"⟩, 31) := ⟨⟨by decide +kernel, by decide +kernel⟩, List.mem_of_getElem? (i := 519) (by decide +kernel), List.mem_of_getElem? (i := 733) (by decide +kernel), List.mem_of_getElem? (i := 734) (by decide +kernel)⟩
theorem lw_p33 : lw_okq (⟨"LampWallModel", "ghostsIn", "(I)I"⟩, 31) := ⟨⟨by decide +kernel, by decide +kernel⟩, List.mem_of_getElem? (i := 519) (by decide +kernel), List.mem_of_getElem? (i := 740) (by decide +kernel), List.mem_of_getElem? (i := 741) (by decide +kernel)⟩
theorem lw_p34 : lw_okq (⟨"LampWallModel", "slicesOf", "(I)I"⟩, 31) := ⟨⟨by decide +kernel, by decide +kernel⟩, List.mem_of_getElem? (i := 519) (by decide +kernel), List.mem_of_getElem? (i := 749) (by decide +kernel), List.mem_of_getElem? (i := 750) (by decide +kernel)⟩
theorem lw_p35 : lw_okq (⟨"LampWallModel", "greatest", "(I)I"⟩, 31) := ⟨⟨by decide +kernel, by decide +kernel⟩, List.mem_of_getElem? (i := 519) (by decide +kernel), List.mem_of_getElem? (i := 758) (by decide +kernel), List.mem_of_getElem? (i := 759) (by decide +kernel)⟩
theorem lw_p36 : lw_okq (⟨"LampWallModel", "darkBy", "(I)I"⟩, 31) := ⟨⟨by decide +kernel, by decide +kernel⟩, List.mem_of_getElem? (i := 519) (by decide +kernel), List.mem_of_getElem? (i := 766) (by decide +kernel), List.mem_of_getElem? (i := 767) (by decide +kernel)⟩
theorem lw_p37 : lw_okq (⟨"LampWallModel", "darkOfAll", "()I"⟩, 31) := ⟨⟨by decide +kernel, by decide +kernel⟩, List.mem_of_getElem? (i := 519) (by decide +kernel), List.mem_of_getElem? (i := 770) (by decide +kernel), List.mem_of_getElem? (i := 771) (by decide +kernel)⟩
theorem lw_p38 : lw_okq (⟨"LampWallModel", "dayOf", "(III)I"⟩, 31) := ⟨⟨by decide +kernel, by decide +kernel⟩, List.mem_of_getElem? (i := 519) (by decide +kernel), List.mem_of_getElem? (i := 791) (by decide +kernel), List.mem_of_getElem? (i := 792) (by decide +kernel)⟩
theorem lw_p39 : lw_okq (⟨"LampWallModel", "doesPair", "(II)Z"⟩, 31) := ⟨⟨by decide +kernel, by decide +kernel⟩, List.mem_of_getElem? (i := 519) (by decide +kernel), List.mem_of_getElem? (i := 795) (by decide +kernel), List.mem_of_getElem? (i := 796) (by decide +kernel)⟩
theorem lw_p40 : lw_okq (⟨"LampWallModel", "lightOfAll", "()I"⟩, 31) := ⟨⟨by decide +kernel, by decide +kernel⟩, List.mem_of_getElem? (i := 519) (by decide +kernel), List.mem_of_getElem? (i := 802) (by decide +kernel), List.mem_of_getElem? (i := 803) (by decide +kernel)⟩
theorem lw_p41 : lw_okq (⟨"LampWallModel", "areSo", "()Z"⟩, 31) := ⟨⟨by decide +kernel, by decide +kernel⟩, List.mem_of_getElem? (i := 519) (by decide +kernel), List.mem_of_getElem? (i := 818) (by decide +kernel), List.mem_of_getElem? (i := 819) (by decide +kernel)⟩
theorem lw_p42 : lw_okq (⟨"LampWallModel", "addsLamp", "(I)V"⟩, 31) := ⟨⟨by decide +kernel, by decide +kernel⟩, List.mem_of_getElem? (i := 519) (by decide +kernel), List.mem_of_getElem? (i := 841) (by decide +kernel), List.mem_of_getElem? (i := 842) (by decide +kernel)⟩
theorem lw_p43 : lw_okq (⟨"LampWallModel", "noCell", "(II)I"⟩, 31) := ⟨⟨by decide +kernel, by decide +kernel⟩, List.mem_of_getElem? (i := 519) (by decide +kernel), List.mem_of_getElem? (i := 860) (by decide +kernel), List.mem_of_getElem? (i := 861) (by decide +kernel)⟩
theorem lw_p44 : lw_okq (⟨"LampWallModel", "failedLong", "(I)J"⟩, 31) := ⟨⟨by decide +kernel, by decide +kernel⟩, List.mem_of_getElem? (i := 519) (by decide +kernel), List.mem_of_getElem? (i := 868) (by decide +kernel), List.mem_of_getElem? (i := 869) (by decide +kernel)⟩
theorem lw_p45 : lw_okq (⟨"LampWallModel", "traced", "(I)V"⟩, 31) := ⟨⟨by decide +kernel, by decide +kernel⟩, List.mem_of_getElem? (i := 519) (by decide +kernel), List.mem_of_getElem? (i := 880) (by decide +kernel), List.mem_of_getElem? (i := 881) (by decide +kernel)⟩
def lw_privs_3 : List (MethodName × Nat) := [(⟨"LampWallModel", "litIn", "(I)I"⟩, 31), (⟨"LampWallModel", "ghostsIn", "(I)I"⟩, 31), (⟨"LampWallModel", "slicesOf", "(I)I"⟩, 31), (⟨"LampWallModel", "greatest", "(I)I"⟩, 31), (⟨"LampWallModel", "darkBy", "(I)I"⟩, 31), (⟨"LampWallModel", "darkOfAll", "()I"⟩, 31), (⟨"LampWallModel", "dayOf", "(III)I"⟩, 31), (⟨"LampWallModel", "doesPair", "(II)Z"⟩, 31), (⟨"LampWallModel", "lightOfAll", "()I"⟩, 31), (⟨"LampWallModel", "areSo", "()Z"⟩, 31), (⟨"LampWallModel", "addsLamp", "(I)V"⟩, 31), (⟨"LampWallModel", "noCell", "(II)I"⟩, 31), (⟨"LampWallModel", "failedLong", "(I)J"⟩, 31), (⟨"LampWallModel", "traced", "(I)V"⟩, 31)]
theorem lw_r3 : ∀ q ∈ lw_privs_3, lw_okq q := List.forall_mem_cons.mpr ⟨lw_p32, List.forall_mem_cons.mpr ⟨lw_p33, List.forall_mem_cons.mpr ⟨lw_p34, List.forall_mem_cons.mpr ⟨lw_p35, List.forall_mem_cons.mpr ⟨lw_p36, List.forall_mem_cons.mpr ⟨lw_p37, List.forall_mem_cons.mpr ⟨lw_p38, List.forall_mem_cons.mpr ⟨lw_p39, List.forall_mem_cons.mpr ⟨lw_p40, List.forall_mem_cons.mpr ⟨lw_p41, List.forall_mem_cons.mpr ⟨lw_p42, List.forall_mem_cons.mpr ⟨lw_p43, List.forall_mem_cons.mpr ⟨lw_p44, List.forall_mem_cons.mpr ⟨lw_p45, fun _ h => absurd h List.not_mem_nil⟩⟩⟩⟩⟩⟩⟩⟩⟩⟩⟩⟩⟩⟩
def lw_privs : List (MethodName × Nat) := lw_privs_1 ++ (lw_privs_2 ++ (lw_privs_3))
def lw_tbl : List Cond := k2_sels lw_privs ++ tables_1
theorem lw_privs_ok : ∀ q ∈ lw_privs, lw_okq q := by
  show ∀ q ∈ lw_privs_1 ++ (lw_privs_2 ++ (lw_privs_3)), lw_okq q
  exact List.forall_mem_append.mpr ⟨lw_r1, List.forall_mem_append.mpr ⟨lw_r2, lw_r3⟩⟩
-- ===== end of PART A; then your names; then what follows =====
end
section
def RX0 : String := "LampWall$Readings"
def TX0 : u_T := fun k => match k with
  | 0 => ("LampWall$Readings", "unit", "[I", true)
  | 1 => ("LampWall$Readings", "lamp", "[I", true)
  | 2 => ("LampWall$Readings", "lit", "[Z", true)
  | _ => ("LampWall$Readings", "count", "I", false)
def tyX0 : Nat → FieldType := fun k => match k with
  | 0 => .array .int
  | 1 => .array .int
  | 2 => .array .boolean
  | _ => .int
abbrev wsX00 : List Cond := u_ws RX0 TX0 4
theorem nmX0 : ∀ a, a < 4 → ∀ b, b < 4 → a ≠ b → (TX0 a).2.1 ≠ (TX0 b).2.1 := by decide +kernel
theorem tyX0_ok : ∀ k, k < 4 → parseFieldDescriptor (TX0 k).2.2.1 = some (tyX0 k) := by decide +kernel
abbrev cX0_init : ByteArray := prog_2_method_1_code
def yX0_init : MethodName := ⟨RX0, "<init>", "()V"⟩
abbrev cX0_note : ByteArray := prog_2_method_2_code
def yX0_note : MethodName := ⟨RX0, "note", "(IIZ)I"⟩
abbrev cX0_holdFor : ByteArray := prog_2_method_3_code
def yX0_holdFor : MethodName := ⟨RX0, "holdFor", "(LLampWall$Wall;)Z"⟩
def RX1 : String := "LampWall$Sheet"
def TX1 : u_T := fun k => match k with
  | 0 => ("LampWall$Sheet", "cells", "[I", true)
  | 1 => ("LampWall$Sheet", "hasRow", "Z", false)
  | 2 => ("LampWall$Sheet", "lane", "I", false)
  | _ => ("LampWall$Sheet", "length", "I", false)
def tyX1 : Nat → FieldType := fun k => match k with
  | 0 => .array .int
  | 1 => .boolean
  | 2 => .int
  | _ => .int
abbrev wsX10 : List Cond := u_ws RX1 TX1 4
theorem nmX1 : ∀ a, a < 4 → ∀ b, b < 4 → a ≠ b → (TX1 a).2.1 ≠ (TX1 b).2.1 := by decide +kernel
theorem tyX1_ok : ∀ k, k < 4 → parseFieldDescriptor (TX1 k).2.2.1 = some (tyX1 k) := by decide +kernel
abbrev cX1_init : ByteArray := prog_3_method_1_code
def yX1_init : MethodName := ⟨RX1, "<init>", "()V"⟩
abbrev cX1_begin : ByteArray := prog_3_method_2_code
def yX1_begin : MethodName := ⟨RX1, "begin", "(II)V"⟩
abbrev cX1_holds : ByteArray := prog_3_method_3_code
def yX1_holds : MethodName := ⟨RX1, "holds", "(II)Z"⟩
abbrev cX1_faultOfCells : ByteArray := prog_3_method_4_code
def yX1_faultOfCells : MethodName := ⟨RX1, "faultOfCells", "(III)I"⟩
abbrev cX1_cutToLane : ByteArray := prog_3_method_5_code
def yX1_cutToLane : MethodName := ⟨RX1, "cutToLane", "(I)I"⟩
def RX2 : String := "LampWall$Wall"
def TX2 : u_T := fun k => match k with
  | 0 => ("LampWall$Wall", "kind", "[I", true)
  | 1 => ("LampWall$Wall", "first", "[I", true)
  | 2 => ("LampWall$Wall", "size", "[I", true)
  | 3 => ("LampWall$Wall", "dead", "[Z", true)
  | 4 => ("LampWall$Wall", "level", "[I", true)
  | 5 => ("LampWall$Wall", "home", "[I", true)
  | 6 => ("LampWall$Wall", "planeOf", "[I", true)
  | 7 => ("LampWall$Wall", "sliceOf", "[I", true)
  | 8 => ("LampWall$Wall", "modules", "I", false)
  | 9 => ("LampWall$Wall", "lamps", "I", false)
  | _ => ("LampWall$Wall", "cutUnits", "I", false)
def tyX2 : Nat → FieldType := fun k => match k with
  | 0 => .array .int
  | 1 => .array .int
  | 2 => .array .int
  | 3 => .array .boolean
  | 4 => .array .int
  | 5 => .array .int
  | 6 => .array .int
  | 7 => .array .int
  | 8 => .int
  | 9 => .int
  | _ => .int
abbrev wsX20 : List Cond := u_ws RX2 TX2 11
theorem nmX2 : ∀ a, a < 11 → ∀ b, b < 11 → a ≠ b → (TX2 a).2.1 ≠ (TX2 b).2.1 := by decide +kernel
theorem tyX2_ok : ∀ k, k < 11 → parseFieldDescriptor (TX2 k).2.2.1 = some (tyX2 k) := by decide +kernel
abbrev cX2_init : ByteArray := prog_4_method_1_code
def yX2_init : MethodName := ⟨RX2, "<init>", "()V"⟩
abbrev cX2_stands : ByteArray := prog_4_method_2_code
def yX2_stands : MethodName := ⟨RX2, "stands", "()Z"⟩
abbrev cX2_hasModule : ByteArray := prog_4_method_3_code
def yX2_hasModule : MethodName := ⟨RX2, "hasModule", "(I)Z"⟩
abbrev cX2_hasLamp : ByteArray := prog_4_method_4_code
def yX2_hasLamp : MethodName := ⟨RX2, "hasLamp", "(I)Z"⟩
abbrev cX2_becomeLike : ByteArray := prog_4_method_5_code
def yX2_becomeLike : MethodName := ⟨RX2, "becomeLike", "(LLampWall$Wall;)V"⟩
abbrev cX2_readText : ByteArray := prog_4_method_6_code
def yX2_readText : MethodName := ⟨RX2, "readText", "(LLampWall$Sheet;II)I"⟩
abbrev cX2_takeCode : ByteArray := prog_4_method_7_code
def yX2_takeCode : MethodName := ⟨RX2, "takeCode", "(II)I"⟩
abbrev cX2_takeCut : ByteArray := prog_4_method_8_code
def yX2_takeCut : MethodName := ⟨RX2, "takeCut", "(I)I"⟩
abbrev cX2_takeLetter : ByteArray := prog_4_method_9_code
def yX2_takeLetter : MethodName := ⟨RX2, "takeLetter", "(I)I"⟩
abbrev cX2_addModule : ByteArray := prog_4_method_10_code
def yX2_addModule : MethodName := ⟨RX2, "addModule", "(I)I"⟩
abbrev cX2_takeLevel : ByteArray := prog_4_method_11_code
def yX2_takeLevel : MethodName := ⟨RX2, "takeLevel", "(I)I"⟩
abbrev cX2_takeMore : ByteArray := prog_4_method_12_code
def yX2_takeMore : MethodName := ⟨RX2, "takeMore", "(I)I"⟩
abbrev cX2_placeAmongLiving : ByteArray := prog_4_method_13_code
def yX2_placeAmongLiving : MethodName := ⟨RX2, "placeAmongLiving", "(I)I"⟩
abbrev cX2_deadModules : ByteArray := prog_4_method_14_code
def yX2_deadModules : MethodName := ⟨RX2, "deadModules", "()I"⟩
abbrev cX2_levelsTogether : ByteArray := prog_4_method_15_code
def yX2_levelsTogether : MethodName := ⟨RX2, "levelsTogether", "(I)I"⟩
abbrev cX2_takeLevels : ByteArray := prog_4_method_16_code
def yX2_takeLevels : MethodName := ⟨RX2, "takeLevels", "(LLampWall$Sheet;II)I"⟩
abbrev cX2_live : ByteArray := prog_4_method_17_code
def yX2_live : MethodName := ⟨RX2, "live", "(LLampWall$Sheet;II)I"⟩
abbrev cX2_canAct : ByteArray := prog_4_method_18_code
def yX2_canAct : MethodName := ⟨RX2, "canAct", "(II)Z"⟩
abbrev cX2_layFrame : ByteArray := prog_4_method_19_code
def yX2_layFrame : MethodName := ⟨RX2, "layFrame", "(I)V"⟩
abbrev cX2_slicesOf : ByteArray := prog_4_method_20_code
def yX2_slicesOf : MethodName := ⟨RX2, "slicesOf", "(I)I"⟩
abbrev cX2_lightOf : ByteArray := prog_4_method_21_code
def yX2_lightOf : MethodName := ⟨RX2, "lightOf", "(I)I"⟩
abbrev cX2_lightTogether : ByteArray := prog_4_method_22_code
def yX2_lightTogether : MethodName := ⟨RX2, "lightTogether", "()I"⟩
abbrev cX2_isLit : ByteArray := prog_4_method_23_code
def yX2_isLit : MethodName := ⟨RX2, "isLit", "(II)Z"⟩
abbrev cX2_litUnits : ByteArray := prog_4_method_24_code
def yX2_litUnits : MethodName := ⟨RX2, "litUnits", "(I)I"⟩
abbrev cX2_litLamps : ByteArray := prog_4_method_25_code
def yX2_litLamps : MethodName := ⟨RX2, "litLamps", "(I)I"⟩
abbrev cX2_currentOf : ByteArray := prog_4_method_26_code
def yX2_currentOf : MethodName := ⟨RX2, "currentOf", "(I)I"⟩
abbrev cX2_greatestCurrentDimmed : ByteArray := prog_4_method_27_code
def yX2_greatestCurrentDimmed : MethodName := ⟨RX2, "greatestCurrentDimmed", "(I)I"⟩
abbrev cX2_darkTogether : ByteArray := prog_4_method_28_code
def yX2_darkTogether : MethodName := ⟨RX2, "darkTogether", "()I"⟩
abbrev cX2_ghostUnits : ByteArray := prog_4_method_29_code
def yX2_ghostUnits : MethodName := ⟨RX2, "ghostUnits", "(I)I"⟩
abbrev cX2_ghostsIn : ByteArray := prog_4_method_30_code
def yX2_ghostsIn : MethodName := ⟨RX2, "ghostsIn", "(I)I"⟩
abbrev cX2_ghostsTogether : ByteArray := prog_4_method_31_code
def yX2_ghostsTogether : MethodName := ⟨RX2, "ghostsTogether", "()I"⟩
def RX3 : String := "LampWall"
def TX3 : u_T := fun k => match k with
  | 0 => ("LampWall", "rows", "[LLampWall$Sheet;", true)
  | 1 => ("LampWall", "now", "LLampWall$Wall;", true)
  | 2 => ("LampWall", "tried", "LLampWall$Wall;", true)
  | 3 => ("LampWall", "read", "LLampWall$Readings;", true)
  | 4 => ("LampWall", "ways", "[J", true)
  | 5 => ("LampWall", "traced", "I", false)
  | _ => ("LampWall", "lastFault", "I", false)
def tyX3 : Nat → FieldType := fun k => match k with
  | 0 => .array (.object "LampWall$Sheet")
  | 1 => .object "LampWall$Wall"
  | 2 => .object "LampWall$Wall"
  | 3 => .object "LampWall$Readings"
  | 4 => .array .long
  | 5 => .int
  | _ => .int
abbrev wsX30 : List Cond := u_ws RX3 TX3 7
theorem nmX3 : ∀ a, a < 7 → ∀ b, b < 7 → a ≠ b → (TX3 a).2.1 ≠ (TX3 b).2.1 := by decide +kernel
theorem tyX3_ok : ∀ k, k < 7 → parseFieldDescriptor (TX3 k).2.2.1 = some (tyX3 k) := by decide +kernel
abbrev cX3_init : ByteArray := prog_1_method_1_code
def yX3_init : MethodName := ⟨RX3, "<init>", "()V"⟩
abbrev cX3_wall : ByteArray := prog_1_method_2_code
def yX3_wall : MethodName := ⟨RX3, "wall", "(IIII)I"⟩
abbrev cX3_ofModule : ByteArray := prog_1_method_3_code
def yX3_ofModule : MethodName := ⟨RX3, "ofModule", "(II)I"⟩
abbrev cX3_ofLamp : ByteArray := prog_1_method_4_code
def yX3_ofLamp : MethodName := ⟨RX3, "ofLamp", "(II)I"⟩
abbrev cX3_level : ByteArray := prog_1_method_5_code
def yX3_level : MethodName := ⟨RX3, "level", "(II)I"⟩
abbrev cX3_die : ByteArray := prog_1_method_6_code
def yX3_die : MethodName := ⟨RX3, "die", "(I)I"⟩
abbrev cX3_cut : ByteArray := prog_1_method_7_code
def yX3_cut : MethodName := ⟨RX3, "cut", "(I)I"⟩
abbrev cX3_ofUnit : ByteArray := prog_1_method_8_code
def yX3_ofUnit : MethodName := ⟨RX3, "ofUnit", "(II)I"⟩
abbrev cX3_slices : ByteArray := prog_1_method_9_code
def yX3_slices : MethodName := ⟨RX3, "slices", "(I)I"⟩
abbrev cX3_bears : ByteArray := prog_1_method_10_code
def yX3_bears : MethodName := ⟨RX3, "bears", "(I)I"⟩
abbrev cX3_steadiest : ByteArray := prog_1_method_11_code
def yX3_steadiest : MethodName := ⟨RX3, "steadiest", "(I)I"⟩
abbrev cX3_send : ByteArray := prog_1_method_12_code
def yX3_send : MethodName := ⟨RX3, "send", "(IIII)I"⟩
abbrev cX3_day : ByteArray := prog_1_method_13_code
def yX3_day : MethodName := ⟨RX3, "day", "(IIIII)I"⟩
abbrev cX3_reading : ByteArray := prog_1_method_14_code
def yX3_reading : MethodName := ⟨RX3, "reading", "(III)I"⟩
abbrev cX3_back : ByteArray := prog_1_method_15_code
def yX3_back : MethodName := ⟨RX3, "back", "(I)I"⟩
abbrev cX3_kinds : ByteArray := prog_1_method_16_code
def yX3_kinds : MethodName := ⟨RX3, "kinds", "(I)I"⟩
abbrev cX3_levels : ByteArray := prog_1_method_17_code
def yX3_levels : MethodName := ⟨RX3, "levels", "(I)I"⟩
abbrev cX3_cuts : ByteArray := prog_1_method_18_code
def yX3_cuts : MethodName := ⟨RX3, "cuts", "()I"⟩
abbrev cX3_odds : ByteArray := prog_1_method_19_code
def yX3_odds : MethodName := ⟨RX3, "odds", "(III)J"⟩
abbrev cX3_sheet : ByteArray := prog_1_method_20_code
def yX3_sheet : MethodName := ⟨RX3, "sheet", "(III)I"⟩
abbrev cX3_lose : ByteArray := prog_1_method_21_code
def yX3_lose : MethodName := ⟨RX3, "lose", "(I)I"⟩
abbrev cX3_put : ByteArray := prog_1_method_22_code
def yX3_put : MethodName := ⟨RX3, "put", "(III)I"⟩
abbrev cX3_cell : ByteArray := prog_1_method_23_code
def yX3_cell : MethodName := ⟨RX3, "cell", "(III)J"⟩
abbrev cX3_copy : ByteArray := prog_1_method_24_code
def yX3_copy : MethodName := ⟨RX3, "copy", "(IIIII)I"⟩
abbrev cX3_tell : ByteArray := prog_1_method_25_code
def yX3_tell : MethodName := ⟨RX3, "tell", "(I)I"⟩
abbrev cX3_switchOn : ByteArray := prog_1_method_26_code
def yX3_switchOn : MethodName := ⟨RX3, "switchOn", "(I)I"⟩
abbrev cX3_as : ByteArray := prog_1_method_27_code
def yX3_as : MethodName := ⟨RX3, "as", "(II)I"⟩
abbrev cX3_trace : ByteArray := prog_1_method_28_code
def yX3_trace : MethodName := ⟨RX3, "trace", "()I"⟩
abbrev cX3_fault : ByteArray := prog_1_method_29_code
def yX3_fault : MethodName := ⟨RX3, "fault", "()I"⟩
abbrev cX3_many : ByteArray := prog_1_method_30_code
def yX3_many : MethodName := ⟨RX3, "many", "(I)I"⟩
abbrev cX3_faulted : ByteArray := prog_1_method_31_code
def yX3_faulted : MethodName := ⟨RX3, "faulted", "(I)I"⟩
abbrev cX3_isSheet : ByteArray := prog_1_method_32_code
def yX3_isSheet : MethodName := ⟨RX3, "isSheet", "(I)Z"⟩
abbrev cX3_isLane : ByteArray := prog_1_method_33_code
def yX3_isLane : MethodName := ⟨RX3, "isLane", "(I)Z"⟩
abbrev cX3_isUnit : ByteArray := prog_1_method_34_code
def yX3_isUnit : MethodName := ⟨RX3, "isUnit", "(I)Z"⟩
abbrev cX3_isLevel : ByteArray := prog_1_method_35_code
def yX3_isLevel : MethodName := ⟨RX3, "isLevel", "(I)Z"⟩
abbrev cX3_isCut : ByteArray := prog_1_method_36_code
def yX3_isCut : MethodName := ⟨RX3, "isCut", "(I)Z"⟩
abbrev cX3_isOfDay : ByteArray := prog_1_method_37_code
def yX3_isOfDay : MethodName := ⟨RX3, "isOfDay", "(I)Z"⟩
abbrev cX3_isAct : ByteArray := prog_1_method_38_code
def yX3_isAct : MethodName := ⟨RX3, "isAct", "(II)Z"⟩
abbrev cX3_endOfDay : ByteArray := prog_1_method_39_code
def yX3_endOfDay : MethodName := ⟨RX3, "endOfDay", "(I)I"⟩
abbrev cX3_countWays : ByteArray := prog_1_method_40_code
def yX3_countWays : MethodName := ⟨RX3, "countWays", "(I)V"⟩
abbrev cX3_addLampToWays : ByteArray := prog_1_method_41_code
def yX3_addLampToWays : MethodName := ⟨RX3, "addLampToWays", "(I)V"⟩
abbrev cX3_levelsThatLight : ByteArray := prog_1_method_42_code
def yX3_levelsThatLight : MethodName := ⟨RX3, "levelsThatLight", "(II)I"⟩
abbrev cX3_greatestDivisor : ByteArray := prog_1_method_43_code
def yX3_greatestDivisor : MethodName := ⟨RX3, "greatestDivisor", "(JJ)J"⟩
abbrev cX3_hasBit : ByteArray := prog_1_method_44_code
def yX3_hasBit : MethodName := ⟨RX3, "hasBit", "(II)Z"⟩
abbrev cX3_lightBy : ByteArray := prog_1_method_45_code
def yX3_lightBy : MethodName := ⟨RX3, "lightBy", "(II)I"⟩
abbrev cX3_darkestStretch : ByteArray := prog_1_method_46_code
def yX3_darkestStretch : MethodName := ⟨RX3, "darkestStretch", "(I)I"⟩
abbrev cX3_turnsOf : ByteArray := prog_1_method_47_code
def yX3_turnsOf : MethodName := ⟨RX3, "turnsOf", "(I)I"⟩
abbrev cX3_leaveTrace : ByteArray := prog_1_method_48_code
def yX3_leaveTrace : MethodName := ⟨RX3, "leaveTrace", "(I)V"⟩
abbrev cX3_tellPlain : ByteArray := prog_1_method_49_code
def yX3_tellPlain : MethodName := ⟨RX3, "tellPlain", "(I)I"⟩
abbrev cX3_tellHalved : ByteArray := prog_1_method_50_code
def yX3_tellHalved : MethodName := ⟨RX3, "tellHalved", "(I)I"⟩
abbrev cX3_tellBright : ByteArray := prog_1_method_51_code
def yX3_tellBright : MethodName := ⟨RX3, "tellBright", "(I)I"⟩
abbrev cX3_switchLent : ByteArray := prog_1_method_52_code
def yX3_switchLent : MethodName := ⟨RX3, "switchLent", "(I)I"⟩
abbrev cX3_switchBright : ByteArray := prog_1_method_53_code
def yX3_switchBright : MethodName := ⟨RX3, "switchBright", "()I"⟩
def RX4 : String := "LampWallModel"
def TX4 : u_T := fun k => match k with
  | 0 => ("LampWallModel", "fault", "I", false)
  | 1 => ("LampWallModel", "modules", "I", false)
  | 2 => ("LampWallModel", "lamps", "I", false)
  | 3 => ("LampWallModel", "cutNow", "I", false)
  | 4 => ("LampWallModel", "kindOf", "[I", true)
  | 5 => ("LampWallModel", "firstOf", "[I", true)
  | 6 => ("LampWallModel", "sizeOf", "[I", true)
  | 7 => ("LampWallModel", "deadOf", "[I", true)
  | 8 => ("LampWallModel", "levelOf", "[I", true)
  | 9 => ("LampWallModel", "moduleOf", "[I", true)
  | 10 => ("LampWallModel", "readAt", "I", false)
  | 11 => ("LampWallModel", "readCut", "I", false)
  | 12 => ("LampWallModel", "readModules", "I", false)
  | 13 => ("LampWallModel", "readLamps", "I", false)
  | 14 => ("LampWallModel", "readKind", "[I", true)
  | 15 => ("LampWallModel", "readSize", "[I", true)
  | 16 => ("LampWallModel", "readLevel", "[I", true)
  | 17 => ("LampWallModel", "planeAt", "[I", true)
  | 18 => ("LampWallModel", "sliceAt", "[I", true)
  | 19 => ("LampWallModel", "hadLevel", "[I", true)
  | 20 => ("LampWallModel", "hadDead", "[I", true)
  | 21 => ("LampWallModel", "readings", "I", false)
  | 22 => ("LampWallModel", "readingAt", "[I", true)
  | 23 => ("LampWallModel", "readingOf", "[I", true)
  | 24 => ("LampWallModel", "readingIs", "[I", true)
  | 25 => ("LampWallModel", "rowsOf", "[J", true)
  | 26 => ("LampWallModel", "sheetSize", "[I", true)
  | 27 => ("LampWallModel", "sheetLane", "[I", true)
  | 28 => ("LampWallModel", "sheet", "[I", true)
  | 29 => ("LampWallModel", "hands", "[I", true)
  | _ => ("LampWallModel", "traceNow", "I", false)
def tyX4 : Nat → FieldType := fun k => match k with
  | 0 => .int
  | 1 => .int
  | 2 => .int
  | 3 => .int
  | 4 => .array .int
  | 5 => .array .int
  | 6 => .array .int
  | 7 => .array .int
  | 8 => .array .int
  | 9 => .array .int
  | 10 => .int
  | 11 => .int
  | 12 => .int
  | 13 => .int
  | 14 => .array .int
  | 15 => .array .int
  | 16 => .array .int
  | 17 => .array .int
  | 18 => .array .int
  | 19 => .array .int
  | 20 => .array .int
  | 21 => .int
  | 22 => .array .int
  | 23 => .array .int
  | 24 => .array .int
  | 25 => .array .long
  | 26 => .array .int
  | 27 => .array .int
  | 28 => .array .int
  | 29 => .array .int
  | _ => .int
abbrev wsX40 : List Cond := u_ws RX4 TX4 31
theorem nmX4 : ∀ a, a < 31 → ∀ b, b < 31 → a ≠ b → (TX4 a).2.1 ≠ (TX4 b).2.1 := by decide +kernel
theorem tyX4_ok : ∀ k, k < 31 → parseFieldDescriptor (TX4 k).2.2.1 = some (tyX4 k) := by decide +kernel
abbrev cX4_init : ByteArray := prog_6_method_1_code
def yX4_init : MethodName := ⟨RX4, "<init>", "()V"⟩
abbrev cX4_in : ByteArray := prog_6_method_2_code
def yX4_in : MethodName := ⟨RX4, "in", "(JJJ)Z"⟩
abbrev cX4_lost : ByteArray := prog_6_method_3_code
def yX4_lost : MethodName := ⟨RX4, "lost", "()J"⟩
abbrev cX4_bits : ByteArray := prog_6_method_4_code
def yX4_bits : MethodName := ⟨RX4, "bits", "(I)I"⟩
abbrev cX4_share : ByteArray := prog_6_method_5_code
def yX4_share : MethodName := ⟨RX4, "share", "(JJI)J"⟩
abbrev cX4_refused : ByteArray := prog_6_method_6_code
def yX4_refused : MethodName := ⟨RX4, "refused", "(I)I"⟩
abbrev cX4_failed : ByteArray := prog_6_method_7_code
def yX4_failed : MethodName := ⟨RX4, "failed", "(I)I"⟩
abbrev cX4_failedLong : ByteArray := prog_6_method_8_code
def yX4_failedLong : MethodName := ⟨RX4, "failedLong", "(I)J"⟩
abbrev cX4_noModule : ByteArray := prog_6_method_9_code
def yX4_noModule : MethodName := ⟨RX4, "noModule", "(I)Z"⟩
abbrev cX4_noLamp : ByteArray := prog_6_method_10_code
def yX4_noLamp : MethodName := ⟨RX4, "noLamp", "(I)Z"⟩
abbrev cX4_codeAt : ByteArray := prog_6_method_11_code
def yX4_codeAt : MethodName := ⟨RX4, "codeAt", "(II)I"⟩
abbrev cX4_readsModule : ByteArray := prog_6_method_12_code
def yX4_readsModule : MethodName := ⟨RX4, "readsModule", "(II)Z"⟩
abbrev cX4_readsWall : ByteArray := prog_6_method_13_code
def yX4_readsWall : MethodName := ⟨RX4, "readsWall", "(II)Z"⟩
abbrev cX4_cellsBarred : ByteArray := prog_6_method_14_code
def yX4_cellsBarred : MethodName := ⟨RX4, "cellsBarred", "(IIIJ)I"⟩
abbrev cX4_wall : ByteArray := prog_6_method_15_code
def yX4_wall : MethodName := ⟨RX4, "wall", "(IIII)I"⟩
abbrev cX4_lightBy : ByteArray := prog_6_method_16_code
def yX4_lightBy : MethodName := ⟨RX4, "lightBy", "(II)I"⟩
abbrev cX4_light : ByteArray := prog_6_method_17_code
def yX4_light : MethodName := ⟨RX4, "light", "(I)I"⟩
abbrev cX4_lightOfAll : ByteArray := prog_6_method_18_code
def yX4_lightOfAll : MethodName := ⟨RX4, "lightOfAll", "()I"⟩
abbrev cX4_slicesOf : ByteArray := prog_6_method_19_code
def yX4_slicesOf : MethodName := ⟨RX4, "slicesOf", "(I)I"⟩
abbrev cX4_frames : ByteArray := prog_6_method_20_code
def yX4_frames : MethodName := ⟨RX4, "frames", "()V"⟩
abbrev cX4_litBy : ByteArray := prog_6_method_21_code
def yX4_litBy : MethodName := ⟨RX4, "litBy", "(I)I"⟩
abbrev cX4_litOf : ByteArray := prog_6_method_22_code
def yX4_litOf : MethodName := ⟨RX4, "litOf", "(I)I"⟩
abbrev cX4_darkOf : ByteArray := prog_6_method_23_code
def yX4_darkOf : MethodName := ⟨RX4, "darkOf", "(I)I"⟩
abbrev cX4_turnsOf : ByteArray := prog_6_method_24_code
def yX4_turnsOf : MethodName := ⟨RX4, "turnsOf", "(I)I"⟩
abbrev cX4_ghostsOf : ByteArray := prog_6_method_25_code
def yX4_ghostsOf : MethodName := ⟨RX4, "ghostsOf", "(I)I"⟩
abbrev cX4_darkOfAll : ByteArray := prog_6_method_26_code
def yX4_darkOfAll : MethodName := ⟨RX4, "darkOfAll", "()I"⟩
abbrev cX4_litIn : ByteArray := prog_6_method_27_code
def yX4_litIn : MethodName := ⟨RX4, "litIn", "(I)I"⟩
abbrev cX4_ofModule : ByteArray := prog_6_method_28_code
def yX4_ofModule : MethodName := ⟨RX4, "ofModule", "(II)I"⟩
abbrev cX4_ofLamp : ByteArray := prog_6_method_29_code
def yX4_ofLamp : MethodName := ⟨RX4, "ofLamp", "(II)I"⟩
abbrev cX4_isFigure : ByteArray := prog_6_method_30_code
def yX4_isFigure : MethodName := ⟨RX4, "isFigure", "(I)Z"⟩
abbrev cX4_level : ByteArray := prog_6_method_31_code
def yX4_level : MethodName := ⟨RX4, "level", "(II)I"⟩
abbrev cX4_die : ByteArray := prog_6_method_32_code
def yX4_die : MethodName := ⟨RX4, "die", "(I)I"⟩
abbrev cX4_isCut : ByteArray := prog_6_method_33_code
def yX4_isCut : MethodName := ⟨RX4, "isCut", "(I)Z"⟩
abbrev cX4_cut : ByteArray := prog_6_method_34_code
def yX4_cut : MethodName := ⟨RX4, "cut", "(I)I"⟩
abbrev cX4_ghostsIn : ByteArray := prog_6_method_35_code
def yX4_ghostsIn : MethodName := ⟨RX4, "ghostsIn", "(I)I"⟩
abbrev cX4_ofUnit : ByteArray := prog_6_method_36_code
def yX4_ofUnit : MethodName := ⟨RX4, "ofUnit", "(II)I"⟩
abbrev cX4_slices : ByteArray := prog_6_method_37_code
def yX4_slices : MethodName := ⟨RX4, "slices", "(I)I"⟩
abbrev cX4_greatest : ByteArray := prog_6_method_38_code
def yX4_greatest : MethodName := ⟨RX4, "greatest", "(I)I"⟩
abbrev cX4_bears : ByteArray := prog_6_method_39_code
def yX4_bears : MethodName := ⟨RX4, "bears", "(I)I"⟩
abbrev cX4_darkBy : ByteArray := prog_6_method_40_code
def yX4_darkBy : MethodName := ⟨RX4, "darkBy", "(I)I"⟩
abbrev cX4_steadiest : ByteArray := prog_6_method_41_code
def yX4_steadiest : MethodName := ⟨RX4, "steadiest", "(I)I"⟩
abbrev cX4_send : ByteArray := prog_6_method_42_code
def yX4_send : MethodName := ⟨RX4, "send", "(IIII)I"⟩
abbrev cX4_isAsTold : ByteArray := prog_6_method_43_code
def yX4_isAsTold : MethodName := ⟨RX4, "isAsTold", "(II)Z"⟩
abbrev cX4_doesPair : ByteArray := prog_6_method_44_code
def yX4_doesPair : MethodName := ⟨RX4, "doesPair", "(II)Z"⟩
abbrev cX4_dayOf : ByteArray := prog_6_method_45_code
def yX4_dayOf : MethodName := ⟨RX4, "dayOf", "(III)I"⟩
abbrev cX4_day : ByteArray := prog_6_method_46_code
def yX4_day : MethodName := ⟨RX4, "day", "(IIIII)I"⟩
abbrev cX4_reading : ByteArray := prog_6_method_47_code
def yX4_reading : MethodName := ⟨RX4, "reading", "(III)I"⟩
abbrev cX4_back : ByteArray := prog_6_method_48_code
def yX4_back : MethodName := ⟨RX4, "back", "(I)I"⟩
abbrev cX4_areSo : ByteArray := prog_6_method_49_code
def yX4_areSo : MethodName := ⟨RX4, "areSo", "()Z"⟩
abbrev cX4_kinds : ByteArray := prog_6_method_50_code
def yX4_kinds : MethodName := ⟨RX4, "kinds", "(I)I"⟩
abbrev cX4_levels : ByteArray := prog_6_method_51_code
def yX4_levels : MethodName := ⟨RX4, "levels", "(I)I"⟩
abbrev cX4_cuts : ByteArray := prog_6_method_52_code
def yX4_cuts : MethodName := ⟨RX4, "cuts", "()I"⟩
abbrev cX4_addsLamp : ByteArray := prog_6_method_53_code
def yX4_addsLamp : MethodName := ⟨RX4, "addsLamp", "(I)V"⟩
abbrev cX4_levelsLit : ByteArray := prog_6_method_54_code
def yX4_levelsLit : MethodName := ⟨RX4, "levelsLit", "(II)I"⟩
abbrev cX4_odds : ByteArray := prog_6_method_55_code
def yX4_odds : MethodName := ⟨RX4, "odds", "(III)J"⟩
abbrev cX4_noSheet : ByteArray := prog_6_method_56_code
def yX4_noSheet : MethodName := ⟨RX4, "noSheet", "(I)Z"⟩
abbrev cX4_sheet : ByteArray := prog_6_method_57_code
def yX4_sheet : MethodName := ⟨RX4, "sheet", "(III)I"⟩
abbrev cX4_lose : ByteArray := prog_6_method_58_code
def yX4_lose : MethodName := ⟨RX4, "lose", "(I)I"⟩
abbrev cX4_noCell : ByteArray := prog_6_method_59_code
def yX4_noCell : MethodName := ⟨RX4, "noCell", "(II)I"⟩
abbrev cX4_put : ByteArray := prog_6_method_60_code
def yX4_put : MethodName := ⟨RX4, "put", "(III)I"⟩
abbrev cX4_cell : ByteArray := prog_6_method_61_code
def yX4_cell : MethodName := ⟨RX4, "cell", "(III)J"⟩
abbrev cX4_isBeyond : ByteArray := prog_6_method_62_code
def yX4_isBeyond : MethodName := ⟨RX4, "isBeyond", "(IJI)Z"⟩
abbrev cX4_copy : ByteArray := prog_6_method_63_code
def yX4_copy : MethodName := ⟨RX4, "copy", "(IIIII)I"⟩
abbrev cX4_traced : ByteArray := prog_6_method_64_code
def yX4_traced : MethodName := ⟨RX4, "traced", "(I)V"⟩
abbrev cX4_tell : ByteArray := prog_6_method_65_code
def yX4_tell : MethodName := ⟨RX4, "tell", "(I)I"⟩
abbrev cX4_switchOn : ByteArray := prog_6_method_66_code
def yX4_switchOn : MethodName := ⟨RX4, "switchOn", "(I)I"⟩
abbrev cX4_as : ByteArray := prog_6_method_67_code
def yX4_as : MethodName := ⟨RX4, "as", "(II)I"⟩
abbrev cX4_trace : ByteArray := prog_6_method_68_code
def yX4_trace : MethodName := ⟨RX4, "trace", "()I"⟩
abbrev cX4_fault : ByteArray := prog_6_method_69_code
def yX4_fault : MethodName := ⟨RX4, "fault", "()I"⟩
abbrev cX4_many : ByteArray := prog_6_method_70_code
def yX4_many : MethodName := ⟨RX4, "many", "(I)I"⟩
def RJ6 : String := "java/lang/Integer"
def TJ6 : u_T := fun k => match k with
  | _ => ("", "", "", false)
def tyJ6 : Nat → FieldType := fun k => match k with
  | _ => .int
abbrev wsJ60 : List Cond := u_ws RJ6 TJ6 0
theorem nmJ6 : ∀ a, a < 0 → ∀ b, b < 0 → a ≠ b → (TJ6 a).2.1 ≠ (TJ6 b).2.1 := by decide +kernel
theorem tyJ6_ok : ∀ k, k < 0 → parseFieldDescriptor (TJ6 k).2.2.1 = some (tyJ6 k) := by decide +kernel
abbrev cJ6_bitCount_0f7a4 : ByteArray := prog_7_method_49_code
def yJ6_bitCount_0f7a4 : MethodName := ⟨RJ6, "bitCount", "(I)I"⟩
def RJ9 : String := "java/lang/Math"
def TJ9 : u_T := fun k => match k with
  | _ => ("", "", "", false)
def tyJ9 : Nat → FieldType := fun k => match k with
  | _ => .int
abbrev wsJ90 : List Cond := u_ws RJ9 TJ9 0
theorem nmJ9 : ∀ a, a < 0 → ∀ b, b < 0 → a ≠ b → (TJ9 a).2.1 ≠ (TJ9 b).2.1 := by decide +kernel
theorem tyJ9_ok : ∀ k, k < 0 → parseFieldDescriptor (TJ9 k).2.2.1 = some (tyJ9 k) := by decide +kernel
abbrev cJ9_max_7cf53 : ByteArray := prog_8_method_65_code
def yJ9_max_7cf53 : MethodName := ⟨RJ9, "max", "(II)I"⟩
abbrev cJ9_min_7cf53 : ByteArray := prog_8_method_69_code
def yJ9_min_7cf53 : MethodName := ⟨RJ9, "min", "(II)I"⟩
def RJ10 : String := "java/lang/System"
def TJ10 : u_T := fun k => match k with
  | _ => ("", "", "", false)
def tyJ10 : Nat → FieldType := fun k => match k with
  | _ => .int
abbrev wsJ100 : List Cond := u_ws RJ10 TJ10 0
theorem nmJ10 : ∀ a, a < 0 → ∀ b, b < 0 → a ≠ b → (TJ10 a).2.1 ≠ (TJ10 b).2.1 := by decide +kernel
theorem tyJ10_ok : ∀ k, k < 0 → parseFieldDescriptor (TJ10 k).2.2.1 = some (tyJ10 k) := by decide +kernel
def RJ7 : String := "java/util/Arrays"
def TJ7 : u_T := fun k => match k with
  | _ => ("", "", "", false)
def tyJ7 : Nat → FieldType := fun k => match k with
  | _ => .int
abbrev wsJ70 : List Cond := u_ws RJ7 TJ7 0
theorem nmJ7 : ∀ a, a < 0 → ∀ b, b < 0 → a ≠ b → (TJ7 a).2.1 ≠ (TJ7 b).2.1 := by decide +kernel
theorem tyJ7_ok : ∀ k, k < 0 → parseFieldDescriptor (TJ7 k).2.2.1 = some (tyJ7 k) := by decide +kernel
abbrev cJ7_fill_d0a16 : ByteArray := prog_10_method_101_code
def yJ7_fill_d0a16 : MethodName := ⟨RJ7, "fill", "([JJ)V"⟩
abbrev cJ7_fill_53178 : ByteArray := prog_10_method_103_code
def yJ7_fill_53178 : MethodName := ⟨RJ7, "fill", "([II)V"⟩
def RL : String := "LampWallLaw"
abbrev cL_law : ByteArray := code
def yL_law : MethodName := ⟨RL, "law", "([I)Z"⟩
abbrev vwCl : List vw_C := [(RX0, TX0, 4), (RX1, TX1, 4), (RX2, TX2, 11), (RX3, TX3, 7), (RX4, TX4, 31)]
end
section
theorem dX0_init_0 : decode cX0_init 0 = .ok (.aload_n 0, 1) := by decide +kernel
theorem dX0_init_1 : decode cX0_init 1 = .ok (.invokespecial 3, 3) := by decide +kernel
theorem dX0_init_4 : decode cX0_init 4 = .ok (.aload_n 0, 1) := by decide +kernel
theorem dX0_init_5 : decode cX0_init 5 = .ok (.bipush 8, 2) := by decide +kernel
theorem dX0_init_7 : decode cX0_init 7 = .ok (.newarray .int, 2) := by decide +kernel
theorem dX0_init_9 : decode cX0_init 9 = .ok (.putfield 9, 3) := by decide +kernel
theorem dX0_init_12 : decode cX0_init 12 = .ok (.aload_n 0, 1) := by decide +kernel
theorem dX0_init_13 : decode cX0_init 13 = .ok (.bipush 8, 2) := by decide +kernel
theorem dX0_init_15 : decode cX0_init 15 = .ok (.newarray .int, 2) := by decide +kernel
theorem dX0_init_17 : decode cX0_init 17 = .ok (.putfield 15, 3) := by decide +kernel
theorem dX0_init_20 : decode cX0_init 20 = .ok (.aload_n 0, 1) := by decide +kernel
theorem dX0_init_21 : decode cX0_init 21 = .ok (.bipush 8, 2) := by decide +kernel
theorem dX0_init_23 : decode cX0_init 23 = .ok (.newarray .boolean, 2) := by decide +kernel
theorem dX0_init_25 : decode cX0_init 25 = .ok (.putfield 18, 3) := by decide +kernel
theorem dX0_init_28 : decode cX0_init 28 = .ok (.aload_n 0, 1) := by decide +kernel
theorem dX0_init_29 : decode cX0_init 29 = .ok (.iconst 0, 1) := by decide +kernel
theorem dX0_init_30 : decode cX0_init 30 = .ok (.putfield 22, 3) := by decide +kernel
theorem dX0_init_33 : decode cX0_init 33 = .ok (.return_, 1) := by decide +kernel
theorem dX0_note_0 : decode cX0_note 0 = .ok (.aload_n 0, 1) := by decide +kernel
theorem dX0_note_1 : decode cX0_note 1 = .ok (.getfield 9, 3) := by decide +kernel
theorem dX0_note_4 : decode cX0_note 4 = .ok (.aload_n 0, 1) := by decide +kernel
theorem dX0_note_5 : decode cX0_note 5 = .ok (.getfield 22, 3) := by decide +kernel
theorem dX0_note_8 : decode cX0_note 8 = .ok (.iload_n 1, 1) := by decide +kernel
theorem dX0_note_9 : decode cX0_note 9 = .ok (.iastore, 1) := by decide +kernel
theorem dX0_note_10 : decode cX0_note 10 = .ok (.aload_n 0, 1) := by decide +kernel
theorem dX0_note_11 : decode cX0_note 11 = .ok (.getfield 15, 3) := by decide +kernel
theorem dX0_note_14 : decode cX0_note 14 = .ok (.aload_n 0, 1) := by decide +kernel
theorem dX0_note_15 : decode cX0_note 15 = .ok (.getfield 22, 3) := by decide +kernel
theorem dX0_note_18 : decode cX0_note 18 = .ok (.iload_n 2, 1) := by decide +kernel
theorem dX0_note_19 : decode cX0_note 19 = .ok (.iastore, 1) := by decide +kernel
theorem dX0_note_20 : decode cX0_note 20 = .ok (.aload_n 0, 1) := by decide +kernel
theorem dX0_note_21 : decode cX0_note 21 = .ok (.getfield 18, 3) := by decide +kernel
theorem dX0_note_24 : decode cX0_note 24 = .ok (.aload_n 0, 1) := by decide +kernel
theorem dX0_note_25 : decode cX0_note 25 = .ok (.getfield 22, 3) := by decide +kernel
theorem dX0_note_28 : decode cX0_note 28 = .ok (.iload_n 3, 1) := by decide +kernel
theorem dX0_note_29 : decode cX0_note 29 = .ok (.bastore, 1) := by decide +kernel
theorem dX0_note_30 : decode cX0_note 30 = .ok (.aload_n 0, 1) := by decide +kernel
theorem dX0_note_31 : decode cX0_note 31 = .ok (.dup, 1) := by decide +kernel
theorem dX0_note_32 : decode cX0_note 32 = .ok (.getfield 22, 3) := by decide +kernel
theorem dX0_note_35 : decode cX0_note 35 = .ok (.iconst 1, 1) := by decide +kernel
theorem dX0_note_36 : decode cX0_note 36 = .ok (.iadd, 1) := by decide +kernel
theorem dX0_note_37 : decode cX0_note 37 = .ok (.putfield 22, 3) := by decide +kernel
theorem dX0_note_40 : decode cX0_note 40 = .ok (.aload_n 0, 1) := by decide +kernel
theorem dX0_note_41 : decode cX0_note 41 = .ok (.getfield 22, 3) := by decide +kernel
theorem dX0_note_44 : decode cX0_note 44 = .ok (.iconst 1, 1) := by decide +kernel
theorem dX0_note_45 : decode cX0_note 45 = .ok (.isub, 1) := by decide +kernel
theorem dX0_note_46 : decode cX0_note 46 = .ok (.ireturn, 1) := by decide +kernel
theorem dX0_holdFor_0 : decode cX0_holdFor 0 = .ok (.iconst 0, 1) := by decide +kernel
theorem dX0_holdFor_1 : decode cX0_holdFor 1 = .ok (.istore_n 2, 1) := by decide +kernel
theorem dX0_holdFor_2 : decode cX0_holdFor 2 = .ok (.iload_n 2, 1) := by decide +kernel
theorem dX0_holdFor_3 : decode cX0_holdFor 3 = .ok (.aload_n 0, 1) := by decide +kernel
theorem dX0_holdFor_4 : decode cX0_holdFor 4 = .ok (.getfield 22, 3) := by decide +kernel
theorem dX0_holdFor_7 : decode cX0_holdFor 7 = .ok (.if_icmp .ge 36, 3) := by decide +kernel
theorem dX0_holdFor_10 : decode cX0_holdFor 10 = .ok (.aload_n 1, 1) := by decide +kernel
theorem dX0_holdFor_11 : decode cX0_holdFor 11 = .ok (.aload_n 0, 1) := by decide +kernel
theorem dX0_holdFor_12 : decode cX0_holdFor 12 = .ok (.getfield 15, 3) := by decide +kernel
theorem dX0_holdFor_15 : decode cX0_holdFor 15 = .ok (.iload_n 2, 1) := by decide +kernel
theorem dX0_holdFor_16 : decode cX0_holdFor 16 = .ok (.iaload, 1) := by decide +kernel
theorem dX0_holdFor_17 : decode cX0_holdFor 17 = .ok (.aload_n 0, 1) := by decide +kernel
theorem dX0_holdFor_18 : decode cX0_holdFor 18 = .ok (.getfield 9, 3) := by decide +kernel
theorem dX0_holdFor_21 : decode cX0_holdFor 21 = .ok (.iload_n 2, 1) := by decide +kernel
theorem dX0_holdFor_22 : decode cX0_holdFor 22 = .ok (.iaload, 1) := by decide +kernel
theorem dX0_holdFor_23 : decode cX0_holdFor 23 = .ok (.invokevirtual 26, 3) := by decide +kernel
theorem dX0_holdFor_26 : decode cX0_holdFor 26 = .ok (.aload_n 0, 1) := by decide +kernel
theorem dX0_holdFor_27 : decode cX0_holdFor 27 = .ok (.getfield 18, 3) := by decide +kernel
theorem dX0_holdFor_30 : decode cX0_holdFor 30 = .ok (.iload_n 2, 1) := by decide +kernel
theorem dX0_holdFor_31 : decode cX0_holdFor 31 = .ok (.baload, 1) := by decide +kernel
theorem dX0_holdFor_32 : decode cX0_holdFor 32 = .ok (.if_icmp .eq 5, 3) := by decide +kernel
theorem dX0_holdFor_35 : decode cX0_holdFor 35 = .ok (.iconst 0, 1) := by decide +kernel
theorem dX0_holdFor_36 : decode cX0_holdFor 36 = .ok (.ireturn, 1) := by decide +kernel
theorem dX0_holdFor_37 : decode cX0_holdFor 37 = .ok (.iinc 2 1, 3) := by decide +kernel
theorem dX0_holdFor_40 : decode cX0_holdFor 40 = .ok (.goto (-38), 3) := by decide +kernel
theorem dX0_holdFor_43 : decode cX0_holdFor 43 = .ok (.iconst 1, 1) := by decide +kernel
theorem dX0_holdFor_44 : decode cX0_holdFor 44 = .ok (.ireturn, 1) := by decide +kernel
theorem dX1_init_0 : decode cX1_init 0 = .ok (.aload_n 0, 1) := by decide +kernel
theorem dX1_init_1 : decode cX1_init 1 = .ok (.invokespecial 3, 3) := by decide +kernel
theorem dX1_init_4 : decode cX1_init 4 = .ok (.aload_n 0, 1) := by decide +kernel
theorem dX1_init_5 : decode cX1_init 5 = .ok (.bipush 60, 2) := by decide +kernel
theorem dX1_init_7 : decode cX1_init 7 = .ok (.newarray .int, 2) := by decide +kernel
theorem dX1_init_9 : decode cX1_init 9 = .ok (.putfield 9, 3) := by decide +kernel
theorem dX1_init_12 : decode cX1_init 12 = .ok (.aload_n 0, 1) := by decide +kernel
theorem dX1_init_13 : decode cX1_init 13 = .ok (.iconst 0, 1) := by decide +kernel
theorem dX1_init_14 : decode cX1_init 14 = .ok (.putfield 15, 3) := by decide +kernel
theorem dX1_init_17 : decode cX1_init 17 = .ok (.aload_n 0, 1) := by decide +kernel
theorem dX1_init_18 : decode cX1_init 18 = .ok (.iconst 0, 1) := by decide +kernel
theorem dX1_init_19 : decode cX1_init 19 = .ok (.putfield 19, 3) := by decide +kernel
theorem dX1_init_22 : decode cX1_init 22 = .ok (.aload_n 0, 1) := by decide +kernel
theorem dX1_init_23 : decode cX1_init 23 = .ok (.iconst 0, 1) := by decide +kernel
theorem dX1_init_24 : decode cX1_init 24 = .ok (.putfield 23, 3) := by decide +kernel
theorem dX1_init_27 : decode cX1_init 27 = .ok (.return_, 1) := by decide +kernel
theorem dX1_begin_0 : decode cX1_begin 0 = .ok (.aload_n 0, 1) := by decide +kernel
theorem dX1_begin_1 : decode cX1_begin 1 = .ok (.getfield 9, 3) := by decide +kernel
theorem dX1_begin_4 : decode cX1_begin 4 = .ok (.iconst 0, 1) := by decide +kernel
theorem dX1_begin_5 : decode cX1_begin 5 = .ok (.invokestatic 26, 3) := by decide +kernel
theorem dX1_begin_8 : decode cX1_begin 8 = .ok (.aload_n 0, 1) := by decide +kernel
theorem dX1_begin_9 : decode cX1_begin 9 = .ok (.iconst 1, 1) := by decide +kernel
theorem dX1_begin_10 : decode cX1_begin 10 = .ok (.putfield 15, 3) := by decide +kernel
theorem dX1_begin_13 : decode cX1_begin 13 = .ok (.aload_n 0, 1) := by decide +kernel
theorem dX1_begin_14 : decode cX1_begin 14 = .ok (.iload_n 1, 1) := by decide +kernel
theorem dX1_begin_15 : decode cX1_begin 15 = .ok (.putfield 19, 3) := by decide +kernel
theorem dX1_begin_18 : decode cX1_begin 18 = .ok (.aload_n 0, 1) := by decide +kernel
theorem dX1_begin_19 : decode cX1_begin 19 = .ok (.iload_n 2, 1) := by decide +kernel
theorem dX1_begin_20 : decode cX1_begin 20 = .ok (.putfield 23, 3) := by decide +kernel
theorem dX1_begin_23 : decode cX1_begin 23 = .ok (.return_, 1) := by decide +kernel
theorem dX1_holds_0 : decode cX1_holds 0 = .ok (.iload_n 1, 1) := by decide +kernel
theorem dX1_holds_1 : decode cX1_holds 1 = .ok (.ifCond .lt 25, 3) := by decide +kernel
theorem dX1_holds_4 : decode cX1_holds 4 = .ok (.iload_n 1, 1) := by decide +kernel
theorem dX1_holds_5 : decode cX1_holds 5 = .ok (.aload_n 0, 1) := by decide +kernel
theorem dX1_holds_6 : decode cX1_holds 6 = .ok (.getfield 23, 3) := by decide +kernel
theorem dX1_holds_9 : decode cX1_holds 9 = .ok (.if_icmp .gt 17, 3) := by decide +kernel
theorem dX1_holds_12 : decode cX1_holds 12 = .ok (.iload_n 2, 1) := by decide +kernel
theorem dX1_holds_13 : decode cX1_holds 13 = .ok (.aload_n 0, 1) := by decide +kernel
theorem dX1_holds_14 : decode cX1_holds 14 = .ok (.getfield 23, 3) := by decide +kernel
theorem dX1_holds_17 : decode cX1_holds 17 = .ok (.iload_n 1, 1) := by decide +kernel
theorem dX1_holds_18 : decode cX1_holds 18 = .ok (.isub, 1) := by decide +kernel
theorem dX1_holds_19 : decode cX1_holds 19 = .ok (.if_icmp .gt 7, 3) := by decide +kernel
theorem dX1_holds_22 : decode cX1_holds 22 = .ok (.iconst 1, 1) := by decide +kernel
theorem dX1_holds_23 : decode cX1_holds 23 = .ok (.goto 4, 3) := by decide +kernel
theorem dX1_holds_26 : decode cX1_holds 26 = .ok (.iconst 0, 1) := by decide +kernel
theorem dX1_holds_27 : decode cX1_holds 27 = .ok (.ireturn, 1) := by decide +kernel
theorem dX1_faultOfCells_0 : decode cX1_faultOfCells 0 = .ok (.aload_n 0, 1) := by decide +kernel
theorem dX1_faultOfCells_1 : decode cX1_faultOfCells 1 = .ok (.getfield 15, 3) := by decide +kernel
theorem dX1_faultOfCells_4 : decode cX1_faultOfCells 4 = .ok (.ifCond .eq 13, 3) := by decide +kernel
theorem dX1_faultOfCells_7 : decode cX1_faultOfCells 7 = .ok (.aload_n 0, 1) := by decide +kernel
theorem dX1_faultOfCells_8 : decode cX1_faultOfCells 8 = .ok (.getfield 19, 3) := by decide +kernel
theorem dX1_faultOfCells_11 : decode cX1_faultOfCells 11 = .ok (.iload_n 1, 1) := by decide +kernel
theorem dX1_faultOfCells_12 : decode cX1_faultOfCells 12 = .ok (.if_icmp .eq 5, 3) := by decide +kernel
theorem dX1_faultOfCells_15 : decode cX1_faultOfCells 15 = .ok (.iconst 2, 1) := by decide +kernel
theorem dX1_faultOfCells_16 : decode cX1_faultOfCells 16 = .ok (.ireturn, 1) := by decide +kernel
theorem dX1_faultOfCells_17 : decode cX1_faultOfCells 17 = .ok (.aload_n 0, 1) := by decide +kernel
theorem dX1_faultOfCells_18 : decode cX1_faultOfCells 18 = .ok (.getfield 15, 3) := by decide +kernel
theorem dX1_faultOfCells_21 : decode cX1_faultOfCells 21 = .ok (.ifCond .ne 5, 3) := by decide +kernel
theorem dX1_faultOfCells_24 : decode cX1_faultOfCells 24 = .ok (.iconst 1, 1) := by decide +kernel
theorem dX1_faultOfCells_25 : decode cX1_faultOfCells 25 = .ok (.ireturn, 1) := by decide +kernel
theorem dX1_faultOfCells_26 : decode cX1_faultOfCells 26 = .ok (.iload_n 3, 1) := by decide +kernel
theorem dX1_faultOfCells_27 : decode cX1_faultOfCells 27 = .ok (.ifCond .ge 5, 3) := by decide +kernel
theorem dX1_faultOfCells_30 : decode cX1_faultOfCells 30 = .ok (.iconst 4, 1) := by decide +kernel
theorem dX1_faultOfCells_31 : decode cX1_faultOfCells 31 = .ok (.ireturn, 1) := by decide +kernel
theorem dX1_faultOfCells_32 : decode cX1_faultOfCells 32 = .ok (.aload_n 0, 1) := by decide +kernel
theorem dX1_faultOfCells_33 : decode cX1_faultOfCells 33 = .ok (.iload_n 2, 1) := by decide +kernel
theorem dX1_faultOfCells_34 : decode cX1_faultOfCells 34 = .ok (.iload_n 3, 1) := by decide +kernel
theorem dX1_faultOfCells_35 : decode cX1_faultOfCells 35 = .ok (.invokevirtual 32, 3) := by decide +kernel
theorem dX1_faultOfCells_38 : decode cX1_faultOfCells 38 = .ok (.ifCond .eq 7, 3) := by decide +kernel
theorem dX1_faultOfCells_41 : decode cX1_faultOfCells 41 = .ok (.iconst 0, 1) := by decide +kernel
theorem dX1_faultOfCells_42 : decode cX1_faultOfCells 42 = .ok (.goto 4, 3) := by decide +kernel
theorem dX1_faultOfCells_45 : decode cX1_faultOfCells 45 = .ok (.iconst 3, 1) := by decide +kernel
theorem dX1_faultOfCells_46 : decode cX1_faultOfCells 46 = .ok (.ireturn, 1) := by decide +kernel
theorem dX1_cutToLane_0 : decode cX1_cutToLane 0 = .ok (.aload_n 0, 1) := by decide +kernel
theorem dX1_cutToLane_1 : decode cX1_cutToLane 1 = .ok (.getfield 19, 3) := by decide +kernel
theorem dX1_cutToLane_4 : decode cX1_cutToLane 4 = .ok (.ifCond .ne 6, 3) := by decide +kernel
theorem dX1_cutToLane_7 : decode cX1_cutToLane 7 = .ok (.iload_n 1, 1) := by decide +kernel
theorem dX1_cutToLane_8 : decode cX1_cutToLane 8 = .ok (.i2b, 1) := by decide +kernel
theorem dX1_cutToLane_9 : decode cX1_cutToLane 9 = .ok (.ireturn, 1) := by decide +kernel
theorem dX1_cutToLane_10 : decode cX1_cutToLane 10 = .ok (.aload_n 0, 1) := by decide +kernel
theorem dX1_cutToLane_11 : decode cX1_cutToLane 11 = .ok (.getfield 19, 3) := by decide +kernel
theorem dX1_cutToLane_14 : decode cX1_cutToLane 14 = .ok (.iconst 1, 1) := by decide +kernel
theorem dX1_cutToLane_15 : decode cX1_cutToLane 15 = .ok (.if_icmp .ne 8, 3) := by decide +kernel
theorem dX1_cutToLane_18 : decode cX1_cutToLane 18 = .ok (.iload_n 1, 1) := by decide +kernel
theorem dX1_cutToLane_19 : decode cX1_cutToLane 19 = .ok (.i2s, 1) := by decide +kernel
theorem dX1_cutToLane_20 : decode cX1_cutToLane 20 = .ok (.goto 4, 3) := by decide +kernel
theorem dX1_cutToLane_23 : decode cX1_cutToLane 23 = .ok (.iload_n 1, 1) := by decide +kernel
theorem dX1_cutToLane_24 : decode cX1_cutToLane 24 = .ok (.ireturn, 1) := by decide +kernel
theorem dX2_init_0 : decode cX2_init 0 = .ok (.aload_n 0, 1) := by decide +kernel
theorem dX2_init_1 : decode cX2_init 1 = .ok (.invokespecial 3, 3) := by decide +kernel
theorem dX2_init_4 : decode cX2_init 4 = .ok (.aload_n 0, 1) := by decide +kernel
theorem dX2_init_5 : decode cX2_init 5 = .ok (.iconst 4, 1) := by decide +kernel
theorem dX2_init_6 : decode cX2_init 6 = .ok (.newarray .int, 2) := by decide +kernel
theorem dX2_init_8 : decode cX2_init 8 = .ok (.putfield 9, 3) := by decide +kernel
theorem dX2_init_11 : decode cX2_init 11 = .ok (.aload_n 0, 1) := by decide +kernel
theorem dX2_init_12 : decode cX2_init 12 = .ok (.iconst 4, 1) := by decide +kernel
theorem dX2_init_13 : decode cX2_init 13 = .ok (.newarray .int, 2) := by decide +kernel
theorem dX2_init_15 : decode cX2_init 15 = .ok (.putfield 15, 3) := by decide +kernel
theorem dX2_init_18 : decode cX2_init 18 = .ok (.aload_n 0, 1) := by decide +kernel
theorem dX2_init_19 : decode cX2_init 19 = .ok (.iconst 4, 1) := by decide +kernel
theorem dX2_init_20 : decode cX2_init 20 = .ok (.newarray .int, 2) := by decide +kernel
theorem dX2_init_22 : decode cX2_init 22 = .ok (.putfield 18, 3) := by decide +kernel
theorem dX2_init_25 : decode cX2_init 25 = .ok (.aload_n 0, 1) := by decide +kernel
theorem dX2_init_26 : decode cX2_init 26 = .ok (.iconst 4, 1) := by decide +kernel
theorem dX2_init_27 : decode cX2_init 27 = .ok (.newarray .boolean, 2) := by decide +kernel
theorem dX2_init_29 : decode cX2_init 29 = .ok (.putfield 21, 3) := by decide +kernel
theorem dX2_init_32 : decode cX2_init 32 = .ok (.aload_n 0, 1) := by decide +kernel
theorem dX2_init_33 : decode cX2_init 33 = .ok (.bipush 16, 2) := by decide +kernel
theorem dX2_init_35 : decode cX2_init 35 = .ok (.newarray .int, 2) := by decide +kernel
theorem dX2_init_37 : decode cX2_init 37 = .ok (.putfield 25, 3) := by decide +kernel
theorem dX2_init_40 : decode cX2_init 40 = .ok (.aload_n 0, 1) := by decide +kernel
theorem dX2_init_41 : decode cX2_init 41 = .ok (.bipush 16, 2) := by decide +kernel
theorem dX2_init_43 : decode cX2_init 43 = .ok (.newarray .int, 2) := by decide +kernel
theorem dX2_init_45 : decode cX2_init 45 = .ok (.putfield 28, 3) := by decide +kernel
theorem dX2_init_48 : decode cX2_init 48 = .ok (.aload_n 0, 1) := by decide +kernel
theorem dX2_init_49 : decode cX2_init 49 = .ok (.bipush 15, 2) := by decide +kernel
theorem dX2_init_51 : decode cX2_init 51 = .ok (.newarray .int, 2) := by decide +kernel
theorem dX2_init_53 : decode cX2_init 53 = .ok (.putfield 31, 3) := by decide +kernel
theorem dX2_init_56 : decode cX2_init 56 = .ok (.aload_n 0, 1) := by decide +kernel
theorem dX2_init_57 : decode cX2_init 57 = .ok (.bipush 15, 2) := by decide +kernel
theorem dX2_init_59 : decode cX2_init 59 = .ok (.newarray .int, 2) := by decide +kernel
theorem dX2_init_61 : decode cX2_init 61 = .ok (.putfield 34, 3) := by decide +kernel
theorem dX2_init_64 : decode cX2_init 64 = .ok (.aload_n 0, 1) := by decide +kernel
theorem dX2_init_65 : decode cX2_init 65 = .ok (.iconst 0, 1) := by decide +kernel
theorem dX2_init_66 : decode cX2_init 66 = .ok (.putfield 37, 3) := by decide +kernel
theorem dX2_init_69 : decode cX2_init 69 = .ok (.aload_n 0, 1) := by decide +kernel
theorem dX2_init_70 : decode cX2_init 70 = .ok (.iconst 0, 1) := by decide +kernel
theorem dX2_init_71 : decode cX2_init 71 = .ok (.putfield 41, 3) := by decide +kernel
theorem dX2_init_74 : decode cX2_init 74 = .ok (.aload_n 0, 1) := by decide +kernel
theorem dX2_init_75 : decode cX2_init 75 = .ok (.iconst 0, 1) := by decide +kernel
theorem dX2_init_76 : decode cX2_init 76 = .ok (.putfield 44, 3) := by decide +kernel
theorem dX2_init_79 : decode cX2_init 79 = .ok (.return_, 1) := by decide +kernel
theorem dX2_stands_0 : decode cX2_stands 0 = .ok (.aload_n 0, 1) := by decide +kernel
theorem dX2_stands_1 : decode cX2_stands 1 = .ok (.getfield 37, 3) := by decide +kernel
theorem dX2_stands_4 : decode cX2_stands 4 = .ok (.ifCond .le 7, 3) := by decide +kernel
theorem dX2_stands_7 : decode cX2_stands 7 = .ok (.iconst 1, 1) := by decide +kernel
theorem dX2_stands_8 : decode cX2_stands 8 = .ok (.goto 4, 3) := by decide +kernel
theorem dX2_stands_11 : decode cX2_stands 11 = .ok (.iconst 0, 1) := by decide +kernel
theorem dX2_stands_12 : decode cX2_stands 12 = .ok (.ireturn, 1) := by decide +kernel
theorem dX2_hasModule_0 : decode cX2_hasModule 0 = .ok (.iload_n 1, 1) := by decide +kernel
theorem dX2_hasModule_1 : decode cX2_hasModule 1 = .ok (.ifCond .lt 15, 3) := by decide +kernel
theorem dX2_hasModule_4 : decode cX2_hasModule 4 = .ok (.iload_n 1, 1) := by decide +kernel
theorem dX2_hasModule_5 : decode cX2_hasModule 5 = .ok (.aload_n 0, 1) := by decide +kernel
theorem dX2_hasModule_6 : decode cX2_hasModule 6 = .ok (.getfield 37, 3) := by decide +kernel
theorem dX2_hasModule_9 : decode cX2_hasModule 9 = .ok (.if_icmp .ge 7, 3) := by decide +kernel
theorem dX2_hasModule_12 : decode cX2_hasModule 12 = .ok (.iconst 1, 1) := by decide +kernel
theorem dX2_hasModule_13 : decode cX2_hasModule 13 = .ok (.goto 4, 3) := by decide +kernel
theorem dX2_hasModule_16 : decode cX2_hasModule 16 = .ok (.iconst 0, 1) := by decide +kernel
theorem dX2_hasModule_17 : decode cX2_hasModule 17 = .ok (.ireturn, 1) := by decide +kernel
theorem dX2_hasLamp_0 : decode cX2_hasLamp 0 = .ok (.iload_n 1, 1) := by decide +kernel
theorem dX2_hasLamp_1 : decode cX2_hasLamp 1 = .ok (.ifCond .lt 15, 3) := by decide +kernel
theorem dX2_hasLamp_4 : decode cX2_hasLamp 4 = .ok (.iload_n 1, 1) := by decide +kernel
theorem dX2_hasLamp_5 : decode cX2_hasLamp 5 = .ok (.aload_n 0, 1) := by decide +kernel
theorem dX2_hasLamp_6 : decode cX2_hasLamp 6 = .ok (.getfield 41, 3) := by decide +kernel
theorem dX2_hasLamp_9 : decode cX2_hasLamp 9 = .ok (.if_icmp .ge 7, 3) := by decide +kernel
theorem dX2_hasLamp_12 : decode cX2_hasLamp 12 = .ok (.iconst 1, 1) := by decide +kernel
theorem dX2_hasLamp_13 : decode cX2_hasLamp 13 = .ok (.goto 4, 3) := by decide +kernel
theorem dX2_hasLamp_16 : decode cX2_hasLamp 16 = .ok (.iconst 0, 1) := by decide +kernel
theorem dX2_hasLamp_17 : decode cX2_hasLamp 17 = .ok (.ireturn, 1) := by decide +kernel
theorem dX2_becomeLike_0 : decode cX2_becomeLike 0 = .ok (.aload_n 1, 1) := by decide +kernel
theorem dX2_becomeLike_1 : decode cX2_becomeLike 1 = .ok (.getfield 9, 3) := by decide +kernel
theorem dX2_becomeLike_4 : decode cX2_becomeLike 4 = .ok (.iconst 0, 1) := by decide +kernel
theorem dX2_becomeLike_5 : decode cX2_becomeLike 5 = .ok (.aload_n 0, 1) := by decide +kernel
theorem dX2_becomeLike_6 : decode cX2_becomeLike 6 = .ok (.getfield 9, 3) := by decide +kernel
theorem dX2_becomeLike_9 : decode cX2_becomeLike 9 = .ok (.iconst 0, 1) := by decide +kernel
theorem dX2_becomeLike_10 : decode cX2_becomeLike 10 = .ok (.iconst 4, 1) := by decide +kernel
theorem dX2_becomeLike_11 : decode cX2_becomeLike 11 = .ok (.invokestatic 47, 3) := by decide +kernel
theorem dX2_becomeLike_14 : decode cX2_becomeLike 14 = .ok (.aload_n 1, 1) := by decide +kernel
theorem dX2_becomeLike_15 : decode cX2_becomeLike 15 = .ok (.getfield 15, 3) := by decide +kernel
theorem dX2_becomeLike_18 : decode cX2_becomeLike 18 = .ok (.iconst 0, 1) := by decide +kernel
theorem dX2_becomeLike_19 : decode cX2_becomeLike 19 = .ok (.aload_n 0, 1) := by decide +kernel
theorem dX2_becomeLike_20 : decode cX2_becomeLike 20 = .ok (.getfield 15, 3) := by decide +kernel
theorem dX2_becomeLike_23 : decode cX2_becomeLike 23 = .ok (.iconst 0, 1) := by decide +kernel
theorem dX2_becomeLike_24 : decode cX2_becomeLike 24 = .ok (.iconst 4, 1) := by decide +kernel
theorem dX2_becomeLike_25 : decode cX2_becomeLike 25 = .ok (.invokestatic 47, 3) := by decide +kernel
theorem dX2_becomeLike_28 : decode cX2_becomeLike 28 = .ok (.aload_n 1, 1) := by decide +kernel
theorem dX2_becomeLike_29 : decode cX2_becomeLike 29 = .ok (.getfield 18, 3) := by decide +kernel
theorem dX2_becomeLike_32 : decode cX2_becomeLike 32 = .ok (.iconst 0, 1) := by decide +kernel
theorem dX2_becomeLike_33 : decode cX2_becomeLike 33 = .ok (.aload_n 0, 1) := by decide +kernel
theorem dX2_becomeLike_34 : decode cX2_becomeLike 34 = .ok (.getfield 18, 3) := by decide +kernel
theorem dX2_becomeLike_37 : decode cX2_becomeLike 37 = .ok (.iconst 0, 1) := by decide +kernel
theorem dX2_becomeLike_38 : decode cX2_becomeLike 38 = .ok (.iconst 4, 1) := by decide +kernel
theorem dX2_becomeLike_39 : decode cX2_becomeLike 39 = .ok (.invokestatic 47, 3) := by decide +kernel
theorem dX2_becomeLike_42 : decode cX2_becomeLike 42 = .ok (.aload_n 1, 1) := by decide +kernel
theorem dX2_becomeLike_43 : decode cX2_becomeLike 43 = .ok (.getfield 21, 3) := by decide +kernel
theorem dX2_becomeLike_46 : decode cX2_becomeLike 46 = .ok (.iconst 0, 1) := by decide +kernel
theorem dX2_becomeLike_47 : decode cX2_becomeLike 47 = .ok (.aload_n 0, 1) := by decide +kernel
theorem dX2_becomeLike_48 : decode cX2_becomeLike 48 = .ok (.getfield 21, 3) := by decide +kernel
theorem dX2_becomeLike_51 : decode cX2_becomeLike 51 = .ok (.iconst 0, 1) := by decide +kernel
theorem dX2_becomeLike_52 : decode cX2_becomeLike 52 = .ok (.iconst 4, 1) := by decide +kernel
theorem dX2_becomeLike_53 : decode cX2_becomeLike 53 = .ok (.invokestatic 47, 3) := by decide +kernel
theorem dX2_becomeLike_56 : decode cX2_becomeLike 56 = .ok (.aload_n 1, 1) := by decide +kernel
theorem dX2_becomeLike_57 : decode cX2_becomeLike 57 = .ok (.getfield 25, 3) := by decide +kernel
theorem dX2_becomeLike_60 : decode cX2_becomeLike 60 = .ok (.iconst 0, 1) := by decide +kernel
theorem dX2_becomeLike_61 : decode cX2_becomeLike 61 = .ok (.aload_n 0, 1) := by decide +kernel
theorem dX2_becomeLike_62 : decode cX2_becomeLike 62 = .ok (.getfield 25, 3) := by decide +kernel
theorem dX2_becomeLike_65 : decode cX2_becomeLike 65 = .ok (.iconst 0, 1) := by decide +kernel
theorem dX2_becomeLike_66 : decode cX2_becomeLike 66 = .ok (.bipush 16, 2) := by decide +kernel
theorem dX2_becomeLike_68 : decode cX2_becomeLike 68 = .ok (.invokestatic 47, 3) := by decide +kernel
theorem dX2_becomeLike_71 : decode cX2_becomeLike 71 = .ok (.aload_n 1, 1) := by decide +kernel
theorem dX2_becomeLike_72 : decode cX2_becomeLike 72 = .ok (.getfield 28, 3) := by decide +kernel
theorem dX2_becomeLike_75 : decode cX2_becomeLike 75 = .ok (.iconst 0, 1) := by decide +kernel
theorem dX2_becomeLike_76 : decode cX2_becomeLike 76 = .ok (.aload_n 0, 1) := by decide +kernel
theorem dX2_becomeLike_77 : decode cX2_becomeLike 77 = .ok (.getfield 28, 3) := by decide +kernel
theorem dX2_becomeLike_80 : decode cX2_becomeLike 80 = .ok (.iconst 0, 1) := by decide +kernel
theorem dX2_becomeLike_81 : decode cX2_becomeLike 81 = .ok (.bipush 16, 2) := by decide +kernel
theorem dX2_becomeLike_83 : decode cX2_becomeLike 83 = .ok (.invokestatic 47, 3) := by decide +kernel
theorem dX2_becomeLike_86 : decode cX2_becomeLike 86 = .ok (.aload_n 1, 1) := by decide +kernel
theorem dX2_becomeLike_87 : decode cX2_becomeLike 87 = .ok (.getfield 31, 3) := by decide +kernel
theorem dX2_becomeLike_90 : decode cX2_becomeLike 90 = .ok (.iconst 0, 1) := by decide +kernel
theorem dX2_becomeLike_91 : decode cX2_becomeLike 91 = .ok (.aload_n 0, 1) := by decide +kernel
theorem dX2_becomeLike_92 : decode cX2_becomeLike 92 = .ok (.getfield 31, 3) := by decide +kernel
theorem dX2_becomeLike_95 : decode cX2_becomeLike 95 = .ok (.iconst 0, 1) := by decide +kernel
theorem dX2_becomeLike_96 : decode cX2_becomeLike 96 = .ok (.bipush 15, 2) := by decide +kernel
theorem dX2_becomeLike_98 : decode cX2_becomeLike 98 = .ok (.invokestatic 47, 3) := by decide +kernel
theorem dX2_becomeLike_101 : decode cX2_becomeLike 101 = .ok (.aload_n 1, 1) := by decide +kernel
theorem dX2_becomeLike_102 : decode cX2_becomeLike 102 = .ok (.getfield 34, 3) := by decide +kernel
theorem dX2_becomeLike_105 : decode cX2_becomeLike 105 = .ok (.iconst 0, 1) := by decide +kernel
theorem dX2_becomeLike_106 : decode cX2_becomeLike 106 = .ok (.aload_n 0, 1) := by decide +kernel
theorem dX2_becomeLike_107 : decode cX2_becomeLike 107 = .ok (.getfield 34, 3) := by decide +kernel
theorem dX2_becomeLike_110 : decode cX2_becomeLike 110 = .ok (.iconst 0, 1) := by decide +kernel
theorem dX2_becomeLike_111 : decode cX2_becomeLike 111 = .ok (.bipush 15, 2) := by decide +kernel
theorem dX2_becomeLike_113 : decode cX2_becomeLike 113 = .ok (.invokestatic 47, 3) := by decide +kernel
theorem dX2_becomeLike_116 : decode cX2_becomeLike 116 = .ok (.aload_n 0, 1) := by decide +kernel
theorem dX2_becomeLike_117 : decode cX2_becomeLike 117 = .ok (.aload_n 1, 1) := by decide +kernel
theorem dX2_becomeLike_118 : decode cX2_becomeLike 118 = .ok (.getfield 37, 3) := by decide +kernel
theorem dX2_becomeLike_121 : decode cX2_becomeLike 121 = .ok (.putfield 37, 3) := by decide +kernel
theorem dX2_becomeLike_124 : decode cX2_becomeLike 124 = .ok (.aload_n 0, 1) := by decide +kernel
theorem dX2_becomeLike_125 : decode cX2_becomeLike 125 = .ok (.aload_n 1, 1) := by decide +kernel
theorem dX2_becomeLike_126 : decode cX2_becomeLike 126 = .ok (.getfield 41, 3) := by decide +kernel
theorem dX2_becomeLike_129 : decode cX2_becomeLike 129 = .ok (.putfield 41, 3) := by decide +kernel
theorem dX2_becomeLike_132 : decode cX2_becomeLike 132 = .ok (.aload_n 0, 1) := by decide +kernel
theorem dX2_becomeLike_133 : decode cX2_becomeLike 133 = .ok (.aload_n 1, 1) := by decide +kernel
theorem dX2_becomeLike_134 : decode cX2_becomeLike 134 = .ok (.getfield 44, 3) := by decide +kernel
theorem dX2_becomeLike_137 : decode cX2_becomeLike 137 = .ok (.putfield 44, 3) := by decide +kernel
theorem dX2_becomeLike_140 : decode cX2_becomeLike 140 = .ok (.return_, 1) := by decide +kernel
theorem dX2_readText_0 : decode cX2_readText 0 = .ok (.aload_n 0, 1) := by decide +kernel
theorem dX2_readText_1 : decode cX2_readText 1 = .ok (.iconst 0, 1) := by decide +kernel
theorem dX2_readText_2 : decode cX2_readText 2 = .ok (.putfield 37, 3) := by decide +kernel
theorem dX2_readText_5 : decode cX2_readText 5 = .ok (.aload_n 0, 1) := by decide +kernel
theorem dX2_readText_6 : decode cX2_readText 6 = .ok (.iconst 0, 1) := by decide +kernel
theorem dX2_readText_7 : decode cX2_readText 7 = .ok (.putfield 41, 3) := by decide +kernel
theorem dX2_readText_10 : decode cX2_readText 10 = .ok (.iconst 0, 1) := by decide +kernel
theorem dX2_readText_11 : decode cX2_readText 11 = .ok (.istore 4, 2) := by decide +kernel
theorem dX2_readText_13 : decode cX2_readText 13 = .ok (.iconst 0, 1) := by decide +kernel
theorem dX2_readText_14 : decode cX2_readText 14 = .ok (.istore 5, 2) := by decide +kernel
theorem dX2_readText_16 : decode cX2_readText 16 = .ok (.iload 5, 2) := by decide +kernel
theorem dX2_readText_18 : decode cX2_readText 18 = .ok (.iload_n 3, 1) := by decide +kernel
theorem dX2_readText_19 : decode cX2_readText 19 = .ok (.if_icmp .ge 36, 3) := by decide +kernel
theorem dX2_readText_22 : decode cX2_readText 22 = .ok (.aload_n 0, 1) := by decide +kernel
theorem dX2_readText_23 : decode cX2_readText 23 = .ok (.iload 4, 2) := by decide +kernel
theorem dX2_readText_25 : decode cX2_readText 25 = .ok (.aload_n 1, 1) := by decide +kernel
theorem dX2_readText_26 : decode cX2_readText 26 = .ok (.getfield 53, 3) := by decide +kernel
theorem dX2_readText_29 : decode cX2_readText 29 = .ok (.iload_n 2, 1) := by decide +kernel
theorem dX2_readText_30 : decode cX2_readText 30 = .ok (.iload 5, 2) := by decide +kernel
theorem dX2_readText_32 : decode cX2_readText 32 = .ok (.iadd, 1) := by decide +kernel
theorem dX2_readText_33 : decode cX2_readText 33 = .ok (.iaload, 1) := by decide +kernel
theorem dX2_readText_34 : decode cX2_readText 34 = .ok (.invokevirtual 58, 3) := by decide +kernel
theorem dX2_readText_37 : decode cX2_readText 37 = .ok (.istore 4, 2) := by decide +kernel
theorem dX2_readText_39 : decode cX2_readText 39 = .ok (.iload 4, 2) := by decide +kernel
theorem dX2_readText_41 : decode cX2_readText 41 = .ok (.bipush 6, 2) := by decide +kernel
theorem dX2_readText_43 : decode cX2_readText 43 = .ok (.if_icmp .ne 6, 3) := by decide +kernel
theorem dX2_readText_46 : decode cX2_readText 46 = .ok (.iload 5, 2) := by decide +kernel
theorem dX2_readText_48 : decode cX2_readText 48 = .ok (.ireturn, 1) := by decide +kernel
theorem dX2_readText_49 : decode cX2_readText 49 = .ok (.iinc 5 1, 3) := by decide +kernel
theorem dX2_readText_52 : decode cX2_readText 52 = .ok (.goto (-36), 3) := by decide +kernel
theorem dX2_readText_55 : decode cX2_readText 55 = .ok (.iload 4, 2) := by decide +kernel
theorem dX2_readText_57 : decode cX2_readText 57 = .ok (.iconst 5, 1) := by decide +kernel
theorem dX2_readText_58 : decode cX2_readText 58 = .ok (.if_icmp .ne 8, 3) := by decide +kernel
theorem dX2_readText_61 : decode cX2_readText 61 = .ok (.bipush (-9), 2) := by decide +kernel
theorem dX2_readText_63 : decode cX2_readText 63 = .ok (.goto 4, 3) := by decide +kernel
theorem dX2_readText_66 : decode cX2_readText 66 = .ok (.iload_n 3, 1) := by decide +kernel
theorem dX2_readText_67 : decode cX2_readText 67 = .ok (.ireturn, 1) := by decide +kernel
theorem dX2_takeCode_0 : decode cX2_takeCode 0 = .ok (.iload_n 1, 1) := by decide +kernel
theorem dX2_takeCode_1 : decode cX2_takeCode 1 = .ok (.tableswitch 95 0 5 #[39, 52, 61, 74, 80, 89], 39) := by decide +kernel
theorem dX2_takeCode_40 : decode cX2_takeCode 40 = .ok (.iload_n 2, 1) := by decide +kernel
theorem dX2_takeCode_41 : decode cX2_takeCode 41 = .ok (.bipush 119, 2) := by decide +kernel
theorem dX2_takeCode_43 : decode cX2_takeCode 43 = .ok (.if_icmp .ne 7, 3) := by decide +kernel
theorem dX2_takeCode_46 : decode cX2_takeCode 46 = .ok (.iconst 1, 1) := by decide +kernel
theorem dX2_takeCode_47 : decode cX2_takeCode 47 = .ok (.goto 5, 3) := by decide +kernel
theorem dX2_takeCode_50 : decode cX2_takeCode 50 = .ok (.bipush 6, 2) := by decide +kernel
theorem dX2_takeCode_52 : decode cX2_takeCode 52 = .ok (.ireturn, 1) := by decide +kernel
theorem dX2_takeCode_53 : decode cX2_takeCode 53 = .ok (.aload_n 0, 1) := by decide +kernel
theorem dX2_takeCode_54 : decode cX2_takeCode 54 = .ok (.iload_n 2, 1) := by decide +kernel
theorem dX2_takeCode_55 : decode cX2_takeCode 55 = .ok (.bipush 48, 2) := by decide +kernel
theorem dX2_takeCode_57 : decode cX2_takeCode 57 = .ok (.isub, 1) := by decide +kernel
theorem dX2_takeCode_58 : decode cX2_takeCode 58 = .ok (.invokevirtual 62, 3) := by decide +kernel
theorem dX2_takeCode_61 : decode cX2_takeCode 61 = .ok (.ireturn, 1) := by decide +kernel
theorem dX2_takeCode_62 : decode cX2_takeCode 62 = .ok (.iload_n 2, 1) := by decide +kernel
theorem dX2_takeCode_63 : decode cX2_takeCode 63 = .ok (.bipush 59, 2) := by decide +kernel
theorem dX2_takeCode_65 : decode cX2_takeCode 65 = .ok (.if_icmp .ne 7, 3) := by decide +kernel
theorem dX2_takeCode_68 : decode cX2_takeCode 68 = .ok (.iconst 3, 1) := by decide +kernel
theorem dX2_takeCode_69 : decode cX2_takeCode 69 = .ok (.goto 5, 3) := by decide +kernel
theorem dX2_takeCode_72 : decode cX2_takeCode 72 = .ok (.bipush 6, 2) := by decide +kernel
theorem dX2_takeCode_74 : decode cX2_takeCode 74 = .ok (.ireturn, 1) := by decide +kernel
theorem dX2_takeCode_75 : decode cX2_takeCode 75 = .ok (.aload_n 0, 1) := by decide +kernel
theorem dX2_takeCode_76 : decode cX2_takeCode 76 = .ok (.iload_n 2, 1) := by decide +kernel
theorem dX2_takeCode_77 : decode cX2_takeCode 77 = .ok (.invokevirtual 66, 3) := by decide +kernel
theorem dX2_takeCode_80 : decode cX2_takeCode 80 = .ok (.ireturn, 1) := by decide +kernel
theorem dX2_takeCode_81 : decode cX2_takeCode 81 = .ok (.aload_n 0, 1) := by decide +kernel
theorem dX2_takeCode_82 : decode cX2_takeCode 82 = .ok (.iload_n 2, 1) := by decide +kernel
theorem dX2_takeCode_83 : decode cX2_takeCode 83 = .ok (.bipush 48, 2) := by decide +kernel
theorem dX2_takeCode_85 : decode cX2_takeCode 85 = .ok (.isub, 1) := by decide +kernel
theorem dX2_takeCode_86 : decode cX2_takeCode 86 = .ok (.invokevirtual 69, 3) := by decide +kernel
theorem dX2_takeCode_89 : decode cX2_takeCode 89 = .ok (.ireturn, 1) := by decide +kernel
theorem dX2_takeCode_90 : decode cX2_takeCode 90 = .ok (.aload_n 0, 1) := by decide +kernel
theorem dX2_takeCode_91 : decode cX2_takeCode 91 = .ok (.iload_n 2, 1) := by decide +kernel
theorem dX2_takeCode_92 : decode cX2_takeCode 92 = .ok (.invokevirtual 72, 3) := by decide +kernel
theorem dX2_takeCode_95 : decode cX2_takeCode 95 = .ok (.ireturn, 1) := by decide +kernel
theorem dX2_takeCode_96 : decode cX2_takeCode 96 = .ok (.bipush 6, 2) := by decide +kernel
theorem dX2_takeCode_98 : decode cX2_takeCode 98 = .ok (.ireturn, 1) := by decide +kernel
theorem dX2_takeCut_0 : decode cX2_takeCut 0 = .ok (.iload_n 1, 1) := by decide +kernel
theorem dX2_takeCut_1 : decode cX2_takeCut 1 = .ok (.invokestatic 75, 3) := by decide +kernel
theorem dX2_takeCut_4 : decode cX2_takeCut 4 = .ok (.ifCond .ne 6, 3) := by decide +kernel
theorem dX2_takeCut_7 : decode cX2_takeCut 7 = .ok (.bipush 6, 2) := by decide +kernel
theorem dX2_takeCut_9 : decode cX2_takeCut 9 = .ok (.ireturn, 1) := by decide +kernel
theorem dX2_takeCut_10 : decode cX2_takeCut 10 = .ok (.aload_n 0, 1) := by decide +kernel
theorem dX2_takeCut_11 : decode cX2_takeCut 11 = .ok (.iload_n 1, 1) := by decide +kernel
theorem dX2_takeCut_12 : decode cX2_takeCut 12 = .ok (.invokevirtual 79, 3) := by decide +kernel
theorem dX2_takeCut_15 : decode cX2_takeCut 15 = .ok (.iconst 2, 1) := by decide +kernel
theorem dX2_takeCut_16 : decode cX2_takeCut 16 = .ok (.ireturn, 1) := by decide +kernel
theorem dX2_takeLetter_0 : decode cX2_takeLetter 0 = .ok (.iload_n 1, 1) := by decide +kernel
theorem dX2_takeLetter_1 : decode cX2_takeLetter 1 = .ok (.lookupswitch 53 #[(98, 47), (104, 41), (112, 35)], 35) := by decide +kernel
theorem dX2_takeLetter_36 : decode cX2_takeLetter 36 = .ok (.aload_n 0, 1) := by decide +kernel
theorem dX2_takeLetter_37 : decode cX2_takeLetter 37 = .ok (.iconst 0, 1) := by decide +kernel
theorem dX2_takeLetter_38 : decode cX2_takeLetter 38 = .ok (.invokevirtual 83, 3) := by decide +kernel
theorem dX2_takeLetter_41 : decode cX2_takeLetter 41 = .ok (.ireturn, 1) := by decide +kernel
theorem dX2_takeLetter_42 : decode cX2_takeLetter 42 = .ok (.aload_n 0, 1) := by decide +kernel
theorem dX2_takeLetter_43 : decode cX2_takeLetter 43 = .ok (.iconst 1, 1) := by decide +kernel
theorem dX2_takeLetter_44 : decode cX2_takeLetter 44 = .ok (.invokevirtual 83, 3) := by decide +kernel
theorem dX2_takeLetter_47 : decode cX2_takeLetter 47 = .ok (.ireturn, 1) := by decide +kernel
theorem dX2_takeLetter_48 : decode cX2_takeLetter 48 = .ok (.aload_n 0, 1) := by decide +kernel
theorem dX2_takeLetter_49 : decode cX2_takeLetter 49 = .ok (.iconst 2, 1) := by decide +kernel
theorem dX2_takeLetter_50 : decode cX2_takeLetter 50 = .ok (.invokevirtual 83, 3) := by decide +kernel
theorem dX2_takeLetter_53 : decode cX2_takeLetter 53 = .ok (.ireturn, 1) := by decide +kernel
theorem dX2_takeLetter_54 : decode cX2_takeLetter 54 = .ok (.bipush 6, 2) := by decide +kernel
theorem dX2_takeLetter_56 : decode cX2_takeLetter 56 = .ok (.ireturn, 1) := by decide +kernel
theorem dX2_addModule_0 : decode cX2_addModule 0 = .ok (.aload_n 0, 1) := by decide +kernel
theorem dX2_addModule_1 : decode cX2_addModule 1 = .ok (.getfield 37, 3) := by decide +kernel
theorem dX2_addModule_4 : decode cX2_addModule 4 = .ok (.iconst 4, 1) := by decide +kernel
theorem dX2_addModule_5 : decode cX2_addModule 5 = .ok (.if_icmp .lt 6, 3) := by decide +kernel
theorem dX2_addModule_8 : decode cX2_addModule 8 = .ok (.bipush 6, 2) := by decide +kernel
theorem dX2_addModule_10 : decode cX2_addModule 10 = .ok (.ireturn, 1) := by decide +kernel
theorem dX2_addModule_11 : decode cX2_addModule 11 = .ok (.aload_n 0, 1) := by decide +kernel
theorem dX2_addModule_12 : decode cX2_addModule 12 = .ok (.getfield 9, 3) := by decide +kernel
theorem dX2_addModule_15 : decode cX2_addModule 15 = .ok (.aload_n 0, 1) := by decide +kernel
theorem dX2_addModule_16 : decode cX2_addModule 16 = .ok (.getfield 37, 3) := by decide +kernel
theorem dX2_addModule_19 : decode cX2_addModule 19 = .ok (.iload_n 1, 1) := by decide +kernel
theorem dX2_addModule_20 : decode cX2_addModule 20 = .ok (.iastore, 1) := by decide +kernel
theorem dX2_addModule_21 : decode cX2_addModule 21 = .ok (.aload_n 0, 1) := by decide +kernel
theorem dX2_addModule_22 : decode cX2_addModule 22 = .ok (.getfield 15, 3) := by decide +kernel
theorem dX2_addModule_25 : decode cX2_addModule 25 = .ok (.aload_n 0, 1) := by decide +kernel
theorem dX2_addModule_26 : decode cX2_addModule 26 = .ok (.getfield 37, 3) := by decide +kernel
theorem dX2_addModule_29 : decode cX2_addModule 29 = .ok (.aload_n 0, 1) := by decide +kernel
theorem dX2_addModule_30 : decode cX2_addModule 30 = .ok (.getfield 41, 3) := by decide +kernel
theorem dX2_addModule_33 : decode cX2_addModule 33 = .ok (.iastore, 1) := by decide +kernel
theorem dX2_addModule_34 : decode cX2_addModule 34 = .ok (.aload_n 0, 1) := by decide +kernel
theorem dX2_addModule_35 : decode cX2_addModule 35 = .ok (.getfield 18, 3) := by decide +kernel
theorem dX2_addModule_38 : decode cX2_addModule 38 = .ok (.aload_n 0, 1) := by decide +kernel
theorem dX2_addModule_39 : decode cX2_addModule 39 = .ok (.getfield 37, 3) := by decide +kernel
theorem dX2_addModule_42 : decode cX2_addModule 42 = .ok (.iconst 0, 1) := by decide +kernel
theorem dX2_addModule_43 : decode cX2_addModule 43 = .ok (.iastore, 1) := by decide +kernel
theorem dX2_addModule_44 : decode cX2_addModule 44 = .ok (.aload_n 0, 1) := by decide +kernel
theorem dX2_addModule_45 : decode cX2_addModule 45 = .ok (.getfield 21, 3) := by decide +kernel
theorem dX2_addModule_48 : decode cX2_addModule 48 = .ok (.aload_n 0, 1) := by decide +kernel
theorem dX2_addModule_49 : decode cX2_addModule 49 = .ok (.getfield 37, 3) := by decide +kernel
theorem dX2_addModule_52 : decode cX2_addModule 52 = .ok (.iconst 0, 1) := by decide +kernel
theorem dX2_addModule_53 : decode cX2_addModule 53 = .ok (.bastore, 1) := by decide +kernel
theorem dX2_addModule_54 : decode cX2_addModule 54 = .ok (.aload_n 0, 1) := by decide +kernel
theorem dX2_addModule_55 : decode cX2_addModule 55 = .ok (.dup, 1) := by decide +kernel
theorem dX2_addModule_56 : decode cX2_addModule 56 = .ok (.getfield 37, 3) := by decide +kernel
theorem dX2_addModule_59 : decode cX2_addModule 59 = .ok (.iconst 1, 1) := by decide +kernel
theorem dX2_addModule_60 : decode cX2_addModule 60 = .ok (.iadd, 1) := by decide +kernel
theorem dX2_addModule_61 : decode cX2_addModule 61 = .ok (.putfield 37, 3) := by decide +kernel
theorem dX2_addModule_64 : decode cX2_addModule 64 = .ok (.iconst 4, 1) := by decide +kernel
theorem dX2_addModule_65 : decode cX2_addModule 65 = .ok (.ireturn, 1) := by decide +kernel
theorem dX2_takeLevel_0 : decode cX2_takeLevel 0 = .ok (.aload_n 0, 1) := by decide +kernel
theorem dX2_takeLevel_1 : decode cX2_takeLevel 1 = .ok (.getfield 37, 3) := by decide +kernel
theorem dX2_takeLevel_4 : decode cX2_takeLevel 4 = .ok (.iconst 1, 1) := by decide +kernel
theorem dX2_takeLevel_5 : decode cX2_takeLevel 5 = .ok (.isub, 1) := by decide +kernel
theorem dX2_takeLevel_6 : decode cX2_takeLevel 6 = .ok (.istore_n 2, 1) := by decide +kernel
theorem dX2_takeLevel_7 : decode cX2_takeLevel 7 = .ok (.iload_n 1, 1) := by decide +kernel
theorem dX2_takeLevel_8 : decode cX2_takeLevel 8 = .ok (.invokestatic 86, 3) := by decide +kernel
theorem dX2_takeLevel_11 : decode cX2_takeLevel 11 = .ok (.ifCond .eq 26, 3) := by decide +kernel
theorem dX2_takeLevel_14 : decode cX2_takeLevel 14 = .ok (.iload_n 2, 1) := by decide +kernel
theorem dX2_takeLevel_15 : decode cX2_takeLevel 15 = .ok (.ifCond .lt 22, 3) := by decide +kernel
theorem dX2_takeLevel_18 : decode cX2_takeLevel 18 = .ok (.aload_n 0, 1) := by decide +kernel
theorem dX2_takeLevel_19 : decode cX2_takeLevel 19 = .ok (.getfield 18, 3) := by decide +kernel
theorem dX2_takeLevel_22 : decode cX2_takeLevel 22 = .ok (.iload_n 2, 1) := by decide +kernel
theorem dX2_takeLevel_23 : decode cX2_takeLevel 23 = .ok (.iaload, 1) := by decide +kernel
theorem dX2_takeLevel_24 : decode cX2_takeLevel 24 = .ok (.iconst 4, 1) := by decide +kernel
theorem dX2_takeLevel_25 : decode cX2_takeLevel 25 = .ok (.if_icmp .ge 12, 3) := by decide +kernel
theorem dX2_takeLevel_28 : decode cX2_takeLevel 28 = .ok (.aload_n 0, 1) := by decide +kernel
theorem dX2_takeLevel_29 : decode cX2_takeLevel 29 = .ok (.getfield 41, 3) := by decide +kernel
theorem dX2_takeLevel_32 : decode cX2_takeLevel 32 = .ok (.bipush 16, 2) := by decide +kernel
theorem dX2_takeLevel_34 : decode cX2_takeLevel 34 = .ok (.if_icmp .lt 6, 3) := by decide +kernel
theorem dX2_takeLevel_37 : decode cX2_takeLevel 37 = .ok (.bipush 6, 2) := by decide +kernel
theorem dX2_takeLevel_39 : decode cX2_takeLevel 39 = .ok (.ireturn, 1) := by decide +kernel
theorem dX2_takeLevel_40 : decode cX2_takeLevel 40 = .ok (.aload_n 0, 1) := by decide +kernel
theorem dX2_takeLevel_41 : decode cX2_takeLevel 41 = .ok (.getfield 25, 3) := by decide +kernel
theorem dX2_takeLevel_44 : decode cX2_takeLevel 44 = .ok (.aload_n 0, 1) := by decide +kernel
theorem dX2_takeLevel_45 : decode cX2_takeLevel 45 = .ok (.getfield 41, 3) := by decide +kernel
theorem dX2_takeLevel_48 : decode cX2_takeLevel 48 = .ok (.iload_n 1, 1) := by decide +kernel
theorem dX2_takeLevel_49 : decode cX2_takeLevel 49 = .ok (.iastore, 1) := by decide +kernel
theorem dX2_takeLevel_50 : decode cX2_takeLevel 50 = .ok (.aload_n 0, 1) := by decide +kernel
theorem dX2_takeLevel_51 : decode cX2_takeLevel 51 = .ok (.getfield 28, 3) := by decide +kernel
theorem dX2_takeLevel_54 : decode cX2_takeLevel 54 = .ok (.aload_n 0, 1) := by decide +kernel
theorem dX2_takeLevel_55 : decode cX2_takeLevel 55 = .ok (.getfield 41, 3) := by decide +kernel
theorem dX2_takeLevel_58 : decode cX2_takeLevel 58 = .ok (.iload_n 2, 1) := by decide +kernel
theorem dX2_takeLevel_59 : decode cX2_takeLevel 59 = .ok (.iastore, 1) := by decide +kernel
theorem dX2_takeLevel_60 : decode cX2_takeLevel 60 = .ok (.aload_n 0, 1) := by decide +kernel
theorem dX2_takeLevel_61 : decode cX2_takeLevel 61 = .ok (.dup, 1) := by decide +kernel
theorem dX2_takeLevel_62 : decode cX2_takeLevel 62 = .ok (.getfield 41, 3) := by decide +kernel
theorem dX2_takeLevel_65 : decode cX2_takeLevel 65 = .ok (.iconst 1, 1) := by decide +kernel
theorem dX2_takeLevel_66 : decode cX2_takeLevel 66 = .ok (.iadd, 1) := by decide +kernel
theorem dX2_takeLevel_67 : decode cX2_takeLevel 67 = .ok (.putfield 41, 3) := by decide +kernel
theorem dX2_takeLevel_70 : decode cX2_takeLevel 70 = .ok (.aload_n 0, 1) := by decide +kernel
theorem dX2_takeLevel_71 : decode cX2_takeLevel 71 = .ok (.getfield 18, 3) := by decide +kernel
theorem dX2_takeLevel_74 : decode cX2_takeLevel 74 = .ok (.iload_n 2, 1) := by decide +kernel
theorem dX2_takeLevel_75 : decode cX2_takeLevel 75 = .ok (.dup2, 1) := by decide +kernel
theorem dX2_takeLevel_76 : decode cX2_takeLevel 76 = .ok (.iaload, 1) := by decide +kernel
theorem dX2_takeLevel_77 : decode cX2_takeLevel 77 = .ok (.iconst 1, 1) := by decide +kernel
theorem dX2_takeLevel_78 : decode cX2_takeLevel 78 = .ok (.iadd, 1) := by decide +kernel
theorem dX2_takeLevel_79 : decode cX2_takeLevel 79 = .ok (.iastore, 1) := by decide +kernel
theorem dX2_takeLevel_80 : decode cX2_takeLevel 80 = .ok (.iconst 5, 1) := by decide +kernel
theorem dX2_takeLevel_81 : decode cX2_takeLevel 81 = .ok (.ireturn, 1) := by decide +kernel
theorem dX2_takeMore_0 : decode cX2_takeMore 0 = .ok (.iload_n 1, 1) := by decide +kernel
theorem dX2_takeMore_1 : decode cX2_takeMore 1 = .ok (.bipush 59, 2) := by decide +kernel
theorem dX2_takeMore_3 : decode cX2_takeMore 3 = .ok (.if_icmp .ne 18, 3) := by decide +kernel
theorem dX2_takeMore_6 : decode cX2_takeMore 6 = .ok (.aload_n 0, 1) := by decide +kernel
theorem dX2_takeMore_7 : decode cX2_takeMore 7 = .ok (.getfield 37, 3) := by decide +kernel
theorem dX2_takeMore_10 : decode cX2_takeMore 10 = .ok (.iconst 4, 1) := by decide +kernel
theorem dX2_takeMore_11 : decode cX2_takeMore 11 = .ok (.if_icmp .ge 7, 3) := by decide +kernel
theorem dX2_takeMore_14 : decode cX2_takeMore 14 = .ok (.iconst 3, 1) := by decide +kernel
theorem dX2_takeMore_15 : decode cX2_takeMore 15 = .ok (.goto 5, 3) := by decide +kernel
theorem dX2_takeMore_18 : decode cX2_takeMore 18 = .ok (.bipush 6, 2) := by decide +kernel
theorem dX2_takeMore_20 : decode cX2_takeMore 20 = .ok (.ireturn, 1) := by decide +kernel
theorem dX2_takeMore_21 : decode cX2_takeMore 21 = .ok (.aload_n 0, 1) := by decide +kernel
theorem dX2_takeMore_22 : decode cX2_takeMore 22 = .ok (.iload_n 1, 1) := by decide +kernel
theorem dX2_takeMore_23 : decode cX2_takeMore 23 = .ok (.bipush 48, 2) := by decide +kernel
theorem dX2_takeMore_25 : decode cX2_takeMore 25 = .ok (.isub, 1) := by decide +kernel
theorem dX2_takeMore_26 : decode cX2_takeMore 26 = .ok (.invokevirtual 69, 3) := by decide +kernel
theorem dX2_takeMore_29 : decode cX2_takeMore 29 = .ok (.ireturn, 1) := by decide +kernel
theorem dX2_placeAmongLiving_0 : decode cX2_placeAmongLiving 0 = .ok (.aload_n 0, 1) := by decide +kernel
theorem dX2_placeAmongLiving_1 : decode cX2_placeAmongLiving 1 = .ok (.getfield 21, 3) := by decide +kernel
theorem dX2_placeAmongLiving_4 : decode cX2_placeAmongLiving 4 = .ok (.iload_n 1, 1) := by decide +kernel
theorem dX2_placeAmongLiving_5 : decode cX2_placeAmongLiving 5 = .ok (.baload, 1) := by decide +kernel
theorem dX2_placeAmongLiving_6 : decode cX2_placeAmongLiving 6 = .ok (.ifCond .eq 6, 3) := by decide +kernel
theorem dX2_placeAmongLiving_9 : decode cX2_placeAmongLiving 9 = .ok (.bipush (-9), 2) := by decide +kernel
theorem dX2_placeAmongLiving_11 : decode cX2_placeAmongLiving 11 = .ok (.ireturn, 1) := by decide +kernel
theorem dX2_placeAmongLiving_12 : decode cX2_placeAmongLiving 12 = .ok (.iconst 0, 1) := by decide +kernel
theorem dX2_placeAmongLiving_13 : decode cX2_placeAmongLiving 13 = .ok (.istore_n 2, 1) := by decide +kernel
theorem dX2_placeAmongLiving_14 : decode cX2_placeAmongLiving 14 = .ok (.iconst 0, 1) := by decide +kernel
theorem dX2_placeAmongLiving_15 : decode cX2_placeAmongLiving 15 = .ok (.istore_n 3, 1) := by decide +kernel
theorem dX2_placeAmongLiving_16 : decode cX2_placeAmongLiving 16 = .ok (.iload_n 3, 1) := by decide +kernel
theorem dX2_placeAmongLiving_17 : decode cX2_placeAmongLiving 17 = .ok (.iload_n 1, 1) := by decide +kernel
theorem dX2_placeAmongLiving_18 : decode cX2_placeAmongLiving 18 = .ok (.if_icmp .ge 26, 3) := by decide +kernel
theorem dX2_placeAmongLiving_21 : decode cX2_placeAmongLiving 21 = .ok (.iload_n 2, 1) := by decide +kernel
theorem dX2_placeAmongLiving_22 : decode cX2_placeAmongLiving 22 = .ok (.aload_n 0, 1) := by decide +kernel
theorem dX2_placeAmongLiving_23 : decode cX2_placeAmongLiving 23 = .ok (.getfield 21, 3) := by decide +kernel
theorem dX2_placeAmongLiving_26 : decode cX2_placeAmongLiving 26 = .ok (.iload_n 3, 1) := by decide +kernel
theorem dX2_placeAmongLiving_27 : decode cX2_placeAmongLiving 27 = .ok (.baload, 1) := by decide +kernel
theorem dX2_placeAmongLiving_28 : decode cX2_placeAmongLiving 28 = .ok (.ifCond .eq 7, 3) := by decide +kernel
theorem dX2_placeAmongLiving_31 : decode cX2_placeAmongLiving 31 = .ok (.iconst 0, 1) := by decide +kernel
theorem dX2_placeAmongLiving_32 : decode cX2_placeAmongLiving 32 = .ok (.goto 4, 3) := by decide +kernel
theorem dX2_placeAmongLiving_35 : decode cX2_placeAmongLiving 35 = .ok (.iconst 1, 1) := by decide +kernel
theorem dX2_placeAmongLiving_36 : decode cX2_placeAmongLiving 36 = .ok (.iadd, 1) := by decide +kernel
theorem dX2_placeAmongLiving_37 : decode cX2_placeAmongLiving 37 = .ok (.istore_n 2, 1) := by decide +kernel
theorem dX2_placeAmongLiving_38 : decode cX2_placeAmongLiving 38 = .ok (.iinc 3 1, 3) := by decide +kernel
theorem dX2_placeAmongLiving_41 : decode cX2_placeAmongLiving 41 = .ok (.goto (-25), 3) := by decide +kernel
theorem dX2_placeAmongLiving_44 : decode cX2_placeAmongLiving 44 = .ok (.iload_n 2, 1) := by decide +kernel
theorem dX2_placeAmongLiving_45 : decode cX2_placeAmongLiving 45 = .ok (.ireturn, 1) := by decide +kernel
theorem dX2_deadModules_0 : decode cX2_deadModules 0 = .ok (.iconst 0, 1) := by decide +kernel
theorem dX2_deadModules_1 : decode cX2_deadModules 1 = .ok (.istore_n 1, 1) := by decide +kernel
theorem dX2_deadModules_2 : decode cX2_deadModules 2 = .ok (.iconst 0, 1) := by decide +kernel
theorem dX2_deadModules_3 : decode cX2_deadModules 3 = .ok (.istore_n 2, 1) := by decide +kernel
theorem dX2_deadModules_4 : decode cX2_deadModules 4 = .ok (.iload_n 2, 1) := by decide +kernel
theorem dX2_deadModules_5 : decode cX2_deadModules 5 = .ok (.aload_n 0, 1) := by decide +kernel
theorem dX2_deadModules_6 : decode cX2_deadModules 6 = .ok (.getfield 37, 3) := by decide +kernel
theorem dX2_deadModules_9 : decode cX2_deadModules 9 = .ok (.if_icmp .ge 26, 3) := by decide +kernel
theorem dX2_deadModules_12 : decode cX2_deadModules 12 = .ok (.iload_n 1, 1) := by decide +kernel
theorem dX2_deadModules_13 : decode cX2_deadModules 13 = .ok (.aload_n 0, 1) := by decide +kernel
theorem dX2_deadModules_14 : decode cX2_deadModules 14 = .ok (.getfield 21, 3) := by decide +kernel
theorem dX2_deadModules_17 : decode cX2_deadModules 17 = .ok (.iload_n 2, 1) := by decide +kernel
theorem dX2_deadModules_18 : decode cX2_deadModules 18 = .ok (.baload, 1) := by decide +kernel
theorem dX2_deadModules_19 : decode cX2_deadModules 19 = .ok (.ifCond .eq 7, 3) := by decide +kernel
theorem dX2_deadModules_22 : decode cX2_deadModules 22 = .ok (.iconst 1, 1) := by decide +kernel
theorem dX2_deadModules_23 : decode cX2_deadModules 23 = .ok (.goto 4, 3) := by decide +kernel
theorem dX2_deadModules_26 : decode cX2_deadModules 26 = .ok (.iconst 0, 1) := by decide +kernel
theorem dX2_deadModules_27 : decode cX2_deadModules 27 = .ok (.iadd, 1) := by decide +kernel
theorem dX2_deadModules_28 : decode cX2_deadModules 28 = .ok (.istore_n 1, 1) := by decide +kernel
theorem dX2_deadModules_29 : decode cX2_deadModules 29 = .ok (.iinc 2 1, 3) := by decide +kernel
theorem dX2_deadModules_32 : decode cX2_deadModules 32 = .ok (.goto (-28), 3) := by decide +kernel
theorem dX2_deadModules_35 : decode cX2_deadModules 35 = .ok (.iload_n 1, 1) := by decide +kernel
theorem dX2_deadModules_36 : decode cX2_deadModules 36 = .ok (.ireturn, 1) := by decide +kernel
theorem dX2_levelsTogether_0 : decode cX2_levelsTogether 0 = .ok (.iconst 0, 1) := by decide +kernel
theorem dX2_levelsTogether_1 : decode cX2_levelsTogether 1 = .ok (.istore_n 2, 1) := by decide +kernel
theorem dX2_levelsTogether_2 : decode cX2_levelsTogether 2 = .ok (.aload_n 0, 1) := by decide +kernel
theorem dX2_levelsTogether_3 : decode cX2_levelsTogether 3 = .ok (.getfield 15, 3) := by decide +kernel
theorem dX2_levelsTogether_6 : decode cX2_levelsTogether 6 = .ok (.iload_n 1, 1) := by decide +kernel
theorem dX2_levelsTogether_7 : decode cX2_levelsTogether 7 = .ok (.iaload, 1) := by decide +kernel
theorem dX2_levelsTogether_8 : decode cX2_levelsTogether 8 = .ok (.istore_n 3, 1) := by decide +kernel
theorem dX2_levelsTogether_9 : decode cX2_levelsTogether 9 = .ok (.iload_n 3, 1) := by decide +kernel
theorem dX2_levelsTogether_10 : decode cX2_levelsTogether 10 = .ok (.aload_n 0, 1) := by decide +kernel
theorem dX2_levelsTogether_11 : decode cX2_levelsTogether 11 = .ok (.getfield 15, 3) := by decide +kernel
theorem dX2_levelsTogether_14 : decode cX2_levelsTogether 14 = .ok (.iload_n 1, 1) := by decide +kernel
theorem dX2_levelsTogether_15 : decode cX2_levelsTogether 15 = .ok (.iaload, 1) := by decide +kernel
theorem dX2_levelsTogether_16 : decode cX2_levelsTogether 16 = .ok (.aload_n 0, 1) := by decide +kernel
theorem dX2_levelsTogether_17 : decode cX2_levelsTogether 17 = .ok (.getfield 18, 3) := by decide +kernel
theorem dX2_levelsTogether_20 : decode cX2_levelsTogether 20 = .ok (.iload_n 1, 1) := by decide +kernel
theorem dX2_levelsTogether_21 : decode cX2_levelsTogether 21 = .ok (.iaload, 1) := by decide +kernel
theorem dX2_levelsTogether_22 : decode cX2_levelsTogether 22 = .ok (.iadd, 1) := by decide +kernel
theorem dX2_levelsTogether_23 : decode cX2_levelsTogether 23 = .ok (.if_icmp .ge 18, 3) := by decide +kernel
theorem dX2_levelsTogether_26 : decode cX2_levelsTogether 26 = .ok (.iload_n 2, 1) := by decide +kernel
theorem dX2_levelsTogether_27 : decode cX2_levelsTogether 27 = .ok (.aload_n 0, 1) := by decide +kernel
theorem dX2_levelsTogether_28 : decode cX2_levelsTogether 28 = .ok (.getfield 25, 3) := by decide +kernel
theorem dX2_levelsTogether_31 : decode cX2_levelsTogether 31 = .ok (.iload_n 3, 1) := by decide +kernel
theorem dX2_levelsTogether_32 : decode cX2_levelsTogether 32 = .ok (.iaload, 1) := by decide +kernel
theorem dX2_levelsTogether_33 : decode cX2_levelsTogether 33 = .ok (.iadd, 1) := by decide +kernel
theorem dX2_levelsTogether_34 : decode cX2_levelsTogether 34 = .ok (.istore_n 2, 1) := by decide +kernel
theorem dX2_levelsTogether_35 : decode cX2_levelsTogether 35 = .ok (.iinc 3 1, 3) := by decide +kernel
theorem dX2_levelsTogether_38 : decode cX2_levelsTogether 38 = .ok (.goto (-29), 3) := by decide +kernel
theorem dX2_levelsTogether_41 : decode cX2_levelsTogether 41 = .ok (.iload_n 2, 1) := by decide +kernel
theorem dX2_levelsTogether_42 : decode cX2_levelsTogether 42 = .ok (.ireturn, 1) := by decide +kernel
theorem dX2_takeLevels_0 : decode cX2_takeLevels 0 = .ok (.iconst 0, 1) := by decide +kernel
theorem dX2_takeLevels_1 : decode cX2_takeLevels 1 = .ok (.istore 4, 2) := by decide +kernel
theorem dX2_takeLevels_3 : decode cX2_takeLevels 3 = .ok (.iconst 0, 1) := by decide +kernel
theorem dX2_takeLevels_4 : decode cX2_takeLevels 4 = .ok (.istore 5, 2) := by decide +kernel
theorem dX2_takeLevels_6 : decode cX2_takeLevels 6 = .ok (.iload 5, 2) := by decide +kernel
theorem dX2_takeLevels_8 : decode cX2_takeLevels 8 = .ok (.aload_n 0, 1) := by decide +kernel
theorem dX2_takeLevels_9 : decode cX2_takeLevels 9 = .ok (.getfield 37, 3) := by decide +kernel
theorem dX2_takeLevels_12 : decode cX2_takeLevels 12 = .ok (.if_icmp .ge 80, 3) := by decide +kernel
theorem dX2_takeLevels_15 : decode cX2_takeLevels 15 = .ok (.aload_n 0, 1) := by decide +kernel
theorem dX2_takeLevels_16 : decode cX2_takeLevels 16 = .ok (.getfield 21, 3) := by decide +kernel
theorem dX2_takeLevels_19 : decode cX2_takeLevels 19 = .ok (.iload 5, 2) := by decide +kernel
theorem dX2_takeLevels_21 : decode cX2_takeLevels 21 = .ok (.baload, 1) := by decide +kernel
theorem dX2_takeLevels_22 : decode cX2_takeLevels 22 = .ok (.ifCond .eq 6, 3) := by decide +kernel
theorem dX2_takeLevels_25 : decode cX2_takeLevels 25 = .ok (.goto 61, 3) := by decide +kernel
theorem dX2_takeLevels_28 : decode cX2_takeLevels 28 = .ok (.aload_n 0, 1) := by decide +kernel
theorem dX2_takeLevels_29 : decode cX2_takeLevels 29 = .ok (.getfield 18, 3) := by decide +kernel
theorem dX2_takeLevels_32 : decode cX2_takeLevels 32 = .ok (.iload 5, 2) := by decide +kernel
theorem dX2_takeLevels_34 : decode cX2_takeLevels 34 = .ok (.iaload, 1) := by decide +kernel
theorem dX2_takeLevels_35 : decode cX2_takeLevels 35 = .ok (.iload_n 3, 1) := by decide +kernel
theorem dX2_takeLevels_36 : decode cX2_takeLevels 36 = .ok (.iload 4, 2) := by decide +kernel
theorem dX2_takeLevels_38 : decode cX2_takeLevels 38 = .ok (.isub, 1) := by decide +kernel
theorem dX2_takeLevels_39 : decode cX2_takeLevels 39 = .ok (.if_icmp .le 6, 3) := by decide +kernel
theorem dX2_takeLevels_42 : decode cX2_takeLevels 42 = .ok (.goto 50, 3) := by decide +kernel
theorem dX2_takeLevels_45 : decode cX2_takeLevels 45 = .ok (.aload_n 1, 1) := by decide +kernel
theorem dX2_takeLevels_46 : decode cX2_takeLevels 46 = .ok (.getfield 53, 3) := by decide +kernel
theorem dX2_takeLevels_49 : decode cX2_takeLevels 49 = .ok (.iload_n 2, 1) := by decide +kernel
theorem dX2_takeLevels_50 : decode cX2_takeLevels 50 = .ok (.iload 4, 2) := by decide +kernel
theorem dX2_takeLevels_52 : decode cX2_takeLevels 52 = .ok (.iadd, 1) := by decide +kernel
theorem dX2_takeLevels_53 : decode cX2_takeLevels 53 = .ok (.aload_n 0, 1) := by decide +kernel
theorem dX2_takeLevels_54 : decode cX2_takeLevels 54 = .ok (.getfield 25, 3) := by decide +kernel
theorem dX2_takeLevels_57 : decode cX2_takeLevels 57 = .ok (.aload_n 0, 1) := by decide +kernel
theorem dX2_takeLevels_58 : decode cX2_takeLevels 58 = .ok (.getfield 15, 3) := by decide +kernel
theorem dX2_takeLevels_61 : decode cX2_takeLevels 61 = .ok (.iload 5, 2) := by decide +kernel
theorem dX2_takeLevels_63 : decode cX2_takeLevels 63 = .ok (.iaload, 1) := by decide +kernel
theorem dX2_takeLevels_64 : decode cX2_takeLevels 64 = .ok (.aload_n 0, 1) := by decide +kernel
theorem dX2_takeLevels_65 : decode cX2_takeLevels 65 = .ok (.getfield 18, 3) := by decide +kernel
theorem dX2_takeLevels_68 : decode cX2_takeLevels 68 = .ok (.iload 5, 2) := by decide +kernel
theorem dX2_takeLevels_70 : decode cX2_takeLevels 70 = .ok (.iaload, 1) := by decide +kernel
theorem dX2_takeLevels_71 : decode cX2_takeLevels 71 = .ok (.invokestatic 47, 3) := by decide +kernel
theorem dX2_takeLevels_74 : decode cX2_takeLevels 74 = .ok (.iload 4, 2) := by decide +kernel
theorem dX2_takeLevels_76 : decode cX2_takeLevels 76 = .ok (.aload_n 0, 1) := by decide +kernel
theorem dX2_takeLevels_77 : decode cX2_takeLevels 77 = .ok (.getfield 18, 3) := by decide +kernel
theorem dX2_takeLevels_80 : decode cX2_takeLevels 80 = .ok (.iload 5, 2) := by decide +kernel
theorem dX2_takeLevels_82 : decode cX2_takeLevels 82 = .ok (.iaload, 1) := by decide +kernel
theorem dX2_takeLevels_83 : decode cX2_takeLevels 83 = .ok (.iadd, 1) := by decide +kernel
theorem dX2_takeLevels_84 : decode cX2_takeLevels 84 = .ok (.istore 4, 2) := by decide +kernel
theorem dX2_takeLevels_86 : decode cX2_takeLevels 86 = .ok (.iinc 5 1, 3) := by decide +kernel
theorem dX2_takeLevels_89 : decode cX2_takeLevels 89 = .ok (.goto (-83), 3) := by decide +kernel
theorem dX2_takeLevels_92 : decode cX2_takeLevels 92 = .ok (.iload 4, 2) := by decide +kernel
theorem dX2_takeLevels_94 : decode cX2_takeLevels 94 = .ok (.ireturn, 1) := by decide +kernel
theorem dX2_live_0 : decode cX2_live 0 = .ok (.iconst 0, 1) := by decide +kernel
theorem dX2_live_1 : decode cX2_live 1 = .ok (.istore 4, 2) := by decide +kernel
theorem dX2_live_3 : decode cX2_live 3 = .ok (.iload 4, 2) := by decide +kernel
theorem dX2_live_5 : decode cX2_live 5 = .ok (.iload_n 3, 1) := by decide +kernel
theorem dX2_live_6 : decode cX2_live 6 = .ok (.if_icmp .ge 43, 3) := by decide +kernel
theorem dX2_live_9 : decode cX2_live 9 = .ok (.aload_n 0, 1) := by decide +kernel
theorem dX2_live_10 : decode cX2_live 10 = .ok (.aload_n 1, 1) := by decide +kernel
theorem dX2_live_11 : decode cX2_live 11 = .ok (.getfield 53, 3) := by decide +kernel
theorem dX2_live_14 : decode cX2_live 14 = .ok (.iload_n 2, 1) := by decide +kernel
theorem dX2_live_15 : decode cX2_live 15 = .ok (.iconst 2, 1) := by decide +kernel
theorem dX2_live_16 : decode cX2_live 16 = .ok (.iload 4, 2) := by decide +kernel
theorem dX2_live_18 : decode cX2_live 18 = .ok (.imul, 1) := by decide +kernel
theorem dX2_live_19 : decode cX2_live 19 = .ok (.iadd, 1) := by decide +kernel
theorem dX2_live_20 : decode cX2_live 20 = .ok (.iaload, 1) := by decide +kernel
theorem dX2_live_21 : decode cX2_live 21 = .ok (.aload_n 1, 1) := by decide +kernel
theorem dX2_live_22 : decode cX2_live 22 = .ok (.getfield 53, 3) := by decide +kernel
theorem dX2_live_25 : decode cX2_live 25 = .ok (.iload_n 2, 1) := by decide +kernel
theorem dX2_live_26 : decode cX2_live 26 = .ok (.iconst 2, 1) := by decide +kernel
theorem dX2_live_27 : decode cX2_live 27 = .ok (.iload 4, 2) := by decide +kernel
theorem dX2_live_29 : decode cX2_live 29 = .ok (.imul, 1) := by decide +kernel
theorem dX2_live_30 : decode cX2_live 30 = .ok (.iadd, 1) := by decide +kernel
theorem dX2_live_31 : decode cX2_live 31 = .ok (.iconst 1, 1) := by decide +kernel
theorem dX2_live_32 : decode cX2_live 32 = .ok (.iadd, 1) := by decide +kernel
theorem dX2_live_33 : decode cX2_live 33 = .ok (.iaload, 1) := by decide +kernel
theorem dX2_live_34 : decode cX2_live 34 = .ok (.invokevirtual 89, 3) := by decide +kernel
theorem dX2_live_37 : decode cX2_live 37 = .ok (.ifCond .ne 6, 3) := by decide +kernel
theorem dX2_live_40 : decode cX2_live 40 = .ok (.iload 4, 2) := by decide +kernel
theorem dX2_live_42 : decode cX2_live 42 = .ok (.ireturn, 1) := by decide +kernel
theorem dX2_live_43 : decode cX2_live 43 = .ok (.iinc 4 1, 3) := by decide +kernel
theorem dX2_live_46 : decode cX2_live 46 = .ok (.goto (-43), 3) := by decide +kernel
theorem dX2_live_49 : decode cX2_live 49 = .ok (.bipush (-9), 2) := by decide +kernel
theorem dX2_live_51 : decode cX2_live 51 = .ok (.ireturn, 1) := by decide +kernel
theorem dX2_canAct_0 : decode cX2_canAct 0 = .ok (.iload_n 2, 1) := by decide +kernel
theorem dX2_canAct_1 : decode cX2_canAct 1 = .ok (.bipush 20, 2) := by decide +kernel
theorem dX2_canAct_3 : decode cX2_canAct 3 = .ok (.if_icmp .ne 10, 3) := by decide +kernel
theorem dX2_canAct_6 : decode cX2_canAct 6 = .ok (.aload_n 0, 1) := by decide +kernel
theorem dX2_canAct_7 : decode cX2_canAct 7 = .ok (.iload_n 1, 1) := by decide +kernel
theorem dX2_canAct_8 : decode cX2_canAct 8 = .ok (.invokevirtual 79, 3) := by decide +kernel
theorem dX2_canAct_11 : decode cX2_canAct 11 = .ok (.iconst 1, 1) := by decide +kernel
theorem dX2_canAct_12 : decode cX2_canAct 12 = .ok (.ireturn, 1) := by decide +kernel
theorem dX2_canAct_13 : decode cX2_canAct 13 = .ok (.iload_n 2, 1) := by decide +kernel
theorem dX2_canAct_14 : decode cX2_canAct 14 = .ok (.bipush 30, 2) := by decide +kernel
theorem dX2_canAct_16 : decode cX2_canAct 16 = .ok (.if_icmp .lt 40, 3) := by decide +kernel
theorem dX2_canAct_19 : decode cX2_canAct 19 = .ok (.iload_n 2, 1) := by decide +kernel
theorem dX2_canAct_20 : decode cX2_canAct 20 = .ok (.bipush 30, 2) := by decide +kernel
theorem dX2_canAct_22 : decode cX2_canAct 22 = .ok (.isub, 1) := by decide +kernel
theorem dX2_canAct_23 : decode cX2_canAct 23 = .ok (.istore_n 3, 1) := by decide +kernel
theorem dX2_canAct_24 : decode cX2_canAct 24 = .ok (.aload_n 0, 1) := by decide +kernel
theorem dX2_canAct_25 : decode cX2_canAct 25 = .ok (.iload_n 3, 1) := by decide +kernel
theorem dX2_canAct_26 : decode cX2_canAct 26 = .ok (.invokevirtual 93, 3) := by decide +kernel
theorem dX2_canAct_29 : decode cX2_canAct 29 = .ok (.ifCond .ne 5, 3) := by decide +kernel
theorem dX2_canAct_32 : decode cX2_canAct 32 = .ok (.iconst 0, 1) := by decide +kernel
theorem dX2_canAct_33 : decode cX2_canAct 33 = .ok (.ireturn, 1) := by decide +kernel
theorem dX2_canAct_34 : decode cX2_canAct 34 = .ok (.aload_n 0, 1) := by decide +kernel
theorem dX2_canAct_35 : decode cX2_canAct 35 = .ok (.getfield 21, 3) := by decide +kernel
theorem dX2_canAct_38 : decode cX2_canAct 38 = .ok (.iload_n 3, 1) := by decide +kernel
theorem dX2_canAct_39 : decode cX2_canAct 39 = .ok (.aload_n 0, 1) := by decide +kernel
theorem dX2_canAct_40 : decode cX2_canAct 40 = .ok (.getfield 21, 3) := by decide +kernel
theorem dX2_canAct_43 : decode cX2_canAct 43 = .ok (.iload_n 3, 1) := by decide +kernel
theorem dX2_canAct_44 : decode cX2_canAct 44 = .ok (.baload, 1) := by decide +kernel
theorem dX2_canAct_45 : decode cX2_canAct 45 = .ok (.ifCond .ne 7, 3) := by decide +kernel
theorem dX2_canAct_48 : decode cX2_canAct 48 = .ok (.iconst 1, 1) := by decide +kernel
theorem dX2_canAct_49 : decode cX2_canAct 49 = .ok (.goto 4, 3) := by decide +kernel
theorem dX2_canAct_52 : decode cX2_canAct 52 = .ok (.iconst 0, 1) := by decide +kernel
theorem dX2_canAct_53 : decode cX2_canAct 53 = .ok (.bastore, 1) := by decide +kernel
theorem dX2_canAct_54 : decode cX2_canAct 54 = .ok (.iconst 1, 1) := by decide +kernel
theorem dX2_canAct_55 : decode cX2_canAct 55 = .ok (.ireturn, 1) := by decide +kernel
theorem dX2_canAct_56 : decode cX2_canAct 56 = .ok (.aload_n 0, 1) := by decide +kernel
theorem dX2_canAct_57 : decode cX2_canAct 57 = .ok (.iload_n 2, 1) := by decide +kernel
theorem dX2_canAct_58 : decode cX2_canAct 58 = .ok (.invokevirtual 96, 3) := by decide +kernel
theorem dX2_canAct_61 : decode cX2_canAct 61 = .ok (.ifCond .ne 5, 3) := by decide +kernel
theorem dX2_canAct_64 : decode cX2_canAct 64 = .ok (.iconst 0, 1) := by decide +kernel
theorem dX2_canAct_65 : decode cX2_canAct 65 = .ok (.ireturn, 1) := by decide +kernel
theorem dX2_canAct_66 : decode cX2_canAct 66 = .ok (.aload_n 0, 1) := by decide +kernel
theorem dX2_canAct_67 : decode cX2_canAct 67 = .ok (.getfield 25, 3) := by decide +kernel
theorem dX2_canAct_70 : decode cX2_canAct 70 = .ok (.iload_n 2, 1) := by decide +kernel
theorem dX2_canAct_71 : decode cX2_canAct 71 = .ok (.iload_n 1, 1) := by decide +kernel
theorem dX2_canAct_72 : decode cX2_canAct 72 = .ok (.iastore, 1) := by decide +kernel
theorem dX2_canAct_73 : decode cX2_canAct 73 = .ok (.iconst 1, 1) := by decide +kernel
theorem dX2_canAct_74 : decode cX2_canAct 74 = .ok (.ireturn, 1) := by decide +kernel
theorem dX2_layFrame_0 : decode cX2_layFrame 0 = .ok (.aload_n 0, 1) := by decide +kernel
theorem dX2_layFrame_1 : decode cX2_layFrame 1 = .ok (.iload_n 1, 1) := by decide +kernel
theorem dX2_layFrame_2 : decode cX2_layFrame 2 = .ok (.putfield 44, 3) := by decide +kernel
theorem dX2_layFrame_5 : decode cX2_layFrame 5 = .ok (.iconst 0, 1) := by decide +kernel
theorem dX2_layFrame_6 : decode cX2_layFrame 6 = .ok (.istore_n 2, 1) := by decide +kernel
theorem dX2_layFrame_7 : decode cX2_layFrame 7 = .ok (.iconst 0, 1) := by decide +kernel
theorem dX2_layFrame_8 : decode cX2_layFrame 8 = .ok (.istore_n 3, 1) := by decide +kernel
theorem dX2_layFrame_9 : decode cX2_layFrame 9 = .ok (.iload_n 3, 1) := by decide +kernel
theorem dX2_layFrame_10 : decode cX2_layFrame 10 = .ok (.bipush 8, 2) := by decide +kernel
theorem dX2_layFrame_12 : decode cX2_layFrame 12 = .ok (.if_icmp .ge 82, 3) := by decide +kernel
theorem dX2_layFrame_15 : decode cX2_layFrame 15 = .ok (.iconst 3, 1) := by decide +kernel
theorem dX2_layFrame_16 : decode cX2_layFrame 16 = .ok (.istore 4, 2) := by decide +kernel
theorem dX2_layFrame_18 : decode cX2_layFrame 18 = .ok (.iload 4, 2) := by decide +kernel
theorem dX2_layFrame_20 : decode cX2_layFrame 20 = .ok (.ifCond .lt 68, 3) := by decide +kernel
theorem dX2_layFrame_23 : decode cX2_layFrame 23 = .ok (.iload_n 3, 1) := by decide +kernel
theorem dX2_layFrame_24 : decode cX2_layFrame 24 = .ok (.iload_n 1, 1) := by decide +kernel
theorem dX2_layFrame_25 : decode cX2_layFrame 25 = .ok (.imul, 1) := by decide +kernel
theorem dX2_layFrame_26 : decode cX2_layFrame 26 = .ok (.istore 5, 2) := by decide +kernel
theorem dX2_layFrame_28 : decode cX2_layFrame 28 = .ok (.iload 5, 2) := by decide +kernel
theorem dX2_layFrame_30 : decode cX2_layFrame 30 = .ok (.iload_n 1, 1) := by decide +kernel
theorem dX2_layFrame_31 : decode cX2_layFrame 31 = .ok (.iadd, 1) := by decide +kernel
theorem dX2_layFrame_32 : decode cX2_layFrame 32 = .ok (.iconst 1, 1) := by decide +kernel
theorem dX2_layFrame_33 : decode cX2_layFrame 33 = .ok (.iload 4, 2) := by decide +kernel
theorem dX2_layFrame_35 : decode cX2_layFrame 35 = .ok (.ishl, 1) := by decide +kernel
theorem dX2_layFrame_36 : decode cX2_layFrame 36 = .ok (.invokestatic 99, 3) := by decide +kernel
theorem dX2_layFrame_39 : decode cX2_layFrame 39 = .ok (.istore 6, 2) := by decide +kernel
theorem dX2_layFrame_41 : decode cX2_layFrame 41 = .ok (.iload 5, 2) := by decide +kernel
theorem dX2_layFrame_43 : decode cX2_layFrame 43 = .ok (.istore 7, 2) := by decide +kernel
theorem dX2_layFrame_45 : decode cX2_layFrame 45 = .ok (.iload 7, 2) := by decide +kernel
theorem dX2_layFrame_47 : decode cX2_layFrame 47 = .ok (.iload 6, 2) := by decide +kernel
theorem dX2_layFrame_49 : decode cX2_layFrame 49 = .ok (.if_icmp .ge 33, 3) := by decide +kernel
theorem dX2_layFrame_52 : decode cX2_layFrame 52 = .ok (.iload_n 2, 1) := by decide +kernel
theorem dX2_layFrame_53 : decode cX2_layFrame 53 = .ok (.bipush 15, 2) := by decide +kernel
theorem dX2_layFrame_55 : decode cX2_layFrame 55 = .ok (.if_icmp .ge 27, 3) := by decide +kernel
theorem dX2_layFrame_58 : decode cX2_layFrame 58 = .ok (.aload_n 0, 1) := by decide +kernel
theorem dX2_layFrame_59 : decode cX2_layFrame 59 = .ok (.getfield 31, 3) := by decide +kernel
theorem dX2_layFrame_62 : decode cX2_layFrame 62 = .ok (.iload_n 2, 1) := by decide +kernel
theorem dX2_layFrame_63 : decode cX2_layFrame 63 = .ok (.iload 4, 2) := by decide +kernel
theorem dX2_layFrame_65 : decode cX2_layFrame 65 = .ok (.iastore, 1) := by decide +kernel
theorem dX2_layFrame_66 : decode cX2_layFrame 66 = .ok (.aload_n 0, 1) := by decide +kernel
theorem dX2_layFrame_67 : decode cX2_layFrame 67 = .ok (.getfield 34, 3) := by decide +kernel
theorem dX2_layFrame_70 : decode cX2_layFrame 70 = .ok (.iload_n 2, 1) := by decide +kernel
theorem dX2_layFrame_71 : decode cX2_layFrame 71 = .ok (.iload_n 3, 1) := by decide +kernel
theorem dX2_layFrame_72 : decode cX2_layFrame 72 = .ok (.iastore, 1) := by decide +kernel
theorem dX2_layFrame_73 : decode cX2_layFrame 73 = .ok (.iinc 2 1, 3) := by decide +kernel
theorem dX2_layFrame_76 : decode cX2_layFrame 76 = .ok (.iinc 7 1, 3) := by decide +kernel
theorem dX2_layFrame_79 : decode cX2_layFrame 79 = .ok (.goto (-34), 3) := by decide +kernel
theorem dX2_layFrame_82 : decode cX2_layFrame 82 = .ok (.iinc 4 (-1), 3) := by decide +kernel
theorem dX2_layFrame_85 : decode cX2_layFrame 85 = .ok (.goto (-67), 3) := by decide +kernel
theorem dX2_layFrame_88 : decode cX2_layFrame 88 = .ok (.iinc 3 1, 3) := by decide +kernel
theorem dX2_layFrame_91 : decode cX2_layFrame 91 = .ok (.goto (-82), 3) := by decide +kernel
theorem dX2_layFrame_94 : decode cX2_layFrame 94 = .ok (.return_, 1) := by decide +kernel
theorem dX2_slicesOf_0 : decode cX2_slicesOf 0 = .ok (.iconst 0, 1) := by decide +kernel
theorem dX2_slicesOf_1 : decode cX2_slicesOf 1 = .ok (.istore_n 2, 1) := by decide +kernel
theorem dX2_slicesOf_2 : decode cX2_slicesOf 2 = .ok (.iconst 0, 1) := by decide +kernel
theorem dX2_slicesOf_3 : decode cX2_slicesOf 3 = .ok (.istore_n 3, 1) := by decide +kernel
theorem dX2_slicesOf_4 : decode cX2_slicesOf 4 = .ok (.iload_n 3, 1) := by decide +kernel
theorem dX2_slicesOf_5 : decode cX2_slicesOf 5 = .ok (.bipush 15, 2) := by decide +kernel
theorem dX2_slicesOf_7 : decode cX2_slicesOf 7 = .ok (.if_icmp .ge 32, 3) := by decide +kernel
theorem dX2_slicesOf_10 : decode cX2_slicesOf 10 = .ok (.aload_n 0, 1) := by decide +kernel
theorem dX2_slicesOf_11 : decode cX2_slicesOf 11 = .ok (.getfield 31, 3) := by decide +kernel
theorem dX2_slicesOf_14 : decode cX2_slicesOf 14 = .ok (.iload_n 3, 1) := by decide +kernel
theorem dX2_slicesOf_15 : decode cX2_slicesOf 15 = .ok (.iaload, 1) := by decide +kernel
theorem dX2_slicesOf_16 : decode cX2_slicesOf 16 = .ok (.iload_n 1, 1) := by decide +kernel
theorem dX2_slicesOf_17 : decode cX2_slicesOf 17 = .ok (.if_icmp .ne 16, 3) := by decide +kernel
theorem dX2_slicesOf_20 : decode cX2_slicesOf 20 = .ok (.iload_n 2, 1) := by decide +kernel
theorem dX2_slicesOf_21 : decode cX2_slicesOf 21 = .ok (.aload_n 0, 1) := by decide +kernel
theorem dX2_slicesOf_22 : decode cX2_slicesOf 22 = .ok (.getfield 34, 3) := by decide +kernel
theorem dX2_slicesOf_25 : decode cX2_slicesOf 25 = .ok (.iload_n 3, 1) := by decide +kernel
theorem dX2_slicesOf_26 : decode cX2_slicesOf 26 = .ok (.iaload, 1) := by decide +kernel
theorem dX2_slicesOf_27 : decode cX2_slicesOf 27 = .ok (.iconst 1, 1) := by decide +kernel
theorem dX2_slicesOf_28 : decode cX2_slicesOf 28 = .ok (.iadd, 1) := by decide +kernel
theorem dX2_slicesOf_29 : decode cX2_slicesOf 29 = .ok (.invokestatic 104, 3) := by decide +kernel
theorem dX2_slicesOf_32 : decode cX2_slicesOf 32 = .ok (.istore_n 2, 1) := by decide +kernel
theorem dX2_slicesOf_33 : decode cX2_slicesOf 33 = .ok (.iinc 3 1, 3) := by decide +kernel
theorem dX2_slicesOf_36 : decode cX2_slicesOf 36 = .ok (.goto (-32), 3) := by decide +kernel
theorem dX2_slicesOf_39 : decode cX2_slicesOf 39 = .ok (.iload_n 2, 1) := by decide +kernel
theorem dX2_slicesOf_40 : decode cX2_slicesOf 40 = .ok (.ireturn, 1) := by decide +kernel
theorem dX2_lightOf_0 : decode cX2_lightOf 0 = .ok (.aload_n 0, 1) := by decide +kernel
theorem dX2_lightOf_1 : decode cX2_lightOf 1 = .ok (.getfield 28, 3) := by decide +kernel
theorem dX2_lightOf_4 : decode cX2_lightOf 4 = .ok (.iload_n 1, 1) := by decide +kernel
theorem dX2_lightOf_5 : decode cX2_lightOf 5 = .ok (.iaload, 1) := by decide +kernel
theorem dX2_lightOf_6 : decode cX2_lightOf 6 = .ok (.istore_n 2, 1) := by decide +kernel
theorem dX2_lightOf_7 : decode cX2_lightOf 7 = .ok (.aload_n 0, 1) := by decide +kernel
theorem dX2_lightOf_8 : decode cX2_lightOf 8 = .ok (.getfield 21, 3) := by decide +kernel
theorem dX2_lightOf_11 : decode cX2_lightOf 11 = .ok (.iload_n 2, 1) := by decide +kernel
theorem dX2_lightOf_12 : decode cX2_lightOf 12 = .ok (.baload, 1) := by decide +kernel
theorem dX2_lightOf_13 : decode cX2_lightOf 13 = .ok (.ifCond .eq 7, 3) := by decide +kernel
theorem dX2_lightOf_16 : decode cX2_lightOf 16 = .ok (.iconst 0, 1) := by decide +kernel
theorem dX2_lightOf_17 : decode cX2_lightOf 17 = .ok (.goto 18, 3) := by decide +kernel
theorem dX2_lightOf_20 : decode cX2_lightOf 20 = .ok (.aload_n 0, 1) := by decide +kernel
theorem dX2_lightOf_21 : decode cX2_lightOf 21 = .ok (.getfield 9, 3) := by decide +kernel
theorem dX2_lightOf_24 : decode cX2_lightOf 24 = .ok (.iload_n 2, 1) := by decide +kernel
theorem dX2_lightOf_25 : decode cX2_lightOf 25 = .ok (.iaload, 1) := by decide +kernel
theorem dX2_lightOf_26 : decode cX2_lightOf 26 = .ok (.aload_n 0, 1) := by decide +kernel
theorem dX2_lightOf_27 : decode cX2_lightOf 27 = .ok (.getfield 25, 3) := by decide +kernel
theorem dX2_lightOf_30 : decode cX2_lightOf 30 = .ok (.iload_n 1, 1) := by decide +kernel
theorem dX2_lightOf_31 : decode cX2_lightOf 31 = .ok (.iaload, 1) := by decide +kernel
theorem dX2_lightOf_32 : decode cX2_lightOf 32 = .ok (.invokestatic 107, 3) := by decide +kernel
theorem dX2_lightOf_35 : decode cX2_lightOf 35 = .ok (.ireturn, 1) := by decide +kernel
theorem dX2_lightTogether_0 : decode cX2_lightTogether 0 = .ok (.iconst 0, 1) := by decide +kernel
theorem dX2_lightTogether_1 : decode cX2_lightTogether 1 = .ok (.istore_n 1, 1) := by decide +kernel
theorem dX2_lightTogether_2 : decode cX2_lightTogether 2 = .ok (.iconst 0, 1) := by decide +kernel
theorem dX2_lightTogether_3 : decode cX2_lightTogether 3 = .ok (.istore_n 2, 1) := by decide +kernel
theorem dX2_lightTogether_4 : decode cX2_lightTogether 4 = .ok (.iload_n 2, 1) := by decide +kernel
theorem dX2_lightTogether_5 : decode cX2_lightTogether 5 = .ok (.aload_n 0, 1) := by decide +kernel
theorem dX2_lightTogether_6 : decode cX2_lightTogether 6 = .ok (.getfield 41, 3) := by decide +kernel
theorem dX2_lightTogether_9 : decode cX2_lightTogether 9 = .ok (.if_icmp .ge 17, 3) := by decide +kernel
theorem dX2_lightTogether_12 : decode cX2_lightTogether 12 = .ok (.iload_n 1, 1) := by decide +kernel
theorem dX2_lightTogether_13 : decode cX2_lightTogether 13 = .ok (.aload_n 0, 1) := by decide +kernel
theorem dX2_lightTogether_14 : decode cX2_lightTogether 14 = .ok (.iload_n 2, 1) := by decide +kernel
theorem dX2_lightTogether_15 : decode cX2_lightTogether 15 = .ok (.invokevirtual 110, 3) := by decide +kernel
theorem dX2_lightTogether_18 : decode cX2_lightTogether 18 = .ok (.iadd, 1) := by decide +kernel
theorem dX2_lightTogether_19 : decode cX2_lightTogether 19 = .ok (.istore_n 1, 1) := by decide +kernel
theorem dX2_lightTogether_20 : decode cX2_lightTogether 20 = .ok (.iinc 2 1, 3) := by decide +kernel
theorem dX2_lightTogether_23 : decode cX2_lightTogether 23 = .ok (.goto (-19), 3) := by decide +kernel
theorem dX2_lightTogether_26 : decode cX2_lightTogether 26 = .ok (.iload_n 1, 1) := by decide +kernel
theorem dX2_lightTogether_27 : decode cX2_lightTogether 27 = .ok (.ireturn, 1) := by decide +kernel
theorem dX2_isLit_0 : decode cX2_isLit 0 = .ok (.aload_n 0, 1) := by decide +kernel
theorem dX2_isLit_1 : decode cX2_isLit 1 = .ok (.iload_n 1, 1) := by decide +kernel
theorem dX2_isLit_2 : decode cX2_isLit 2 = .ok (.invokevirtual 110, 3) := by decide +kernel
theorem dX2_isLit_5 : decode cX2_isLit 5 = .ok (.aload_n 0, 1) := by decide +kernel
theorem dX2_isLit_6 : decode cX2_isLit 6 = .ok (.getfield 31, 3) := by decide +kernel
theorem dX2_isLit_9 : decode cX2_isLit 9 = .ok (.iload_n 2, 1) := by decide +kernel
theorem dX2_isLit_10 : decode cX2_isLit 10 = .ok (.iaload, 1) := by decide +kernel
theorem dX2_isLit_11 : decode cX2_isLit 11 = .ok (.invokestatic 113, 3) := by decide +kernel
theorem dX2_isLit_14 : decode cX2_isLit 14 = .ok (.ireturn, 1) := by decide +kernel
theorem dX2_litUnits_0 : decode cX2_litUnits 0 = .ok (.iconst 0, 1) := by decide +kernel
theorem dX2_litUnits_1 : decode cX2_litUnits 1 = .ok (.istore_n 2, 1) := by decide +kernel
theorem dX2_litUnits_2 : decode cX2_litUnits 2 = .ok (.iconst 0, 1) := by decide +kernel
theorem dX2_litUnits_3 : decode cX2_litUnits 3 = .ok (.istore_n 3, 1) := by decide +kernel
theorem dX2_litUnits_4 : decode cX2_litUnits 4 = .ok (.iload_n 3, 1) := by decide +kernel
theorem dX2_litUnits_5 : decode cX2_litUnits 5 = .ok (.bipush 15, 2) := by decide +kernel
theorem dX2_litUnits_7 : decode cX2_litUnits 7 = .ok (.if_icmp .ge 24, 3) := by decide +kernel
theorem dX2_litUnits_10 : decode cX2_litUnits 10 = .ok (.aload_n 0, 1) := by decide +kernel
theorem dX2_litUnits_11 : decode cX2_litUnits 11 = .ok (.iload_n 1, 1) := by decide +kernel
theorem dX2_litUnits_12 : decode cX2_litUnits 12 = .ok (.iload_n 3, 1) := by decide +kernel
theorem dX2_litUnits_13 : decode cX2_litUnits 13 = .ok (.invokevirtual 116, 3) := by decide +kernel
theorem dX2_litUnits_16 : decode cX2_litUnits 16 = .ok (.ifCond .eq 9, 3) := by decide +kernel
theorem dX2_litUnits_19 : decode cX2_litUnits 19 = .ok (.iload_n 2, 1) := by decide +kernel
theorem dX2_litUnits_20 : decode cX2_litUnits 20 = .ok (.iconst 1, 1) := by decide +kernel
theorem dX2_litUnits_21 : decode cX2_litUnits 21 = .ok (.iload_n 3, 1) := by decide +kernel
theorem dX2_litUnits_22 : decode cX2_litUnits 22 = .ok (.ishl, 1) := by decide +kernel
theorem dX2_litUnits_23 : decode cX2_litUnits 23 = .ok (.ior, 1) := by decide +kernel
theorem dX2_litUnits_24 : decode cX2_litUnits 24 = .ok (.istore_n 2, 1) := by decide +kernel
theorem dX2_litUnits_25 : decode cX2_litUnits 25 = .ok (.iinc 3 1, 3) := by decide +kernel
theorem dX2_litUnits_28 : decode cX2_litUnits 28 = .ok (.goto (-24), 3) := by decide +kernel
theorem dX2_litUnits_31 : decode cX2_litUnits 31 = .ok (.iload_n 2, 1) := by decide +kernel
theorem dX2_litUnits_32 : decode cX2_litUnits 32 = .ok (.ireturn, 1) := by decide +kernel
theorem dX2_litLamps_0 : decode cX2_litLamps 0 = .ok (.iconst 0, 1) := by decide +kernel
theorem dX2_litLamps_1 : decode cX2_litLamps 1 = .ok (.istore_n 2, 1) := by decide +kernel
theorem dX2_litLamps_2 : decode cX2_litLamps 2 = .ok (.iconst 0, 1) := by decide +kernel
theorem dX2_litLamps_3 : decode cX2_litLamps 3 = .ok (.istore_n 3, 1) := by decide +kernel
theorem dX2_litLamps_4 : decode cX2_litLamps 4 = .ok (.iload_n 3, 1) := by decide +kernel
theorem dX2_litLamps_5 : decode cX2_litLamps 5 = .ok (.aload_n 0, 1) := by decide +kernel
theorem dX2_litLamps_6 : decode cX2_litLamps 6 = .ok (.getfield 41, 3) := by decide +kernel
theorem dX2_litLamps_9 : decode cX2_litLamps 9 = .ok (.if_icmp .ge 24, 3) := by decide +kernel
theorem dX2_litLamps_12 : decode cX2_litLamps 12 = .ok (.aload_n 0, 1) := by decide +kernel
theorem dX2_litLamps_13 : decode cX2_litLamps 13 = .ok (.iload_n 3, 1) := by decide +kernel
theorem dX2_litLamps_14 : decode cX2_litLamps 14 = .ok (.iload_n 1, 1) := by decide +kernel
theorem dX2_litLamps_15 : decode cX2_litLamps 15 = .ok (.invokevirtual 116, 3) := by decide +kernel
theorem dX2_litLamps_18 : decode cX2_litLamps 18 = .ok (.ifCond .eq 9, 3) := by decide +kernel
theorem dX2_litLamps_21 : decode cX2_litLamps 21 = .ok (.iload_n 2, 1) := by decide +kernel
theorem dX2_litLamps_22 : decode cX2_litLamps 22 = .ok (.iconst 1, 1) := by decide +kernel
theorem dX2_litLamps_23 : decode cX2_litLamps 23 = .ok (.iload_n 3, 1) := by decide +kernel
theorem dX2_litLamps_24 : decode cX2_litLamps 24 = .ok (.ishl, 1) := by decide +kernel
theorem dX2_litLamps_25 : decode cX2_litLamps 25 = .ok (.ior, 1) := by decide +kernel
theorem dX2_litLamps_26 : decode cX2_litLamps 26 = .ok (.istore_n 2, 1) := by decide +kernel
theorem dX2_litLamps_27 : decode cX2_litLamps 27 = .ok (.iinc 3 1, 3) := by decide +kernel
theorem dX2_litLamps_30 : decode cX2_litLamps 30 = .ok (.goto (-26), 3) := by decide +kernel
theorem dX2_litLamps_33 : decode cX2_litLamps 33 = .ok (.iload_n 2, 1) := by decide +kernel
theorem dX2_litLamps_34 : decode cX2_litLamps 34 = .ok (.ireturn, 1) := by decide +kernel
theorem dX2_currentOf_0 : decode cX2_currentOf 0 = .ok (.aload_n 0, 1) := by decide +kernel
theorem dX2_currentOf_1 : decode cX2_currentOf 1 = .ok (.iload_n 1, 1) := by decide +kernel
theorem dX2_currentOf_2 : decode cX2_currentOf 2 = .ok (.invokevirtual 119, 3) := by decide +kernel
theorem dX2_currentOf_5 : decode cX2_currentOf 5 = .ok (.invokestatic 122, 3) := by decide +kernel
theorem dX2_currentOf_8 : decode cX2_currentOf 8 = .ok (.ireturn, 1) := by decide +kernel
theorem dX2_greatestCurrentDimmed_0 : decode cX2_greatestCurrentDimmed 0 = .ok (.iconst 0, 1) := by decide +kernel
theorem dX2_greatestCurrentDimmed_1 : decode cX2_greatestCurrentDimmed 1 = .ok (.istore_n 2, 1) := by decide +kernel
theorem dX2_greatestCurrentDimmed_2 : decode cX2_greatestCurrentDimmed 2 = .ok (.iconst 0, 1) := by decide +kernel
theorem dX2_greatestCurrentDimmed_3 : decode cX2_greatestCurrentDimmed 3 = .ok (.istore_n 3, 1) := by decide +kernel
theorem dX2_greatestCurrentDimmed_4 : decode cX2_greatestCurrentDimmed 4 = .ok (.iload_n 3, 1) := by decide +kernel
theorem dX2_greatestCurrentDimmed_5 : decode cX2_greatestCurrentDimmed 5 = .ok (.bipush 15, 2) := by decide +kernel
theorem dX2_greatestCurrentDimmed_7 : decode cX2_greatestCurrentDimmed 7 = .ok (.if_icmp .ge 74, 3) := by decide +kernel
theorem dX2_greatestCurrentDimmed_10 : decode cX2_greatestCurrentDimmed 10 = .ok (.iconst 0, 1) := by decide +kernel
theorem dX2_greatestCurrentDimmed_11 : decode cX2_greatestCurrentDimmed 11 = .ok (.istore 4, 2) := by decide +kernel
theorem dX2_greatestCurrentDimmed_13 : decode cX2_greatestCurrentDimmed 13 = .ok (.iconst 0, 1) := by decide +kernel
theorem dX2_greatestCurrentDimmed_14 : decode cX2_greatestCurrentDimmed 14 = .ok (.istore 5, 2) := by decide +kernel
theorem dX2_greatestCurrentDimmed_16 : decode cX2_greatestCurrentDimmed 16 = .ok (.iload 5, 2) := by decide +kernel
theorem dX2_greatestCurrentDimmed_18 : decode cX2_greatestCurrentDimmed 18 = .ok (.aload_n 0, 1) := by decide +kernel
theorem dX2_greatestCurrentDimmed_19 : decode cX2_greatestCurrentDimmed 19 = .ok (.getfield 41, 3) := by decide +kernel
theorem dX2_greatestCurrentDimmed_22 : decode cX2_greatestCurrentDimmed 22 = .ok (.if_icmp .ge 46, 3) := by decide +kernel
theorem dX2_greatestCurrentDimmed_25 : decode cX2_greatestCurrentDimmed 25 = .ok (.aload_n 0, 1) := by decide +kernel
theorem dX2_greatestCurrentDimmed_26 : decode cX2_greatestCurrentDimmed 26 = .ok (.iload 5, 2) := by decide +kernel
theorem dX2_greatestCurrentDimmed_28 : decode cX2_greatestCurrentDimmed 28 = .ok (.invokevirtual 110, 3) := by decide +kernel
theorem dX2_greatestCurrentDimmed_31 : decode cX2_greatestCurrentDimmed 31 = .ok (.iload_n 1, 1) := by decide +kernel
theorem dX2_greatestCurrentDimmed_32 : decode cX2_greatestCurrentDimmed 32 = .ok (.imul, 1) := by decide +kernel
theorem dX2_greatestCurrentDimmed_33 : decode cX2_greatestCurrentDimmed 33 = .ok (.bipush 15, 2) := by decide +kernel
theorem dX2_greatestCurrentDimmed_35 : decode cX2_greatestCurrentDimmed 35 = .ok (.idiv, 1) := by decide +kernel
theorem dX2_greatestCurrentDimmed_36 : decode cX2_greatestCurrentDimmed 36 = .ok (.istore 6, 2) := by decide +kernel
theorem dX2_greatestCurrentDimmed_38 : decode cX2_greatestCurrentDimmed 38 = .ok (.iload 4, 2) := by decide +kernel
theorem dX2_greatestCurrentDimmed_40 : decode cX2_greatestCurrentDimmed 40 = .ok (.iload 6, 2) := by decide +kernel
theorem dX2_greatestCurrentDimmed_42 : decode cX2_greatestCurrentDimmed 42 = .ok (.aload_n 0, 1) := by decide +kernel
theorem dX2_greatestCurrentDimmed_43 : decode cX2_greatestCurrentDimmed 43 = .ok (.getfield 31, 3) := by decide +kernel
theorem dX2_greatestCurrentDimmed_46 : decode cX2_greatestCurrentDimmed 46 = .ok (.iload_n 3, 1) := by decide +kernel
theorem dX2_greatestCurrentDimmed_47 : decode cX2_greatestCurrentDimmed 47 = .ok (.iaload, 1) := by decide +kernel
theorem dX2_greatestCurrentDimmed_48 : decode cX2_greatestCurrentDimmed 48 = .ok (.invokestatic 113, 3) := by decide +kernel
theorem dX2_greatestCurrentDimmed_51 : decode cX2_greatestCurrentDimmed 51 = .ok (.ifCond .eq 7, 3) := by decide +kernel
theorem dX2_greatestCurrentDimmed_54 : decode cX2_greatestCurrentDimmed 54 = .ok (.iconst 1, 1) := by decide +kernel
theorem dX2_greatestCurrentDimmed_55 : decode cX2_greatestCurrentDimmed 55 = .ok (.goto 4, 3) := by decide +kernel
theorem dX2_greatestCurrentDimmed_58 : decode cX2_greatestCurrentDimmed 58 = .ok (.iconst 0, 1) := by decide +kernel
theorem dX2_greatestCurrentDimmed_59 : decode cX2_greatestCurrentDimmed 59 = .ok (.iadd, 1) := by decide +kernel
theorem dX2_greatestCurrentDimmed_60 : decode cX2_greatestCurrentDimmed 60 = .ok (.istore 4, 2) := by decide +kernel
theorem dX2_greatestCurrentDimmed_62 : decode cX2_greatestCurrentDimmed 62 = .ok (.iinc 5 1, 3) := by decide +kernel
theorem dX2_greatestCurrentDimmed_65 : decode cX2_greatestCurrentDimmed 65 = .ok (.goto (-49), 3) := by decide +kernel
theorem dX2_greatestCurrentDimmed_68 : decode cX2_greatestCurrentDimmed 68 = .ok (.iload_n 2, 1) := by decide +kernel
theorem dX2_greatestCurrentDimmed_69 : decode cX2_greatestCurrentDimmed 69 = .ok (.iload 4, 2) := by decide +kernel
theorem dX2_greatestCurrentDimmed_71 : decode cX2_greatestCurrentDimmed 71 = .ok (.invokestatic 104, 3) := by decide +kernel
theorem dX2_greatestCurrentDimmed_74 : decode cX2_greatestCurrentDimmed 74 = .ok (.istore_n 2, 1) := by decide +kernel
theorem dX2_greatestCurrentDimmed_75 : decode cX2_greatestCurrentDimmed 75 = .ok (.iinc 3 1, 3) := by decide +kernel
theorem dX2_greatestCurrentDimmed_78 : decode cX2_greatestCurrentDimmed 78 = .ok (.goto (-74), 3) := by decide +kernel
theorem dX2_greatestCurrentDimmed_81 : decode cX2_greatestCurrentDimmed 81 = .ok (.iload_n 2, 1) := by decide +kernel
theorem dX2_greatestCurrentDimmed_82 : decode cX2_greatestCurrentDimmed 82 = .ok (.ireturn, 1) := by decide +kernel
theorem dX2_darkTogether_0 : decode cX2_darkTogether 0 = .ok (.iconst 0, 1) := by decide +kernel
theorem dX2_darkTogether_1 : decode cX2_darkTogether 1 = .ok (.istore_n 1, 1) := by decide +kernel
theorem dX2_darkTogether_2 : decode cX2_darkTogether 2 = .ok (.iconst 0, 1) := by decide +kernel
theorem dX2_darkTogether_3 : decode cX2_darkTogether 3 = .ok (.istore_n 2, 1) := by decide +kernel
theorem dX2_darkTogether_4 : decode cX2_darkTogether 4 = .ok (.iload_n 2, 1) := by decide +kernel
theorem dX2_darkTogether_5 : decode cX2_darkTogether 5 = .ok (.aload_n 0, 1) := by decide +kernel
theorem dX2_darkTogether_6 : decode cX2_darkTogether 6 = .ok (.getfield 41, 3) := by decide +kernel
theorem dX2_darkTogether_9 : decode cX2_darkTogether 9 = .ok (.if_icmp .ge 20, 3) := by decide +kernel
theorem dX2_darkTogether_12 : decode cX2_darkTogether 12 = .ok (.iload_n 1, 1) := by decide +kernel
theorem dX2_darkTogether_13 : decode cX2_darkTogether 13 = .ok (.aload_n 0, 1) := by decide +kernel
theorem dX2_darkTogether_14 : decode cX2_darkTogether 14 = .ok (.iload_n 2, 1) := by decide +kernel
theorem dX2_darkTogether_15 : decode cX2_darkTogether 15 = .ok (.invokevirtual 127, 3) := by decide +kernel
theorem dX2_darkTogether_18 : decode cX2_darkTogether 18 = .ok (.invokestatic 130, 3) := by decide +kernel
theorem dX2_darkTogether_21 : decode cX2_darkTogether 21 = .ok (.iadd, 1) := by decide +kernel
theorem dX2_darkTogether_22 : decode cX2_darkTogether 22 = .ok (.istore_n 1, 1) := by decide +kernel
theorem dX2_darkTogether_23 : decode cX2_darkTogether 23 = .ok (.iinc 2 1, 3) := by decide +kernel
theorem dX2_darkTogether_26 : decode cX2_darkTogether 26 = .ok (.goto (-22), 3) := by decide +kernel
theorem dX2_darkTogether_29 : decode cX2_darkTogether 29 = .ok (.iload_n 1, 1) := by decide +kernel
theorem dX2_darkTogether_30 : decode cX2_darkTogether 30 = .ok (.ireturn, 1) := by decide +kernel
theorem dX2_ghostUnits_0 : decode cX2_ghostUnits 0 = .ok (.iload_n 1, 1) := by decide +kernel
theorem dX2_ghostUnits_1 : decode cX2_ghostUnits 1 = .ok (.aload_n 0, 1) := by decide +kernel
theorem dX2_ghostUnits_2 : decode cX2_ghostUnits 2 = .ok (.getfield 15, 3) := by decide +kernel
theorem dX2_ghostUnits_5 : decode cX2_ghostUnits 5 = .ok (.aload_n 0, 1) := by decide +kernel
theorem dX2_ghostUnits_6 : decode cX2_ghostUnits 6 = .ok (.getfield 28, 3) := by decide +kernel
theorem dX2_ghostUnits_9 : decode cX2_ghostUnits 9 = .ok (.iload_n 1, 1) := by decide +kernel
theorem dX2_ghostUnits_10 : decode cX2_ghostUnits 10 = .ok (.iaload, 1) := by decide +kernel
theorem dX2_ghostUnits_11 : decode cX2_ghostUnits 11 = .ok (.iaload, 1) := by decide +kernel
theorem dX2_ghostUnits_12 : decode cX2_ghostUnits 12 = .ok (.if_icmp .ne 7, 3) := by decide +kernel
theorem dX2_ghostUnits_15 : decode cX2_ghostUnits 15 = .ok (.iconst 1, 1) := by decide +kernel
theorem dX2_ghostUnits_16 : decode cX2_ghostUnits 16 = .ok (.goto 4, 3) := by decide +kernel
theorem dX2_ghostUnits_19 : decode cX2_ghostUnits 19 = .ok (.iconst 0, 1) := by decide +kernel
theorem dX2_ghostUnits_20 : decode cX2_ghostUnits 20 = .ok (.istore_n 2, 1) := by decide +kernel
theorem dX2_ghostUnits_21 : decode cX2_ghostUnits 21 = .ok (.iload_n 2, 1) := by decide +kernel
theorem dX2_ghostUnits_22 : decode cX2_ghostUnits 22 = .ok (.ifCond .eq 7, 3) := by decide +kernel
theorem dX2_ghostUnits_25 : decode cX2_ghostUnits 25 = .ok (.iconst 0, 1) := by decide +kernel
theorem dX2_ghostUnits_26 : decode cX2_ghostUnits 26 = .ok (.goto 18, 3) := by decide +kernel
theorem dX2_ghostUnits_29 : decode cX2_ghostUnits 29 = .ok (.aload_n 0, 1) := by decide +kernel
theorem dX2_ghostUnits_30 : decode cX2_ghostUnits 30 = .ok (.iload_n 1, 1) := by decide +kernel
theorem dX2_ghostUnits_31 : decode cX2_ghostUnits 31 = .ok (.iconst 1, 1) := by decide +kernel
theorem dX2_ghostUnits_32 : decode cX2_ghostUnits 32 = .ok (.isub, 1) := by decide +kernel
theorem dX2_ghostUnits_33 : decode cX2_ghostUnits 33 = .ok (.invokevirtual 127, 3) := by decide +kernel
theorem dX2_ghostUnits_36 : decode cX2_ghostUnits 36 = .ok (.aload_n 0, 1) := by decide +kernel
theorem dX2_ghostUnits_37 : decode cX2_ghostUnits 37 = .ok (.iload_n 1, 1) := by decide +kernel
theorem dX2_ghostUnits_38 : decode cX2_ghostUnits 38 = .ok (.invokevirtual 127, 3) := by decide +kernel
theorem dX2_ghostUnits_41 : decode cX2_ghostUnits 41 = .ok (.iconst (-1), 1) := by decide +kernel
theorem dX2_ghostUnits_42 : decode cX2_ghostUnits 42 = .ok (.ixor, 1) := by decide +kernel
theorem dX2_ghostUnits_43 : decode cX2_ghostUnits 43 = .ok (.iand, 1) := by decide +kernel
theorem dX2_ghostUnits_44 : decode cX2_ghostUnits 44 = .ok (.ireturn, 1) := by decide +kernel
theorem dX2_ghostsIn_0 : decode cX2_ghostsIn 0 = .ok (.iconst 0, 1) := by decide +kernel
theorem dX2_ghostsIn_1 : decode cX2_ghostsIn 1 = .ok (.istore_n 2, 1) := by decide +kernel
theorem dX2_ghostsIn_2 : decode cX2_ghostsIn 2 = .ok (.iconst 0, 1) := by decide +kernel
theorem dX2_ghostsIn_3 : decode cX2_ghostsIn 3 = .ok (.istore_n 3, 1) := by decide +kernel
theorem dX2_ghostsIn_4 : decode cX2_ghostsIn 4 = .ok (.iload_n 3, 1) := by decide +kernel
theorem dX2_ghostsIn_5 : decode cX2_ghostsIn 5 = .ok (.aload_n 0, 1) := by decide +kernel
theorem dX2_ghostsIn_6 : decode cX2_ghostsIn 6 = .ok (.getfield 41, 3) := by decide +kernel
theorem dX2_ghostsIn_9 : decode cX2_ghostsIn 9 = .ok (.if_icmp .ge 29, 3) := by decide +kernel
theorem dX2_ghostsIn_12 : decode cX2_ghostsIn 12 = .ok (.iload_n 2, 1) := by decide +kernel
theorem dX2_ghostsIn_13 : decode cX2_ghostsIn 13 = .ok (.aload_n 0, 1) := by decide +kernel
theorem dX2_ghostsIn_14 : decode cX2_ghostsIn 14 = .ok (.iload_n 3, 1) := by decide +kernel
theorem dX2_ghostsIn_15 : decode cX2_ghostsIn 15 = .ok (.invokevirtual 133, 3) := by decide +kernel
theorem dX2_ghostsIn_18 : decode cX2_ghostsIn 18 = .ok (.iload_n 1, 1) := by decide +kernel
theorem dX2_ghostsIn_19 : decode cX2_ghostsIn 19 = .ok (.invokestatic 113, 3) := by decide +kernel
theorem dX2_ghostsIn_22 : decode cX2_ghostsIn 22 = .ok (.ifCond .eq 7, 3) := by decide +kernel
theorem dX2_ghostsIn_25 : decode cX2_ghostsIn 25 = .ok (.iconst 1, 1) := by decide +kernel
theorem dX2_ghostsIn_26 : decode cX2_ghostsIn 26 = .ok (.goto 4, 3) := by decide +kernel
theorem dX2_ghostsIn_29 : decode cX2_ghostsIn 29 = .ok (.iconst 0, 1) := by decide +kernel
theorem dX2_ghostsIn_30 : decode cX2_ghostsIn 30 = .ok (.iadd, 1) := by decide +kernel
theorem dX2_ghostsIn_31 : decode cX2_ghostsIn 31 = .ok (.istore_n 2, 1) := by decide +kernel
theorem dX2_ghostsIn_32 : decode cX2_ghostsIn 32 = .ok (.iinc 3 1, 3) := by decide +kernel
theorem dX2_ghostsIn_35 : decode cX2_ghostsIn 35 = .ok (.goto (-31), 3) := by decide +kernel
theorem dX2_ghostsIn_38 : decode cX2_ghostsIn 38 = .ok (.iload_n 2, 1) := by decide +kernel
theorem dX2_ghostsIn_39 : decode cX2_ghostsIn 39 = .ok (.ireturn, 1) := by decide +kernel
theorem dX2_ghostsTogether_0 : decode cX2_ghostsTogether 0 = .ok (.iconst 0, 1) := by decide +kernel
theorem dX2_ghostsTogether_1 : decode cX2_ghostsTogether 1 = .ok (.istore_n 1, 1) := by decide +kernel
theorem dX2_ghostsTogether_2 : decode cX2_ghostsTogether 2 = .ok (.iconst 0, 1) := by decide +kernel
theorem dX2_ghostsTogether_3 : decode cX2_ghostsTogether 3 = .ok (.istore_n 2, 1) := by decide +kernel
theorem dX2_ghostsTogether_4 : decode cX2_ghostsTogether 4 = .ok (.iload_n 2, 1) := by decide +kernel
theorem dX2_ghostsTogether_5 : decode cX2_ghostsTogether 5 = .ok (.aload_n 0, 1) := by decide +kernel
theorem dX2_ghostsTogether_6 : decode cX2_ghostsTogether 6 = .ok (.getfield 41, 3) := by decide +kernel
theorem dX2_ghostsTogether_9 : decode cX2_ghostsTogether 9 = .ok (.if_icmp .ge 20, 3) := by decide +kernel
theorem dX2_ghostsTogether_12 : decode cX2_ghostsTogether 12 = .ok (.iload_n 1, 1) := by decide +kernel
theorem dX2_ghostsTogether_13 : decode cX2_ghostsTogether 13 = .ok (.aload_n 0, 1) := by decide +kernel
theorem dX2_ghostsTogether_14 : decode cX2_ghostsTogether 14 = .ok (.iload_n 2, 1) := by decide +kernel
theorem dX2_ghostsTogether_15 : decode cX2_ghostsTogether 15 = .ok (.invokevirtual 133, 3) := by decide +kernel
theorem dX2_ghostsTogether_18 : decode cX2_ghostsTogether 18 = .ok (.invokestatic 122, 3) := by decide +kernel
theorem dX2_ghostsTogether_21 : decode cX2_ghostsTogether 21 = .ok (.iadd, 1) := by decide +kernel
theorem dX2_ghostsTogether_22 : decode cX2_ghostsTogether 22 = .ok (.istore_n 1, 1) := by decide +kernel
theorem dX2_ghostsTogether_23 : decode cX2_ghostsTogether 23 = .ok (.iinc 2 1, 3) := by decide +kernel
theorem dX2_ghostsTogether_26 : decode cX2_ghostsTogether 26 = .ok (.goto (-22), 3) := by decide +kernel
theorem dX2_ghostsTogether_29 : decode cX2_ghostsTogether 29 = .ok (.iload_n 1, 1) := by decide +kernel
theorem dX2_ghostsTogether_30 : decode cX2_ghostsTogether 30 = .ok (.ireturn, 1) := by decide +kernel
theorem dJ6_bitCount_0f7a4_0 : decode cJ6_bitCount_0f7a4 0 = .ok (.iload_n 0, 1) := by decide +kernel
theorem dJ6_bitCount_0f7a4_1 : decode cJ6_bitCount_0f7a4 1 = .ok (.iload_n 0, 1) := by decide +kernel
theorem dJ6_bitCount_0f7a4_2 : decode cJ6_bitCount_0f7a4 2 = .ok (.iconst 1, 1) := by decide +kernel
theorem dJ6_bitCount_0f7a4_3 : decode cJ6_bitCount_0f7a4 3 = .ok (.iushr, 1) := by decide +kernel
theorem dJ6_bitCount_0f7a4_4 : decode cJ6_bitCount_0f7a4 4 = .ok (.ldc_w 265, 3) := by decide +kernel
theorem dJ6_bitCount_0f7a4_7 : decode cJ6_bitCount_0f7a4 7 = .ok (.iand, 1) := by decide +kernel
theorem dJ6_bitCount_0f7a4_8 : decode cJ6_bitCount_0f7a4 8 = .ok (.isub, 1) := by decide +kernel
theorem dJ6_bitCount_0f7a4_9 : decode cJ6_bitCount_0f7a4 9 = .ok (.istore_n 0, 1) := by decide +kernel
theorem dJ6_bitCount_0f7a4_10 : decode cJ6_bitCount_0f7a4 10 = .ok (.iload_n 0, 1) := by decide +kernel
theorem dJ6_bitCount_0f7a4_11 : decode cJ6_bitCount_0f7a4 11 = .ok (.ldc_w 266, 3) := by decide +kernel
theorem dJ6_bitCount_0f7a4_14 : decode cJ6_bitCount_0f7a4 14 = .ok (.iand, 1) := by decide +kernel
theorem dJ6_bitCount_0f7a4_15 : decode cJ6_bitCount_0f7a4 15 = .ok (.iload_n 0, 1) := by decide +kernel
theorem dJ6_bitCount_0f7a4_16 : decode cJ6_bitCount_0f7a4 16 = .ok (.iconst 2, 1) := by decide +kernel
theorem dJ6_bitCount_0f7a4_17 : decode cJ6_bitCount_0f7a4 17 = .ok (.iushr, 1) := by decide +kernel
theorem dJ6_bitCount_0f7a4_18 : decode cJ6_bitCount_0f7a4 18 = .ok (.ldc_w 266, 3) := by decide +kernel
theorem dJ6_bitCount_0f7a4_21 : decode cJ6_bitCount_0f7a4 21 = .ok (.iand, 1) := by decide +kernel
theorem dJ6_bitCount_0f7a4_22 : decode cJ6_bitCount_0f7a4 22 = .ok (.iadd, 1) := by decide +kernel
theorem dJ6_bitCount_0f7a4_23 : decode cJ6_bitCount_0f7a4 23 = .ok (.istore_n 0, 1) := by decide +kernel
theorem dJ6_bitCount_0f7a4_24 : decode cJ6_bitCount_0f7a4 24 = .ok (.iload_n 0, 1) := by decide +kernel
theorem dJ6_bitCount_0f7a4_25 : decode cJ6_bitCount_0f7a4 25 = .ok (.iload_n 0, 1) := by decide +kernel
theorem dJ6_bitCount_0f7a4_26 : decode cJ6_bitCount_0f7a4 26 = .ok (.iconst 4, 1) := by decide +kernel
theorem dJ6_bitCount_0f7a4_27 : decode cJ6_bitCount_0f7a4 27 = .ok (.iushr, 1) := by decide +kernel
theorem dJ6_bitCount_0f7a4_28 : decode cJ6_bitCount_0f7a4 28 = .ok (.iadd, 1) := by decide +kernel
theorem dJ6_bitCount_0f7a4_29 : decode cJ6_bitCount_0f7a4 29 = .ok (.ldc_w 267, 3) := by decide +kernel
theorem dJ6_bitCount_0f7a4_32 : decode cJ6_bitCount_0f7a4 32 = .ok (.iand, 1) := by decide +kernel
theorem dJ6_bitCount_0f7a4_33 : decode cJ6_bitCount_0f7a4 33 = .ok (.istore_n 0, 1) := by decide +kernel
theorem dJ6_bitCount_0f7a4_34 : decode cJ6_bitCount_0f7a4 34 = .ok (.iload_n 0, 1) := by decide +kernel
theorem dJ6_bitCount_0f7a4_35 : decode cJ6_bitCount_0f7a4 35 = .ok (.iload_n 0, 1) := by decide +kernel
theorem dJ6_bitCount_0f7a4_36 : decode cJ6_bitCount_0f7a4 36 = .ok (.bipush 8, 2) := by decide +kernel
theorem dJ6_bitCount_0f7a4_38 : decode cJ6_bitCount_0f7a4 38 = .ok (.iushr, 1) := by decide +kernel
theorem dJ6_bitCount_0f7a4_39 : decode cJ6_bitCount_0f7a4 39 = .ok (.iadd, 1) := by decide +kernel
theorem dJ6_bitCount_0f7a4_40 : decode cJ6_bitCount_0f7a4 40 = .ok (.istore_n 0, 1) := by decide +kernel
theorem dJ6_bitCount_0f7a4_41 : decode cJ6_bitCount_0f7a4 41 = .ok (.iload_n 0, 1) := by decide +kernel
theorem dJ6_bitCount_0f7a4_42 : decode cJ6_bitCount_0f7a4 42 = .ok (.iload_n 0, 1) := by decide +kernel
theorem dJ6_bitCount_0f7a4_43 : decode cJ6_bitCount_0f7a4 43 = .ok (.bipush 16, 2) := by decide +kernel
theorem dJ6_bitCount_0f7a4_45 : decode cJ6_bitCount_0f7a4 45 = .ok (.iushr, 1) := by decide +kernel
theorem dJ6_bitCount_0f7a4_46 : decode cJ6_bitCount_0f7a4 46 = .ok (.iadd, 1) := by decide +kernel
theorem dJ6_bitCount_0f7a4_47 : decode cJ6_bitCount_0f7a4 47 = .ok (.istore_n 0, 1) := by decide +kernel
theorem dJ6_bitCount_0f7a4_48 : decode cJ6_bitCount_0f7a4 48 = .ok (.iload_n 0, 1) := by decide +kernel
theorem dJ6_bitCount_0f7a4_49 : decode cJ6_bitCount_0f7a4 49 = .ok (.bipush 63, 2) := by decide +kernel
theorem dJ6_bitCount_0f7a4_51 : decode cJ6_bitCount_0f7a4 51 = .ok (.iand, 1) := by decide +kernel
theorem dJ6_bitCount_0f7a4_52 : decode cJ6_bitCount_0f7a4 52 = .ok (.ireturn, 1) := by decide +kernel
theorem dJ9_max_7cf53_0 : decode cJ9_max_7cf53 0 = .ok (.iload_n 0, 1) := by decide +kernel
theorem dJ9_max_7cf53_1 : decode cJ9_max_7cf53 1 = .ok (.iload_n 1, 1) := by decide +kernel
theorem dJ9_max_7cf53_2 : decode cJ9_max_7cf53 2 = .ok (.if_icmp .lt 7, 3) := by decide +kernel
theorem dJ9_max_7cf53_5 : decode cJ9_max_7cf53 5 = .ok (.iload_n 0, 1) := by decide +kernel
theorem dJ9_max_7cf53_6 : decode cJ9_max_7cf53 6 = .ok (.goto 4, 3) := by decide +kernel
theorem dJ9_max_7cf53_9 : decode cJ9_max_7cf53 9 = .ok (.iload_n 1, 1) := by decide +kernel
theorem dJ9_max_7cf53_10 : decode cJ9_max_7cf53 10 = .ok (.ireturn, 1) := by decide +kernel
theorem dJ9_min_7cf53_0 : decode cJ9_min_7cf53 0 = .ok (.iload_n 0, 1) := by decide +kernel
theorem dJ9_min_7cf53_1 : decode cJ9_min_7cf53 1 = .ok (.iload_n 1, 1) := by decide +kernel
theorem dJ9_min_7cf53_2 : decode cJ9_min_7cf53 2 = .ok (.if_icmp .gt 7, 3) := by decide +kernel
theorem dJ9_min_7cf53_5 : decode cJ9_min_7cf53 5 = .ok (.iload_n 0, 1) := by decide +kernel
theorem dJ9_min_7cf53_6 : decode cJ9_min_7cf53 6 = .ok (.goto 4, 3) := by decide +kernel
theorem dJ9_min_7cf53_9 : decode cJ9_min_7cf53 9 = .ok (.iload_n 1, 1) := by decide +kernel
theorem dJ9_min_7cf53_10 : decode cJ9_min_7cf53 10 = .ok (.ireturn, 1) := by decide +kernel
theorem dJ7_fill_d0a16_0 : decode cJ7_fill_d0a16 0 = .ok (.iconst 0, 1) := by decide +kernel
theorem dJ7_fill_d0a16_1 : decode cJ7_fill_d0a16 1 = .ok (.istore_n 3, 1) := by decide +kernel
theorem dJ7_fill_d0a16_2 : decode cJ7_fill_d0a16 2 = .ok (.aload_n 0, 1) := by decide +kernel
theorem dJ7_fill_d0a16_3 : decode cJ7_fill_d0a16 3 = .ok (.arraylength, 1) := by decide +kernel
theorem dJ7_fill_d0a16_4 : decode cJ7_fill_d0a16 4 = .ok (.istore 4, 2) := by decide +kernel
theorem dJ7_fill_d0a16_6 : decode cJ7_fill_d0a16 6 = .ok (.iload_n 3, 1) := by decide +kernel
theorem dJ7_fill_d0a16_7 : decode cJ7_fill_d0a16 7 = .ok (.iload 4, 2) := by decide +kernel
theorem dJ7_fill_d0a16_9 : decode cJ7_fill_d0a16 9 = .ok (.if_icmp .ge 13, 3) := by decide +kernel
theorem dJ7_fill_d0a16_12 : decode cJ7_fill_d0a16 12 = .ok (.aload_n 0, 1) := by decide +kernel
theorem dJ7_fill_d0a16_13 : decode cJ7_fill_d0a16 13 = .ok (.iload_n 3, 1) := by decide +kernel
theorem dJ7_fill_d0a16_14 : decode cJ7_fill_d0a16 14 = .ok (.lload_n 1, 1) := by decide +kernel
theorem dJ7_fill_d0a16_15 : decode cJ7_fill_d0a16 15 = .ok (.lastore, 1) := by decide +kernel
theorem dJ7_fill_d0a16_16 : decode cJ7_fill_d0a16 16 = .ok (.iinc 3 1, 3) := by decide +kernel
theorem dJ7_fill_d0a16_19 : decode cJ7_fill_d0a16 19 = .ok (.goto (-13), 3) := by decide +kernel
theorem dJ7_fill_d0a16_22 : decode cJ7_fill_d0a16 22 = .ok (.return_, 1) := by decide +kernel
theorem dJ7_fill_53178_0 : decode cJ7_fill_53178 0 = .ok (.iconst 0, 1) := by decide +kernel
theorem dJ7_fill_53178_1 : decode cJ7_fill_53178 1 = .ok (.istore_n 2, 1) := by decide +kernel
theorem dJ7_fill_53178_2 : decode cJ7_fill_53178 2 = .ok (.aload_n 0, 1) := by decide +kernel
theorem dJ7_fill_53178_3 : decode cJ7_fill_53178 3 = .ok (.arraylength, 1) := by decide +kernel
theorem dJ7_fill_53178_4 : decode cJ7_fill_53178 4 = .ok (.istore_n 3, 1) := by decide +kernel
theorem dJ7_fill_53178_5 : decode cJ7_fill_53178 5 = .ok (.iload_n 2, 1) := by decide +kernel
theorem dJ7_fill_53178_6 : decode cJ7_fill_53178 6 = .ok (.iload_n 3, 1) := by decide +kernel
theorem dJ7_fill_53178_7 : decode cJ7_fill_53178 7 = .ok (.if_icmp .ge 13, 3) := by decide +kernel
theorem dJ7_fill_53178_10 : decode cJ7_fill_53178 10 = .ok (.aload_n 0, 1) := by decide +kernel
theorem dJ7_fill_53178_11 : decode cJ7_fill_53178 11 = .ok (.iload_n 2, 1) := by decide +kernel
theorem dJ7_fill_53178_12 : decode cJ7_fill_53178 12 = .ok (.iload_n 1, 1) := by decide +kernel
theorem dJ7_fill_53178_13 : decode cJ7_fill_53178 13 = .ok (.iastore, 1) := by decide +kernel
theorem dJ7_fill_53178_14 : decode cJ7_fill_53178 14 = .ok (.iinc 2 1, 3) := by decide +kernel
theorem dJ7_fill_53178_17 : decode cJ7_fill_53178 17 = .ok (.goto (-12), 3) := by decide +kernel
theorem dJ7_fill_53178_20 : decode cJ7_fill_53178 20 = .ok (.return_, 1) := by decide +kernel
end
section
theorem dX3_init_0 : decode cX3_init 0 = .ok (.aload_n 0, 1) := by decide +kernel
theorem dX3_init_1 : decode cX3_init 1 = .ok (.invokespecial 3, 3) := by decide +kernel
theorem dX3_init_4 : decode cX3_init 4 = .ok (.aload_n 0, 1) := by decide +kernel
theorem dX3_init_5 : decode cX3_init 5 = .ok (.iconst 4, 1) := by decide +kernel
theorem dX3_init_6 : decode cX3_init 6 = .ok (.anewarray 11, 3) := by decide +kernel
theorem dX3_init_9 : decode cX3_init 9 = .ok (.putfield 13, 3) := by decide +kernel
theorem dX3_init_12 : decode cX3_init 12 = .ok (.aload_n 0, 1) := by decide +kernel
theorem dX3_init_13 : decode cX3_init 13 = .ok (.new 17, 3) := by decide +kernel
theorem dX3_init_16 : decode cX3_init 16 = .ok (.dup, 1) := by decide +kernel
theorem dX3_init_17 : decode cX3_init 17 = .ok (.invokespecial 19, 3) := by decide +kernel
theorem dX3_init_20 : decode cX3_init 20 = .ok (.putfield 20, 3) := by decide +kernel
theorem dX3_init_23 : decode cX3_init 23 = .ok (.aload_n 0, 1) := by decide +kernel
theorem dX3_init_24 : decode cX3_init 24 = .ok (.new 17, 3) := by decide +kernel
theorem dX3_init_27 : decode cX3_init 27 = .ok (.dup, 1) := by decide +kernel
theorem dX3_init_28 : decode cX3_init 28 = .ok (.invokespecial 19, 3) := by decide +kernel
theorem dX3_init_31 : decode cX3_init 31 = .ok (.putfield 24, 3) := by decide +kernel
theorem dX3_init_34 : decode cX3_init 34 = .ok (.aload_n 0, 1) := by decide +kernel
theorem dX3_init_35 : decode cX3_init 35 = .ok (.new 27, 3) := by decide +kernel
theorem dX3_init_38 : decode cX3_init 38 = .ok (.dup, 1) := by decide +kernel
theorem dX3_init_39 : decode cX3_init 39 = .ok (.invokespecial 29, 3) := by decide +kernel
theorem dX3_init_42 : decode cX3_init 42 = .ok (.putfield 30, 3) := by decide +kernel
theorem dX3_init_45 : decode cX3_init 45 = .ok (.aload_n 0, 1) := by decide +kernel
theorem dX3_init_46 : decode cX3_init 46 = .ok (.bipush 17, 2) := by decide +kernel
theorem dX3_init_48 : decode cX3_init 48 = .ok (.newarray .long, 2) := by decide +kernel
theorem dX3_init_50 : decode cX3_init 50 = .ok (.putfield 34, 3) := by decide +kernel
theorem dX3_init_53 : decode cX3_init 53 = .ok (.aload_n 0, 1) := by decide +kernel
theorem dX3_init_54 : decode cX3_init 54 = .ok (.iconst 0, 1) := by decide +kernel
theorem dX3_init_55 : decode cX3_init 55 = .ok (.putfield 38, 3) := by decide +kernel
theorem dX3_init_58 : decode cX3_init 58 = .ok (.aload_n 0, 1) := by decide +kernel
theorem dX3_init_59 : decode cX3_init 59 = .ok (.iconst 0, 1) := by decide +kernel
theorem dX3_init_60 : decode cX3_init 60 = .ok (.putfield 42, 3) := by decide +kernel
theorem dX3_init_63 : decode cX3_init 63 = .ok (.iconst 0, 1) := by decide +kernel
theorem dX3_init_64 : decode cX3_init 64 = .ok (.istore_n 1, 1) := by decide +kernel
theorem dX3_init_65 : decode cX3_init 65 = .ok (.iload_n 1, 1) := by decide +kernel
theorem dX3_init_66 : decode cX3_init 66 = .ok (.iconst 4, 1) := by decide +kernel
theorem dX3_init_67 : decode cX3_init 67 = .ok (.if_icmp .ge 22, 3) := by decide +kernel
theorem dX3_init_70 : decode cX3_init 70 = .ok (.aload_n 0, 1) := by decide +kernel
theorem dX3_init_71 : decode cX3_init 71 = .ok (.getfield 13, 3) := by decide +kernel
theorem dX3_init_74 : decode cX3_init 74 = .ok (.iload_n 1, 1) := by decide +kernel
theorem dX3_init_75 : decode cX3_init 75 = .ok (.new 11, 3) := by decide +kernel
theorem dX3_init_78 : decode cX3_init 78 = .ok (.dup, 1) := by decide +kernel
theorem dX3_init_79 : decode cX3_init 79 = .ok (.invokespecial 45, 3) := by decide +kernel
theorem dX3_init_82 : decode cX3_init 82 = .ok (.aastore, 1) := by decide +kernel
theorem dX3_init_83 : decode cX3_init 83 = .ok (.iinc 1 1, 3) := by decide +kernel
theorem dX3_init_86 : decode cX3_init 86 = .ok (.goto (-21), 3) := by decide +kernel
theorem dX3_init_89 : decode cX3_init 89 = .ok (.return_, 1) := by decide +kernel
theorem dX3_wall_0 : decode cX3_wall 0 = .ok (.aload_n 0, 1) := by decide +kernel
theorem dX3_wall_1 : decode cX3_wall 1 = .ok (.iconst 0, 1) := by decide +kernel
theorem dX3_wall_2 : decode cX3_wall 2 = .ok (.putfield 42, 3) := by decide +kernel
theorem dX3_wall_5 : decode cX3_wall 5 = .ok (.iload_n 1, 1) := by decide +kernel
theorem dX3_wall_6 : decode cX3_wall 6 = .ok (.invokestatic 46, 3) := by decide +kernel
theorem dX3_wall_9 : decode cX3_wall 9 = .ok (.ifCond .ne 5, 3) := by decide +kernel
theorem dX3_wall_12 : decode cX3_wall 12 = .ok (.iconst (-1), 1) := by decide +kernel
theorem dX3_wall_13 : decode cX3_wall 13 = .ok (.ireturn, 1) := by decide +kernel
theorem dX3_wall_14 : decode cX3_wall 14 = .ok (.iload_n 2, 1) := by decide +kernel
theorem dX3_wall_15 : decode cX3_wall 15 = .ok (.invokestatic 50, 3) := by decide +kernel
theorem dX3_wall_18 : decode cX3_wall 18 = .ok (.ifCond .ne 6, 3) := by decide +kernel
theorem dX3_wall_21 : decode cX3_wall 21 = .ok (.bipush (-2), 2) := by decide +kernel
theorem dX3_wall_23 : decode cX3_wall 23 = .ok (.ireturn, 1) := by decide +kernel
theorem dX3_wall_24 : decode cX3_wall 24 = .ok (.aload_n 0, 1) := by decide +kernel
theorem dX3_wall_25 : decode cX3_wall 25 = .ok (.getfield 13, 3) := by decide +kernel
theorem dX3_wall_28 : decode cX3_wall 28 = .ok (.iload_n 1, 1) := by decide +kernel
theorem dX3_wall_29 : decode cX3_wall 29 = .ok (.aaload, 1) := by decide +kernel
theorem dX3_wall_30 : decode cX3_wall 30 = .ok (.astore 5, 2) := by decide +kernel
theorem dX3_wall_32 : decode cX3_wall 32 = .ok (.aload 5, 2) := by decide +kernel
theorem dX3_wall_34 : decode cX3_wall 34 = .ok (.iload_n 2, 1) := by decide +kernel
theorem dX3_wall_35 : decode cX3_wall 35 = .ok (.iload_n 3, 1) := by decide +kernel
theorem dX3_wall_36 : decode cX3_wall 36 = .ok (.iload 4, 2) := by decide +kernel
theorem dX3_wall_38 : decode cX3_wall 38 = .ok (.invokevirtual 53, 3) := by decide +kernel
theorem dX3_wall_41 : decode cX3_wall 41 = .ok (.istore 6, 2) := by decide +kernel
theorem dX3_wall_43 : decode cX3_wall 43 = .ok (.iload 6, 2) := by decide +kernel
theorem dX3_wall_45 : decode cX3_wall 45 = .ok (.ifCond .eq 10, 3) := by decide +kernel
theorem dX3_wall_48 : decode cX3_wall 48 = .ok (.aload_n 0, 1) := by decide +kernel
theorem dX3_wall_49 : decode cX3_wall 49 = .ok (.iload 6, 2) := by decide +kernel
theorem dX3_wall_51 : decode cX3_wall 51 = .ok (.invokevirtual 57, 3) := by decide +kernel
theorem dX3_wall_54 : decode cX3_wall 54 = .ok (.ireturn, 1) := by decide +kernel
theorem dX3_wall_55 : decode cX3_wall 55 = .ok (.aload_n 0, 1) := by decide +kernel
theorem dX3_wall_56 : decode cX3_wall 56 = .ok (.getfield 24, 3) := by decide +kernel
theorem dX3_wall_59 : decode cX3_wall 59 = .ok (.aload 5, 2) := by decide +kernel
theorem dX3_wall_61 : decode cX3_wall 61 = .ok (.iload_n 3, 1) := by decide +kernel
theorem dX3_wall_62 : decode cX3_wall 62 = .ok (.iload 4, 2) := by decide +kernel
theorem dX3_wall_64 : decode cX3_wall 64 = .ok (.invokevirtual 61, 3) := by decide +kernel
theorem dX3_wall_67 : decode cX3_wall 67 = .ok (.istore 7, 2) := by decide +kernel
theorem dX3_wall_69 : decode cX3_wall 69 = .ok (.iload 7, 2) := by decide +kernel
theorem dX3_wall_71 : decode cX3_wall 71 = .ok (.bipush (-9), 2) := by decide +kernel
theorem dX3_wall_73 : decode cX3_wall 73 = .ok (.if_icmp .eq 9, 3) := by decide +kernel
theorem dX3_wall_76 : decode cX3_wall 76 = .ok (.bipush (-100), 2) := by decide +kernel
theorem dX3_wall_78 : decode cX3_wall 78 = .ok (.iload 7, 2) := by decide +kernel
theorem dX3_wall_80 : decode cX3_wall 80 = .ok (.isub, 1) := by decide +kernel
theorem dX3_wall_81 : decode cX3_wall 81 = .ok (.ireturn, 1) := by decide +kernel
theorem dX3_wall_82 : decode cX3_wall 82 = .ok (.aload_n 0, 1) := by decide +kernel
theorem dX3_wall_83 : decode cX3_wall 83 = .ok (.getfield 20, 3) := by decide +kernel
theorem dX3_wall_86 : decode cX3_wall 86 = .ok (.aload_n 0, 1) := by decide +kernel
theorem dX3_wall_87 : decode cX3_wall 87 = .ok (.getfield 24, 3) := by decide +kernel
theorem dX3_wall_90 : decode cX3_wall 90 = .ok (.invokevirtual 65, 3) := by decide +kernel
theorem dX3_wall_93 : decode cX3_wall 93 = .ok (.aload_n 0, 1) := by decide +kernel
theorem dX3_wall_94 : decode cX3_wall 94 = .ok (.getfield 30, 3) := by decide +kernel
theorem dX3_wall_97 : decode cX3_wall 97 = .ok (.iconst 0, 1) := by decide +kernel
theorem dX3_wall_98 : decode cX3_wall 98 = .ok (.putfield 69, 3) := by decide +kernel
theorem dX3_wall_101 : decode cX3_wall 101 = .ok (.aload_n 0, 1) := by decide +kernel
theorem dX3_wall_102 : decode cX3_wall 102 = .ok (.getfield 20, 3) := by decide +kernel
theorem dX3_wall_105 : decode cX3_wall 105 = .ok (.getfield 72, 3) := by decide +kernel
theorem dX3_wall_108 : decode cX3_wall 108 = .ok (.ireturn, 1) := by decide +kernel
theorem dX3_ofModule_0 : decode cX3_ofModule 0 = .ok (.aload_n 0, 1) := by decide +kernel
theorem dX3_ofModule_1 : decode cX3_ofModule 1 = .ok (.getfield 20, 3) := by decide +kernel
theorem dX3_ofModule_4 : decode cX3_ofModule 4 = .ok (.iload_n 1, 1) := by decide +kernel
theorem dX3_ofModule_5 : decode cX3_ofModule 5 = .ok (.invokevirtual 75, 3) := by decide +kernel
theorem dX3_ofModule_8 : decode cX3_ofModule 8 = .ok (.ifCond .ne 5, 3) := by decide +kernel
theorem dX3_ofModule_11 : decode cX3_ofModule 11 = .ok (.iconst (-1), 1) := by decide +kernel
theorem dX3_ofModule_12 : decode cX3_ofModule 12 = .ok (.ireturn, 1) := by decide +kernel
theorem dX3_ofModule_13 : decode cX3_ofModule 13 = .ok (.iload_n 2, 1) := by decide +kernel
theorem dX3_ofModule_14 : decode cX3_ofModule 14 = .ok (.tableswitch 91 0 4 #[34, 44, 54, 64, 82], 34) := by decide +kernel
theorem dX3_ofModule_48 : decode cX3_ofModule 48 = .ok (.aload_n 0, 1) := by decide +kernel
theorem dX3_ofModule_49 : decode cX3_ofModule 49 = .ok (.getfield 20, 3) := by decide +kernel
theorem dX3_ofModule_52 : decode cX3_ofModule 52 = .ok (.getfield 78, 3) := by decide +kernel
theorem dX3_ofModule_55 : decode cX3_ofModule 55 = .ok (.iload_n 1, 1) := by decide +kernel
theorem dX3_ofModule_56 : decode cX3_ofModule 56 = .ok (.iaload, 1) := by decide +kernel
theorem dX3_ofModule_57 : decode cX3_ofModule 57 = .ok (.ireturn, 1) := by decide +kernel
theorem dX3_ofModule_58 : decode cX3_ofModule 58 = .ok (.aload_n 0, 1) := by decide +kernel
theorem dX3_ofModule_59 : decode cX3_ofModule 59 = .ok (.getfield 20, 3) := by decide +kernel
theorem dX3_ofModule_62 : decode cX3_ofModule 62 = .ok (.getfield 82, 3) := by decide +kernel
theorem dX3_ofModule_65 : decode cX3_ofModule 65 = .ok (.iload_n 1, 1) := by decide +kernel
theorem dX3_ofModule_66 : decode cX3_ofModule 66 = .ok (.iaload, 1) := by decide +kernel
theorem dX3_ofModule_67 : decode cX3_ofModule 67 = .ok (.ireturn, 1) := by decide +kernel
theorem dX3_ofModule_68 : decode cX3_ofModule 68 = .ok (.aload_n 0, 1) := by decide +kernel
theorem dX3_ofModule_69 : decode cX3_ofModule 69 = .ok (.getfield 20, 3) := by decide +kernel
theorem dX3_ofModule_72 : decode cX3_ofModule 72 = .ok (.getfield 85, 3) := by decide +kernel
theorem dX3_ofModule_75 : decode cX3_ofModule 75 = .ok (.iload_n 1, 1) := by decide +kernel
theorem dX3_ofModule_76 : decode cX3_ofModule 76 = .ok (.iaload, 1) := by decide +kernel
theorem dX3_ofModule_77 : decode cX3_ofModule 77 = .ok (.ireturn, 1) := by decide +kernel
theorem dX3_ofModule_78 : decode cX3_ofModule 78 = .ok (.aload_n 0, 1) := by decide +kernel
theorem dX3_ofModule_79 : decode cX3_ofModule 79 = .ok (.getfield 20, 3) := by decide +kernel
theorem dX3_ofModule_82 : decode cX3_ofModule 82 = .ok (.getfield 88, 3) := by decide +kernel
theorem dX3_ofModule_85 : decode cX3_ofModule 85 = .ok (.iload_n 1, 1) := by decide +kernel
theorem dX3_ofModule_86 : decode cX3_ofModule 86 = .ok (.baload, 1) := by decide +kernel
theorem dX3_ofModule_87 : decode cX3_ofModule 87 = .ok (.ifCond .eq 7, 3) := by decide +kernel
theorem dX3_ofModule_90 : decode cX3_ofModule 90 = .ok (.iconst 1, 1) := by decide +kernel
theorem dX3_ofModule_91 : decode cX3_ofModule 91 = .ok (.goto 4, 3) := by decide +kernel
theorem dX3_ofModule_94 : decode cX3_ofModule 94 = .ok (.iconst 0, 1) := by decide +kernel
theorem dX3_ofModule_95 : decode cX3_ofModule 95 = .ok (.ireturn, 1) := by decide +kernel
theorem dX3_ofModule_96 : decode cX3_ofModule 96 = .ok (.aload_n 0, 1) := by decide +kernel
theorem dX3_ofModule_97 : decode cX3_ofModule 97 = .ok (.getfield 20, 3) := by decide +kernel
theorem dX3_ofModule_100 : decode cX3_ofModule 100 = .ok (.iload_n 1, 1) := by decide +kernel
theorem dX3_ofModule_101 : decode cX3_ofModule 101 = .ok (.invokevirtual 92, 3) := by decide +kernel
theorem dX3_ofModule_104 : decode cX3_ofModule 104 = .ok (.ireturn, 1) := by decide +kernel
theorem dX3_ofModule_105 : decode cX3_ofModule 105 = .ok (.bipush (-2), 2) := by decide +kernel
theorem dX3_ofModule_107 : decode cX3_ofModule 107 = .ok (.ireturn, 1) := by decide +kernel
theorem dX3_ofLamp_0 : decode cX3_ofLamp 0 = .ok (.aload_n 0, 1) := by decide +kernel
theorem dX3_ofLamp_1 : decode cX3_ofLamp 1 = .ok (.getfield 20, 3) := by decide +kernel
theorem dX3_ofLamp_4 : decode cX3_ofLamp 4 = .ok (.iload_n 1, 1) := by decide +kernel
theorem dX3_ofLamp_5 : decode cX3_ofLamp 5 = .ok (.invokevirtual 95, 3) := by decide +kernel
theorem dX3_ofLamp_8 : decode cX3_ofLamp 8 = .ok (.ifCond .ne 5, 3) := by decide +kernel
theorem dX3_ofLamp_11 : decode cX3_ofLamp 11 = .ok (.iconst (-1), 1) := by decide +kernel
theorem dX3_ofLamp_12 : decode cX3_ofLamp 12 = .ok (.ireturn, 1) := by decide +kernel
theorem dX3_ofLamp_13 : decode cX3_ofLamp 13 = .ok (.iload_n 2, 1) := by decide +kernel
theorem dX3_ofLamp_14 : decode cX3_ofLamp 14 = .ok (.tableswitch 113 0 6 #[42, 52, 62, 71, 83, 95, 104], 42) := by decide +kernel
theorem dX3_ofLamp_56 : decode cX3_ofLamp 56 = .ok (.aload_n 0, 1) := by decide +kernel
theorem dX3_ofLamp_57 : decode cX3_ofLamp 57 = .ok (.getfield 20, 3) := by decide +kernel
theorem dX3_ofLamp_60 : decode cX3_ofLamp 60 = .ok (.getfield 98, 3) := by decide +kernel
theorem dX3_ofLamp_63 : decode cX3_ofLamp 63 = .ok (.iload_n 1, 1) := by decide +kernel
theorem dX3_ofLamp_64 : decode cX3_ofLamp 64 = .ok (.iaload, 1) := by decide +kernel
theorem dX3_ofLamp_65 : decode cX3_ofLamp 65 = .ok (.ireturn, 1) := by decide +kernel
theorem dX3_ofLamp_66 : decode cX3_ofLamp 66 = .ok (.aload_n 0, 1) := by decide +kernel
theorem dX3_ofLamp_67 : decode cX3_ofLamp 67 = .ok (.getfield 20, 3) := by decide +kernel
theorem dX3_ofLamp_70 : decode cX3_ofLamp 70 = .ok (.getfield 101, 3) := by decide +kernel
theorem dX3_ofLamp_73 : decode cX3_ofLamp 73 = .ok (.iload_n 1, 1) := by decide +kernel
theorem dX3_ofLamp_74 : decode cX3_ofLamp 74 = .ok (.iaload, 1) := by decide +kernel
theorem dX3_ofLamp_75 : decode cX3_ofLamp 75 = .ok (.ireturn, 1) := by decide +kernel
theorem dX3_ofLamp_76 : decode cX3_ofLamp 76 = .ok (.aload_n 0, 1) := by decide +kernel
theorem dX3_ofLamp_77 : decode cX3_ofLamp 77 = .ok (.getfield 20, 3) := by decide +kernel
theorem dX3_ofLamp_80 : decode cX3_ofLamp 80 = .ok (.iload_n 1, 1) := by decide +kernel
theorem dX3_ofLamp_81 : decode cX3_ofLamp 81 = .ok (.invokevirtual 104, 3) := by decide +kernel
theorem dX3_ofLamp_84 : decode cX3_ofLamp 84 = .ok (.ireturn, 1) := by decide +kernel
theorem dX3_ofLamp_85 : decode cX3_ofLamp 85 = .ok (.aload_n 0, 1) := by decide +kernel
theorem dX3_ofLamp_86 : decode cX3_ofLamp 86 = .ok (.getfield 20, 3) := by decide +kernel
theorem dX3_ofLamp_89 : decode cX3_ofLamp 89 = .ok (.iload_n 1, 1) := by decide +kernel
theorem dX3_ofLamp_90 : decode cX3_ofLamp 90 = .ok (.invokevirtual 107, 3) := by decide +kernel
theorem dX3_ofLamp_93 : decode cX3_ofLamp 93 = .ok (.invokestatic 110, 3) := by decide +kernel
theorem dX3_ofLamp_96 : decode cX3_ofLamp 96 = .ok (.ireturn, 1) := by decide +kernel
theorem dX3_ofLamp_97 : decode cX3_ofLamp 97 = .ok (.aload_n 0, 1) := by decide +kernel
theorem dX3_ofLamp_98 : decode cX3_ofLamp 98 = .ok (.getfield 20, 3) := by decide +kernel
theorem dX3_ofLamp_101 : decode cX3_ofLamp 101 = .ok (.iload_n 1, 1) := by decide +kernel
theorem dX3_ofLamp_102 : decode cX3_ofLamp 102 = .ok (.invokevirtual 107, 3) := by decide +kernel
theorem dX3_ofLamp_105 : decode cX3_ofLamp 105 = .ok (.invokestatic 113, 3) := by decide +kernel
theorem dX3_ofLamp_108 : decode cX3_ofLamp 108 = .ok (.ireturn, 1) := by decide +kernel
theorem dX3_ofLamp_109 : decode cX3_ofLamp 109 = .ok (.aload_n 0, 1) := by decide +kernel
theorem dX3_ofLamp_110 : decode cX3_ofLamp 110 = .ok (.getfield 20, 3) := by decide +kernel
theorem dX3_ofLamp_113 : decode cX3_ofLamp 113 = .ok (.iload_n 1, 1) := by decide +kernel
theorem dX3_ofLamp_114 : decode cX3_ofLamp 114 = .ok (.invokevirtual 107, 3) := by decide +kernel
theorem dX3_ofLamp_117 : decode cX3_ofLamp 117 = .ok (.ireturn, 1) := by decide +kernel
theorem dX3_ofLamp_118 : decode cX3_ofLamp 118 = .ok (.aload_n 0, 1) := by decide +kernel
theorem dX3_ofLamp_119 : decode cX3_ofLamp 119 = .ok (.getfield 20, 3) := by decide +kernel
theorem dX3_ofLamp_122 : decode cX3_ofLamp 122 = .ok (.iload_n 1, 1) := by decide +kernel
theorem dX3_ofLamp_123 : decode cX3_ofLamp 123 = .ok (.invokevirtual 116, 3) := by decide +kernel
theorem dX3_ofLamp_126 : decode cX3_ofLamp 126 = .ok (.ireturn, 1) := by decide +kernel
theorem dX3_ofLamp_127 : decode cX3_ofLamp 127 = .ok (.bipush (-2), 2) := by decide +kernel
theorem dX3_ofLamp_129 : decode cX3_ofLamp 129 = .ok (.ireturn, 1) := by decide +kernel
theorem dX3_level_0 : decode cX3_level 0 = .ok (.aload_n 0, 1) := by decide +kernel
theorem dX3_level_1 : decode cX3_level 1 = .ok (.getfield 20, 3) := by decide +kernel
theorem dX3_level_4 : decode cX3_level 4 = .ok (.iload_n 1, 1) := by decide +kernel
theorem dX3_level_5 : decode cX3_level 5 = .ok (.invokevirtual 95, 3) := by decide +kernel
theorem dX3_level_8 : decode cX3_level 8 = .ok (.ifCond .ne 5, 3) := by decide +kernel
theorem dX3_level_11 : decode cX3_level 11 = .ok (.iconst (-1), 1) := by decide +kernel
theorem dX3_level_12 : decode cX3_level 12 = .ok (.ireturn, 1) := by decide +kernel
theorem dX3_level_13 : decode cX3_level 13 = .ok (.iload_n 2, 1) := by decide +kernel
theorem dX3_level_14 : decode cX3_level 14 = .ok (.invokestatic 119, 3) := by decide +kernel
theorem dX3_level_17 : decode cX3_level 17 = .ok (.ifCond .ne 6, 3) := by decide +kernel
theorem dX3_level_20 : decode cX3_level 20 = .ok (.bipush (-2), 2) := by decide +kernel
theorem dX3_level_22 : decode cX3_level 22 = .ok (.ireturn, 1) := by decide +kernel
theorem dX3_level_23 : decode cX3_level 23 = .ok (.aload_n 0, 1) := by decide +kernel
theorem dX3_level_24 : decode cX3_level 24 = .ok (.getfield 20, 3) := by decide +kernel
theorem dX3_level_27 : decode cX3_level 27 = .ok (.getfield 101, 3) := by decide +kernel
theorem dX3_level_30 : decode cX3_level 30 = .ok (.iload_n 1, 1) := by decide +kernel
theorem dX3_level_31 : decode cX3_level 31 = .ok (.iaload, 1) := by decide +kernel
theorem dX3_level_32 : decode cX3_level 32 = .ok (.istore_n 3, 1) := by decide +kernel
theorem dX3_level_33 : decode cX3_level 33 = .ok (.aload_n 0, 1) := by decide +kernel
theorem dX3_level_34 : decode cX3_level 34 = .ok (.getfield 20, 3) := by decide +kernel
theorem dX3_level_37 : decode cX3_level 37 = .ok (.getfield 101, 3) := by decide +kernel
theorem dX3_level_40 : decode cX3_level 40 = .ok (.iload_n 1, 1) := by decide +kernel
theorem dX3_level_41 : decode cX3_level 41 = .ok (.iload_n 2, 1) := by decide +kernel
theorem dX3_level_42 : decode cX3_level 42 = .ok (.iastore, 1) := by decide +kernel
theorem dX3_level_43 : decode cX3_level 43 = .ok (.iload_n 3, 1) := by decide +kernel
theorem dX3_level_44 : decode cX3_level 44 = .ok (.ireturn, 1) := by decide +kernel
theorem dX3_die_0 : decode cX3_die 0 = .ok (.aload_n 0, 1) := by decide +kernel
theorem dX3_die_1 : decode cX3_die 1 = .ok (.getfield 20, 3) := by decide +kernel
theorem dX3_die_4 : decode cX3_die 4 = .ok (.iload_n 1, 1) := by decide +kernel
theorem dX3_die_5 : decode cX3_die 5 = .ok (.invokevirtual 75, 3) := by decide +kernel
theorem dX3_die_8 : decode cX3_die 8 = .ok (.ifCond .ne 5, 3) := by decide +kernel
theorem dX3_die_11 : decode cX3_die 11 = .ok (.iconst (-1), 1) := by decide +kernel
theorem dX3_die_12 : decode cX3_die 12 = .ok (.ireturn, 1) := by decide +kernel
theorem dX3_die_13 : decode cX3_die 13 = .ok (.aload_n 0, 1) := by decide +kernel
theorem dX3_die_14 : decode cX3_die 14 = .ok (.getfield 20, 3) := by decide +kernel
theorem dX3_die_17 : decode cX3_die 17 = .ok (.getfield 88, 3) := by decide +kernel
theorem dX3_die_20 : decode cX3_die 20 = .ok (.iload_n 1, 1) := by decide +kernel
theorem dX3_die_21 : decode cX3_die 21 = .ok (.aload_n 0, 1) := by decide +kernel
theorem dX3_die_22 : decode cX3_die 22 = .ok (.getfield 20, 3) := by decide +kernel
theorem dX3_die_25 : decode cX3_die 25 = .ok (.getfield 88, 3) := by decide +kernel
theorem dX3_die_28 : decode cX3_die 28 = .ok (.iload_n 1, 1) := by decide +kernel
theorem dX3_die_29 : decode cX3_die 29 = .ok (.baload, 1) := by decide +kernel
theorem dX3_die_30 : decode cX3_die 30 = .ok (.ifCond .ne 7, 3) := by decide +kernel
theorem dX3_die_33 : decode cX3_die 33 = .ok (.iconst 1, 1) := by decide +kernel
theorem dX3_die_34 : decode cX3_die 34 = .ok (.goto 4, 3) := by decide +kernel
theorem dX3_die_37 : decode cX3_die 37 = .ok (.iconst 0, 1) := by decide +kernel
theorem dX3_die_38 : decode cX3_die 38 = .ok (.bastore, 1) := by decide +kernel
theorem dX3_die_39 : decode cX3_die 39 = .ok (.aload_n 0, 1) := by decide +kernel
theorem dX3_die_40 : decode cX3_die 40 = .ok (.getfield 20, 3) := by decide +kernel
theorem dX3_die_43 : decode cX3_die 43 = .ok (.getfield 88, 3) := by decide +kernel
theorem dX3_die_46 : decode cX3_die 46 = .ok (.iload_n 1, 1) := by decide +kernel
theorem dX3_die_47 : decode cX3_die 47 = .ok (.baload, 1) := by decide +kernel
theorem dX3_die_48 : decode cX3_die 48 = .ok (.ifCond .eq 7, 3) := by decide +kernel
theorem dX3_die_51 : decode cX3_die 51 = .ok (.iconst 1, 1) := by decide +kernel
theorem dX3_die_52 : decode cX3_die 52 = .ok (.goto 4, 3) := by decide +kernel
theorem dX3_die_55 : decode cX3_die 55 = .ok (.iconst 0, 1) := by decide +kernel
theorem dX3_die_56 : decode cX3_die 56 = .ok (.ireturn, 1) := by decide +kernel
theorem dX3_cut_0 : decode cX3_cut 0 = .ok (.iload_n 1, 1) := by decide +kernel
theorem dX3_cut_1 : decode cX3_cut 1 = .ok (.invokestatic 122, 3) := by decide +kernel
theorem dX3_cut_4 : decode cX3_cut 4 = .ok (.ifCond .ne 6, 3) := by decide +kernel
theorem dX3_cut_7 : decode cX3_cut 7 = .ok (.bipush (-2), 2) := by decide +kernel
theorem dX3_cut_9 : decode cX3_cut 9 = .ok (.ireturn, 1) := by decide +kernel
theorem dX3_cut_10 : decode cX3_cut 10 = .ok (.aload_n 0, 1) := by decide +kernel
theorem dX3_cut_11 : decode cX3_cut 11 = .ok (.getfield 20, 3) := by decide +kernel
theorem dX3_cut_14 : decode cX3_cut 14 = .ok (.invokevirtual 125, 3) := by decide +kernel
theorem dX3_cut_17 : decode cX3_cut 17 = .ok (.ifCond .ne 6, 3) := by decide +kernel
theorem dX3_cut_20 : decode cX3_cut 20 = .ok (.bipush (-3), 2) := by decide +kernel
theorem dX3_cut_22 : decode cX3_cut 22 = .ok (.ireturn, 1) := by decide +kernel
theorem dX3_cut_23 : decode cX3_cut 23 = .ok (.aload_n 0, 1) := by decide +kernel
theorem dX3_cut_24 : decode cX3_cut 24 = .ok (.getfield 20, 3) := by decide +kernel
theorem dX3_cut_27 : decode cX3_cut 27 = .ok (.getfield 129, 3) := by decide +kernel
theorem dX3_cut_30 : decode cX3_cut 30 = .ok (.istore_n 2, 1) := by decide +kernel
theorem dX3_cut_31 : decode cX3_cut 31 = .ok (.aload_n 0, 1) := by decide +kernel
theorem dX3_cut_32 : decode cX3_cut 32 = .ok (.getfield 20, 3) := by decide +kernel
theorem dX3_cut_35 : decode cX3_cut 35 = .ok (.iload_n 1, 1) := by decide +kernel
theorem dX3_cut_36 : decode cX3_cut 36 = .ok (.invokevirtual 132, 3) := by decide +kernel
theorem dX3_cut_39 : decode cX3_cut 39 = .ok (.iload_n 2, 1) := by decide +kernel
theorem dX3_cut_40 : decode cX3_cut 40 = .ok (.ireturn, 1) := by decide +kernel
theorem dX3_ofUnit_0 : decode cX3_ofUnit 0 = .ok (.iload_n 1, 1) := by decide +kernel
theorem dX3_ofUnit_1 : decode cX3_ofUnit 1 = .ok (.invokestatic 136, 3) := by decide +kernel
theorem dX3_ofUnit_4 : decode cX3_ofUnit 4 = .ok (.ifCond .eq 12, 3) := by decide +kernel
theorem dX3_ofUnit_7 : decode cX3_ofUnit 7 = .ok (.iload_n 2, 1) := by decide +kernel
theorem dX3_ofUnit_8 : decode cX3_ofUnit 8 = .ok (.ifCond .lt 8, 3) := by decide +kernel
theorem dX3_ofUnit_11 : decode cX3_ofUnit 11 = .ok (.iload_n 2, 1) := by decide +kernel
theorem dX3_ofUnit_12 : decode cX3_ofUnit 12 = .ok (.iconst 4, 1) := by decide +kernel
theorem dX3_ofUnit_13 : decode cX3_ofUnit 13 = .ok (.if_icmp .le 6, 3) := by decide +kernel
theorem dX3_ofUnit_16 : decode cX3_ofUnit 16 = .ok (.bipush (-2), 2) := by decide +kernel
theorem dX3_ofUnit_18 : decode cX3_ofUnit 18 = .ok (.ireturn, 1) := by decide +kernel
theorem dX3_ofUnit_19 : decode cX3_ofUnit 19 = .ok (.aload_n 0, 1) := by decide +kernel
theorem dX3_ofUnit_20 : decode cX3_ofUnit 20 = .ok (.getfield 20, 3) := by decide +kernel
theorem dX3_ofUnit_23 : decode cX3_ofUnit 23 = .ok (.invokevirtual 125, 3) := by decide +kernel
theorem dX3_ofUnit_26 : decode cX3_ofUnit 26 = .ok (.ifCond .ne 6, 3) := by decide +kernel
theorem dX3_ofUnit_29 : decode cX3_ofUnit 29 = .ok (.bipush (-3), 2) := by decide +kernel
theorem dX3_ofUnit_31 : decode cX3_ofUnit 31 = .ok (.ireturn, 1) := by decide +kernel
theorem dX3_ofUnit_32 : decode cX3_ofUnit 32 = .ok (.iload_n 2, 1) := by decide +kernel
theorem dX3_ofUnit_33 : decode cX3_ofUnit 33 = .ok (.tableswitch 69 0 3 #[31, 41, 50, 59], 31) := by decide +kernel
theorem dX3_ofUnit_64 : decode cX3_ofUnit 64 = .ok (.aload_n 0, 1) := by decide +kernel
theorem dX3_ofUnit_65 : decode cX3_ofUnit 65 = .ok (.getfield 20, 3) := by decide +kernel
theorem dX3_ofUnit_68 : decode cX3_ofUnit 68 = .ok (.getfield 139, 3) := by decide +kernel
theorem dX3_ofUnit_71 : decode cX3_ofUnit 71 = .ok (.iload_n 1, 1) := by decide +kernel
theorem dX3_ofUnit_72 : decode cX3_ofUnit 72 = .ok (.iaload, 1) := by decide +kernel
theorem dX3_ofUnit_73 : decode cX3_ofUnit 73 = .ok (.ireturn, 1) := by decide +kernel
theorem dX3_ofUnit_74 : decode cX3_ofUnit 74 = .ok (.aload_n 0, 1) := by decide +kernel
theorem dX3_ofUnit_75 : decode cX3_ofUnit 75 = .ok (.getfield 20, 3) := by decide +kernel
theorem dX3_ofUnit_78 : decode cX3_ofUnit 78 = .ok (.iload_n 1, 1) := by decide +kernel
theorem dX3_ofUnit_79 : decode cX3_ofUnit 79 = .ok (.invokevirtual 142, 3) := by decide +kernel
theorem dX3_ofUnit_82 : decode cX3_ofUnit 82 = .ok (.ireturn, 1) := by decide +kernel
theorem dX3_ofUnit_83 : decode cX3_ofUnit 83 = .ok (.aload_n 0, 1) := by decide +kernel
theorem dX3_ofUnit_84 : decode cX3_ofUnit 84 = .ok (.getfield 20, 3) := by decide +kernel
theorem dX3_ofUnit_87 : decode cX3_ofUnit 87 = .ok (.iload_n 1, 1) := by decide +kernel
theorem dX3_ofUnit_88 : decode cX3_ofUnit 88 = .ok (.invokevirtual 145, 3) := by decide +kernel
theorem dX3_ofUnit_91 : decode cX3_ofUnit 91 = .ok (.ireturn, 1) := by decide +kernel
theorem dX3_ofUnit_92 : decode cX3_ofUnit 92 = .ok (.aload_n 0, 1) := by decide +kernel
theorem dX3_ofUnit_93 : decode cX3_ofUnit 93 = .ok (.getfield 20, 3) := by decide +kernel
theorem dX3_ofUnit_96 : decode cX3_ofUnit 96 = .ok (.getfield 148, 3) := by decide +kernel
theorem dX3_ofUnit_99 : decode cX3_ofUnit 99 = .ok (.iload_n 1, 1) := by decide +kernel
theorem dX3_ofUnit_100 : decode cX3_ofUnit 100 = .ok (.iaload, 1) := by decide +kernel
theorem dX3_ofUnit_101 : decode cX3_ofUnit 101 = .ok (.ireturn, 1) := by decide +kernel
theorem dX3_ofUnit_102 : decode cX3_ofUnit 102 = .ok (.aload_n 0, 1) := by decide +kernel
theorem dX3_ofUnit_103 : decode cX3_ofUnit 103 = .ok (.getfield 20, 3) := by decide +kernel
theorem dX3_ofUnit_106 : decode cX3_ofUnit 106 = .ok (.iload_n 1, 1) := by decide +kernel
theorem dX3_ofUnit_107 : decode cX3_ofUnit 107 = .ok (.invokevirtual 151, 3) := by decide +kernel
theorem dX3_ofUnit_110 : decode cX3_ofUnit 110 = .ok (.ireturn, 1) := by decide +kernel
theorem dX3_slices_0 : decode cX3_slices 0 = .ok (.iload_n 1, 1) := by decide +kernel
theorem dX3_slices_1 : decode cX3_slices 1 = .ok (.iconst (-1), 1) := by decide +kernel
theorem dX3_slices_2 : decode cX3_slices 2 = .ok (.if_icmp .lt 8, 3) := by decide +kernel
theorem dX3_slices_5 : decode cX3_slices 5 = .ok (.iload_n 1, 1) := by decide +kernel
theorem dX3_slices_6 : decode cX3_slices 6 = .ok (.iconst 4, 1) := by decide +kernel
theorem dX3_slices_7 : decode cX3_slices 7 = .ok (.if_icmp .lt 6, 3) := by decide +kernel
theorem dX3_slices_10 : decode cX3_slices 10 = .ok (.bipush (-2), 2) := by decide +kernel
theorem dX3_slices_12 : decode cX3_slices 12 = .ok (.ireturn, 1) := by decide +kernel
theorem dX3_slices_13 : decode cX3_slices 13 = .ok (.aload_n 0, 1) := by decide +kernel
theorem dX3_slices_14 : decode cX3_slices 14 = .ok (.getfield 20, 3) := by decide +kernel
theorem dX3_slices_17 : decode cX3_slices 17 = .ok (.invokevirtual 125, 3) := by decide +kernel
theorem dX3_slices_20 : decode cX3_slices 20 = .ok (.ifCond .ne 6, 3) := by decide +kernel
theorem dX3_slices_23 : decode cX3_slices 23 = .ok (.bipush (-3), 2) := by decide +kernel
theorem dX3_slices_25 : decode cX3_slices 25 = .ok (.ireturn, 1) := by decide +kernel
theorem dX3_slices_26 : decode cX3_slices 26 = .ok (.iload_n 1, 1) := by decide +kernel
theorem dX3_slices_27 : decode cX3_slices 27 = .ok (.ifCond .lt 12, 3) := by decide +kernel
theorem dX3_slices_30 : decode cX3_slices 30 = .ok (.aload_n 0, 1) := by decide +kernel
theorem dX3_slices_31 : decode cX3_slices 31 = .ok (.getfield 20, 3) := by decide +kernel
theorem dX3_slices_34 : decode cX3_slices 34 = .ok (.iload_n 1, 1) := by decide +kernel
theorem dX3_slices_35 : decode cX3_slices 35 = .ok (.invokevirtual 154, 3) := by decide +kernel
theorem dX3_slices_38 : decode cX3_slices 38 = .ok (.ireturn, 1) := by decide +kernel
theorem dX3_slices_39 : decode cX3_slices 39 = .ok (.iconst 0, 1) := by decide +kernel
theorem dX3_slices_40 : decode cX3_slices 40 = .ok (.istore_n 2, 1) := by decide +kernel
theorem dX3_slices_41 : decode cX3_slices 41 = .ok (.iconst 0, 1) := by decide +kernel
theorem dX3_slices_42 : decode cX3_slices 42 = .ok (.istore_n 3, 1) := by decide +kernel
theorem dX3_slices_43 : decode cX3_slices 43 = .ok (.iload_n 3, 1) := by decide +kernel
theorem dX3_slices_44 : decode cX3_slices 44 = .ok (.iconst 4, 1) := by decide +kernel
theorem dX3_slices_45 : decode cX3_slices 45 = .ok (.if_icmp .ge 20, 3) := by decide +kernel
theorem dX3_slices_48 : decode cX3_slices 48 = .ok (.iload_n 2, 1) := by decide +kernel
theorem dX3_slices_49 : decode cX3_slices 49 = .ok (.aload_n 0, 1) := by decide +kernel
theorem dX3_slices_50 : decode cX3_slices 50 = .ok (.getfield 20, 3) := by decide +kernel
theorem dX3_slices_53 : decode cX3_slices 53 = .ok (.iload_n 3, 1) := by decide +kernel
theorem dX3_slices_54 : decode cX3_slices 54 = .ok (.invokevirtual 154, 3) := by decide +kernel
theorem dX3_slices_57 : decode cX3_slices 57 = .ok (.iadd, 1) := by decide +kernel
theorem dX3_slices_58 : decode cX3_slices 58 = .ok (.istore_n 2, 1) := by decide +kernel
theorem dX3_slices_59 : decode cX3_slices 59 = .ok (.iinc 3 1, 3) := by decide +kernel
theorem dX3_slices_62 : decode cX3_slices 62 = .ok (.goto (-19), 3) := by decide +kernel
theorem dX3_slices_65 : decode cX3_slices 65 = .ok (.iload_n 2, 1) := by decide +kernel
theorem dX3_slices_66 : decode cX3_slices 66 = .ok (.ireturn, 1) := by decide +kernel
theorem dX3_bears_0 : decode cX3_bears 0 = .ok (.iload_n 1, 1) := by decide +kernel
theorem dX3_bears_1 : decode cX3_bears 1 = .ok (.ifCond .lt 9, 3) := by decide +kernel
theorem dX3_bears_4 : decode cX3_bears 4 = .ok (.iload_n 1, 1) := by decide +kernel
theorem dX3_bears_5 : decode cX3_bears 5 = .ok (.bipush 16, 2) := by decide +kernel
theorem dX3_bears_7 : decode cX3_bears 7 = .ok (.if_icmp .le 6, 3) := by decide +kernel
theorem dX3_bears_10 : decode cX3_bears 10 = .ok (.bipush (-2), 2) := by decide +kernel
theorem dX3_bears_12 : decode cX3_bears 12 = .ok (.ireturn, 1) := by decide +kernel
theorem dX3_bears_13 : decode cX3_bears 13 = .ok (.aload_n 0, 1) := by decide +kernel
theorem dX3_bears_14 : decode cX3_bears 14 = .ok (.getfield 20, 3) := by decide +kernel
theorem dX3_bears_17 : decode cX3_bears 17 = .ok (.invokevirtual 125, 3) := by decide +kernel
theorem dX3_bears_20 : decode cX3_bears 20 = .ok (.ifCond .ne 6, 3) := by decide +kernel
theorem dX3_bears_23 : decode cX3_bears 23 = .ok (.bipush (-3), 2) := by decide +kernel
theorem dX3_bears_25 : decode cX3_bears 25 = .ok (.ireturn, 1) := by decide +kernel
theorem dX3_bears_26 : decode cX3_bears 26 = .ok (.bipush 15, 2) := by decide +kernel
theorem dX3_bears_28 : decode cX3_bears 28 = .ok (.istore_n 2, 1) := by decide +kernel
theorem dX3_bears_29 : decode cX3_bears 29 = .ok (.iload_n 2, 1) := by decide +kernel
theorem dX3_bears_30 : decode cX3_bears 30 = .ok (.ifCond .le 23, 3) := by decide +kernel
theorem dX3_bears_33 : decode cX3_bears 33 = .ok (.aload_n 0, 1) := by decide +kernel
theorem dX3_bears_34 : decode cX3_bears 34 = .ok (.getfield 20, 3) := by decide +kernel
theorem dX3_bears_37 : decode cX3_bears 37 = .ok (.iload_n 2, 1) := by decide +kernel
theorem dX3_bears_38 : decode cX3_bears 38 = .ok (.invokevirtual 157, 3) := by decide +kernel
theorem dX3_bears_41 : decode cX3_bears 41 = .ok (.iload_n 1, 1) := by decide +kernel
theorem dX3_bears_42 : decode cX3_bears 42 = .ok (.if_icmp .gt 5, 3) := by decide +kernel
theorem dX3_bears_45 : decode cX3_bears 45 = .ok (.iload_n 2, 1) := by decide +kernel
theorem dX3_bears_46 : decode cX3_bears 46 = .ok (.ireturn, 1) := by decide +kernel
theorem dX3_bears_47 : decode cX3_bears 47 = .ok (.iinc 2 (-1), 3) := by decide +kernel
theorem dX3_bears_50 : decode cX3_bears 50 = .ok (.goto (-21), 3) := by decide +kernel
theorem dX3_bears_53 : decode cX3_bears 53 = .ok (.iconst 0, 1) := by decide +kernel
theorem dX3_bears_54 : decode cX3_bears 54 = .ok (.ireturn, 1) := by decide +kernel
theorem dX3_steadiest_0 : decode cX3_steadiest 0 = .ok (.iload_n 1, 1) := by decide +kernel
theorem dX3_steadiest_1 : decode cX3_steadiest 1 = .ok (.ifCond .lt 8, 3) := by decide +kernel
theorem dX3_steadiest_4 : decode cX3_steadiest 4 = .ok (.iload_n 1, 1) := by decide +kernel
theorem dX3_steadiest_5 : decode cX3_steadiest 5 = .ok (.iconst 2, 1) := by decide +kernel
theorem dX3_steadiest_6 : decode cX3_steadiest 6 = .ok (.if_icmp .le 6, 3) := by decide +kernel
theorem dX3_steadiest_9 : decode cX3_steadiest 9 = .ok (.bipush (-2), 2) := by decide +kernel
theorem dX3_steadiest_11 : decode cX3_steadiest 11 = .ok (.ireturn, 1) := by decide +kernel
theorem dX3_steadiest_12 : decode cX3_steadiest 12 = .ok (.aload_n 0, 1) := by decide +kernel
theorem dX3_steadiest_13 : decode cX3_steadiest 13 = .ok (.getfield 20, 3) := by decide +kernel
theorem dX3_steadiest_16 : decode cX3_steadiest 16 = .ok (.invokevirtual 125, 3) := by decide +kernel
theorem dX3_steadiest_19 : decode cX3_steadiest 19 = .ok (.ifCond .ne 6, 3) := by decide +kernel
theorem dX3_steadiest_22 : decode cX3_steadiest 22 = .ok (.bipush (-3), 2) := by decide +kernel
theorem dX3_steadiest_24 : decode cX3_steadiest 24 = .ok (.ireturn, 1) := by decide +kernel
theorem dX3_steadiest_25 : decode cX3_steadiest 25 = .ok (.iload_n 1, 1) := by decide +kernel
theorem dX3_steadiest_26 : decode cX3_steadiest 26 = .ok (.iconst 2, 1) := by decide +kernel
theorem dX3_steadiest_27 : decode cX3_steadiest 27 = .ok (.if_icmp .ne 11, 3) := by decide +kernel
theorem dX3_steadiest_30 : decode cX3_steadiest 30 = .ok (.aload_n 0, 1) := by decide +kernel
theorem dX3_steadiest_31 : decode cX3_steadiest 31 = .ok (.getfield 20, 3) := by decide +kernel
theorem dX3_steadiest_34 : decode cX3_steadiest 34 = .ok (.invokevirtual 160, 3) := by decide +kernel
theorem dX3_steadiest_37 : decode cX3_steadiest 37 = .ok (.ireturn, 1) := by decide +kernel
theorem dX3_steadiest_38 : decode cX3_steadiest 38 = .ok (.aload_n 0, 1) := by decide +kernel
theorem dX3_steadiest_39 : decode cX3_steadiest 39 = .ok (.getfield 24, 3) := by decide +kernel
theorem dX3_steadiest_42 : decode cX3_steadiest 42 = .ok (.aload_n 0, 1) := by decide +kernel
theorem dX3_steadiest_43 : decode cX3_steadiest 43 = .ok (.getfield 20, 3) := by decide +kernel
theorem dX3_steadiest_46 : decode cX3_steadiest 46 = .ok (.invokevirtual 65, 3) := by decide +kernel
theorem dX3_steadiest_49 : decode cX3_steadiest 49 = .ok (.iconst 1, 1) := by decide +kernel
theorem dX3_steadiest_50 : decode cX3_steadiest 50 = .ok (.istore_n 2, 1) := by decide +kernel
theorem dX3_steadiest_51 : decode cX3_steadiest 51 = .ok (.ldc 166, 2) := by decide +kernel
theorem dX3_steadiest_53 : decode cX3_steadiest 53 = .ok (.istore_n 3, 1) := by decide +kernel
theorem dX3_steadiest_54 : decode cX3_steadiest 54 = .ok (.iconst 1, 1) := by decide +kernel
theorem dX3_steadiest_55 : decode cX3_steadiest 55 = .ok (.istore 4, 2) := by decide +kernel
theorem dX3_steadiest_57 : decode cX3_steadiest 57 = .ok (.iload 4, 2) := by decide +kernel
theorem dX3_steadiest_59 : decode cX3_steadiest 59 = .ok (.bipush 8, 2) := by decide +kernel
theorem dX3_steadiest_61 : decode cX3_steadiest 61 = .ok (.if_icmp .gt 39, 3) := by decide +kernel
theorem dX3_steadiest_64 : decode cX3_steadiest 64 = .ok (.aload_n 0, 1) := by decide +kernel
theorem dX3_steadiest_65 : decode cX3_steadiest 65 = .ok (.getfield 24, 3) := by decide +kernel
theorem dX3_steadiest_68 : decode cX3_steadiest 68 = .ok (.iload 4, 2) := by decide +kernel
theorem dX3_steadiest_70 : decode cX3_steadiest 70 = .ok (.invokevirtual 132, 3) := by decide +kernel
theorem dX3_steadiest_73 : decode cX3_steadiest 73 = .ok (.aload_n 0, 1) := by decide +kernel
theorem dX3_steadiest_74 : decode cX3_steadiest 74 = .ok (.getfield 24, 3) := by decide +kernel
theorem dX3_steadiest_77 : decode cX3_steadiest 77 = .ok (.invokevirtual 160, 3) := by decide +kernel
theorem dX3_steadiest_80 : decode cX3_steadiest 80 = .ok (.istore 5, 2) := by decide +kernel
theorem dX3_steadiest_82 : decode cX3_steadiest 82 = .ok (.iload 5, 2) := by decide +kernel
theorem dX3_steadiest_84 : decode cX3_steadiest 84 = .ok (.iload_n 3, 1) := by decide +kernel
theorem dX3_steadiest_85 : decode cX3_steadiest 85 = .ok (.if_icmp .ge 9, 3) := by decide +kernel
theorem dX3_steadiest_88 : decode cX3_steadiest 88 = .ok (.iload 4, 2) := by decide +kernel
theorem dX3_steadiest_90 : decode cX3_steadiest 90 = .ok (.istore_n 2, 1) := by decide +kernel
theorem dX3_steadiest_91 : decode cX3_steadiest 91 = .ok (.iload 5, 2) := by decide +kernel
theorem dX3_steadiest_93 : decode cX3_steadiest 93 = .ok (.istore_n 3, 1) := by decide +kernel
theorem dX3_steadiest_94 : decode cX3_steadiest 94 = .ok (.iinc 4 1, 3) := by decide +kernel
theorem dX3_steadiest_97 : decode cX3_steadiest 97 = .ok (.goto (-40), 3) := by decide +kernel
theorem dX3_steadiest_100 : decode cX3_steadiest 100 = .ok (.iload_n 1, 1) := by decide +kernel
theorem dX3_steadiest_101 : decode cX3_steadiest 101 = .ok (.ifCond .ne 7, 3) := by decide +kernel
theorem dX3_steadiest_104 : decode cX3_steadiest 104 = .ok (.iload_n 2, 1) := by decide +kernel
theorem dX3_steadiest_105 : decode cX3_steadiest 105 = .ok (.goto 4, 3) := by decide +kernel
theorem dX3_steadiest_108 : decode cX3_steadiest 108 = .ok (.iload_n 3, 1) := by decide +kernel
theorem dX3_steadiest_109 : decode cX3_steadiest 109 = .ok (.ireturn, 1) := by decide +kernel
theorem dX3_send_0 : decode cX3_send 0 = .ok (.aload_n 0, 1) := by decide +kernel
theorem dX3_send_1 : decode cX3_send 1 = .ok (.iconst 0, 1) := by decide +kernel
theorem dX3_send_2 : decode cX3_send 2 = .ok (.putfield 42, 3) := by decide +kernel
theorem dX3_send_5 : decode cX3_send 5 = .ok (.iload_n 1, 1) := by decide +kernel
theorem dX3_send_6 : decode cX3_send 6 = .ok (.invokestatic 46, 3) := by decide +kernel
theorem dX3_send_9 : decode cX3_send 9 = .ok (.ifCond .ne 5, 3) := by decide +kernel
theorem dX3_send_12 : decode cX3_send 12 = .ok (.iconst (-1), 1) := by decide +kernel
theorem dX3_send_13 : decode cX3_send 13 = .ok (.ireturn, 1) := by decide +kernel
theorem dX3_send_14 : decode cX3_send 14 = .ok (.iload_n 2, 1) := by decide +kernel
theorem dX3_send_15 : decode cX3_send 15 = .ok (.invokestatic 50, 3) := by decide +kernel
theorem dX3_send_18 : decode cX3_send 18 = .ok (.ifCond .eq 15, 3) := by decide +kernel
theorem dX3_send_21 : decode cX3_send 21 = .ok (.iload 4, 2) := by decide +kernel
theorem dX3_send_23 : decode cX3_send 23 = .ok (.ifCond .lt 10, 3) := by decide +kernel
theorem dX3_send_26 : decode cX3_send 26 = .ok (.iload 4, 2) := by decide +kernel
theorem dX3_send_28 : decode cX3_send 28 = .ok (.bipush 20, 2) := by decide +kernel
theorem dX3_send_30 : decode cX3_send 30 = .ok (.if_icmp .le 6, 3) := by decide +kernel
theorem dX3_send_33 : decode cX3_send 33 = .ok (.bipush (-2), 2) := by decide +kernel
theorem dX3_send_35 : decode cX3_send 35 = .ok (.ireturn, 1) := by decide +kernel
theorem dX3_send_36 : decode cX3_send 36 = .ok (.aload_n 0, 1) := by decide +kernel
theorem dX3_send_37 : decode cX3_send 37 = .ok (.getfield 20, 3) := by decide +kernel
theorem dX3_send_40 : decode cX3_send 40 = .ok (.invokevirtual 125, 3) := by decide +kernel
theorem dX3_send_43 : decode cX3_send 43 = .ok (.ifCond .ne 6, 3) := by decide +kernel
theorem dX3_send_46 : decode cX3_send 46 = .ok (.bipush (-3), 2) := by decide +kernel
theorem dX3_send_48 : decode cX3_send 48 = .ok (.ireturn, 1) := by decide +kernel
theorem dX3_send_49 : decode cX3_send 49 = .ok (.aload_n 0, 1) := by decide +kernel
theorem dX3_send_50 : decode cX3_send 50 = .ok (.getfield 13, 3) := by decide +kernel
theorem dX3_send_53 : decode cX3_send 53 = .ok (.iload_n 1, 1) := by decide +kernel
theorem dX3_send_54 : decode cX3_send 54 = .ok (.aaload, 1) := by decide +kernel
theorem dX3_send_55 : decode cX3_send 55 = .ok (.astore 5, 2) := by decide +kernel
theorem dX3_send_57 : decode cX3_send 57 = .ok (.aload 5, 2) := by decide +kernel
theorem dX3_send_59 : decode cX3_send 59 = .ok (.iload_n 2, 1) := by decide +kernel
theorem dX3_send_60 : decode cX3_send 60 = .ok (.iload_n 3, 1) := by decide +kernel
theorem dX3_send_61 : decode cX3_send 61 = .ok (.iload 4, 2) := by decide +kernel
theorem dX3_send_63 : decode cX3_send 63 = .ok (.invokevirtual 53, 3) := by decide +kernel
theorem dX3_send_66 : decode cX3_send 66 = .ok (.istore 6, 2) := by decide +kernel
theorem dX3_send_68 : decode cX3_send 68 = .ok (.iload 6, 2) := by decide +kernel
theorem dX3_send_70 : decode cX3_send 70 = .ok (.ifCond .eq 10, 3) := by decide +kernel
theorem dX3_send_73 : decode cX3_send 73 = .ok (.aload_n 0, 1) := by decide +kernel
theorem dX3_send_74 : decode cX3_send 74 = .ok (.iload 6, 2) := by decide +kernel
theorem dX3_send_76 : decode cX3_send 76 = .ok (.invokevirtual 57, 3) := by decide +kernel
theorem dX3_send_79 : decode cX3_send 79 = .ok (.ireturn, 1) := by decide +kernel
theorem dX3_send_80 : decode cX3_send 80 = .ok (.iload_n 3, 1) := by decide +kernel
theorem dX3_send_81 : decode cX3_send 81 = .ok (.istore 7, 2) := by decide +kernel
theorem dX3_send_83 : decode cX3_send 83 = .ok (.iload 7, 2) := by decide +kernel
theorem dX3_send_85 : decode cX3_send 85 = .ok (.iload_n 3, 1) := by decide +kernel
theorem dX3_send_86 : decode cX3_send 86 = .ok (.iload 4, 2) := by decide +kernel
theorem dX3_send_88 : decode cX3_send 88 = .ok (.iadd, 1) := by decide +kernel
theorem dX3_send_89 : decode cX3_send 89 = .ok (.if_icmp .ge 26, 3) := by decide +kernel
theorem dX3_send_92 : decode cX3_send 92 = .ok (.aload 5, 2) := by decide +kernel
theorem dX3_send_94 : decode cX3_send 94 = .ok (.getfield 167, 3) := by decide +kernel
theorem dX3_send_97 : decode cX3_send 97 = .ok (.iload 7, 2) := by decide +kernel
theorem dX3_send_99 : decode cX3_send 99 = .ok (.iaload, 1) := by decide +kernel
theorem dX3_send_100 : decode cX3_send 100 = .ok (.invokestatic 119, 3) := by decide +kernel
theorem dX3_send_103 : decode cX3_send 103 = .ok (.ifCond .ne 6, 3) := by decide +kernel
theorem dX3_send_106 : decode cX3_send 106 = .ok (.bipush (-2), 2) := by decide +kernel
theorem dX3_send_108 : decode cX3_send 108 = .ok (.ireturn, 1) := by decide +kernel
theorem dX3_send_109 : decode cX3_send 109 = .ok (.iinc 7 1, 3) := by decide +kernel
theorem dX3_send_112 : decode cX3_send 112 = .ok (.goto (-29), 3) := by decide +kernel
theorem dX3_send_115 : decode cX3_send 115 = .ok (.iload 4, 2) := by decide +kernel
theorem dX3_send_117 : decode cX3_send 117 = .ok (.aload_n 0, 1) := by decide +kernel
theorem dX3_send_118 : decode cX3_send 118 = .ok (.getfield 20, 3) := by decide +kernel
theorem dX3_send_121 : decode cX3_send 121 = .ok (.aload 5, 2) := by decide +kernel
theorem dX3_send_123 : decode cX3_send 123 = .ok (.iload_n 3, 1) := by decide +kernel
theorem dX3_send_124 : decode cX3_send 124 = .ok (.iload 4, 2) := by decide +kernel
theorem dX3_send_126 : decode cX3_send 126 = .ok (.invokevirtual 170, 3) := by decide +kernel
theorem dX3_send_129 : decode cX3_send 129 = .ok (.isub, 1) := by decide +kernel
theorem dX3_send_130 : decode cX3_send 130 = .ok (.ireturn, 1) := by decide +kernel
theorem dX3_day_0 : decode cX3_day 0 = .ok (.aload_n 0, 1) := by decide +kernel
theorem dX3_day_1 : decode cX3_day 1 = .ok (.iconst 0, 1) := by decide +kernel
theorem dX3_day_2 : decode cX3_day 2 = .ok (.putfield 42, 3) := by decide +kernel
theorem dX3_day_5 : decode cX3_day 5 = .ok (.iload_n 1, 1) := by decide +kernel
theorem dX3_day_6 : decode cX3_day 6 = .ok (.invokestatic 46, 3) := by decide +kernel
theorem dX3_day_9 : decode cX3_day 9 = .ok (.ifCond .ne 5, 3) := by decide +kernel
theorem dX3_day_12 : decode cX3_day 12 = .ok (.iconst (-1), 1) := by decide +kernel
theorem dX3_day_13 : decode cX3_day 13 = .ok (.ireturn, 1) := by decide +kernel
theorem dX3_day_14 : decode cX3_day 14 = .ok (.iload_n 2, 1) := by decide +kernel
theorem dX3_day_15 : decode cX3_day 15 = .ok (.invokestatic 50, 3) := by decide +kernel
theorem dX3_day_18 : decode cX3_day 18 = .ok (.ifCond .eq 23, 3) := by decide +kernel
theorem dX3_day_21 : decode cX3_day 21 = .ok (.iload 4, 2) := by decide +kernel
theorem dX3_day_23 : decode cX3_day 23 = .ok (.ifCond .lt 18, 3) := by decide +kernel
theorem dX3_day_26 : decode cX3_day 26 = .ok (.iload 4, 2) := by decide +kernel
theorem dX3_day_28 : decode cX3_day 28 = .ok (.bipush 20, 2) := by decide +kernel
theorem dX3_day_30 : decode cX3_day 30 = .ok (.if_icmp .gt 11, 3) := by decide +kernel
theorem dX3_day_33 : decode cX3_day 33 = .ok (.iload 5, 2) := by decide +kernel
theorem dX3_day_35 : decode cX3_day 35 = .ok (.invokestatic 173, 3) := by decide +kernel
theorem dX3_day_38 : decode cX3_day 38 = .ok (.ifCond .ne 6, 3) := by decide +kernel
theorem dX3_day_41 : decode cX3_day 41 = .ok (.bipush (-2), 2) := by decide +kernel
theorem dX3_day_43 : decode cX3_day 43 = .ok (.ireturn, 1) := by decide +kernel
theorem dX3_day_44 : decode cX3_day 44 = .ok (.aload_n 0, 1) := by decide +kernel
theorem dX3_day_45 : decode cX3_day 45 = .ok (.getfield 20, 3) := by decide +kernel
theorem dX3_day_48 : decode cX3_day 48 = .ok (.invokevirtual 125, 3) := by decide +kernel
theorem dX3_day_51 : decode cX3_day 51 = .ok (.ifCond .ne 6, 3) := by decide +kernel
theorem dX3_day_54 : decode cX3_day 54 = .ok (.bipush (-3), 2) := by decide +kernel
theorem dX3_day_56 : decode cX3_day 56 = .ok (.ireturn, 1) := by decide +kernel
theorem dX3_day_57 : decode cX3_day 57 = .ok (.aload_n 0, 1) := by decide +kernel
theorem dX3_day_58 : decode cX3_day 58 = .ok (.getfield 13, 3) := by decide +kernel
theorem dX3_day_61 : decode cX3_day 61 = .ok (.iload_n 1, 1) := by decide +kernel
theorem dX3_day_62 : decode cX3_day 62 = .ok (.aaload, 1) := by decide +kernel
theorem dX3_day_63 : decode cX3_day 63 = .ok (.astore 6, 2) := by decide +kernel
theorem dX3_day_65 : decode cX3_day 65 = .ok (.aload 6, 2) := by decide +kernel
theorem dX3_day_67 : decode cX3_day 67 = .ok (.iload_n 2, 1) := by decide +kernel
theorem dX3_day_68 : decode cX3_day 68 = .ok (.iload_n 3, 1) := by decide +kernel
theorem dX3_day_69 : decode cX3_day 69 = .ok (.iconst 2, 1) := by decide +kernel
theorem dX3_day_70 : decode cX3_day 70 = .ok (.iload 4, 2) := by decide +kernel
theorem dX3_day_72 : decode cX3_day 72 = .ok (.imul, 1) := by decide +kernel
theorem dX3_day_73 : decode cX3_day 73 = .ok (.invokevirtual 53, 3) := by decide +kernel
theorem dX3_day_76 : decode cX3_day 76 = .ok (.istore 7, 2) := by decide +kernel
theorem dX3_day_78 : decode cX3_day 78 = .ok (.iload 7, 2) := by decide +kernel
theorem dX3_day_80 : decode cX3_day 80 = .ok (.ifCond .eq 10, 3) := by decide +kernel
theorem dX3_day_83 : decode cX3_day 83 = .ok (.aload_n 0, 1) := by decide +kernel
theorem dX3_day_84 : decode cX3_day 84 = .ok (.iload 7, 2) := by decide +kernel
theorem dX3_day_86 : decode cX3_day 86 = .ok (.invokevirtual 57, 3) := by decide +kernel
theorem dX3_day_89 : decode cX3_day 89 = .ok (.ireturn, 1) := by decide +kernel
theorem dX3_day_90 : decode cX3_day 90 = .ok (.iload_n 3, 1) := by decide +kernel
theorem dX3_day_91 : decode cX3_day 91 = .ok (.istore 8, 2) := by decide +kernel
theorem dX3_day_93 : decode cX3_day 93 = .ok (.iload 8, 2) := by decide +kernel
theorem dX3_day_95 : decode cX3_day 95 = .ok (.iload_n 3, 1) := by decide +kernel
theorem dX3_day_96 : decode cX3_day 96 = .ok (.iconst 2, 1) := by decide +kernel
theorem dX3_day_97 : decode cX3_day 97 = .ok (.iload 4, 2) := by decide +kernel
theorem dX3_day_99 : decode cX3_day 99 = .ok (.imul, 1) := by decide +kernel
theorem dX3_day_100 : decode cX3_day 100 = .ok (.iadd, 1) := by decide +kernel
theorem dX3_day_101 : decode cX3_day 101 = .ok (.if_icmp .ge 36, 3) := by decide +kernel
theorem dX3_day_104 : decode cX3_day 104 = .ok (.aload 6, 2) := by decide +kernel
theorem dX3_day_106 : decode cX3_day 106 = .ok (.getfield 167, 3) := by decide +kernel
theorem dX3_day_109 : decode cX3_day 109 = .ok (.iload 8, 2) := by decide +kernel
theorem dX3_day_111 : decode cX3_day 111 = .ok (.iaload, 1) := by decide +kernel
theorem dX3_day_112 : decode cX3_day 112 = .ok (.aload 6, 2) := by decide +kernel
theorem dX3_day_114 : decode cX3_day 114 = .ok (.getfield 167, 3) := by decide +kernel
theorem dX3_day_117 : decode cX3_day 117 = .ok (.iload 8, 2) := by decide +kernel
theorem dX3_day_119 : decode cX3_day 119 = .ok (.iconst 1, 1) := by decide +kernel
theorem dX3_day_120 : decode cX3_day 120 = .ok (.iadd, 1) := by decide +kernel
theorem dX3_day_121 : decode cX3_day 121 = .ok (.iaload, 1) := by decide +kernel
theorem dX3_day_122 : decode cX3_day 122 = .ok (.invokestatic 176, 3) := by decide +kernel
theorem dX3_day_125 : decode cX3_day 125 = .ok (.ifCond .ne 6, 3) := by decide +kernel
theorem dX3_day_128 : decode cX3_day 128 = .ok (.bipush (-2), 2) := by decide +kernel
theorem dX3_day_130 : decode cX3_day 130 = .ok (.ireturn, 1) := by decide +kernel
theorem dX3_day_131 : decode cX3_day 131 = .ok (.iinc 8 2, 3) := by decide +kernel
theorem dX3_day_134 : decode cX3_day 134 = .ok (.goto (-41), 3) := by decide +kernel
theorem dX3_day_137 : decode cX3_day 137 = .ok (.aload_n 0, 1) := by decide +kernel
theorem dX3_day_138 : decode cX3_day 138 = .ok (.getfield 24, 3) := by decide +kernel
theorem dX3_day_141 : decode cX3_day 141 = .ok (.aload_n 0, 1) := by decide +kernel
theorem dX3_day_142 : decode cX3_day 142 = .ok (.getfield 20, 3) := by decide +kernel
theorem dX3_day_145 : decode cX3_day 145 = .ok (.invokevirtual 65, 3) := by decide +kernel
theorem dX3_day_148 : decode cX3_day 148 = .ok (.aload_n 0, 1) := by decide +kernel
theorem dX3_day_149 : decode cX3_day 149 = .ok (.getfield 24, 3) := by decide +kernel
theorem dX3_day_152 : decode cX3_day 152 = .ok (.aload 6, 2) := by decide +kernel
theorem dX3_day_154 : decode cX3_day 154 = .ok (.iload_n 3, 1) := by decide +kernel
theorem dX3_day_155 : decode cX3_day 155 = .ok (.iload 4, 2) := by decide +kernel
theorem dX3_day_157 : decode cX3_day 157 = .ok (.invokevirtual 180, 3) := by decide +kernel
theorem dX3_day_160 : decode cX3_day 160 = .ok (.istore 8, 2) := by decide +kernel
theorem dX3_day_162 : decode cX3_day 162 = .ok (.iload 5, 2) := by decide +kernel
theorem dX3_day_164 : decode cX3_day 164 = .ok (.iconst 1, 1) := by decide +kernel
theorem dX3_day_165 : decode cX3_day 165 = .ok (.if_icmp .ne 6, 3) := by decide +kernel
theorem dX3_day_168 : decode cX3_day 168 = .ok (.iload 8, 2) := by decide +kernel
theorem dX3_day_170 : decode cX3_day 170 = .ok (.ireturn, 1) := by decide +kernel
theorem dX3_day_171 : decode cX3_day 171 = .ok (.iload 8, 2) := by decide +kernel
theorem dX3_day_173 : decode cX3_day 173 = .ok (.bipush (-9), 2) := by decide +kernel
theorem dX3_day_175 : decode cX3_day 175 = .ok (.if_icmp .eq 11, 3) := by decide +kernel
theorem dX3_day_178 : decode cX3_day 178 = .ok (.bipush (-100), 2) := by decide +kernel
theorem dX3_day_180 : decode cX3_day 180 = .ok (.iload 8, 2) := by decide +kernel
theorem dX3_day_182 : decode cX3_day 182 = .ok (.isub, 1) := by decide +kernel
theorem dX3_day_183 : decode cX3_day 183 = .ok (.goto 9, 3) := by decide +kernel
theorem dX3_day_186 : decode cX3_day 186 = .ok (.aload_n 0, 1) := by decide +kernel
theorem dX3_day_187 : decode cX3_day 187 = .ok (.iload 5, 2) := by decide +kernel
theorem dX3_day_189 : decode cX3_day 189 = .ok (.invokevirtual 183, 3) := by decide +kernel
theorem dX3_day_192 : decode cX3_day 192 = .ok (.ireturn, 1) := by decide +kernel
theorem dX3_reading_0 : decode cX3_reading 0 = .ok (.aload_n 0, 1) := by decide +kernel
theorem dX3_reading_1 : decode cX3_reading 1 = .ok (.getfield 20, 3) := by decide +kernel
theorem dX3_reading_4 : decode cX3_reading 4 = .ok (.iload_n 2, 1) := by decide +kernel
theorem dX3_reading_5 : decode cX3_reading 5 = .ok (.invokevirtual 95, 3) := by decide +kernel
theorem dX3_reading_8 : decode cX3_reading 8 = .ok (.ifCond .ne 5, 3) := by decide +kernel
theorem dX3_reading_11 : decode cX3_reading 11 = .ok (.iconst (-1), 1) := by decide +kernel
theorem dX3_reading_12 : decode cX3_reading 12 = .ok (.ireturn, 1) := by decide +kernel
theorem dX3_reading_13 : decode cX3_reading 13 = .ok (.iload_n 1, 1) := by decide +kernel
theorem dX3_reading_14 : decode cX3_reading 14 = .ok (.invokestatic 136, 3) := by decide +kernel
theorem dX3_reading_17 : decode cX3_reading 17 = .ok (.ifCond .eq 12, 3) := by decide +kernel
theorem dX3_reading_20 : decode cX3_reading 20 = .ok (.iload_n 3, 1) := by decide +kernel
theorem dX3_reading_21 : decode cX3_reading 21 = .ok (.ifCond .lt 8, 3) := by decide +kernel
theorem dX3_reading_24 : decode cX3_reading 24 = .ok (.iload_n 3, 1) := by decide +kernel
theorem dX3_reading_25 : decode cX3_reading 25 = .ok (.iconst 1, 1) := by decide +kernel
theorem dX3_reading_26 : decode cX3_reading 26 = .ok (.if_icmp .le 6, 3) := by decide +kernel
theorem dX3_reading_29 : decode cX3_reading 29 = .ok (.bipush (-2), 2) := by decide +kernel
theorem dX3_reading_31 : decode cX3_reading 31 = .ok (.ireturn, 1) := by decide +kernel
theorem dX3_reading_32 : decode cX3_reading 32 = .ok (.aload_n 0, 1) := by decide +kernel
theorem dX3_reading_33 : decode cX3_reading 33 = .ok (.getfield 30, 3) := by decide +kernel
theorem dX3_reading_36 : decode cX3_reading 36 = .ok (.getfield 69, 3) := by decide +kernel
theorem dX3_reading_39 : decode cX3_reading 39 = .ok (.bipush 8, 2) := by decide +kernel
theorem dX3_reading_41 : decode cX3_reading 41 = .ok (.if_icmp .lt 6, 3) := by decide +kernel
theorem dX3_reading_44 : decode cX3_reading 44 = .ok (.bipush (-4), 2) := by decide +kernel
theorem dX3_reading_46 : decode cX3_reading 46 = .ok (.ireturn, 1) := by decide +kernel
theorem dX3_reading_47 : decode cX3_reading 47 = .ok (.aload_n 0, 1) := by decide +kernel
theorem dX3_reading_48 : decode cX3_reading 48 = .ok (.getfield 30, 3) := by decide +kernel
theorem dX3_reading_51 : decode cX3_reading 51 = .ok (.iload_n 1, 1) := by decide +kernel
theorem dX3_reading_52 : decode cX3_reading 52 = .ok (.iload_n 2, 1) := by decide +kernel
theorem dX3_reading_53 : decode cX3_reading 53 = .ok (.iload_n 3, 1) := by decide +kernel
theorem dX3_reading_54 : decode cX3_reading 54 = .ok (.iconst 1, 1) := by decide +kernel
theorem dX3_reading_55 : decode cX3_reading 55 = .ok (.if_icmp .ne 7, 3) := by decide +kernel
theorem dX3_reading_58 : decode cX3_reading 58 = .ok (.iconst 1, 1) := by decide +kernel
theorem dX3_reading_59 : decode cX3_reading 59 = .ok (.goto 4, 3) := by decide +kernel
theorem dX3_reading_62 : decode cX3_reading 62 = .ok (.iconst 0, 1) := by decide +kernel
theorem dX3_reading_63 : decode cX3_reading 63 = .ok (.invokevirtual 186, 3) := by decide +kernel
theorem dX3_reading_66 : decode cX3_reading 66 = .ok (.ireturn, 1) := by decide +kernel
theorem dX3_back_0 : decode cX3_back 0 = .ok (.iload_n 1, 1) := by decide +kernel
theorem dX3_back_1 : decode cX3_back 1 = .ok (.ifCond .lt 14, 3) := by decide +kernel
theorem dX3_back_4 : decode cX3_back 4 = .ok (.iload_n 1, 1) := by decide +kernel
theorem dX3_back_5 : decode cX3_back 5 = .ok (.aload_n 0, 1) := by decide +kernel
theorem dX3_back_6 : decode cX3_back 6 = .ok (.getfield 30, 3) := by decide +kernel
theorem dX3_back_9 : decode cX3_back 9 = .ok (.getfield 69, 3) := by decide +kernel
theorem dX3_back_12 : decode cX3_back 12 = .ok (.if_icmp .le 6, 3) := by decide +kernel
theorem dX3_back_15 : decode cX3_back 15 = .ok (.bipush (-2), 2) := by decide +kernel
theorem dX3_back_17 : decode cX3_back 17 = .ok (.ireturn, 1) := by decide +kernel
theorem dX3_back_18 : decode cX3_back 18 = .ok (.aload_n 0, 1) := by decide +kernel
theorem dX3_back_19 : decode cX3_back 19 = .ok (.getfield 30, 3) := by decide +kernel
theorem dX3_back_22 : decode cX3_back 22 = .ok (.dup, 1) := by decide +kernel
theorem dX3_back_23 : decode cX3_back 23 = .ok (.getfield 69, 3) := by decide +kernel
theorem dX3_back_26 : decode cX3_back 26 = .ok (.iload_n 1, 1) := by decide +kernel
theorem dX3_back_27 : decode cX3_back 27 = .ok (.isub, 1) := by decide +kernel
theorem dX3_back_28 : decode cX3_back 28 = .ok (.putfield 69, 3) := by decide +kernel
theorem dX3_back_31 : decode cX3_back 31 = .ok (.aload_n 0, 1) := by decide +kernel
theorem dX3_back_32 : decode cX3_back 32 = .ok (.getfield 30, 3) := by decide +kernel
theorem dX3_back_35 : decode cX3_back 35 = .ok (.getfield 69, 3) := by decide +kernel
theorem dX3_back_38 : decode cX3_back 38 = .ok (.ireturn, 1) := by decide +kernel
theorem dX3_kinds_0 : decode cX3_kinds 0 = .ok (.aload_n 0, 1) := by decide +kernel
theorem dX3_kinds_1 : decode cX3_kinds 1 = .ok (.getfield 20, 3) := by decide +kernel
theorem dX3_kinds_4 : decode cX3_kinds 4 = .ok (.iload_n 1, 1) := by decide +kernel
theorem dX3_kinds_5 : decode cX3_kinds 5 = .ok (.invokevirtual 75, 3) := by decide +kernel
theorem dX3_kinds_8 : decode cX3_kinds 8 = .ok (.ifCond .ne 5, 3) := by decide +kernel
theorem dX3_kinds_11 : decode cX3_kinds 11 = .ok (.iconst (-1), 1) := by decide +kernel
theorem dX3_kinds_12 : decode cX3_kinds 12 = .ok (.ireturn, 1) := by decide +kernel
theorem dX3_kinds_13 : decode cX3_kinds 13 = .ok (.aload_n 0, 1) := by decide +kernel
theorem dX3_kinds_14 : decode cX3_kinds 14 = .ok (.getfield 24, 3) := by decide +kernel
theorem dX3_kinds_17 : decode cX3_kinds 17 = .ok (.aload_n 0, 1) := by decide +kernel
theorem dX3_kinds_18 : decode cX3_kinds 18 = .ok (.getfield 20, 3) := by decide +kernel
theorem dX3_kinds_21 : decode cX3_kinds 21 = .ok (.invokevirtual 65, 3) := by decide +kernel
theorem dX3_kinds_24 : decode cX3_kinds 24 = .ok (.iconst 0, 1) := by decide +kernel
theorem dX3_kinds_25 : decode cX3_kinds 25 = .ok (.istore_n 2, 1) := by decide +kernel
theorem dX3_kinds_26 : decode cX3_kinds 26 = .ok (.iconst 0, 1) := by decide +kernel
theorem dX3_kinds_27 : decode cX3_kinds 27 = .ok (.istore_n 3, 1) := by decide +kernel
theorem dX3_kinds_28 : decode cX3_kinds 28 = .ok (.iload_n 3, 1) := by decide +kernel
theorem dX3_kinds_29 : decode cX3_kinds 29 = .ok (.iconst 3, 1) := by decide +kernel
theorem dX3_kinds_30 : decode cX3_kinds 30 = .ok (.if_icmp .ge 39, 3) := by decide +kernel
theorem dX3_kinds_33 : decode cX3_kinds 33 = .ok (.aload_n 0, 1) := by decide +kernel
theorem dX3_kinds_34 : decode cX3_kinds 34 = .ok (.getfield 24, 3) := by decide +kernel
theorem dX3_kinds_37 : decode cX3_kinds 37 = .ok (.getfield 78, 3) := by decide +kernel
theorem dX3_kinds_40 : decode cX3_kinds 40 = .ok (.iload_n 1, 1) := by decide +kernel
theorem dX3_kinds_41 : decode cX3_kinds 41 = .ok (.iload_n 3, 1) := by decide +kernel
theorem dX3_kinds_42 : decode cX3_kinds 42 = .ok (.iastore, 1) := by decide +kernel
theorem dX3_kinds_43 : decode cX3_kinds 43 = .ok (.aload_n 0, 1) := by decide +kernel
theorem dX3_kinds_44 : decode cX3_kinds 44 = .ok (.getfield 30, 3) := by decide +kernel
theorem dX3_kinds_47 : decode cX3_kinds 47 = .ok (.aload_n 0, 1) := by decide +kernel
theorem dX3_kinds_48 : decode cX3_kinds 48 = .ok (.getfield 24, 3) := by decide +kernel
theorem dX3_kinds_51 : decode cX3_kinds 51 = .ok (.invokevirtual 190, 3) := by decide +kernel
theorem dX3_kinds_54 : decode cX3_kinds 54 = .ok (.ifCond .eq 9, 3) := by decide +kernel
theorem dX3_kinds_57 : decode cX3_kinds 57 = .ok (.iload_n 2, 1) := by decide +kernel
theorem dX3_kinds_58 : decode cX3_kinds 58 = .ok (.iconst 1, 1) := by decide +kernel
theorem dX3_kinds_59 : decode cX3_kinds 59 = .ok (.iload_n 3, 1) := by decide +kernel
theorem dX3_kinds_60 : decode cX3_kinds 60 = .ok (.ishl, 1) := by decide +kernel
theorem dX3_kinds_61 : decode cX3_kinds 61 = .ok (.ior, 1) := by decide +kernel
theorem dX3_kinds_62 : decode cX3_kinds 62 = .ok (.istore_n 2, 1) := by decide +kernel
theorem dX3_kinds_63 : decode cX3_kinds 63 = .ok (.iinc 3 1, 3) := by decide +kernel
theorem dX3_kinds_66 : decode cX3_kinds 66 = .ok (.goto (-38), 3) := by decide +kernel
theorem dX3_kinds_69 : decode cX3_kinds 69 = .ok (.iload_n 2, 1) := by decide +kernel
theorem dX3_kinds_70 : decode cX3_kinds 70 = .ok (.ireturn, 1) := by decide +kernel
theorem dX3_levels_0 : decode cX3_levels 0 = .ok (.aload_n 0, 1) := by decide +kernel
theorem dX3_levels_1 : decode cX3_levels 1 = .ok (.getfield 20, 3) := by decide +kernel
theorem dX3_levels_4 : decode cX3_levels 4 = .ok (.iload_n 1, 1) := by decide +kernel
theorem dX3_levels_5 : decode cX3_levels 5 = .ok (.invokevirtual 95, 3) := by decide +kernel
theorem dX3_levels_8 : decode cX3_levels 8 = .ok (.ifCond .ne 5, 3) := by decide +kernel
theorem dX3_levels_11 : decode cX3_levels 11 = .ok (.iconst (-1), 1) := by decide +kernel
theorem dX3_levels_12 : decode cX3_levels 12 = .ok (.ireturn, 1) := by decide +kernel
theorem dX3_levels_13 : decode cX3_levels 13 = .ok (.aload_n 0, 1) := by decide +kernel
theorem dX3_levels_14 : decode cX3_levels 14 = .ok (.getfield 24, 3) := by decide +kernel
theorem dX3_levels_17 : decode cX3_levels 17 = .ok (.aload_n 0, 1) := by decide +kernel
theorem dX3_levels_18 : decode cX3_levels 18 = .ok (.getfield 20, 3) := by decide +kernel
theorem dX3_levels_21 : decode cX3_levels 21 = .ok (.invokevirtual 65, 3) := by decide +kernel
theorem dX3_levels_24 : decode cX3_levels 24 = .ok (.iconst 0, 1) := by decide +kernel
theorem dX3_levels_25 : decode cX3_levels 25 = .ok (.istore_n 2, 1) := by decide +kernel
theorem dX3_levels_26 : decode cX3_levels 26 = .ok (.iconst 0, 1) := by decide +kernel
theorem dX3_levels_27 : decode cX3_levels 27 = .ok (.istore_n 3, 1) := by decide +kernel
theorem dX3_levels_28 : decode cX3_levels 28 = .ok (.iload_n 3, 1) := by decide +kernel
theorem dX3_levels_29 : decode cX3_levels 29 = .ok (.bipush 9, 2) := by decide +kernel
theorem dX3_levels_31 : decode cX3_levels 31 = .ok (.if_icmp .gt 39, 3) := by decide +kernel
theorem dX3_levels_34 : decode cX3_levels 34 = .ok (.aload_n 0, 1) := by decide +kernel
theorem dX3_levels_35 : decode cX3_levels 35 = .ok (.getfield 24, 3) := by decide +kernel
theorem dX3_levels_38 : decode cX3_levels 38 = .ok (.getfield 101, 3) := by decide +kernel
theorem dX3_levels_41 : decode cX3_levels 41 = .ok (.iload_n 1, 1) := by decide +kernel
theorem dX3_levels_42 : decode cX3_levels 42 = .ok (.iload_n 3, 1) := by decide +kernel
theorem dX3_levels_43 : decode cX3_levels 43 = .ok (.iastore, 1) := by decide +kernel
theorem dX3_levels_44 : decode cX3_levels 44 = .ok (.aload_n 0, 1) := by decide +kernel
theorem dX3_levels_45 : decode cX3_levels 45 = .ok (.getfield 30, 3) := by decide +kernel
theorem dX3_levels_48 : decode cX3_levels 48 = .ok (.aload_n 0, 1) := by decide +kernel
theorem dX3_levels_49 : decode cX3_levels 49 = .ok (.getfield 24, 3) := by decide +kernel
theorem dX3_levels_52 : decode cX3_levels 52 = .ok (.invokevirtual 190, 3) := by decide +kernel
theorem dX3_levels_55 : decode cX3_levels 55 = .ok (.ifCond .eq 9, 3) := by decide +kernel
theorem dX3_levels_58 : decode cX3_levels 58 = .ok (.iload_n 2, 1) := by decide +kernel
theorem dX3_levels_59 : decode cX3_levels 59 = .ok (.iconst 1, 1) := by decide +kernel
theorem dX3_levels_60 : decode cX3_levels 60 = .ok (.iload_n 3, 1) := by decide +kernel
theorem dX3_levels_61 : decode cX3_levels 61 = .ok (.ishl, 1) := by decide +kernel
theorem dX3_levels_62 : decode cX3_levels 62 = .ok (.ior, 1) := by decide +kernel
theorem dX3_levels_63 : decode cX3_levels 63 = .ok (.istore_n 2, 1) := by decide +kernel
theorem dX3_levels_64 : decode cX3_levels 64 = .ok (.iinc 3 1, 3) := by decide +kernel
theorem dX3_levels_67 : decode cX3_levels 67 = .ok (.goto (-39), 3) := by decide +kernel
theorem dX3_levels_70 : decode cX3_levels 70 = .ok (.iload_n 2, 1) := by decide +kernel
theorem dX3_levels_71 : decode cX3_levels 71 = .ok (.ireturn, 1) := by decide +kernel
theorem dX3_cuts_0 : decode cX3_cuts 0 = .ok (.aload_n 0, 1) := by decide +kernel
theorem dX3_cuts_1 : decode cX3_cuts 1 = .ok (.getfield 20, 3) := by decide +kernel
theorem dX3_cuts_4 : decode cX3_cuts 4 = .ok (.invokevirtual 125, 3) := by decide +kernel
theorem dX3_cuts_7 : decode cX3_cuts 7 = .ok (.ifCond .ne 6, 3) := by decide +kernel
theorem dX3_cuts_10 : decode cX3_cuts 10 = .ok (.bipush (-3), 2) := by decide +kernel
theorem dX3_cuts_12 : decode cX3_cuts 12 = .ok (.ireturn, 1) := by decide +kernel
theorem dX3_cuts_13 : decode cX3_cuts 13 = .ok (.aload_n 0, 1) := by decide +kernel
theorem dX3_cuts_14 : decode cX3_cuts 14 = .ok (.getfield 24, 3) := by decide +kernel
theorem dX3_cuts_17 : decode cX3_cuts 17 = .ok (.aload_n 0, 1) := by decide +kernel
theorem dX3_cuts_18 : decode cX3_cuts 18 = .ok (.getfield 20, 3) := by decide +kernel
theorem dX3_cuts_21 : decode cX3_cuts 21 = .ok (.invokevirtual 65, 3) := by decide +kernel
theorem dX3_cuts_24 : decode cX3_cuts 24 = .ok (.iconst 0, 1) := by decide +kernel
theorem dX3_cuts_25 : decode cX3_cuts 25 = .ok (.istore_n 1, 1) := by decide +kernel
theorem dX3_cuts_26 : decode cX3_cuts 26 = .ok (.iconst 1, 1) := by decide +kernel
theorem dX3_cuts_27 : decode cX3_cuts 27 = .ok (.istore_n 2, 1) := by decide +kernel
theorem dX3_cuts_28 : decode cX3_cuts 28 = .ok (.iload_n 2, 1) := by decide +kernel
theorem dX3_cuts_29 : decode cX3_cuts 29 = .ok (.bipush 8, 2) := by decide +kernel
theorem dX3_cuts_31 : decode cX3_cuts 31 = .ok (.if_icmp .gt 37, 3) := by decide +kernel
theorem dX3_cuts_34 : decode cX3_cuts 34 = .ok (.aload_n 0, 1) := by decide +kernel
theorem dX3_cuts_35 : decode cX3_cuts 35 = .ok (.getfield 24, 3) := by decide +kernel
theorem dX3_cuts_38 : decode cX3_cuts 38 = .ok (.iload_n 2, 1) := by decide +kernel
theorem dX3_cuts_39 : decode cX3_cuts 39 = .ok (.invokevirtual 132, 3) := by decide +kernel
theorem dX3_cuts_42 : decode cX3_cuts 42 = .ok (.aload_n 0, 1) := by decide +kernel
theorem dX3_cuts_43 : decode cX3_cuts 43 = .ok (.getfield 30, 3) := by decide +kernel
theorem dX3_cuts_46 : decode cX3_cuts 46 = .ok (.aload_n 0, 1) := by decide +kernel
theorem dX3_cuts_47 : decode cX3_cuts 47 = .ok (.getfield 24, 3) := by decide +kernel
theorem dX3_cuts_50 : decode cX3_cuts 50 = .ok (.invokevirtual 190, 3) := by decide +kernel
theorem dX3_cuts_53 : decode cX3_cuts 53 = .ok (.ifCond .eq 9, 3) := by decide +kernel
theorem dX3_cuts_56 : decode cX3_cuts 56 = .ok (.iload_n 1, 1) := by decide +kernel
theorem dX3_cuts_57 : decode cX3_cuts 57 = .ok (.iconst 1, 1) := by decide +kernel
theorem dX3_cuts_58 : decode cX3_cuts 58 = .ok (.iload_n 2, 1) := by decide +kernel
theorem dX3_cuts_59 : decode cX3_cuts 59 = .ok (.ishl, 1) := by decide +kernel
theorem dX3_cuts_60 : decode cX3_cuts 60 = .ok (.ior, 1) := by decide +kernel
theorem dX3_cuts_61 : decode cX3_cuts 61 = .ok (.istore_n 1, 1) := by decide +kernel
theorem dX3_cuts_62 : decode cX3_cuts 62 = .ok (.iinc 2 1, 3) := by decide +kernel
theorem dX3_cuts_65 : decode cX3_cuts 65 = .ok (.goto (-37), 3) := by decide +kernel
theorem dX3_cuts_68 : decode cX3_cuts 68 = .ok (.iload_n 1, 1) := by decide +kernel
theorem dX3_cuts_69 : decode cX3_cuts 69 = .ok (.ireturn, 1) := by decide +kernel
theorem dX3_odds_0 : decode cX3_odds 0 = .ok (.iload_n 1, 1) := by decide +kernel
theorem dX3_odds_1 : decode cX3_odds 1 = .ok (.invokestatic 136, 3) := by decide +kernel
theorem dX3_odds_4 : decode cX3_odds 4 = .ok (.ifCond .eq 22, 3) := by decide +kernel
theorem dX3_odds_7 : decode cX3_odds 7 = .ok (.iload_n 2, 1) := by decide +kernel
theorem dX3_odds_8 : decode cX3_odds 8 = .ok (.ifCond .lt 18, 3) := by decide +kernel
theorem dX3_odds_11 : decode cX3_odds 11 = .ok (.iload_n 2, 1) := by decide +kernel
theorem dX3_odds_12 : decode cX3_odds 12 = .ok (.bipush 16, 2) := by decide +kernel
theorem dX3_odds_14 : decode cX3_odds 14 = .ok (.if_icmp .gt 12, 3) := by decide +kernel
theorem dX3_odds_17 : decode cX3_odds 17 = .ok (.iload_n 3, 1) := by decide +kernel
theorem dX3_odds_18 : decode cX3_odds 18 = .ok (.ifCond .lt 8, 3) := by decide +kernel
theorem dX3_odds_21 : decode cX3_odds 21 = .ok (.iload_n 3, 1) := by decide +kernel
theorem dX3_odds_22 : decode cX3_odds 22 = .ok (.iconst 1, 1) := by decide +kernel
theorem dX3_odds_23 : decode cX3_odds 23 = .ok (.if_icmp .le 7, 3) := by decide +kernel
theorem dX3_odds_26 : decode cX3_odds 26 = .ok (.ldc2_w 194, 3) := by decide +kernel
theorem dX3_odds_29 : decode cX3_odds 29 = .ok (.lreturn, 1) := by decide +kernel
theorem dX3_odds_30 : decode cX3_odds 30 = .ok (.aload_n 0, 1) := by decide +kernel
theorem dX3_odds_31 : decode cX3_odds 31 = .ok (.getfield 20, 3) := by decide +kernel
theorem dX3_odds_34 : decode cX3_odds 34 = .ok (.invokevirtual 125, 3) := by decide +kernel
theorem dX3_odds_37 : decode cX3_odds 37 = .ok (.ifCond .ne 7, 3) := by decide +kernel
theorem dX3_odds_40 : decode cX3_odds 40 = .ok (.ldc2_w 194, 3) := by decide +kernel
theorem dX3_odds_43 : decode cX3_odds 43 = .ok (.lreturn, 1) := by decide +kernel
theorem dX3_odds_44 : decode cX3_odds 44 = .ok (.aload_n 0, 1) := by decide +kernel
theorem dX3_odds_45 : decode cX3_odds 45 = .ok (.aload_n 0, 1) := by decide +kernel
theorem dX3_odds_46 : decode cX3_odds 46 = .ok (.getfield 20, 3) := by decide +kernel
theorem dX3_odds_49 : decode cX3_odds 49 = .ok (.getfield 139, 3) := by decide +kernel
theorem dX3_odds_52 : decode cX3_odds 52 = .ok (.iload_n 1, 1) := by decide +kernel
theorem dX3_odds_53 : decode cX3_odds 53 = .ok (.iaload, 1) := by decide +kernel
theorem dX3_odds_54 : decode cX3_odds 54 = .ok (.invokevirtual 196, 3) := by decide +kernel
theorem dX3_odds_57 : decode cX3_odds 57 = .ok (.lconst 0, 1) := by decide +kernel
theorem dX3_odds_58 : decode cX3_odds 58 = .ok (.lstore 4, 2) := by decide +kernel
theorem dX3_odds_60 : decode cX3_odds 60 = .ok (.lconst 0, 1) := by decide +kernel
theorem dX3_odds_61 : decode cX3_odds 61 = .ok (.lstore 6, 2) := by decide +kernel
theorem dX3_odds_63 : decode cX3_odds 63 = .ok (.iconst 0, 1) := by decide +kernel
theorem dX3_odds_64 : decode cX3_odds 64 = .ok (.istore 8, 2) := by decide +kernel
theorem dX3_odds_66 : decode cX3_odds 66 = .ok (.iload 8, 2) := by decide +kernel
theorem dX3_odds_68 : decode cX3_odds 68 = .ok (.bipush 16, 2) := by decide +kernel
theorem dX3_odds_70 : decode cX3_odds 70 = .ok (.if_icmp .gt 39, 3) := by decide +kernel
theorem dX3_odds_73 : decode cX3_odds 73 = .ok (.lload 6, 2) := by decide +kernel
theorem dX3_odds_75 : decode cX3_odds 75 = .ok (.aload_n 0, 1) := by decide +kernel
theorem dX3_odds_76 : decode cX3_odds 76 = .ok (.getfield 34, 3) := by decide +kernel
theorem dX3_odds_79 : decode cX3_odds 79 = .ok (.iload 8, 2) := by decide +kernel
theorem dX3_odds_81 : decode cX3_odds 81 = .ok (.laload, 1) := by decide +kernel
theorem dX3_odds_82 : decode cX3_odds 82 = .ok (.ladd, 1) := by decide +kernel
theorem dX3_odds_83 : decode cX3_odds 83 = .ok (.lstore 6, 2) := by decide +kernel
theorem dX3_odds_85 : decode cX3_odds 85 = .ok (.iload 8, 2) := by decide +kernel
theorem dX3_odds_87 : decode cX3_odds 87 = .ok (.iload_n 2, 1) := by decide +kernel
theorem dX3_odds_88 : decode cX3_odds 88 = .ok (.if_icmp .lt 15, 3) := by decide +kernel
theorem dX3_odds_91 : decode cX3_odds 91 = .ok (.lload 4, 2) := by decide +kernel
theorem dX3_odds_93 : decode cX3_odds 93 = .ok (.aload_n 0, 1) := by decide +kernel
theorem dX3_odds_94 : decode cX3_odds 94 = .ok (.getfield 34, 3) := by decide +kernel
theorem dX3_odds_97 : decode cX3_odds 97 = .ok (.iload 8, 2) := by decide +kernel
theorem dX3_odds_99 : decode cX3_odds 99 = .ok (.laload, 1) := by decide +kernel
theorem dX3_odds_100 : decode cX3_odds 100 = .ok (.ladd, 1) := by decide +kernel
theorem dX3_odds_101 : decode cX3_odds 101 = .ok (.lstore 4, 2) := by decide +kernel
theorem dX3_odds_103 : decode cX3_odds 103 = .ok (.iinc 8 1, 3) := by decide +kernel
theorem dX3_odds_106 : decode cX3_odds 106 = .ok (.goto (-40), 3) := by decide +kernel
theorem dX3_odds_109 : decode cX3_odds 109 = .ok (.lload 4, 2) := by decide +kernel
theorem dX3_odds_111 : decode cX3_odds 111 = .ok (.lload 6, 2) := by decide +kernel
theorem dX3_odds_113 : decode cX3_odds 113 = .ok (.invokestatic 199, 3) := by decide +kernel
theorem dX3_odds_116 : decode cX3_odds 116 = .ok (.lstore 8, 2) := by decide +kernel
theorem dX3_odds_118 : decode cX3_odds 118 = .ok (.lload 8, 2) := by decide +kernel
theorem dX3_odds_120 : decode cX3_odds 120 = .ok (.lconst 0, 1) := by decide +kernel
theorem dX3_odds_121 : decode cX3_odds 121 = .ok (.lcmp, 1) := by decide +kernel
theorem dX3_odds_122 : decode cX3_odds 122 = .ok (.ifCond .ne 7, 3) := by decide +kernel
theorem dX3_odds_125 : decode cX3_odds 125 = .ok (.ldc2_w 194, 3) := by decide +kernel
theorem dX3_odds_128 : decode cX3_odds 128 = .ok (.lreturn, 1) := by decide +kernel
theorem dX3_odds_129 : decode cX3_odds 129 = .ok (.iload_n 3, 1) := by decide +kernel
theorem dX3_odds_130 : decode cX3_odds 130 = .ok (.ifCond .ne 8, 3) := by decide +kernel
theorem dX3_odds_133 : decode cX3_odds 133 = .ok (.lload 4, 2) := by decide +kernel
theorem dX3_odds_135 : decode cX3_odds 135 = .ok (.goto 5, 3) := by decide +kernel
theorem dX3_odds_138 : decode cX3_odds 138 = .ok (.lload 6, 2) := by decide +kernel
theorem dX3_odds_140 : decode cX3_odds 140 = .ok (.lload 8, 2) := by decide +kernel
theorem dX3_odds_142 : decode cX3_odds 142 = .ok (.ldiv, 1) := by decide +kernel
theorem dX3_odds_143 : decode cX3_odds 143 = .ok (.lreturn, 1) := by decide +kernel
theorem dX3_sheet_0 : decode cX3_sheet 0 = .ok (.aload_n 0, 1) := by decide +kernel
theorem dX3_sheet_1 : decode cX3_sheet 1 = .ok (.iconst 0, 1) := by decide +kernel
theorem dX3_sheet_2 : decode cX3_sheet 2 = .ok (.putfield 42, 3) := by decide +kernel
theorem dX3_sheet_5 : decode cX3_sheet 5 = .ok (.iload_n 1, 1) := by decide +kernel
theorem dX3_sheet_6 : decode cX3_sheet 6 = .ok (.invokestatic 46, 3) := by decide +kernel
theorem dX3_sheet_9 : decode cX3_sheet 9 = .ok (.ifCond .ne 5, 3) := by decide +kernel
theorem dX3_sheet_12 : decode cX3_sheet 12 = .ok (.iconst (-1), 1) := by decide +kernel
theorem dX3_sheet_13 : decode cX3_sheet 13 = .ok (.ireturn, 1) := by decide +kernel
theorem dX3_sheet_14 : decode cX3_sheet 14 = .ok (.iload_n 2, 1) := by decide +kernel
theorem dX3_sheet_15 : decode cX3_sheet 15 = .ok (.invokestatic 50, 3) := by decide +kernel
theorem dX3_sheet_18 : decode cX3_sheet 18 = .ok (.ifCond .eq 9, 3) := by decide +kernel
theorem dX3_sheet_21 : decode cX3_sheet 21 = .ok (.iload_n 3, 1) := by decide +kernel
theorem dX3_sheet_22 : decode cX3_sheet 22 = .ok (.bipush 60, 2) := by decide +kernel
theorem dX3_sheet_24 : decode cX3_sheet 24 = .ok (.if_icmp .le 6, 3) := by decide +kernel
theorem dX3_sheet_27 : decode cX3_sheet 27 = .ok (.bipush (-2), 2) := by decide +kernel
theorem dX3_sheet_29 : decode cX3_sheet 29 = .ok (.ireturn, 1) := by decide +kernel
theorem dX3_sheet_30 : decode cX3_sheet 30 = .ok (.iload_n 3, 1) := by decide +kernel
theorem dX3_sheet_31 : decode cX3_sheet 31 = .ok (.ifCond .ge 9, 3) := by decide +kernel
theorem dX3_sheet_34 : decode cX3_sheet 34 = .ok (.aload_n 0, 1) := by decide +kernel
theorem dX3_sheet_35 : decode cX3_sheet 35 = .ok (.iconst 4, 1) := by decide +kernel
theorem dX3_sheet_36 : decode cX3_sheet 36 = .ok (.invokevirtual 57, 3) := by decide +kernel
theorem dX3_sheet_39 : decode cX3_sheet 39 = .ok (.ireturn, 1) := by decide +kernel
theorem dX3_sheet_40 : decode cX3_sheet 40 = .ok (.aload_n 0, 1) := by decide +kernel
theorem dX3_sheet_41 : decode cX3_sheet 41 = .ok (.getfield 13, 3) := by decide +kernel
theorem dX3_sheet_44 : decode cX3_sheet 44 = .ok (.iload_n 1, 1) := by decide +kernel
theorem dX3_sheet_45 : decode cX3_sheet 45 = .ok (.aaload, 1) := by decide +kernel
theorem dX3_sheet_46 : decode cX3_sheet 46 = .ok (.iload_n 2, 1) := by decide +kernel
theorem dX3_sheet_47 : decode cX3_sheet 47 = .ok (.iload_n 3, 1) := by decide +kernel
theorem dX3_sheet_48 : decode cX3_sheet 48 = .ok (.invokevirtual 203, 3) := by decide +kernel
theorem dX3_sheet_51 : decode cX3_sheet 51 = .ok (.iconst 1, 1) := by decide +kernel
theorem dX3_sheet_52 : decode cX3_sheet 52 = .ok (.ireturn, 1) := by decide +kernel
theorem dX3_lose_0 : decode cX3_lose 0 = .ok (.iload_n 1, 1) := by decide +kernel
theorem dX3_lose_1 : decode cX3_lose 1 = .ok (.invokestatic 46, 3) := by decide +kernel
theorem dX3_lose_4 : decode cX3_lose 4 = .ok (.ifCond .ne 5, 3) := by decide +kernel
theorem dX3_lose_7 : decode cX3_lose 7 = .ok (.iconst (-1), 1) := by decide +kernel
theorem dX3_lose_8 : decode cX3_lose 8 = .ok (.ireturn, 1) := by decide +kernel
theorem dX3_lose_9 : decode cX3_lose 9 = .ok (.aload_n 0, 1) := by decide +kernel
theorem dX3_lose_10 : decode cX3_lose 10 = .ok (.getfield 13, 3) := by decide +kernel
theorem dX3_lose_13 : decode cX3_lose 13 = .ok (.iload_n 1, 1) := by decide +kernel
theorem dX3_lose_14 : decode cX3_lose 14 = .ok (.aaload, 1) := by decide +kernel
theorem dX3_lose_15 : decode cX3_lose 15 = .ok (.getfield 207, 3) := by decide +kernel
theorem dX3_lose_18 : decode cX3_lose 18 = .ok (.istore_n 2, 1) := by decide +kernel
theorem dX3_lose_19 : decode cX3_lose 19 = .ok (.aload_n 0, 1) := by decide +kernel
theorem dX3_lose_20 : decode cX3_lose 20 = .ok (.getfield 13, 3) := by decide +kernel
theorem dX3_lose_23 : decode cX3_lose 23 = .ok (.iload_n 1, 1) := by decide +kernel
theorem dX3_lose_24 : decode cX3_lose 24 = .ok (.aaload, 1) := by decide +kernel
theorem dX3_lose_25 : decode cX3_lose 25 = .ok (.iconst 0, 1) := by decide +kernel
theorem dX3_lose_26 : decode cX3_lose 26 = .ok (.putfield 207, 3) := by decide +kernel
theorem dX3_lose_29 : decode cX3_lose 29 = .ok (.iload_n 2, 1) := by decide +kernel
theorem dX3_lose_30 : decode cX3_lose 30 = .ok (.ifCond .eq 7, 3) := by decide +kernel
theorem dX3_lose_33 : decode cX3_lose 33 = .ok (.iconst 1, 1) := by decide +kernel
theorem dX3_lose_34 : decode cX3_lose 34 = .ok (.goto 4, 3) := by decide +kernel
theorem dX3_lose_37 : decode cX3_lose 37 = .ok (.iconst 0, 1) := by decide +kernel
theorem dX3_lose_38 : decode cX3_lose 38 = .ok (.ireturn, 1) := by decide +kernel
theorem dX3_put_0 : decode cX3_put 0 = .ok (.aload_n 0, 1) := by decide +kernel
theorem dX3_put_1 : decode cX3_put 1 = .ok (.iconst 0, 1) := by decide +kernel
theorem dX3_put_2 : decode cX3_put 2 = .ok (.putfield 42, 3) := by decide +kernel
theorem dX3_put_5 : decode cX3_put 5 = .ok (.iload_n 1, 1) := by decide +kernel
theorem dX3_put_6 : decode cX3_put 6 = .ok (.invokestatic 46, 3) := by decide +kernel
theorem dX3_put_9 : decode cX3_put 9 = .ok (.ifCond .ne 5, 3) := by decide +kernel
theorem dX3_put_12 : decode cX3_put 12 = .ok (.iconst (-1), 1) := by decide +kernel
theorem dX3_put_13 : decode cX3_put 13 = .ok (.ireturn, 1) := by decide +kernel
theorem dX3_put_14 : decode cX3_put 14 = .ok (.aload_n 0, 1) := by decide +kernel
theorem dX3_put_15 : decode cX3_put 15 = .ok (.getfield 13, 3) := by decide +kernel
theorem dX3_put_18 : decode cX3_put 18 = .ok (.iload_n 1, 1) := by decide +kernel
theorem dX3_put_19 : decode cX3_put 19 = .ok (.aaload, 1) := by decide +kernel
theorem dX3_put_20 : decode cX3_put 20 = .ok (.astore 4, 2) := by decide +kernel
theorem dX3_put_22 : decode cX3_put 22 = .ok (.aload 4, 2) := by decide +kernel
theorem dX3_put_24 : decode cX3_put 24 = .ok (.aload 4, 2) := by decide +kernel
theorem dX3_put_26 : decode cX3_put 26 = .ok (.getfield 211, 3) := by decide +kernel
theorem dX3_put_29 : decode cX3_put 29 = .ok (.iload_n 2, 1) := by decide +kernel
theorem dX3_put_30 : decode cX3_put 30 = .ok (.iconst 1, 1) := by decide +kernel
theorem dX3_put_31 : decode cX3_put 31 = .ok (.invokevirtual 53, 3) := by decide +kernel
theorem dX3_put_34 : decode cX3_put 34 = .ok (.istore 5, 2) := by decide +kernel
theorem dX3_put_36 : decode cX3_put 36 = .ok (.iload 5, 2) := by decide +kernel
theorem dX3_put_38 : decode cX3_put 38 = .ok (.ifCond .eq 10, 3) := by decide +kernel
theorem dX3_put_41 : decode cX3_put 41 = .ok (.aload_n 0, 1) := by decide +kernel
theorem dX3_put_42 : decode cX3_put 42 = .ok (.iload 5, 2) := by decide +kernel
theorem dX3_put_44 : decode cX3_put 44 = .ok (.invokevirtual 57, 3) := by decide +kernel
theorem dX3_put_47 : decode cX3_put 47 = .ok (.ireturn, 1) := by decide +kernel
theorem dX3_put_48 : decode cX3_put 48 = .ok (.aload 4, 2) := by decide +kernel
theorem dX3_put_50 : decode cX3_put 50 = .ok (.getfield 167, 3) := by decide +kernel
theorem dX3_put_53 : decode cX3_put 53 = .ok (.iload_n 2, 1) := by decide +kernel
theorem dX3_put_54 : decode cX3_put 54 = .ok (.aload 4, 2) := by decide +kernel
theorem dX3_put_56 : decode cX3_put 56 = .ok (.iload_n 3, 1) := by decide +kernel
theorem dX3_put_57 : decode cX3_put 57 = .ok (.invokevirtual 214, 3) := by decide +kernel
theorem dX3_put_60 : decode cX3_put 60 = .ok (.iastore, 1) := by decide +kernel
theorem dX3_put_61 : decode cX3_put 61 = .ok (.iconst 1, 1) := by decide +kernel
theorem dX3_put_62 : decode cX3_put 62 = .ok (.ireturn, 1) := by decide +kernel
theorem dX3_cell_0 : decode cX3_cell 0 = .ok (.aload_n 0, 1) := by decide +kernel
theorem dX3_cell_1 : decode cX3_cell 1 = .ok (.iconst 0, 1) := by decide +kernel
theorem dX3_cell_2 : decode cX3_cell 2 = .ok (.putfield 42, 3) := by decide +kernel
theorem dX3_cell_5 : decode cX3_cell 5 = .ok (.iload_n 1, 1) := by decide +kernel
theorem dX3_cell_6 : decode cX3_cell 6 = .ok (.invokestatic 46, 3) := by decide +kernel
theorem dX3_cell_9 : decode cX3_cell 9 = .ok (.ifCond .eq 10, 3) := by decide +kernel
theorem dX3_cell_12 : decode cX3_cell 12 = .ok (.iload_n 3, 1) := by decide +kernel
theorem dX3_cell_13 : decode cX3_cell 13 = .ok (.invokestatic 50, 3) := by decide +kernel
theorem dX3_cell_16 : decode cX3_cell 16 = .ok (.ifCond .ne 7, 3) := by decide +kernel
theorem dX3_cell_19 : decode cX3_cell 19 = .ok (.ldc2_w 194, 3) := by decide +kernel
theorem dX3_cell_22 : decode cX3_cell 22 = .ok (.lreturn, 1) := by decide +kernel
theorem dX3_cell_23 : decode cX3_cell 23 = .ok (.aload_n 0, 1) := by decide +kernel
theorem dX3_cell_24 : decode cX3_cell 24 = .ok (.getfield 13, 3) := by decide +kernel
theorem dX3_cell_27 : decode cX3_cell 27 = .ok (.iload_n 1, 1) := by decide +kernel
theorem dX3_cell_28 : decode cX3_cell 28 = .ok (.aaload, 1) := by decide +kernel
theorem dX3_cell_29 : decode cX3_cell 29 = .ok (.astore 4, 2) := by decide +kernel
theorem dX3_cell_31 : decode cX3_cell 31 = .ok (.aload_n 0, 1) := by decide +kernel
theorem dX3_cell_32 : decode cX3_cell 32 = .ok (.aload 4, 2) := by decide +kernel
theorem dX3_cell_34 : decode cX3_cell 34 = .ok (.iload_n 3, 1) := by decide +kernel
theorem dX3_cell_35 : decode cX3_cell 35 = .ok (.iload_n 2, 1) := by decide +kernel
theorem dX3_cell_36 : decode cX3_cell 36 = .ok (.iconst 1, 1) := by decide +kernel
theorem dX3_cell_37 : decode cX3_cell 37 = .ok (.invokevirtual 53, 3) := by decide +kernel
theorem dX3_cell_40 : decode cX3_cell 40 = .ok (.putfield 42, 3) := by decide +kernel
theorem dX3_cell_43 : decode cX3_cell 43 = .ok (.aload_n 0, 1) := by decide +kernel
theorem dX3_cell_44 : decode cX3_cell 44 = .ok (.getfield 42, 3) := by decide +kernel
theorem dX3_cell_47 : decode cX3_cell 47 = .ok (.ifCond .eq 9, 3) := by decide +kernel
theorem dX3_cell_50 : decode cX3_cell 50 = .ok (.ldc2_w 194, 3) := by decide +kernel
theorem dX3_cell_53 : decode cX3_cell 53 = .ok (.goto 11, 3) := by decide +kernel
theorem dX3_cell_56 : decode cX3_cell 56 = .ok (.aload 4, 2) := by decide +kernel
theorem dX3_cell_58 : decode cX3_cell 58 = .ok (.getfield 167, 3) := by decide +kernel
theorem dX3_cell_61 : decode cX3_cell 61 = .ok (.iload_n 2, 1) := by decide +kernel
theorem dX3_cell_62 : decode cX3_cell 62 = .ok (.iaload, 1) := by decide +kernel
theorem dX3_cell_63 : decode cX3_cell 63 = .ok (.i2l, 1) := by decide +kernel
theorem dX3_cell_64 : decode cX3_cell 64 = .ok (.lreturn, 1) := by decide +kernel
theorem dX3_copy_0 : decode cX3_copy 0 = .ok (.aload_n 0, 1) := by decide +kernel
theorem dX3_copy_1 : decode cX3_copy 1 = .ok (.iconst 0, 1) := by decide +kernel
theorem dX3_copy_2 : decode cX3_copy 2 = .ok (.putfield 42, 3) := by decide +kernel
theorem dX3_copy_5 : decode cX3_copy 5 = .ok (.iload_n 1, 1) := by decide +kernel
theorem dX3_copy_6 : decode cX3_copy 6 = .ok (.invokestatic 46, 3) := by decide +kernel
theorem dX3_copy_9 : decode cX3_copy 9 = .ok (.ifCond .eq 10, 3) := by decide +kernel
theorem dX3_copy_12 : decode cX3_copy 12 = .ok (.iload_n 3, 1) := by decide +kernel
theorem dX3_copy_13 : decode cX3_copy 13 = .ok (.invokestatic 46, 3) := by decide +kernel
theorem dX3_copy_16 : decode cX3_copy 16 = .ok (.ifCond .ne 5, 3) := by decide +kernel
theorem dX3_copy_19 : decode cX3_copy 19 = .ok (.iconst (-1), 1) := by decide +kernel
theorem dX3_copy_20 : decode cX3_copy 20 = .ok (.ireturn, 1) := by decide +kernel
theorem dX3_copy_21 : decode cX3_copy 21 = .ok (.aload_n 0, 1) := by decide +kernel
theorem dX3_copy_22 : decode cX3_copy 22 = .ok (.getfield 13, 3) := by decide +kernel
theorem dX3_copy_25 : decode cX3_copy 25 = .ok (.iload_n 1, 1) := by decide +kernel
theorem dX3_copy_26 : decode cX3_copy 26 = .ok (.aaload, 1) := by decide +kernel
theorem dX3_copy_27 : decode cX3_copy 27 = .ok (.astore 6, 2) := by decide +kernel
theorem dX3_copy_29 : decode cX3_copy 29 = .ok (.aload_n 0, 1) := by decide +kernel
theorem dX3_copy_30 : decode cX3_copy 30 = .ok (.getfield 13, 3) := by decide +kernel
theorem dX3_copy_33 : decode cX3_copy 33 = .ok (.iload_n 3, 1) := by decide +kernel
theorem dX3_copy_34 : decode cX3_copy 34 = .ok (.aaload, 1) := by decide +kernel
theorem dX3_copy_35 : decode cX3_copy 35 = .ok (.astore 7, 2) := by decide +kernel
theorem dX3_copy_37 : decode cX3_copy 37 = .ok (.aload 6, 2) := by decide +kernel
theorem dX3_copy_39 : decode cX3_copy 39 = .ok (.getfield 207, 3) := by decide +kernel
theorem dX3_copy_42 : decode cX3_copy 42 = .ok (.ifCond .eq 11, 3) := by decide +kernel
theorem dX3_copy_45 : decode cX3_copy 45 = .ok (.aload 7, 2) := by decide +kernel
theorem dX3_copy_47 : decode cX3_copy 47 = .ok (.getfield 207, 3) := by decide +kernel
theorem dX3_copy_50 : decode cX3_copy 50 = .ok (.ifCond .ne 9, 3) := by decide +kernel
theorem dX3_copy_53 : decode cX3_copy 53 = .ok (.aload_n 0, 1) := by decide +kernel
theorem dX3_copy_54 : decode cX3_copy 54 = .ok (.iconst 1, 1) := by decide +kernel
theorem dX3_copy_55 : decode cX3_copy 55 = .ok (.invokevirtual 57, 3) := by decide +kernel
theorem dX3_copy_58 : decode cX3_copy 58 = .ok (.ireturn, 1) := by decide +kernel
theorem dX3_copy_59 : decode cX3_copy 59 = .ok (.aload 6, 2) := by decide +kernel
theorem dX3_copy_61 : decode cX3_copy 61 = .ok (.getfield 211, 3) := by decide +kernel
theorem dX3_copy_64 : decode cX3_copy 64 = .ok (.aload 7, 2) := by decide +kernel
theorem dX3_copy_66 : decode cX3_copy 66 = .ok (.getfield 211, 3) := by decide +kernel
theorem dX3_copy_69 : decode cX3_copy 69 = .ok (.if_icmp .eq 9, 3) := by decide +kernel
theorem dX3_copy_72 : decode cX3_copy 72 = .ok (.aload_n 0, 1) := by decide +kernel
theorem dX3_copy_73 : decode cX3_copy 73 = .ok (.iconst 2, 1) := by decide +kernel
theorem dX3_copy_74 : decode cX3_copy 74 = .ok (.invokevirtual 57, 3) := by decide +kernel
theorem dX3_copy_77 : decode cX3_copy 77 = .ok (.ireturn, 1) := by decide +kernel
theorem dX3_copy_78 : decode cX3_copy 78 = .ok (.iload 5, 2) := by decide +kernel
theorem dX3_copy_80 : decode cX3_copy 80 = .ok (.ifCond .lt 26, 3) := by decide +kernel
theorem dX3_copy_83 : decode cX3_copy 83 = .ok (.aload 6, 2) := by decide +kernel
theorem dX3_copy_85 : decode cX3_copy 85 = .ok (.iload_n 2, 1) := by decide +kernel
theorem dX3_copy_86 : decode cX3_copy 86 = .ok (.iload 5, 2) := by decide +kernel
theorem dX3_copy_88 : decode cX3_copy 88 = .ok (.invokevirtual 217, 3) := by decide +kernel
theorem dX3_copy_91 : decode cX3_copy 91 = .ok (.ifCond .eq 15, 3) := by decide +kernel
theorem dX3_copy_94 : decode cX3_copy 94 = .ok (.aload 7, 2) := by decide +kernel
theorem dX3_copy_96 : decode cX3_copy 96 = .ok (.iload 4, 2) := by decide +kernel
theorem dX3_copy_98 : decode cX3_copy 98 = .ok (.iload 5, 2) := by decide +kernel
theorem dX3_copy_100 : decode cX3_copy 100 = .ok (.invokevirtual 217, 3) := by decide +kernel
theorem dX3_copy_103 : decode cX3_copy 103 = .ok (.ifCond .ne 9, 3) := by decide +kernel
theorem dX3_copy_106 : decode cX3_copy 106 = .ok (.aload_n 0, 1) := by decide +kernel
theorem dX3_copy_107 : decode cX3_copy 107 = .ok (.iconst 3, 1) := by decide +kernel
theorem dX3_copy_108 : decode cX3_copy 108 = .ok (.invokevirtual 57, 3) := by decide +kernel
theorem dX3_copy_111 : decode cX3_copy 111 = .ok (.ireturn, 1) := by decide +kernel
theorem dX3_copy_112 : decode cX3_copy 112 = .ok (.aload 6, 2) := by decide +kernel
theorem dX3_copy_114 : decode cX3_copy 114 = .ok (.getfield 167, 3) := by decide +kernel
theorem dX3_copy_117 : decode cX3_copy 117 = .ok (.iload_n 2, 1) := by decide +kernel
theorem dX3_copy_118 : decode cX3_copy 118 = .ok (.aload 7, 2) := by decide +kernel
theorem dX3_copy_120 : decode cX3_copy 120 = .ok (.getfield 167, 3) := by decide +kernel
theorem dX3_copy_123 : decode cX3_copy 123 = .ok (.iload 4, 2) := by decide +kernel
theorem dX3_copy_125 : decode cX3_copy 125 = .ok (.iload 5, 2) := by decide +kernel
theorem dX3_copy_127 : decode cX3_copy 127 = .ok (.invokestatic 220, 3) := by decide +kernel
theorem dX3_copy_130 : decode cX3_copy 130 = .ok (.iload 5, 2) := by decide +kernel
theorem dX3_copy_132 : decode cX3_copy 132 = .ok (.ireturn, 1) := by decide +kernel
theorem dX3_tell_0 : decode cX3_tell 0 = .ok (.aload_n 0, 1) := by decide +kernel
theorem dX3_tell_1 : decode cX3_tell 1 = .ok (.getfield 20, 3) := by decide +kernel
theorem dX3_tell_4 : decode cX3_tell 4 = .ok (.iload_n 1, 1) := by decide +kernel
theorem dX3_tell_5 : decode cX3_tell 5 = .ok (.invokevirtual 75, 3) := by decide +kernel
theorem dX3_tell_8 : decode cX3_tell 8 = .ok (.ifCond .ne 5, 3) := by decide +kernel
theorem dX3_tell_11 : decode cX3_tell 11 = .ok (.iconst (-1), 1) := by decide +kernel
theorem dX3_tell_12 : decode cX3_tell 12 = .ok (.ireturn, 1) := by decide +kernel
theorem dX3_tell_13 : decode cX3_tell 13 = .ok (.aload_n 0, 1) := by decide +kernel
theorem dX3_tell_14 : decode cX3_tell 14 = .ok (.getfield 20, 3) := by decide +kernel
theorem dX3_tell_17 : decode cX3_tell 17 = .ok (.getfield 78, 3) := by decide +kernel
theorem dX3_tell_20 : decode cX3_tell 20 = .ok (.iload_n 1, 1) := by decide +kernel
theorem dX3_tell_21 : decode cX3_tell 21 = .ok (.iaload, 1) := by decide +kernel
theorem dX3_tell_22 : decode cX3_tell 22 = .ok (.lookupswitch 38 #[(1, 32), (2, 26)], 26) := by decide +kernel
theorem dX3_tell_48 : decode cX3_tell 48 = .ok (.aload_n 0, 1) := by decide +kernel
theorem dX3_tell_49 : decode cX3_tell 49 = .ok (.iload_n 1, 1) := by decide +kernel
theorem dX3_tell_50 : decode cX3_tell 50 = .ok (.invokevirtual 226, 3) := by decide +kernel
theorem dX3_tell_53 : decode cX3_tell 53 = .ok (.ireturn, 1) := by decide +kernel
theorem dX3_tell_54 : decode cX3_tell 54 = .ok (.aload_n 0, 1) := by decide +kernel
theorem dX3_tell_55 : decode cX3_tell 55 = .ok (.iload_n 1, 1) := by decide +kernel
theorem dX3_tell_56 : decode cX3_tell 56 = .ok (.invokevirtual 229, 3) := by decide +kernel
theorem dX3_tell_59 : decode cX3_tell 59 = .ok (.ireturn, 1) := by decide +kernel
theorem dX3_tell_60 : decode cX3_tell 60 = .ok (.aload_n 0, 1) := by decide +kernel
theorem dX3_tell_61 : decode cX3_tell 61 = .ok (.iload_n 1, 1) := by decide +kernel
theorem dX3_tell_62 : decode cX3_tell 62 = .ok (.invokevirtual 232, 3) := by decide +kernel
theorem dX3_tell_65 : decode cX3_tell 65 = .ok (.ireturn, 1) := by decide +kernel
theorem dX3_switchOn_0 : decode cX3_switchOn 0 = .ok (.aload_n 0, 1) := by decide +kernel
theorem dX3_switchOn_1 : decode cX3_switchOn 1 = .ok (.getfield 20, 3) := by decide +kernel
theorem dX3_switchOn_4 : decode cX3_switchOn 4 = .ok (.iload_n 1, 1) := by decide +kernel
theorem dX3_switchOn_5 : decode cX3_switchOn 5 = .ok (.invokevirtual 75, 3) := by decide +kernel
theorem dX3_switchOn_8 : decode cX3_switchOn 8 = .ok (.ifCond .ne 5, 3) := by decide +kernel
theorem dX3_switchOn_11 : decode cX3_switchOn 11 = .ok (.iconst (-1), 1) := by decide +kernel
theorem dX3_switchOn_12 : decode cX3_switchOn 12 = .ok (.ireturn, 1) := by decide +kernel
theorem dX3_switchOn_13 : decode cX3_switchOn 13 = .ok (.aload_n 0, 1) := by decide +kernel
theorem dX3_switchOn_14 : decode cX3_switchOn 14 = .ok (.getfield 20, 3) := by decide +kernel
theorem dX3_switchOn_17 : decode cX3_switchOn 17 = .ok (.getfield 78, 3) := by decide +kernel
theorem dX3_switchOn_20 : decode cX3_switchOn 20 = .ok (.iload_n 1, 1) := by decide +kernel
theorem dX3_switchOn_21 : decode cX3_switchOn 21 = .ok (.iaload, 1) := by decide +kernel
theorem dX3_switchOn_22 : decode cX3_switchOn 22 = .ok (.iconst 2, 1) := by decide +kernel
theorem dX3_switchOn_23 : decode cX3_switchOn 23 = .ok (.if_icmp .ne 10, 3) := by decide +kernel
theorem dX3_switchOn_26 : decode cX3_switchOn 26 = .ok (.aload_n 0, 1) := by decide +kernel
theorem dX3_switchOn_27 : decode cX3_switchOn 27 = .ok (.invokevirtual 235, 3) := by decide +kernel
theorem dX3_switchOn_30 : decode cX3_switchOn 30 = .ok (.goto 8, 3) := by decide +kernel
theorem dX3_switchOn_33 : decode cX3_switchOn 33 = .ok (.aload_n 0, 1) := by decide +kernel
theorem dX3_switchOn_34 : decode cX3_switchOn 34 = .ok (.iload_n 1, 1) := by decide +kernel
theorem dX3_switchOn_35 : decode cX3_switchOn 35 = .ok (.invokevirtual 238, 3) := by decide +kernel
theorem dX3_switchOn_38 : decode cX3_switchOn 38 = .ok (.ireturn, 1) := by decide +kernel
theorem dX3_as_0 : decode cX3_as 0 = .ok (.aload_n 0, 1) := by decide +kernel
theorem dX3_as_1 : decode cX3_as 1 = .ok (.iconst 0, 1) := by decide +kernel
theorem dX3_as_2 : decode cX3_as 2 = .ok (.putfield 42, 3) := by decide +kernel
theorem dX3_as_5 : decode cX3_as 5 = .ok (.aload_n 0, 1) := by decide +kernel
theorem dX3_as_6 : decode cX3_as 6 = .ok (.getfield 20, 3) := by decide +kernel
theorem dX3_as_9 : decode cX3_as 9 = .ok (.iload_n 1, 1) := by decide +kernel
theorem dX3_as_10 : decode cX3_as 10 = .ok (.invokevirtual 75, 3) := by decide +kernel
theorem dX3_as_13 : decode cX3_as 13 = .ok (.ifCond .ne 5, 3) := by decide +kernel
theorem dX3_as_16 : decode cX3_as 16 = .ok (.iconst (-1), 1) := by decide +kernel
theorem dX3_as_17 : decode cX3_as 17 = .ok (.ireturn, 1) := by decide +kernel
theorem dX3_as_18 : decode cX3_as 18 = .ok (.iload_n 2, 1) := by decide +kernel
theorem dX3_as_19 : decode cX3_as 19 = .ok (.ifCond .lt 8, 3) := by decide +kernel
theorem dX3_as_22 : decode cX3_as 22 = .ok (.iload_n 2, 1) := by decide +kernel
theorem dX3_as_23 : decode cX3_as 23 = .ok (.iconst 2, 1) := by decide +kernel
theorem dX3_as_24 : decode cX3_as 24 = .ok (.if_icmp .le 6, 3) := by decide +kernel
theorem dX3_as_27 : decode cX3_as 27 = .ok (.bipush (-2), 2) := by decide +kernel
theorem dX3_as_29 : decode cX3_as 29 = .ok (.ireturn, 1) := by decide +kernel
theorem dX3_as_30 : decode cX3_as 30 = .ok (.aload_n 0, 1) := by decide +kernel
theorem dX3_as_31 : decode cX3_as 31 = .ok (.getfield 20, 3) := by decide +kernel
theorem dX3_as_34 : decode cX3_as 34 = .ok (.getfield 78, 3) := by decide +kernel
theorem dX3_as_37 : decode cX3_as 37 = .ok (.iload_n 1, 1) := by decide +kernel
theorem dX3_as_38 : decode cX3_as 38 = .ok (.iaload, 1) := by decide +kernel
theorem dX3_as_39 : decode cX3_as 39 = .ok (.iload_n 2, 1) := by decide +kernel
theorem dX3_as_40 : decode cX3_as 40 = .ok (.if_icmp .lt 7, 3) := by decide +kernel
theorem dX3_as_43 : decode cX3_as 43 = .ok (.iconst 1, 1) := by decide +kernel
theorem dX3_as_44 : decode cX3_as 44 = .ok (.goto 8, 3) := by decide +kernel
theorem dX3_as_47 : decode cX3_as 47 = .ok (.aload_n 0, 1) := by decide +kernel
theorem dX3_as_48 : decode cX3_as 48 = .ok (.iconst 2, 1) := by decide +kernel
theorem dX3_as_49 : decode cX3_as 49 = .ok (.invokevirtual 57, 3) := by decide +kernel
theorem dX3_as_52 : decode cX3_as 52 = .ok (.ireturn, 1) := by decide +kernel
theorem dX3_trace_0 : decode cX3_trace 0 = .ok (.aload_n 0, 1) := by decide +kernel
theorem dX3_trace_1 : decode cX3_trace 1 = .ok (.getfield 38, 3) := by decide +kernel
theorem dX3_trace_4 : decode cX3_trace 4 = .ok (.ireturn, 1) := by decide +kernel
theorem dX3_fault_0 : decode cX3_fault 0 = .ok (.aload_n 0, 1) := by decide +kernel
theorem dX3_fault_1 : decode cX3_fault 1 = .ok (.getfield 42, 3) := by decide +kernel
theorem dX3_fault_4 : decode cX3_fault 4 = .ok (.ireturn, 1) := by decide +kernel
theorem dX3_many_0 : decode cX3_many 0 = .ok (.iload_n 1, 1) := by decide +kernel
theorem dX3_many_1 : decode cX3_many 1 = .ok (.tableswitch 87 0 5 #[39, 47, 55, 63, 71, 79], 39) := by decide +kernel
theorem dX3_many_40 : decode cX3_many 40 = .ok (.aload_n 0, 1) := by decide +kernel
theorem dX3_many_41 : decode cX3_many 41 = .ok (.getfield 20, 3) := by decide +kernel
theorem dX3_many_44 : decode cX3_many 44 = .ok (.getfield 72, 3) := by decide +kernel
theorem dX3_many_47 : decode cX3_many 47 = .ok (.ireturn, 1) := by decide +kernel
theorem dX3_many_48 : decode cX3_many 48 = .ok (.aload_n 0, 1) := by decide +kernel
theorem dX3_many_49 : decode cX3_many 49 = .ok (.getfield 20, 3) := by decide +kernel
theorem dX3_many_52 : decode cX3_many 52 = .ok (.getfield 241, 3) := by decide +kernel
theorem dX3_many_55 : decode cX3_many 55 = .ok (.ireturn, 1) := by decide +kernel
theorem dX3_many_56 : decode cX3_many 56 = .ok (.aload_n 0, 1) := by decide +kernel
theorem dX3_many_57 : decode cX3_many 57 = .ok (.getfield 20, 3) := by decide +kernel
theorem dX3_many_60 : decode cX3_many 60 = .ok (.invokevirtual 244, 3) := by decide +kernel
theorem dX3_many_63 : decode cX3_many 63 = .ok (.ireturn, 1) := by decide +kernel
theorem dX3_many_64 : decode cX3_many 64 = .ok (.aload_n 0, 1) := by decide +kernel
theorem dX3_many_65 : decode cX3_many 65 = .ok (.getfield 20, 3) := by decide +kernel
theorem dX3_many_68 : decode cX3_many 68 = .ok (.invokevirtual 247, 3) := by decide +kernel
theorem dX3_many_71 : decode cX3_many 71 = .ok (.ireturn, 1) := by decide +kernel
theorem dX3_many_72 : decode cX3_many 72 = .ok (.aload_n 0, 1) := by decide +kernel
theorem dX3_many_73 : decode cX3_many 73 = .ok (.getfield 30, 3) := by decide +kernel
theorem dX3_many_76 : decode cX3_many 76 = .ok (.getfield 69, 3) := by decide +kernel
theorem dX3_many_79 : decode cX3_many 79 = .ok (.ireturn, 1) := by decide +kernel
theorem dX3_many_80 : decode cX3_many 80 = .ok (.aload_n 0, 1) := by decide +kernel
theorem dX3_many_81 : decode cX3_many 81 = .ok (.getfield 20, 3) := by decide +kernel
theorem dX3_many_84 : decode cX3_many 84 = .ok (.getfield 129, 3) := by decide +kernel
theorem dX3_many_87 : decode cX3_many 87 = .ok (.ireturn, 1) := by decide +kernel
theorem dX3_many_88 : decode cX3_many 88 = .ok (.bipush (-2), 2) := by decide +kernel
theorem dX3_many_90 : decode cX3_many 90 = .ok (.ireturn, 1) := by decide +kernel
theorem dX3_faulted_0 : decode cX3_faulted 0 = .ok (.aload_n 0, 1) := by decide +kernel
theorem dX3_faulted_1 : decode cX3_faulted 1 = .ok (.iload_n 1, 1) := by decide +kernel
theorem dX3_faulted_2 : decode cX3_faulted 2 = .ok (.putfield 42, 3) := by decide +kernel
theorem dX3_faulted_5 : decode cX3_faulted 5 = .ok (.bipush (-10), 2) := by decide +kernel
theorem dX3_faulted_7 : decode cX3_faulted 7 = .ok (.iload_n 1, 1) := by decide +kernel
theorem dX3_faulted_8 : decode cX3_faulted 8 = .ok (.isub, 1) := by decide +kernel
theorem dX3_faulted_9 : decode cX3_faulted 9 = .ok (.ireturn, 1) := by decide +kernel
theorem dX3_isSheet_0 : decode cX3_isSheet 0 = .ok (.iload_n 0, 1) := by decide +kernel
theorem dX3_isSheet_1 : decode cX3_isSheet 1 = .ok (.ifCond .lt 12, 3) := by decide +kernel
theorem dX3_isSheet_4 : decode cX3_isSheet 4 = .ok (.iload_n 0, 1) := by decide +kernel
theorem dX3_isSheet_5 : decode cX3_isSheet 5 = .ok (.iconst 4, 1) := by decide +kernel
theorem dX3_isSheet_6 : decode cX3_isSheet 6 = .ok (.if_icmp .ge 7, 3) := by decide +kernel
theorem dX3_isSheet_9 : decode cX3_isSheet 9 = .ok (.iconst 1, 1) := by decide +kernel
theorem dX3_isSheet_10 : decode cX3_isSheet 10 = .ok (.goto 4, 3) := by decide +kernel
theorem dX3_isSheet_13 : decode cX3_isSheet 13 = .ok (.iconst 0, 1) := by decide +kernel
theorem dX3_isSheet_14 : decode cX3_isSheet 14 = .ok (.ireturn, 1) := by decide +kernel
theorem dX3_isLane_0 : decode cX3_isLane 0 = .ok (.iload_n 0, 1) := by decide +kernel
theorem dX3_isLane_1 : decode cX3_isLane 1 = .ok (.ifCond .lt 12, 3) := by decide +kernel
theorem dX3_isLane_4 : decode cX3_isLane 4 = .ok (.iload_n 0, 1) := by decide +kernel
theorem dX3_isLane_5 : decode cX3_isLane 5 = .ok (.iconst 3, 1) := by decide +kernel
theorem dX3_isLane_6 : decode cX3_isLane 6 = .ok (.if_icmp .ge 7, 3) := by decide +kernel
theorem dX3_isLane_9 : decode cX3_isLane 9 = .ok (.iconst 1, 1) := by decide +kernel
theorem dX3_isLane_10 : decode cX3_isLane 10 = .ok (.goto 4, 3) := by decide +kernel
theorem dX3_isLane_13 : decode cX3_isLane 13 = .ok (.iconst 0, 1) := by decide +kernel
theorem dX3_isLane_14 : decode cX3_isLane 14 = .ok (.ireturn, 1) := by decide +kernel
theorem dX3_isUnit_0 : decode cX3_isUnit 0 = .ok (.iload_n 0, 1) := by decide +kernel
theorem dX3_isUnit_1 : decode cX3_isUnit 1 = .ok (.ifCond .lt 13, 3) := by decide +kernel
theorem dX3_isUnit_4 : decode cX3_isUnit 4 = .ok (.iload_n 0, 1) := by decide +kernel
theorem dX3_isUnit_5 : decode cX3_isUnit 5 = .ok (.bipush 15, 2) := by decide +kernel
theorem dX3_isUnit_7 : decode cX3_isUnit 7 = .ok (.if_icmp .ge 7, 3) := by decide +kernel
theorem dX3_isUnit_10 : decode cX3_isUnit 10 = .ok (.iconst 1, 1) := by decide +kernel
theorem dX3_isUnit_11 : decode cX3_isUnit 11 = .ok (.goto 4, 3) := by decide +kernel
theorem dX3_isUnit_14 : decode cX3_isUnit 14 = .ok (.iconst 0, 1) := by decide +kernel
theorem dX3_isUnit_15 : decode cX3_isUnit 15 = .ok (.ireturn, 1) := by decide +kernel
theorem dX3_isLevel_0 : decode cX3_isLevel 0 = .ok (.iload_n 0, 1) := by decide +kernel
theorem dX3_isLevel_1 : decode cX3_isLevel 1 = .ok (.ifCond .lt 13, 3) := by decide +kernel
theorem dX3_isLevel_4 : decode cX3_isLevel 4 = .ok (.iload_n 0, 1) := by decide +kernel
theorem dX3_isLevel_5 : decode cX3_isLevel 5 = .ok (.bipush 9, 2) := by decide +kernel
theorem dX3_isLevel_7 : decode cX3_isLevel 7 = .ok (.if_icmp .gt 7, 3) := by decide +kernel
theorem dX3_isLevel_10 : decode cX3_isLevel 10 = .ok (.iconst 1, 1) := by decide +kernel
theorem dX3_isLevel_11 : decode cX3_isLevel 11 = .ok (.goto 4, 3) := by decide +kernel
theorem dX3_isLevel_14 : decode cX3_isLevel 14 = .ok (.iconst 0, 1) := by decide +kernel
theorem dX3_isLevel_15 : decode cX3_isLevel 15 = .ok (.ireturn, 1) := by decide +kernel
theorem dX3_isCut_0 : decode cX3_isCut 0 = .ok (.iload_n 0, 1) := by decide +kernel
theorem dX3_isCut_1 : decode cX3_isCut 1 = .ok (.iconst 1, 1) := by decide +kernel
theorem dX3_isCut_2 : decode cX3_isCut 2 = .ok (.if_icmp .lt 13, 3) := by decide +kernel
theorem dX3_isCut_5 : decode cX3_isCut 5 = .ok (.iload_n 0, 1) := by decide +kernel
theorem dX3_isCut_6 : decode cX3_isCut 6 = .ok (.bipush 8, 2) := by decide +kernel
theorem dX3_isCut_8 : decode cX3_isCut 8 = .ok (.if_icmp .gt 7, 3) := by decide +kernel
theorem dX3_isCut_11 : decode cX3_isCut 11 = .ok (.iconst 1, 1) := by decide +kernel
theorem dX3_isCut_12 : decode cX3_isCut 12 = .ok (.goto 4, 3) := by decide +kernel
theorem dX3_isCut_15 : decode cX3_isCut 15 = .ok (.iconst 0, 1) := by decide +kernel
theorem dX3_isCut_16 : decode cX3_isCut 16 = .ok (.ireturn, 1) := by decide +kernel
theorem dX3_isOfDay_0 : decode cX3_isOfDay 0 = .ok (.iload_n 0, 1) := by decide +kernel
theorem dX3_isOfDay_1 : decode cX3_isOfDay 1 = .ok (.ifCond .lt 8, 3) := by decide +kernel
theorem dX3_isOfDay_4 : decode cX3_isOfDay 4 = .ok (.iload_n 0, 1) := by decide +kernel
theorem dX3_isOfDay_5 : decode cX3_isOfDay 5 = .ok (.iconst 4, 1) := by decide +kernel
theorem dX3_isOfDay_6 : decode cX3_isOfDay 6 = .ok (.if_icmp .le 15, 3) := by decide +kernel
theorem dX3_isOfDay_9 : decode cX3_isOfDay 9 = .ok (.iload_n 0, 1) := by decide +kernel
theorem dX3_isOfDay_10 : decode cX3_isOfDay 10 = .ok (.bipush 10, 2) := by decide +kernel
theorem dX3_isOfDay_12 : decode cX3_isOfDay 12 = .ok (.if_icmp .lt 13, 3) := by decide +kernel
theorem dX3_isOfDay_15 : decode cX3_isOfDay 15 = .ok (.iload_n 0, 1) := by decide +kernel
theorem dX3_isOfDay_16 : decode cX3_isOfDay 16 = .ok (.bipush 26, 2) := by decide +kernel
theorem dX3_isOfDay_18 : decode cX3_isOfDay 18 = .ok (.if_icmp .ge 7, 3) := by decide +kernel
theorem dX3_isOfDay_21 : decode cX3_isOfDay 21 = .ok (.iconst 1, 1) := by decide +kernel
theorem dX3_isOfDay_22 : decode cX3_isOfDay 22 = .ok (.goto 4, 3) := by decide +kernel
theorem dX3_isOfDay_25 : decode cX3_isOfDay 25 = .ok (.iconst 0, 1) := by decide +kernel
theorem dX3_isOfDay_26 : decode cX3_isOfDay 26 = .ok (.ireturn, 1) := by decide +kernel
theorem dX3_isAct_0 : decode cX3_isAct 0 = .ok (.iload_n 1, 1) := by decide +kernel
theorem dX3_isAct_1 : decode cX3_isAct 1 = .ok (.ifCond .lt 14, 3) := by decide +kernel
theorem dX3_isAct_4 : decode cX3_isAct 4 = .ok (.iload_n 1, 1) := by decide +kernel
theorem dX3_isAct_5 : decode cX3_isAct 5 = .ok (.bipush 16, 2) := by decide +kernel
theorem dX3_isAct_7 : decode cX3_isAct 7 = .ok (.if_icmp .ge 8, 3) := by decide +kernel
theorem dX3_isAct_10 : decode cX3_isAct 10 = .ok (.iload_n 0, 1) := by decide +kernel
theorem dX3_isAct_11 : decode cX3_isAct 11 = .ok (.invokestatic 119, 3) := by decide +kernel
theorem dX3_isAct_14 : decode cX3_isAct 14 = .ok (.ireturn, 1) := by decide +kernel
theorem dX3_isAct_15 : decode cX3_isAct 15 = .ok (.iload_n 1, 1) := by decide +kernel
theorem dX3_isAct_16 : decode cX3_isAct 16 = .ok (.bipush 20, 2) := by decide +kernel
theorem dX3_isAct_18 : decode cX3_isAct 18 = .ok (.if_icmp .ne 8, 3) := by decide +kernel
theorem dX3_isAct_21 : decode cX3_isAct 21 = .ok (.iload_n 0, 1) := by decide +kernel
theorem dX3_isAct_22 : decode cX3_isAct 22 = .ok (.invokestatic 122, 3) := by decide +kernel
theorem dX3_isAct_25 : decode cX3_isAct 25 = .ok (.ireturn, 1) := by decide +kernel
theorem dX3_isAct_26 : decode cX3_isAct 26 = .ok (.iload_n 1, 1) := by decide +kernel
theorem dX3_isAct_27 : decode cX3_isAct 27 = .ok (.bipush 30, 2) := by decide +kernel
theorem dX3_isAct_29 : decode cX3_isAct 29 = .ok (.if_icmp .lt 17, 3) := by decide +kernel
theorem dX3_isAct_32 : decode cX3_isAct 32 = .ok (.iload_n 1, 1) := by decide +kernel
theorem dX3_isAct_33 : decode cX3_isAct 33 = .ok (.bipush 34, 2) := by decide +kernel
theorem dX3_isAct_35 : decode cX3_isAct 35 = .ok (.if_icmp .ge 11, 3) := by decide +kernel
theorem dX3_isAct_38 : decode cX3_isAct 38 = .ok (.iload_n 0, 1) := by decide +kernel
theorem dX3_isAct_39 : decode cX3_isAct 39 = .ok (.ifCond .ne 7, 3) := by decide +kernel
theorem dX3_isAct_42 : decode cX3_isAct 42 = .ok (.iconst 1, 1) := by decide +kernel
theorem dX3_isAct_43 : decode cX3_isAct 43 = .ok (.goto 4, 3) := by decide +kernel
theorem dX3_isAct_46 : decode cX3_isAct 46 = .ok (.iconst 0, 1) := by decide +kernel
theorem dX3_isAct_47 : decode cX3_isAct 47 = .ok (.ireturn, 1) := by decide +kernel
theorem dX3_endOfDay_0 : decode cX3_endOfDay 0 = .ok (.iload_n 1, 1) := by decide +kernel
theorem dX3_endOfDay_1 : decode cX3_endOfDay 1 = .ok (.tableswitch 69 0 4 #[35, 69, 43, 53, 61], 35) := by decide +kernel
theorem dX3_endOfDay_36 : decode cX3_endOfDay 36 = .ok (.aload_n 0, 1) := by decide +kernel
theorem dX3_endOfDay_37 : decode cX3_endOfDay 37 = .ok (.getfield 24, 3) := by decide +kernel
theorem dX3_endOfDay_40 : decode cX3_endOfDay 40 = .ok (.invokevirtual 247, 3) := by decide +kernel
theorem dX3_endOfDay_43 : decode cX3_endOfDay 43 = .ok (.ireturn, 1) := by decide +kernel
theorem dX3_endOfDay_44 : decode cX3_endOfDay 44 = .ok (.aload_n 0, 1) := by decide +kernel
theorem dX3_endOfDay_45 : decode cX3_endOfDay 45 = .ok (.getfield 24, 3) := by decide +kernel
theorem dX3_endOfDay_48 : decode cX3_endOfDay 48 = .ok (.bipush 15, 2) := by decide +kernel
theorem dX3_endOfDay_50 : decode cX3_endOfDay 50 = .ok (.invokevirtual 157, 3) := by decide +kernel
theorem dX3_endOfDay_53 : decode cX3_endOfDay 53 = .ok (.ireturn, 1) := by decide +kernel
theorem dX3_endOfDay_54 : decode cX3_endOfDay 54 = .ok (.aload_n 0, 1) := by decide +kernel
theorem dX3_endOfDay_55 : decode cX3_endOfDay 55 = .ok (.getfield 24, 3) := by decide +kernel
theorem dX3_endOfDay_58 : decode cX3_endOfDay 58 = .ok (.invokevirtual 160, 3) := by decide +kernel
theorem dX3_endOfDay_61 : decode cX3_endOfDay 61 = .ok (.ireturn, 1) := by decide +kernel
theorem dX3_endOfDay_62 : decode cX3_endOfDay 62 = .ok (.aload_n 0, 1) := by decide +kernel
theorem dX3_endOfDay_63 : decode cX3_endOfDay 63 = .ok (.getfield 24, 3) := by decide +kernel
theorem dX3_endOfDay_66 : decode cX3_endOfDay 66 = .ok (.invokevirtual 250, 3) := by decide +kernel
theorem dX3_endOfDay_69 : decode cX3_endOfDay 69 = .ok (.ireturn, 1) := by decide +kernel
theorem dX3_endOfDay_70 : decode cX3_endOfDay 70 = .ok (.iload_n 1, 1) := by decide +kernel
theorem dX3_endOfDay_71 : decode cX3_endOfDay 71 = .ok (.bipush 10, 2) := by decide +kernel
theorem dX3_endOfDay_73 : decode cX3_endOfDay 73 = .ok (.isub, 1) := by decide +kernel
theorem dX3_endOfDay_74 : decode cX3_endOfDay 74 = .ok (.istore_n 2, 1) := by decide +kernel
theorem dX3_endOfDay_75 : decode cX3_endOfDay 75 = .ok (.aload_n 0, 1) := by decide +kernel
theorem dX3_endOfDay_76 : decode cX3_endOfDay 76 = .ok (.getfield 24, 3) := by decide +kernel
theorem dX3_endOfDay_79 : decode cX3_endOfDay 79 = .ok (.iload_n 2, 1) := by decide +kernel
theorem dX3_endOfDay_80 : decode cX3_endOfDay 80 = .ok (.invokevirtual 95, 3) := by decide +kernel
theorem dX3_endOfDay_83 : decode cX3_endOfDay 83 = .ok (.ifCond .eq 15, 3) := by decide +kernel
theorem dX3_endOfDay_86 : decode cX3_endOfDay 86 = .ok (.aload_n 0, 1) := by decide +kernel
theorem dX3_endOfDay_87 : decode cX3_endOfDay 87 = .ok (.getfield 24, 3) := by decide +kernel
theorem dX3_endOfDay_90 : decode cX3_endOfDay 90 = .ok (.getfield 101, 3) := by decide +kernel
theorem dX3_endOfDay_93 : decode cX3_endOfDay 93 = .ok (.iload_n 2, 1) := by decide +kernel
theorem dX3_endOfDay_94 : decode cX3_endOfDay 94 = .ok (.iaload, 1) := by decide +kernel
theorem dX3_endOfDay_95 : decode cX3_endOfDay 95 = .ok (.goto 5, 3) := by decide +kernel
theorem dX3_endOfDay_98 : decode cX3_endOfDay 98 = .ok (.bipush (-9), 2) := by decide +kernel
theorem dX3_endOfDay_100 : decode cX3_endOfDay 100 = .ok (.ireturn, 1) := by decide +kernel
theorem dX3_countWays_0 : decode cX3_countWays 0 = .ok (.aload_n 0, 1) := by decide +kernel
theorem dX3_countWays_1 : decode cX3_countWays 1 = .ok (.getfield 34, 3) := by decide +kernel
theorem dX3_countWays_4 : decode cX3_countWays 4 = .ok (.lconst 0, 1) := by decide +kernel
theorem dX3_countWays_5 : decode cX3_countWays 5 = .ok (.invokestatic 253, 3) := by decide +kernel
theorem dX3_countWays_8 : decode cX3_countWays 8 = .ok (.aload_n 0, 1) := by decide +kernel
theorem dX3_countWays_9 : decode cX3_countWays 9 = .ok (.getfield 34, 3) := by decide +kernel
theorem dX3_countWays_12 : decode cX3_countWays 12 = .ok (.iconst 0, 1) := by decide +kernel
theorem dX3_countWays_13 : decode cX3_countWays 13 = .ok (.lconst 1, 1) := by decide +kernel
theorem dX3_countWays_14 : decode cX3_countWays 14 = .ok (.lastore, 1) := by decide +kernel
theorem dX3_countWays_15 : decode cX3_countWays 15 = .ok (.iconst 0, 1) := by decide +kernel
theorem dX3_countWays_16 : decode cX3_countWays 16 = .ok (.istore_n 2, 1) := by decide +kernel
theorem dX3_countWays_17 : decode cX3_countWays 17 = .ok (.iload_n 2, 1) := by decide +kernel
theorem dX3_countWays_18 : decode cX3_countWays 18 = .ok (.aload_n 0, 1) := by decide +kernel
theorem dX3_countWays_19 : decode cX3_countWays 19 = .ok (.getfield 20, 3) := by decide +kernel
theorem dX3_countWays_22 : decode cX3_countWays 22 = .ok (.getfield 72, 3) := by decide +kernel
theorem dX3_countWays_25 : decode cX3_countWays 25 = .ok (.if_icmp .ge 79, 3) := by decide +kernel
theorem dX3_countWays_28 : decode cX3_countWays 28 = .ok (.aload_n 0, 1) := by decide +kernel
theorem dX3_countWays_29 : decode cX3_countWays 29 = .ok (.getfield 20, 3) := by decide +kernel
theorem dX3_countWays_32 : decode cX3_countWays 32 = .ok (.getfield 88, 3) := by decide +kernel
theorem dX3_countWays_35 : decode cX3_countWays 35 = .ok (.iload_n 2, 1) := by decide +kernel
theorem dX3_countWays_36 : decode cX3_countWays 36 = .ok (.baload, 1) := by decide +kernel
theorem dX3_countWays_37 : decode cX3_countWays 37 = .ok (.ifCond .eq 7, 3) := by decide +kernel
theorem dX3_countWays_40 : decode cX3_countWays 40 = .ok (.iconst 0, 1) := by decide +kernel
theorem dX3_countWays_41 : decode cX3_countWays 41 = .ok (.goto 16, 3) := by decide +kernel
theorem dX3_countWays_44 : decode cX3_countWays 44 = .ok (.aload_n 0, 1) := by decide +kernel
theorem dX3_countWays_45 : decode cX3_countWays 45 = .ok (.getfield 20, 3) := by decide +kernel
theorem dX3_countWays_48 : decode cX3_countWays 48 = .ok (.getfield 78, 3) := by decide +kernel
theorem dX3_countWays_51 : decode cX3_countWays 51 = .ok (.iload_n 2, 1) := by decide +kernel
theorem dX3_countWays_52 : decode cX3_countWays 52 = .ok (.iaload, 1) := by decide +kernel
theorem dX3_countWays_53 : decode cX3_countWays 53 = .ok (.iload_n 1, 1) := by decide +kernel
theorem dX3_countWays_54 : decode cX3_countWays 54 = .ok (.invokestatic 259, 3) := by decide +kernel
theorem dX3_countWays_57 : decode cX3_countWays 57 = .ok (.istore_n 3, 1) := by decide +kernel
theorem dX3_countWays_58 : decode cX3_countWays 58 = .ok (.iconst 0, 1) := by decide +kernel
theorem dX3_countWays_59 : decode cX3_countWays 59 = .ok (.istore 4, 2) := by decide +kernel
theorem dX3_countWays_61 : decode cX3_countWays 61 = .ok (.iload 4, 2) := by decide +kernel
theorem dX3_countWays_63 : decode cX3_countWays 63 = .ok (.aload_n 0, 1) := by decide +kernel
theorem dX3_countWays_64 : decode cX3_countWays 64 = .ok (.getfield 20, 3) := by decide +kernel
theorem dX3_countWays_67 : decode cX3_countWays 67 = .ok (.getfield 82, 3) := by decide +kernel
theorem dX3_countWays_70 : decode cX3_countWays 70 = .ok (.iload_n 2, 1) := by decide +kernel
theorem dX3_countWays_71 : decode cX3_countWays 71 = .ok (.iaload, 1) := by decide +kernel
theorem dX3_countWays_72 : decode cX3_countWays 72 = .ok (.if_icmp .ge 26, 3) := by decide +kernel
theorem dX3_countWays_75 : decode cX3_countWays 75 = .ok (.aload_n 0, 1) := by decide +kernel
theorem dX3_countWays_76 : decode cX3_countWays 76 = .ok (.getfield 20, 3) := by decide +kernel
theorem dX3_countWays_79 : decode cX3_countWays 79 = .ok (.getfield 88, 3) := by decide +kernel
theorem dX3_countWays_82 : decode cX3_countWays 82 = .ok (.iload_n 2, 1) := by decide +kernel
theorem dX3_countWays_83 : decode cX3_countWays 83 = .ok (.baload, 1) := by decide +kernel
theorem dX3_countWays_84 : decode cX3_countWays 84 = .ok (.ifCond .ne 14, 3) := by decide +kernel
theorem dX3_countWays_87 : decode cX3_countWays 87 = .ok (.aload_n 0, 1) := by decide +kernel
theorem dX3_countWays_88 : decode cX3_countWays 88 = .ok (.iload_n 3, 1) := by decide +kernel
theorem dX3_countWays_89 : decode cX3_countWays 89 = .ok (.invokevirtual 263, 3) := by decide +kernel
theorem dX3_countWays_92 : decode cX3_countWays 92 = .ok (.iinc 4 1, 3) := by decide +kernel
theorem dX3_countWays_95 : decode cX3_countWays 95 = .ok (.goto (-34), 3) := by decide +kernel
theorem dX3_countWays_98 : decode cX3_countWays 98 = .ok (.iinc 2 1, 3) := by decide +kernel
theorem dX3_countWays_101 : decode cX3_countWays 101 = .ok (.goto (-84), 3) := by decide +kernel
theorem dX3_countWays_104 : decode cX3_countWays 104 = .ok (.return_, 1) := by decide +kernel
theorem dX3_addLampToWays_0 : decode cX3_addLampToWays 0 = .ok (.bipush 10, 2) := by decide +kernel
theorem dX3_addLampToWays_2 : decode cX3_addLampToWays 2 = .ok (.iload_n 1, 1) := by decide +kernel
theorem dX3_addLampToWays_3 : decode cX3_addLampToWays 3 = .ok (.isub, 1) := by decide +kernel
theorem dX3_addLampToWays_4 : decode cX3_addLampToWays 4 = .ok (.istore_n 2, 1) := by decide +kernel
theorem dX3_addLampToWays_5 : decode cX3_addLampToWays 5 = .ok (.bipush 16, 2) := by decide +kernel
theorem dX3_addLampToWays_7 : decode cX3_addLampToWays 7 = .ok (.istore_n 3, 1) := by decide +kernel
theorem dX3_addLampToWays_8 : decode cX3_addLampToWays 8 = .ok (.iload_n 3, 1) := by decide +kernel
theorem dX3_addLampToWays_9 : decode cX3_addLampToWays 9 = .ok (.ifCond .le 36, 3) := by decide +kernel
theorem dX3_addLampToWays_12 : decode cX3_addLampToWays 12 = .ok (.aload_n 0, 1) := by decide +kernel
theorem dX3_addLampToWays_13 : decode cX3_addLampToWays 13 = .ok (.getfield 34, 3) := by decide +kernel
theorem dX3_addLampToWays_16 : decode cX3_addLampToWays 16 = .ok (.iload_n 3, 1) := by decide +kernel
theorem dX3_addLampToWays_17 : decode cX3_addLampToWays 17 = .ok (.aload_n 0, 1) := by decide +kernel
theorem dX3_addLampToWays_18 : decode cX3_addLampToWays 18 = .ok (.getfield 34, 3) := by decide +kernel
theorem dX3_addLampToWays_21 : decode cX3_addLampToWays 21 = .ok (.iload_n 3, 1) := by decide +kernel
theorem dX3_addLampToWays_22 : decode cX3_addLampToWays 22 = .ok (.laload, 1) := by decide +kernel
theorem dX3_addLampToWays_23 : decode cX3_addLampToWays 23 = .ok (.iload_n 2, 1) := by decide +kernel
theorem dX3_addLampToWays_24 : decode cX3_addLampToWays 24 = .ok (.i2l, 1) := by decide +kernel
theorem dX3_addLampToWays_25 : decode cX3_addLampToWays 25 = .ok (.lmul, 1) := by decide +kernel
theorem dX3_addLampToWays_26 : decode cX3_addLampToWays 26 = .ok (.aload_n 0, 1) := by decide +kernel
theorem dX3_addLampToWays_27 : decode cX3_addLampToWays 27 = .ok (.getfield 34, 3) := by decide +kernel
theorem dX3_addLampToWays_30 : decode cX3_addLampToWays 30 = .ok (.iload_n 3, 1) := by decide +kernel
theorem dX3_addLampToWays_31 : decode cX3_addLampToWays 31 = .ok (.iconst 1, 1) := by decide +kernel
theorem dX3_addLampToWays_32 : decode cX3_addLampToWays 32 = .ok (.isub, 1) := by decide +kernel
theorem dX3_addLampToWays_33 : decode cX3_addLampToWays 33 = .ok (.laload, 1) := by decide +kernel
theorem dX3_addLampToWays_34 : decode cX3_addLampToWays 34 = .ok (.iload_n 1, 1) := by decide +kernel
theorem dX3_addLampToWays_35 : decode cX3_addLampToWays 35 = .ok (.i2l, 1) := by decide +kernel
theorem dX3_addLampToWays_36 : decode cX3_addLampToWays 36 = .ok (.lmul, 1) := by decide +kernel
theorem dX3_addLampToWays_37 : decode cX3_addLampToWays 37 = .ok (.ladd, 1) := by decide +kernel
theorem dX3_addLampToWays_38 : decode cX3_addLampToWays 38 = .ok (.lastore, 1) := by decide +kernel
theorem dX3_addLampToWays_39 : decode cX3_addLampToWays 39 = .ok (.iinc 3 (-1), 3) := by decide +kernel
theorem dX3_addLampToWays_42 : decode cX3_addLampToWays 42 = .ok (.goto (-34), 3) := by decide +kernel
theorem dX3_addLampToWays_45 : decode cX3_addLampToWays 45 = .ok (.aload_n 0, 1) := by decide +kernel
theorem dX3_addLampToWays_46 : decode cX3_addLampToWays 46 = .ok (.getfield 34, 3) := by decide +kernel
theorem dX3_addLampToWays_49 : decode cX3_addLampToWays 49 = .ok (.iconst 0, 1) := by decide +kernel
theorem dX3_addLampToWays_50 : decode cX3_addLampToWays 50 = .ok (.dup2, 1) := by decide +kernel
theorem dX3_addLampToWays_51 : decode cX3_addLampToWays 51 = .ok (.laload, 1) := by decide +kernel
theorem dX3_addLampToWays_52 : decode cX3_addLampToWays 52 = .ok (.iload_n 2, 1) := by decide +kernel
theorem dX3_addLampToWays_53 : decode cX3_addLampToWays 53 = .ok (.i2l, 1) := by decide +kernel
theorem dX3_addLampToWays_54 : decode cX3_addLampToWays 54 = .ok (.lmul, 1) := by decide +kernel
theorem dX3_addLampToWays_55 : decode cX3_addLampToWays 55 = .ok (.lastore, 1) := by decide +kernel
theorem dX3_addLampToWays_56 : decode cX3_addLampToWays 56 = .ok (.return_, 1) := by decide +kernel
theorem dX3_levelsThatLight_0 : decode cX3_levelsThatLight 0 = .ok (.iconst 0, 1) := by decide +kernel
theorem dX3_levelsThatLight_1 : decode cX3_levelsThatLight 1 = .ok (.istore_n 2, 1) := by decide +kernel
theorem dX3_levelsThatLight_2 : decode cX3_levelsThatLight 2 = .ok (.iconst 0, 1) := by decide +kernel
theorem dX3_levelsThatLight_3 : decode cX3_levelsThatLight 3 = .ok (.istore_n 3, 1) := by decide +kernel
theorem dX3_levelsThatLight_4 : decode cX3_levelsThatLight 4 = .ok (.iload_n 3, 1) := by decide +kernel
theorem dX3_levelsThatLight_5 : decode cX3_levelsThatLight 5 = .ok (.bipush 9, 2) := by decide +kernel
theorem dX3_levelsThatLight_7 : decode cX3_levelsThatLight 7 = .ok (.if_icmp .gt 29, 3) := by decide +kernel
theorem dX3_levelsThatLight_10 : decode cX3_levelsThatLight 10 = .ok (.iload_n 2, 1) := by decide +kernel
theorem dX3_levelsThatLight_11 : decode cX3_levelsThatLight 11 = .ok (.iload_n 0, 1) := by decide +kernel
theorem dX3_levelsThatLight_12 : decode cX3_levelsThatLight 12 = .ok (.iload_n 3, 1) := by decide +kernel
theorem dX3_levelsThatLight_13 : decode cX3_levelsThatLight 13 = .ok (.invokestatic 266, 3) := by decide +kernel
theorem dX3_levelsThatLight_16 : decode cX3_levelsThatLight 16 = .ok (.iload_n 1, 1) := by decide +kernel
theorem dX3_levelsThatLight_17 : decode cX3_levelsThatLight 17 = .ok (.invokestatic 269, 3) := by decide +kernel
theorem dX3_levelsThatLight_20 : decode cX3_levelsThatLight 20 = .ok (.ifCond .eq 7, 3) := by decide +kernel
theorem dX3_levelsThatLight_23 : decode cX3_levelsThatLight 23 = .ok (.iconst 1, 1) := by decide +kernel
theorem dX3_levelsThatLight_24 : decode cX3_levelsThatLight 24 = .ok (.goto 4, 3) := by decide +kernel
theorem dX3_levelsThatLight_27 : decode cX3_levelsThatLight 27 = .ok (.iconst 0, 1) := by decide +kernel
theorem dX3_levelsThatLight_28 : decode cX3_levelsThatLight 28 = .ok (.iadd, 1) := by decide +kernel
theorem dX3_levelsThatLight_29 : decode cX3_levelsThatLight 29 = .ok (.istore_n 2, 1) := by decide +kernel
theorem dX3_levelsThatLight_30 : decode cX3_levelsThatLight 30 = .ok (.iinc 3 1, 3) := by decide +kernel
theorem dX3_levelsThatLight_33 : decode cX3_levelsThatLight 33 = .ok (.goto (-29), 3) := by decide +kernel
theorem dX3_levelsThatLight_36 : decode cX3_levelsThatLight 36 = .ok (.iload_n 2, 1) := by decide +kernel
theorem dX3_levelsThatLight_37 : decode cX3_levelsThatLight 37 = .ok (.ireturn, 1) := by decide +kernel
theorem dX3_greatestDivisor_0 : decode cX3_greatestDivisor 0 = .ok (.iconst 0, 1) := by decide +kernel
theorem dX3_greatestDivisor_1 : decode cX3_greatestDivisor 1 = .ok (.istore 4, 2) := by decide +kernel
theorem dX3_greatestDivisor_3 : decode cX3_greatestDivisor 3 = .ok (.iload 4, 2) := by decide +kernel
theorem dX3_greatestDivisor_5 : decode cX3_greatestDivisor 5 = .ok (.sipush 1000, 3) := by decide +kernel
theorem dX3_greatestDivisor_8 : decode cX3_greatestDivisor 8 = .ok (.if_icmp .ge 25, 3) := by decide +kernel
theorem dX3_greatestDivisor_11 : decode cX3_greatestDivisor 11 = .ok (.lload_n 2, 1) := by decide +kernel
theorem dX3_greatestDivisor_12 : decode cX3_greatestDivisor 12 = .ok (.lconst 0, 1) := by decide +kernel
theorem dX3_greatestDivisor_13 : decode cX3_greatestDivisor 13 = .ok (.lcmp, 1) := by decide +kernel
theorem dX3_greatestDivisor_14 : decode cX3_greatestDivisor 14 = .ok (.ifCond .eq 19, 3) := by decide +kernel
theorem dX3_greatestDivisor_17 : decode cX3_greatestDivisor 17 = .ok (.lload_n 0, 1) := by decide +kernel
theorem dX3_greatestDivisor_18 : decode cX3_greatestDivisor 18 = .ok (.lload_n 2, 1) := by decide +kernel
theorem dX3_greatestDivisor_19 : decode cX3_greatestDivisor 19 = .ok (.lrem, 1) := by decide +kernel
theorem dX3_greatestDivisor_20 : decode cX3_greatestDivisor 20 = .ok (.lstore 5, 2) := by decide +kernel
theorem dX3_greatestDivisor_22 : decode cX3_greatestDivisor 22 = .ok (.lload_n 2, 1) := by decide +kernel
theorem dX3_greatestDivisor_23 : decode cX3_greatestDivisor 23 = .ok (.lstore_n 0, 1) := by decide +kernel
theorem dX3_greatestDivisor_24 : decode cX3_greatestDivisor 24 = .ok (.lload 5, 2) := by decide +kernel
theorem dX3_greatestDivisor_26 : decode cX3_greatestDivisor 26 = .ok (.lstore_n 2, 1) := by decide +kernel
theorem dX3_greatestDivisor_27 : decode cX3_greatestDivisor 27 = .ok (.iinc 4 1, 3) := by decide +kernel
theorem dX3_greatestDivisor_30 : decode cX3_greatestDivisor 30 = .ok (.goto (-27), 3) := by decide +kernel
theorem dX3_greatestDivisor_33 : decode cX3_greatestDivisor 33 = .ok (.lload_n 0, 1) := by decide +kernel
theorem dX3_greatestDivisor_34 : decode cX3_greatestDivisor 34 = .ok (.lreturn, 1) := by decide +kernel
theorem dX3_hasBit_0 : decode cX3_hasBit 0 = .ok (.iload_n 0, 1) := by decide +kernel
theorem dX3_hasBit_1 : decode cX3_hasBit 1 = .ok (.iload_n 1, 1) := by decide +kernel
theorem dX3_hasBit_2 : decode cX3_hasBit 2 = .ok (.ishr, 1) := by decide +kernel
theorem dX3_hasBit_3 : decode cX3_hasBit 3 = .ok (.iconst 1, 1) := by decide +kernel
theorem dX3_hasBit_4 : decode cX3_hasBit 4 = .ok (.iand, 1) := by decide +kernel
theorem dX3_hasBit_5 : decode cX3_hasBit 5 = .ok (.iconst 1, 1) := by decide +kernel
theorem dX3_hasBit_6 : decode cX3_hasBit 6 = .ok (.if_icmp .ne 7, 3) := by decide +kernel
theorem dX3_hasBit_9 : decode cX3_hasBit 9 = .ok (.iconst 1, 1) := by decide +kernel
theorem dX3_hasBit_10 : decode cX3_hasBit 10 = .ok (.goto 4, 3) := by decide +kernel
theorem dX3_hasBit_13 : decode cX3_hasBit 13 = .ok (.iconst 0, 1) := by decide +kernel
theorem dX3_hasBit_14 : decode cX3_hasBit 14 = .ok (.ireturn, 1) := by decide +kernel
theorem dX3_lightBy_0 : decode cX3_lightBy 0 = .ok (.iload_n 1, 1) := by decide +kernel
theorem dX3_lightBy_1 : decode cX3_lightBy 1 = .ok (.iconst 2, 1) := by decide +kernel
theorem dX3_lightBy_2 : decode cX3_lightBy 2 = .ok (.idiv, 1) := by decide +kernel
theorem dX3_lightBy_3 : decode cX3_lightBy 3 = .ok (.istore_n 2, 1) := by decide +kernel
theorem dX3_lightBy_4 : decode cX3_lightBy 4 = .ok (.iload_n 0, 1) := by decide +kernel
theorem dX3_lightBy_5 : decode cX3_lightBy 5 = .ok (.lookupswitch 33 #[(1, 31), (2, 27)], 27) := by decide +kernel
theorem dX3_lightBy_32 : decode cX3_lightBy 32 = .ok (.iload_n 2, 1) := by decide +kernel
theorem dX3_lightBy_33 : decode cX3_lightBy 33 = .ok (.iload_n 1, 1) := by decide +kernel
theorem dX3_lightBy_34 : decode cX3_lightBy 34 = .ok (.iadd, 1) := by decide +kernel
theorem dX3_lightBy_35 : decode cX3_lightBy 35 = .ok (.ireturn, 1) := by decide +kernel
theorem dX3_lightBy_36 : decode cX3_lightBy 36 = .ok (.iload_n 2, 1) := by decide +kernel
theorem dX3_lightBy_37 : decode cX3_lightBy 37 = .ok (.ireturn, 1) := by decide +kernel
theorem dX3_lightBy_38 : decode cX3_lightBy 38 = .ok (.iload_n 1, 1) := by decide +kernel
theorem dX3_lightBy_39 : decode cX3_lightBy 39 = .ok (.ireturn, 1) := by decide +kernel
theorem dX3_darkestStretch_0 : decode cX3_darkestStretch 0 = .ok (.iconst 0, 1) := by decide +kernel
theorem dX3_darkestStretch_1 : decode cX3_darkestStretch 1 = .ok (.istore_n 1, 1) := by decide +kernel
theorem dX3_darkestStretch_2 : decode cX3_darkestStretch 2 = .ok (.iconst 0, 1) := by decide +kernel
theorem dX3_darkestStretch_3 : decode cX3_darkestStretch 3 = .ok (.istore_n 2, 1) := by decide +kernel
theorem dX3_darkestStretch_4 : decode cX3_darkestStretch 4 = .ok (.iconst 0, 1) := by decide +kernel
theorem dX3_darkestStretch_5 : decode cX3_darkestStretch 5 = .ok (.istore_n 3, 1) := by decide +kernel
theorem dX3_darkestStretch_6 : decode cX3_darkestStretch 6 = .ok (.iload_n 3, 1) := by decide +kernel
theorem dX3_darkestStretch_7 : decode cX3_darkestStretch 7 = .ok (.bipush 30, 2) := by decide +kernel
theorem dX3_darkestStretch_9 : decode cX3_darkestStretch 9 = .ok (.if_icmp .ge 34, 3) := by decide +kernel
theorem dX3_darkestStretch_12 : decode cX3_darkestStretch 12 = .ok (.iload_n 0, 1) := by decide +kernel
theorem dX3_darkestStretch_13 : decode cX3_darkestStretch 13 = .ok (.iload_n 3, 1) := by decide +kernel
theorem dX3_darkestStretch_14 : decode cX3_darkestStretch 14 = .ok (.bipush 15, 2) := by decide +kernel
theorem dX3_darkestStretch_16 : decode cX3_darkestStretch 16 = .ok (.irem, 1) := by decide +kernel
theorem dX3_darkestStretch_17 : decode cX3_darkestStretch 17 = .ok (.invokestatic 269, 3) := by decide +kernel
theorem dX3_darkestStretch_20 : decode cX3_darkestStretch 20 = .ok (.ifCond .eq 7, 3) := by decide +kernel
theorem dX3_darkestStretch_23 : decode cX3_darkestStretch 23 = .ok (.iconst 0, 1) := by decide +kernel
theorem dX3_darkestStretch_24 : decode cX3_darkestStretch 24 = .ok (.goto 6, 3) := by decide +kernel
theorem dX3_darkestStretch_27 : decode cX3_darkestStretch 27 = .ok (.iload_n 2, 1) := by decide +kernel
theorem dX3_darkestStretch_28 : decode cX3_darkestStretch 28 = .ok (.iconst 1, 1) := by decide +kernel
theorem dX3_darkestStretch_29 : decode cX3_darkestStretch 29 = .ok (.iadd, 1) := by decide +kernel
theorem dX3_darkestStretch_30 : decode cX3_darkestStretch 30 = .ok (.istore_n 2, 1) := by decide +kernel
theorem dX3_darkestStretch_31 : decode cX3_darkestStretch 31 = .ok (.iload_n 1, 1) := by decide +kernel
theorem dX3_darkestStretch_32 : decode cX3_darkestStretch 32 = .ok (.iload_n 2, 1) := by decide +kernel
theorem dX3_darkestStretch_33 : decode cX3_darkestStretch 33 = .ok (.invokestatic 272, 3) := by decide +kernel
theorem dX3_darkestStretch_36 : decode cX3_darkestStretch 36 = .ok (.istore_n 1, 1) := by decide +kernel
theorem dX3_darkestStretch_37 : decode cX3_darkestStretch 37 = .ok (.iinc 3 1, 3) := by decide +kernel
theorem dX3_darkestStretch_40 : decode cX3_darkestStretch 40 = .ok (.goto (-34), 3) := by decide +kernel
theorem dX3_darkestStretch_43 : decode cX3_darkestStretch 43 = .ok (.iload_n 1, 1) := by decide +kernel
theorem dX3_darkestStretch_44 : decode cX3_darkestStretch 44 = .ok (.bipush 15, 2) := by decide +kernel
theorem dX3_darkestStretch_46 : decode cX3_darkestStretch 46 = .ok (.invokestatic 277, 3) := by decide +kernel
theorem dX3_darkestStretch_49 : decode cX3_darkestStretch 49 = .ok (.ireturn, 1) := by decide +kernel
theorem dX3_turnsOf_0 : decode cX3_turnsOf 0 = .ok (.iload_n 0, 1) := by decide +kernel
theorem dX3_turnsOf_1 : decode cX3_turnsOf 1 = .ok (.iconst 1, 1) := by decide +kernel
theorem dX3_turnsOf_2 : decode cX3_turnsOf 2 = .ok (.ishr, 1) := by decide +kernel
theorem dX3_turnsOf_3 : decode cX3_turnsOf 3 = .ok (.iload_n 0, 1) := by decide +kernel
theorem dX3_turnsOf_4 : decode cX3_turnsOf 4 = .ok (.iconst 1, 1) := by decide +kernel
theorem dX3_turnsOf_5 : decode cX3_turnsOf 5 = .ok (.iand, 1) := by decide +kernel
theorem dX3_turnsOf_6 : decode cX3_turnsOf 6 = .ok (.bipush 14, 2) := by decide +kernel
theorem dX3_turnsOf_8 : decode cX3_turnsOf 8 = .ok (.ishl, 1) := by decide +kernel
theorem dX3_turnsOf_9 : decode cX3_turnsOf 9 = .ok (.ior, 1) := by decide +kernel
theorem dX3_turnsOf_10 : decode cX3_turnsOf 10 = .ok (.istore_n 1, 1) := by decide +kernel
theorem dX3_turnsOf_11 : decode cX3_turnsOf 11 = .ok (.iload_n 0, 1) := by decide +kernel
theorem dX3_turnsOf_12 : decode cX3_turnsOf 12 = .ok (.iload_n 1, 1) := by decide +kernel
theorem dX3_turnsOf_13 : decode cX3_turnsOf 13 = .ok (.ixor, 1) := by decide +kernel
theorem dX3_turnsOf_14 : decode cX3_turnsOf 14 = .ok (.invokestatic 280, 3) := by decide +kernel
theorem dX3_turnsOf_17 : decode cX3_turnsOf 17 = .ok (.ireturn, 1) := by decide +kernel
theorem dX3_leaveTrace_0 : decode cX3_leaveTrace 0 = .ok (.aload_n 0, 1) := by decide +kernel
theorem dX3_leaveTrace_1 : decode cX3_leaveTrace 1 = .ok (.bipush 31, 2) := by decide +kernel
theorem dX3_leaveTrace_3 : decode cX3_leaveTrace 3 = .ok (.aload_n 0, 1) := by decide +kernel
theorem dX3_leaveTrace_4 : decode cX3_leaveTrace 4 = .ok (.getfield 38, 3) := by decide +kernel
theorem dX3_leaveTrace_7 : decode cX3_leaveTrace 7 = .ok (.imul, 1) := by decide +kernel
theorem dX3_leaveTrace_8 : decode cX3_leaveTrace 8 = .ok (.iload_n 1, 1) := by decide +kernel
theorem dX3_leaveTrace_9 : decode cX3_leaveTrace 9 = .ok (.iadd, 1) := by decide +kernel
theorem dX3_leaveTrace_10 : decode cX3_leaveTrace 10 = .ok (.putfield 38, 3) := by decide +kernel
theorem dX3_leaveTrace_13 : decode cX3_leaveTrace 13 = .ok (.return_, 1) := by decide +kernel
theorem dX3_tellPlain_0 : decode cX3_tellPlain 0 = .ok (.aload_n 0, 1) := by decide +kernel
theorem dX3_tellPlain_1 : decode cX3_tellPlain 1 = .ok (.iconst 1, 1) := by decide +kernel
theorem dX3_tellPlain_2 : decode cX3_tellPlain 2 = .ok (.invokevirtual 283, 3) := by decide +kernel
theorem dX3_tellPlain_5 : decode cX3_tellPlain 5 = .ok (.aload_n 0, 1) := by decide +kernel
theorem dX3_tellPlain_6 : decode cX3_tellPlain 6 = .ok (.getfield 20, 3) := by decide +kernel
theorem dX3_tellPlain_9 : decode cX3_tellPlain 9 = .ok (.getfield 82, 3) := by decide +kernel
theorem dX3_tellPlain_12 : decode cX3_tellPlain 12 = .ok (.iload_n 1, 1) := by decide +kernel
theorem dX3_tellPlain_13 : decode cX3_tellPlain 13 = .ok (.iaload, 1) := by decide +kernel
theorem dX3_tellPlain_14 : decode cX3_tellPlain 14 = .ok (.ireturn, 1) := by decide +kernel
theorem dX3_tellHalved_0 : decode cX3_tellHalved 0 = .ok (.aload_n 0, 1) := by decide +kernel
theorem dX3_tellHalved_1 : decode cX3_tellHalved 1 = .ok (.iconst 2, 1) := by decide +kernel
theorem dX3_tellHalved_2 : decode cX3_tellHalved 2 = .ok (.invokevirtual 283, 3) := by decide +kernel
theorem dX3_tellHalved_5 : decode cX3_tellHalved 5 = .ok (.aload_n 0, 1) := by decide +kernel
theorem dX3_tellHalved_6 : decode cX3_tellHalved 6 = .ok (.iload_n 1, 1) := by decide +kernel
theorem dX3_tellHalved_7 : decode cX3_tellHalved 7 = .ok (.invokevirtual 232, 3) := by decide +kernel
theorem dX3_tellHalved_10 : decode cX3_tellHalved 10 = .ok (.bipush 100, 2) := by decide +kernel
theorem dX3_tellHalved_12 : decode cX3_tellHalved 12 = .ok (.iadd, 1) := by decide +kernel
theorem dX3_tellHalved_13 : decode cX3_tellHalved 13 = .ok (.ireturn, 1) := by decide +kernel
theorem dX3_tellBright_0 : decode cX3_tellBright 0 = .ok (.aload_n 0, 1) := by decide +kernel
theorem dX3_tellBright_1 : decode cX3_tellBright 1 = .ok (.iconst 3, 1) := by decide +kernel
theorem dX3_tellBright_2 : decode cX3_tellBright 2 = .ok (.invokevirtual 283, 3) := by decide +kernel
theorem dX3_tellBright_5 : decode cX3_tellBright 5 = .ok (.aload_n 0, 1) := by decide +kernel
theorem dX3_tellBright_6 : decode cX3_tellBright 6 = .ok (.iload_n 1, 1) := by decide +kernel
theorem dX3_tellBright_7 : decode cX3_tellBright 7 = .ok (.invokevirtual 229, 3) := by decide +kernel
theorem dX3_tellBright_10 : decode cX3_tellBright 10 = .ok (.istore_n 2, 1) := by decide +kernel
theorem dX3_tellBright_11 : decode cX3_tellBright 11 = .ok (.iload_n 2, 1) := by decide +kernel
theorem dX3_tellBright_12 : decode cX3_tellBright 12 = .ok (.aload_n 0, 1) := by decide +kernel
theorem dX3_tellBright_13 : decode cX3_tellBright 13 = .ok (.iload_n 1, 1) := by decide +kernel
theorem dX3_tellBright_14 : decode cX3_tellBright 14 = .ok (.invokevirtual 232, 3) := by decide +kernel
theorem dX3_tellBright_17 : decode cX3_tellBright 17 = .ok (.iadd, 1) := by decide +kernel
theorem dX3_tellBright_18 : decode cX3_tellBright 18 = .ok (.ireturn, 1) := by decide +kernel
theorem dX3_switchLent_0 : decode cX3_switchLent 0 = .ok (.aload_n 0, 1) := by decide +kernel
theorem dX3_switchLent_1 : decode cX3_switchLent 1 = .ok (.iconst 4, 1) := by decide +kernel
theorem dX3_switchLent_2 : decode cX3_switchLent 2 = .ok (.invokevirtual 283, 3) := by decide +kernel
theorem dX3_switchLent_5 : decode cX3_switchLent 5 = .ok (.aload_n 0, 1) := by decide +kernel
theorem dX3_switchLent_6 : decode cX3_switchLent 6 = .ok (.getfield 20, 3) := by decide +kernel
theorem dX3_switchLent_9 : decode cX3_switchLent 9 = .ok (.iload_n 1, 1) := by decide +kernel
theorem dX3_switchLent_10 : decode cX3_switchLent 10 = .ok (.invokevirtual 286, 3) := by decide +kernel
theorem dX3_switchLent_13 : decode cX3_switchLent 13 = .ok (.ireturn, 1) := by decide +kernel
theorem dX3_switchBright_0 : decode cX3_switchBright 0 = .ok (.aload_n 0, 1) := by decide +kernel
theorem dX3_switchBright_1 : decode cX3_switchBright 1 = .ok (.iconst 5, 1) := by decide +kernel
theorem dX3_switchBright_2 : decode cX3_switchBright 2 = .ok (.invokevirtual 283, 3) := by decide +kernel
theorem dX3_switchBright_5 : decode cX3_switchBright 5 = .ok (.bipush 60, 2) := by decide +kernel
theorem dX3_switchBright_7 : decode cX3_switchBright 7 = .ok (.ireturn, 1) := by decide +kernel
end
section
theorem dX4_init_0 : decode cX4_init 0 = .ok (.aload_n 0, 1) := by decide +kernel
theorem dX4_init_1 : decode cX4_init 1 = .ok (.invokespecial 1, 3) := by decide +kernel
theorem dX4_init_4 : decode cX4_init 4 = .ok (.aload_n 0, 1) := by decide +kernel
theorem dX4_init_5 : decode cX4_init 5 = .ok (.iconst 4, 1) := by decide +kernel
theorem dX4_init_6 : decode cX4_init 6 = .ok (.newarray .int, 2) := by decide +kernel
theorem dX4_init_8 : decode cX4_init 8 = .ok (.putfield 7, 3) := by decide +kernel
theorem dX4_init_11 : decode cX4_init 11 = .ok (.aload_n 0, 1) := by decide +kernel
theorem dX4_init_12 : decode cX4_init 12 = .ok (.iconst 4, 1) := by decide +kernel
theorem dX4_init_13 : decode cX4_init 13 = .ok (.newarray .int, 2) := by decide +kernel
theorem dX4_init_15 : decode cX4_init 15 = .ok (.putfield 13, 3) := by decide +kernel
theorem dX4_init_18 : decode cX4_init 18 = .ok (.aload_n 0, 1) := by decide +kernel
theorem dX4_init_19 : decode cX4_init 19 = .ok (.iconst 4, 1) := by decide +kernel
theorem dX4_init_20 : decode cX4_init 20 = .ok (.newarray .int, 2) := by decide +kernel
theorem dX4_init_22 : decode cX4_init 22 = .ok (.putfield 16, 3) := by decide +kernel
theorem dX4_init_25 : decode cX4_init 25 = .ok (.aload_n 0, 1) := by decide +kernel
theorem dX4_init_26 : decode cX4_init 26 = .ok (.iconst 4, 1) := by decide +kernel
theorem dX4_init_27 : decode cX4_init 27 = .ok (.newarray .int, 2) := by decide +kernel
theorem dX4_init_29 : decode cX4_init 29 = .ok (.putfield 19, 3) := by decide +kernel
theorem dX4_init_32 : decode cX4_init 32 = .ok (.aload_n 0, 1) := by decide +kernel
theorem dX4_init_33 : decode cX4_init 33 = .ok (.bipush 16, 2) := by decide +kernel
theorem dX4_init_35 : decode cX4_init 35 = .ok (.newarray .int, 2) := by decide +kernel
theorem dX4_init_37 : decode cX4_init 37 = .ok (.putfield 22, 3) := by decide +kernel
theorem dX4_init_40 : decode cX4_init 40 = .ok (.aload_n 0, 1) := by decide +kernel
theorem dX4_init_41 : decode cX4_init 41 = .ok (.bipush 16, 2) := by decide +kernel
theorem dX4_init_43 : decode cX4_init 43 = .ok (.newarray .int, 2) := by decide +kernel
theorem dX4_init_45 : decode cX4_init 45 = .ok (.putfield 25, 3) := by decide +kernel
theorem dX4_init_48 : decode cX4_init 48 = .ok (.aload_n 0, 1) := by decide +kernel
theorem dX4_init_49 : decode cX4_init 49 = .ok (.iconst 4, 1) := by decide +kernel
theorem dX4_init_50 : decode cX4_init 50 = .ok (.newarray .int, 2) := by decide +kernel
theorem dX4_init_52 : decode cX4_init 52 = .ok (.putfield 28, 3) := by decide +kernel
theorem dX4_init_55 : decode cX4_init 55 = .ok (.aload_n 0, 1) := by decide +kernel
theorem dX4_init_56 : decode cX4_init 56 = .ok (.iconst 4, 1) := by decide +kernel
theorem dX4_init_57 : decode cX4_init 57 = .ok (.newarray .int, 2) := by decide +kernel
theorem dX4_init_59 : decode cX4_init 59 = .ok (.putfield 31, 3) := by decide +kernel
theorem dX4_init_62 : decode cX4_init 62 = .ok (.aload_n 0, 1) := by decide +kernel
theorem dX4_init_63 : decode cX4_init 63 = .ok (.bipush 16, 2) := by decide +kernel
theorem dX4_init_65 : decode cX4_init 65 = .ok (.newarray .int, 2) := by decide +kernel
theorem dX4_init_67 : decode cX4_init 67 = .ok (.putfield 34, 3) := by decide +kernel
theorem dX4_init_70 : decode cX4_init 70 = .ok (.aload_n 0, 1) := by decide +kernel
theorem dX4_init_71 : decode cX4_init 71 = .ok (.bipush 15, 2) := by decide +kernel
theorem dX4_init_73 : decode cX4_init 73 = .ok (.newarray .int, 2) := by decide +kernel
theorem dX4_init_75 : decode cX4_init 75 = .ok (.putfield 37, 3) := by decide +kernel
theorem dX4_init_78 : decode cX4_init 78 = .ok (.aload_n 0, 1) := by decide +kernel
theorem dX4_init_79 : decode cX4_init 79 = .ok (.bipush 15, 2) := by decide +kernel
theorem dX4_init_81 : decode cX4_init 81 = .ok (.newarray .int, 2) := by decide +kernel
theorem dX4_init_83 : decode cX4_init 83 = .ok (.putfield 40, 3) := by decide +kernel
theorem dX4_init_86 : decode cX4_init 86 = .ok (.aload_n 0, 1) := by decide +kernel
theorem dX4_init_87 : decode cX4_init 87 = .ok (.bipush 16, 2) := by decide +kernel
theorem dX4_init_89 : decode cX4_init 89 = .ok (.newarray .int, 2) := by decide +kernel
theorem dX4_init_91 : decode cX4_init 91 = .ok (.putfield 43, 3) := by decide +kernel
theorem dX4_init_94 : decode cX4_init 94 = .ok (.aload_n 0, 1) := by decide +kernel
theorem dX4_init_95 : decode cX4_init 95 = .ok (.iconst 4, 1) := by decide +kernel
theorem dX4_init_96 : decode cX4_init 96 = .ok (.newarray .int, 2) := by decide +kernel
theorem dX4_init_98 : decode cX4_init 98 = .ok (.putfield 46, 3) := by decide +kernel
theorem dX4_init_101 : decode cX4_init 101 = .ok (.aload_n 0, 1) := by decide +kernel
theorem dX4_init_102 : decode cX4_init 102 = .ok (.bipush 8, 2) := by decide +kernel
theorem dX4_init_104 : decode cX4_init 104 = .ok (.newarray .int, 2) := by decide +kernel
theorem dX4_init_106 : decode cX4_init 106 = .ok (.putfield 49, 3) := by decide +kernel
theorem dX4_init_109 : decode cX4_init 109 = .ok (.aload_n 0, 1) := by decide +kernel
theorem dX4_init_110 : decode cX4_init 110 = .ok (.bipush 8, 2) := by decide +kernel
theorem dX4_init_112 : decode cX4_init 112 = .ok (.newarray .int, 2) := by decide +kernel
theorem dX4_init_114 : decode cX4_init 114 = .ok (.putfield 52, 3) := by decide +kernel
theorem dX4_init_117 : decode cX4_init 117 = .ok (.aload_n 0, 1) := by decide +kernel
theorem dX4_init_118 : decode cX4_init 118 = .ok (.bipush 8, 2) := by decide +kernel
theorem dX4_init_120 : decode cX4_init 120 = .ok (.newarray .int, 2) := by decide +kernel
theorem dX4_init_122 : decode cX4_init 122 = .ok (.putfield 55, 3) := by decide +kernel
theorem dX4_init_125 : decode cX4_init 125 = .ok (.aload_n 0, 1) := by decide +kernel
theorem dX4_init_126 : decode cX4_init 126 = .ok (.bipush 17, 2) := by decide +kernel
theorem dX4_init_128 : decode cX4_init 128 = .ok (.newarray .long, 2) := by decide +kernel
theorem dX4_init_130 : decode cX4_init 130 = .ok (.putfield 58, 3) := by decide +kernel
theorem dX4_init_133 : decode cX4_init 133 = .ok (.aload_n 0, 1) := by decide +kernel
theorem dX4_init_134 : decode cX4_init 134 = .ok (.iconst 4, 1) := by decide +kernel
theorem dX4_init_135 : decode cX4_init 135 = .ok (.newarray .int, 2) := by decide +kernel
theorem dX4_init_137 : decode cX4_init 137 = .ok (.putfield 62, 3) := by decide +kernel
theorem dX4_init_140 : decode cX4_init 140 = .ok (.aload_n 0, 1) := by decide +kernel
theorem dX4_init_141 : decode cX4_init 141 = .ok (.iconst 4, 1) := by decide +kernel
theorem dX4_init_142 : decode cX4_init 142 = .ok (.newarray .int, 2) := by decide +kernel
theorem dX4_init_144 : decode cX4_init 144 = .ok (.putfield 65, 3) := by decide +kernel
theorem dX4_init_147 : decode cX4_init 147 = .ok (.aload_n 0, 1) := by decide +kernel
theorem dX4_init_148 : decode cX4_init 148 = .ok (.sipush 240, 3) := by decide +kernel
theorem dX4_init_151 : decode cX4_init 151 = .ok (.newarray .int, 2) := by decide +kernel
theorem dX4_init_153 : decode cX4_init 153 = .ok (.putfield 68, 3) := by decide +kernel
theorem dX4_init_156 : decode cX4_init 156 = .ok (.aload_n 0, 1) := by decide +kernel
theorem dX4_init_157 : decode cX4_init 157 = .ok (.bipush 60, 2) := by decide +kernel
theorem dX4_init_159 : decode cX4_init 159 = .ok (.newarray .int, 2) := by decide +kernel
theorem dX4_init_161 : decode cX4_init 161 = .ok (.putfield 71, 3) := by decide +kernel
theorem dX4_init_164 : decode cX4_init 164 = .ok (.iconst 0, 1) := by decide +kernel
theorem dX4_init_165 : decode cX4_init 165 = .ok (.istore_n 1, 1) := by decide +kernel
theorem dX4_init_166 : decode cX4_init 166 = .ok (.iload_n 1, 1) := by decide +kernel
theorem dX4_init_167 : decode cX4_init 167 = .ok (.iconst 4, 1) := by decide +kernel
theorem dX4_init_168 : decode cX4_init 168 = .ok (.if_icmp .ge 16, 3) := by decide +kernel
theorem dX4_init_171 : decode cX4_init 171 = .ok (.aload_n 0, 1) := by decide +kernel
theorem dX4_init_172 : decode cX4_init 172 = .ok (.getfield 62, 3) := by decide +kernel
theorem dX4_init_175 : decode cX4_init 175 = .ok (.iload_n 1, 1) := by decide +kernel
theorem dX4_init_176 : decode cX4_init 176 = .ok (.iconst (-1), 1) := by decide +kernel
theorem dX4_init_177 : decode cX4_init 177 = .ok (.iastore, 1) := by decide +kernel
theorem dX4_init_178 : decode cX4_init 178 = .ok (.iinc 1 1, 3) := by decide +kernel
theorem dX4_init_181 : decode cX4_init 181 = .ok (.goto (-15), 3) := by decide +kernel
theorem dX4_init_184 : decode cX4_init 184 = .ok (.return_, 1) := by decide +kernel
theorem dX4_in_0 : decode cX4_in 0 = .ok (.lload_n 0, 1) := by decide +kernel
theorem dX4_in_1 : decode cX4_in 1 = .ok (.lload_n 2, 1) := by decide +kernel
theorem dX4_in_2 : decode cX4_in 2 = .ok (.lcmp, 1) := by decide +kernel
theorem dX4_in_3 : decode cX4_in 3 = .ok (.ifCond .lt 14, 3) := by decide +kernel
theorem dX4_in_6 : decode cX4_in 6 = .ok (.lload_n 0, 1) := by decide +kernel
theorem dX4_in_7 : decode cX4_in 7 = .ok (.lload 4, 2) := by decide +kernel
theorem dX4_in_9 : decode cX4_in 9 = .ok (.lcmp, 1) := by decide +kernel
theorem dX4_in_10 : decode cX4_in 10 = .ok (.ifCond .gt 7, 3) := by decide +kernel
theorem dX4_in_13 : decode cX4_in 13 = .ok (.iconst 1, 1) := by decide +kernel
theorem dX4_in_14 : decode cX4_in 14 = .ok (.goto 4, 3) := by decide +kernel
theorem dX4_in_17 : decode cX4_in 17 = .ok (.iconst 0, 1) := by decide +kernel
theorem dX4_in_18 : decode cX4_in 18 = .ok (.ireturn, 1) := by decide +kernel
theorem dX4_lost_0 : decode cX4_lost 0 = .ok (.ldc2_w 74, 3) := by decide +kernel
theorem dX4_lost_3 : decode cX4_lost 3 = .ok (.lreturn, 1) := by decide +kernel
theorem dX4_bits_0 : decode cX4_bits 0 = .ok (.iconst 0, 1) := by decide +kernel
theorem dX4_bits_1 : decode cX4_bits 1 = .ok (.istore_n 1, 1) := by decide +kernel
theorem dX4_bits_2 : decode cX4_bits 2 = .ok (.iload_n 0, 1) := by decide +kernel
theorem dX4_bits_3 : decode cX4_bits 3 = .ok (.istore_n 2, 1) := by decide +kernel
theorem dX4_bits_4 : decode cX4_bits 4 = .ok (.iload_n 2, 1) := by decide +kernel
theorem dX4_bits_5 : decode cX4_bits 5 = .ok (.ifCond .le 16, 3) := by decide +kernel
theorem dX4_bits_8 : decode cX4_bits 8 = .ok (.iload_n 1, 1) := by decide +kernel
theorem dX4_bits_9 : decode cX4_bits 9 = .ok (.iload_n 2, 1) := by decide +kernel
theorem dX4_bits_10 : decode cX4_bits 10 = .ok (.iconst 1, 1) := by decide +kernel
theorem dX4_bits_11 : decode cX4_bits 11 = .ok (.iand, 1) := by decide +kernel
theorem dX4_bits_12 : decode cX4_bits 12 = .ok (.iadd, 1) := by decide +kernel
theorem dX4_bits_13 : decode cX4_bits 13 = .ok (.istore_n 1, 1) := by decide +kernel
theorem dX4_bits_14 : decode cX4_bits 14 = .ok (.iload_n 2, 1) := by decide +kernel
theorem dX4_bits_15 : decode cX4_bits 15 = .ok (.iconst 1, 1) := by decide +kernel
theorem dX4_bits_16 : decode cX4_bits 16 = .ok (.ishr, 1) := by decide +kernel
theorem dX4_bits_17 : decode cX4_bits 17 = .ok (.istore_n 2, 1) := by decide +kernel
theorem dX4_bits_18 : decode cX4_bits 18 = .ok (.goto (-14), 3) := by decide +kernel
theorem dX4_bits_21 : decode cX4_bits 21 = .ok (.iload_n 1, 1) := by decide +kernel
theorem dX4_bits_22 : decode cX4_bits 22 = .ok (.ireturn, 1) := by decide +kernel
theorem dX4_share_0 : decode cX4_share 0 = .ok (.lload_n 0, 1) := by decide +kernel
theorem dX4_share_1 : decode cX4_share 1 = .ok (.lstore 5, 2) := by decide +kernel
theorem dX4_share_3 : decode cX4_share 3 = .ok (.lload_n 2, 1) := by decide +kernel
theorem dX4_share_4 : decode cX4_share 4 = .ok (.lstore 7, 2) := by decide +kernel
theorem dX4_share_6 : decode cX4_share 6 = .ok (.lload 7, 2) := by decide +kernel
theorem dX4_share_8 : decode cX4_share 8 = .ok (.lconst 0, 1) := by decide +kernel
theorem dX4_share_9 : decode cX4_share 9 = .ok (.lcmp, 1) := by decide +kernel
theorem dX4_share_10 : decode cX4_share 10 = .ok (.ifCond .eq 21, 3) := by decide +kernel
theorem dX4_share_13 : decode cX4_share 13 = .ok (.lload 5, 2) := by decide +kernel
theorem dX4_share_15 : decode cX4_share 15 = .ok (.lload 7, 2) := by decide +kernel
theorem dX4_share_17 : decode cX4_share 17 = .ok (.lrem, 1) := by decide +kernel
theorem dX4_share_18 : decode cX4_share 18 = .ok (.lstore 9, 2) := by decide +kernel
theorem dX4_share_20 : decode cX4_share 20 = .ok (.lload 7, 2) := by decide +kernel
theorem dX4_share_22 : decode cX4_share 22 = .ok (.lstore 5, 2) := by decide +kernel
theorem dX4_share_24 : decode cX4_share 24 = .ok (.lload 9, 2) := by decide +kernel
theorem dX4_share_26 : decode cX4_share 26 = .ok (.lstore 7, 2) := by decide +kernel
theorem dX4_share_28 : decode cX4_share 28 = .ok (.goto (-22), 3) := by decide +kernel
theorem dX4_share_31 : decode cX4_share 31 = .ok (.iload 4, 2) := by decide +kernel
theorem dX4_share_33 : decode cX4_share 33 = .ok (.ifCond .ne 7, 3) := by decide +kernel
theorem dX4_share_36 : decode cX4_share 36 = .ok (.lload_n 0, 1) := by decide +kernel
theorem dX4_share_37 : decode cX4_share 37 = .ok (.goto 4, 3) := by decide +kernel
theorem dX4_share_40 : decode cX4_share 40 = .ok (.lload_n 2, 1) := by decide +kernel
theorem dX4_share_41 : decode cX4_share 41 = .ok (.lload 5, 2) := by decide +kernel
theorem dX4_share_43 : decode cX4_share 43 = .ok (.ldiv, 1) := by decide +kernel
theorem dX4_share_44 : decode cX4_share 44 = .ok (.lreturn, 1) := by decide +kernel
theorem dX4_refused_0 : decode cX4_refused 0 = .ok (.aload_n 0, 1) := by decide +kernel
theorem dX4_refused_1 : decode cX4_refused 1 = .ok (.iconst 0, 1) := by decide +kernel
theorem dX4_refused_2 : decode cX4_refused 2 = .ok (.putfield 76, 3) := by decide +kernel
theorem dX4_refused_5 : decode cX4_refused 5 = .ok (.iload_n 1, 1) := by decide +kernel
theorem dX4_refused_6 : decode cX4_refused 6 = .ok (.ireturn, 1) := by decide +kernel
theorem dX4_failed_0 : decode cX4_failed 0 = .ok (.aload_n 0, 1) := by decide +kernel
theorem dX4_failed_1 : decode cX4_failed 1 = .ok (.iload_n 1, 1) := by decide +kernel
theorem dX4_failed_2 : decode cX4_failed 2 = .ok (.putfield 76, 3) := by decide +kernel
theorem dX4_failed_5 : decode cX4_failed 5 = .ok (.bipush (-10), 2) := by decide +kernel
theorem dX4_failed_7 : decode cX4_failed 7 = .ok (.iload_n 1, 1) := by decide +kernel
theorem dX4_failed_8 : decode cX4_failed 8 = .ok (.isub, 1) := by decide +kernel
theorem dX4_failed_9 : decode cX4_failed 9 = .ok (.ireturn, 1) := by decide +kernel
theorem dX4_failedLong_0 : decode cX4_failedLong 0 = .ok (.aload_n 0, 1) := by decide +kernel
theorem dX4_failedLong_1 : decode cX4_failedLong 1 = .ok (.iload_n 1, 1) := by decide +kernel
theorem dX4_failedLong_2 : decode cX4_failedLong 2 = .ok (.putfield 76, 3) := by decide +kernel
theorem dX4_failedLong_5 : decode cX4_failedLong 5 = .ok (.invokestatic 80, 3) := by decide +kernel
theorem dX4_failedLong_8 : decode cX4_failedLong 8 = .ok (.lreturn, 1) := by decide +kernel
theorem dX4_noModule_0 : decode cX4_noModule 0 = .ok (.iload_n 1, 1) := by decide +kernel
theorem dX4_noModule_1 : decode cX4_noModule 1 = .ok (.i2l, 1) := by decide +kernel
theorem dX4_noModule_2 : decode cX4_noModule 2 = .ok (.lconst 0, 1) := by decide +kernel
theorem dX4_noModule_3 : decode cX4_noModule 3 = .ok (.aload_n 0, 1) := by decide +kernel
theorem dX4_noModule_4 : decode cX4_noModule 4 = .ok (.getfield 84, 3) := by decide +kernel
theorem dX4_noModule_7 : decode cX4_noModule 7 = .ok (.i2l, 1) := by decide +kernel
theorem dX4_noModule_8 : decode cX4_noModule 8 = .ok (.lconst 1, 1) := by decide +kernel
theorem dX4_noModule_9 : decode cX4_noModule 9 = .ok (.lsub, 1) := by decide +kernel
theorem dX4_noModule_10 : decode cX4_noModule 10 = .ok (.invokestatic 87, 3) := by decide +kernel
theorem dX4_noModule_13 : decode cX4_noModule 13 = .ok (.ifCond .ne 7, 3) := by decide +kernel
theorem dX4_noModule_16 : decode cX4_noModule 16 = .ok (.iconst 1, 1) := by decide +kernel
theorem dX4_noModule_17 : decode cX4_noModule 17 = .ok (.goto 4, 3) := by decide +kernel
theorem dX4_noModule_20 : decode cX4_noModule 20 = .ok (.iconst 0, 1) := by decide +kernel
theorem dX4_noModule_21 : decode cX4_noModule 21 = .ok (.ireturn, 1) := by decide +kernel
theorem dX4_noLamp_0 : decode cX4_noLamp 0 = .ok (.iload_n 1, 1) := by decide +kernel
theorem dX4_noLamp_1 : decode cX4_noLamp 1 = .ok (.i2l, 1) := by decide +kernel
theorem dX4_noLamp_2 : decode cX4_noLamp 2 = .ok (.lconst 0, 1) := by decide +kernel
theorem dX4_noLamp_3 : decode cX4_noLamp 3 = .ok (.aload_n 0, 1) := by decide +kernel
theorem dX4_noLamp_4 : decode cX4_noLamp 4 = .ok (.getfield 91, 3) := by decide +kernel
theorem dX4_noLamp_7 : decode cX4_noLamp 7 = .ok (.i2l, 1) := by decide +kernel
theorem dX4_noLamp_8 : decode cX4_noLamp 8 = .ok (.lconst 1, 1) := by decide +kernel
theorem dX4_noLamp_9 : decode cX4_noLamp 9 = .ok (.lsub, 1) := by decide +kernel
theorem dX4_noLamp_10 : decode cX4_noLamp 10 = .ok (.invokestatic 87, 3) := by decide +kernel
theorem dX4_noLamp_13 : decode cX4_noLamp 13 = .ok (.ifCond .ne 7, 3) := by decide +kernel
theorem dX4_noLamp_16 : decode cX4_noLamp 16 = .ok (.iconst 1, 1) := by decide +kernel
theorem dX4_noLamp_17 : decode cX4_noLamp 17 = .ok (.goto 4, 3) := by decide +kernel
theorem dX4_noLamp_20 : decode cX4_noLamp 20 = .ok (.iconst 0, 1) := by decide +kernel
theorem dX4_noLamp_21 : decode cX4_noLamp 21 = .ok (.ireturn, 1) := by decide +kernel
theorem dX4_codeAt_0 : decode cX4_codeAt 0 = .ok (.aload_n 0, 1) := by decide +kernel
theorem dX4_codeAt_1 : decode cX4_codeAt 1 = .ok (.getfield 94, 3) := by decide +kernel
theorem dX4_codeAt_4 : decode cX4_codeAt 4 = .ok (.iload_n 2, 1) := by decide +kernel
theorem dX4_codeAt_5 : decode cX4_codeAt 5 = .ok (.if_icmp .ge 17, 3) := by decide +kernel
theorem dX4_codeAt_8 : decode cX4_codeAt 8 = .ok (.aload_n 0, 1) := by decide +kernel
theorem dX4_codeAt_9 : decode cX4_codeAt 9 = .ok (.getfield 68, 3) := by decide +kernel
theorem dX4_codeAt_12 : decode cX4_codeAt 12 = .ok (.iload_n 1, 1) := by decide +kernel
theorem dX4_codeAt_13 : decode cX4_codeAt 13 = .ok (.aload_n 0, 1) := by decide +kernel
theorem dX4_codeAt_14 : decode cX4_codeAt 14 = .ok (.getfield 94, 3) := by decide +kernel
theorem dX4_codeAt_17 : decode cX4_codeAt 17 = .ok (.iadd, 1) := by decide +kernel
theorem dX4_codeAt_18 : decode cX4_codeAt 18 = .ok (.iaload, 1) := by decide +kernel
theorem dX4_codeAt_19 : decode cX4_codeAt 19 = .ok (.goto 5, 3) := by decide +kernel
theorem dX4_codeAt_22 : decode cX4_codeAt 22 = .ok (.bipush (-9), 2) := by decide +kernel
theorem dX4_codeAt_24 : decode cX4_codeAt 24 = .ok (.ireturn, 1) := by decide +kernel
theorem dX4_readsModule_0 : decode cX4_readsModule 0 = .ok (.aload_n 0, 1) := by decide +kernel
theorem dX4_readsModule_1 : decode cX4_readsModule 1 = .ok (.getfield 97, 3) := by decide +kernel
theorem dX4_readsModule_4 : decode cX4_readsModule 4 = .ok (.iconst 4, 1) := by decide +kernel
theorem dX4_readsModule_5 : decode cX4_readsModule 5 = .ok (.if_icmp .eq 14, 3) := by decide +kernel
theorem dX4_readsModule_8 : decode cX4_readsModule 8 = .ok (.aload_n 0, 1) := by decide +kernel
theorem dX4_readsModule_9 : decode cX4_readsModule 9 = .ok (.iload_n 1, 1) := by decide +kernel
theorem dX4_readsModule_10 : decode cX4_readsModule 10 = .ok (.iload_n 2, 1) := by decide +kernel
theorem dX4_readsModule_11 : decode cX4_readsModule 11 = .ok (.invokevirtual 100, 3) := by decide +kernel
theorem dX4_readsModule_14 : decode cX4_readsModule 14 = .ok (.bipush 59, 2) := by decide +kernel
theorem dX4_readsModule_16 : decode cX4_readsModule 16 = .ok (.if_icmp .eq 5, 3) := by decide +kernel
theorem dX4_readsModule_19 : decode cX4_readsModule 19 = .ok (.iconst 0, 1) := by decide +kernel
theorem dX4_readsModule_20 : decode cX4_readsModule 20 = .ok (.ireturn, 1) := by decide +kernel
theorem dX4_readsModule_21 : decode cX4_readsModule 21 = .ok (.aload_n 0, 1) := by decide +kernel
theorem dX4_readsModule_22 : decode cX4_readsModule 22 = .ok (.dup, 1) := by decide +kernel
theorem dX4_readsModule_23 : decode cX4_readsModule 23 = .ok (.getfield 94, 3) := by decide +kernel
theorem dX4_readsModule_26 : decode cX4_readsModule 26 = .ok (.iconst 1, 1) := by decide +kernel
theorem dX4_readsModule_27 : decode cX4_readsModule 27 = .ok (.iadd, 1) := by decide +kernel
theorem dX4_readsModule_28 : decode cX4_readsModule 28 = .ok (.putfield 94, 3) := by decide +kernel
theorem dX4_readsModule_31 : decode cX4_readsModule 31 = .ok (.aload_n 0, 1) := by decide +kernel
theorem dX4_readsModule_32 : decode cX4_readsModule 32 = .ok (.iload_n 1, 1) := by decide +kernel
theorem dX4_readsModule_33 : decode cX4_readsModule 33 = .ok (.iload_n 2, 1) := by decide +kernel
theorem dX4_readsModule_34 : decode cX4_readsModule 34 = .ok (.invokevirtual 100, 3) := by decide +kernel
theorem dX4_readsModule_37 : decode cX4_readsModule 37 = .ok (.istore_n 3, 1) := by decide +kernel
theorem dX4_readsModule_38 : decode cX4_readsModule 38 = .ok (.iload_n 3, 1) := by decide +kernel
theorem dX4_readsModule_39 : decode cX4_readsModule 39 = .ok (.bipush 112, 2) := by decide +kernel
theorem dX4_readsModule_41 : decode cX4_readsModule 41 = .ok (.if_icmp .eq 17, 3) := by decide +kernel
theorem dX4_readsModule_44 : decode cX4_readsModule 44 = .ok (.iload_n 3, 1) := by decide +kernel
theorem dX4_readsModule_45 : decode cX4_readsModule 45 = .ok (.bipush 104, 2) := by decide +kernel
theorem dX4_readsModule_47 : decode cX4_readsModule 47 = .ok (.if_icmp .eq 11, 3) := by decide +kernel
theorem dX4_readsModule_50 : decode cX4_readsModule 50 = .ok (.iload_n 3, 1) := by decide +kernel
theorem dX4_readsModule_51 : decode cX4_readsModule 51 = .ok (.bipush 98, 2) := by decide +kernel
theorem dX4_readsModule_53 : decode cX4_readsModule 53 = .ok (.if_icmp .eq 5, 3) := by decide +kernel
theorem dX4_readsModule_56 : decode cX4_readsModule 56 = .ok (.iconst 0, 1) := by decide +kernel
theorem dX4_readsModule_57 : decode cX4_readsModule 57 = .ok (.ireturn, 1) := by decide +kernel
theorem dX4_readsModule_58 : decode cX4_readsModule 58 = .ok (.aload_n 0, 1) := by decide +kernel
theorem dX4_readsModule_59 : decode cX4_readsModule 59 = .ok (.dup, 1) := by decide +kernel
theorem dX4_readsModule_60 : decode cX4_readsModule 60 = .ok (.getfield 94, 3) := by decide +kernel
theorem dX4_readsModule_63 : decode cX4_readsModule 63 = .ok (.iconst 1, 1) := by decide +kernel
theorem dX4_readsModule_64 : decode cX4_readsModule 64 = .ok (.iadd, 1) := by decide +kernel
theorem dX4_readsModule_65 : decode cX4_readsModule 65 = .ok (.putfield 94, 3) := by decide +kernel
theorem dX4_readsModule_68 : decode cX4_readsModule 68 = .ok (.aload_n 0, 1) := by decide +kernel
theorem dX4_readsModule_69 : decode cX4_readsModule 69 = .ok (.getfield 97, 3) := by decide +kernel
theorem dX4_readsModule_72 : decode cX4_readsModule 72 = .ok (.istore 4, 2) := by decide +kernel
theorem dX4_readsModule_74 : decode cX4_readsModule 74 = .ok (.aload_n 0, 1) := by decide +kernel
theorem dX4_readsModule_75 : decode cX4_readsModule 75 = .ok (.getfield 28, 3) := by decide +kernel
theorem dX4_readsModule_78 : decode cX4_readsModule 78 = .ok (.iload 4, 2) := by decide +kernel
theorem dX4_readsModule_80 : decode cX4_readsModule 80 = .ok (.iload_n 3, 1) := by decide +kernel
theorem dX4_readsModule_81 : decode cX4_readsModule 81 = .ok (.bipush 112, 2) := by decide +kernel
theorem dX4_readsModule_83 : decode cX4_readsModule 83 = .ok (.if_icmp .ne 7, 3) := by decide +kernel
theorem dX4_readsModule_86 : decode cX4_readsModule 86 = .ok (.iconst 0, 1) := by decide +kernel
theorem dX4_readsModule_87 : decode cX4_readsModule 87 = .ok (.goto 14, 3) := by decide +kernel
theorem dX4_readsModule_90 : decode cX4_readsModule 90 = .ok (.iload_n 3, 1) := by decide +kernel
theorem dX4_readsModule_91 : decode cX4_readsModule 91 = .ok (.bipush 104, 2) := by decide +kernel
theorem dX4_readsModule_93 : decode cX4_readsModule 93 = .ok (.if_icmp .ne 7, 3) := by decide +kernel
theorem dX4_readsModule_96 : decode cX4_readsModule 96 = .ok (.iconst 1, 1) := by decide +kernel
theorem dX4_readsModule_97 : decode cX4_readsModule 97 = .ok (.goto 4, 3) := by decide +kernel
theorem dX4_readsModule_100 : decode cX4_readsModule 100 = .ok (.iconst 2, 1) := by decide +kernel
theorem dX4_readsModule_101 : decode cX4_readsModule 101 = .ok (.iastore, 1) := by decide +kernel
theorem dX4_readsModule_102 : decode cX4_readsModule 102 = .ok (.aload_n 0, 1) := by decide +kernel
theorem dX4_readsModule_103 : decode cX4_readsModule 103 = .ok (.getfield 31, 3) := by decide +kernel
theorem dX4_readsModule_106 : decode cX4_readsModule 106 = .ok (.iload 4, 2) := by decide +kernel
theorem dX4_readsModule_108 : decode cX4_readsModule 108 = .ok (.iconst 0, 1) := by decide +kernel
theorem dX4_readsModule_109 : decode cX4_readsModule 109 = .ok (.iastore, 1) := by decide +kernel
theorem dX4_readsModule_110 : decode cX4_readsModule 110 = .ok (.aload_n 0, 1) := by decide +kernel
theorem dX4_readsModule_111 : decode cX4_readsModule 111 = .ok (.getfield 31, 3) := by decide +kernel
theorem dX4_readsModule_114 : decode cX4_readsModule 114 = .ok (.iload 4, 2) := by decide +kernel
theorem dX4_readsModule_116 : decode cX4_readsModule 116 = .ok (.iaload, 1) := by decide +kernel
theorem dX4_readsModule_117 : decode cX4_readsModule 117 = .ok (.iconst 4, 1) := by decide +kernel
theorem dX4_readsModule_118 : decode cX4_readsModule 118 = .ok (.if_icmp .ge 74, 3) := by decide +kernel
theorem dX4_readsModule_121 : decode cX4_readsModule 121 = .ok (.aload_n 0, 1) := by decide +kernel
theorem dX4_readsModule_122 : decode cX4_readsModule 122 = .ok (.iload_n 1, 1) := by decide +kernel
theorem dX4_readsModule_123 : decode cX4_readsModule 123 = .ok (.iload_n 2, 1) := by decide +kernel
theorem dX4_readsModule_124 : decode cX4_readsModule 124 = .ok (.invokevirtual 100, 3) := by decide +kernel
theorem dX4_readsModule_127 : decode cX4_readsModule 127 = .ok (.i2l, 1) := by decide +kernel
theorem dX4_readsModule_128 : decode cX4_readsModule 128 = .ok (.ldc2_w 104, 3) := by decide +kernel
theorem dX4_readsModule_131 : decode cX4_readsModule 131 = .ok (.ldc2_w 106, 3) := by decide +kernel
theorem dX4_readsModule_134 : decode cX4_readsModule 134 = .ok (.invokestatic 87, 3) := by decide +kernel
theorem dX4_readsModule_137 : decode cX4_readsModule 137 = .ok (.ifCond .eq 55, 3) := by decide +kernel
theorem dX4_readsModule_140 : decode cX4_readsModule 140 = .ok (.aload_n 0, 1) := by decide +kernel
theorem dX4_readsModule_141 : decode cX4_readsModule 141 = .ok (.getfield 34, 3) := by decide +kernel
theorem dX4_readsModule_144 : decode cX4_readsModule 144 = .ok (.aload_n 0, 1) := by decide +kernel
theorem dX4_readsModule_145 : decode cX4_readsModule 145 = .ok (.getfield 108, 3) := by decide +kernel
theorem dX4_readsModule_148 : decode cX4_readsModule 148 = .ok (.aload_n 0, 1) := by decide +kernel
theorem dX4_readsModule_149 : decode cX4_readsModule 149 = .ok (.iload_n 1, 1) := by decide +kernel
theorem dX4_readsModule_150 : decode cX4_readsModule 150 = .ok (.iload_n 2, 1) := by decide +kernel
theorem dX4_readsModule_151 : decode cX4_readsModule 151 = .ok (.invokevirtual 100, 3) := by decide +kernel
theorem dX4_readsModule_154 : decode cX4_readsModule 154 = .ok (.bipush 48, 2) := by decide +kernel
theorem dX4_readsModule_156 : decode cX4_readsModule 156 = .ok (.isub, 1) := by decide +kernel
theorem dX4_readsModule_157 : decode cX4_readsModule 157 = .ok (.iastore, 1) := by decide +kernel
theorem dX4_readsModule_158 : decode cX4_readsModule 158 = .ok (.aload_n 0, 1) := by decide +kernel
theorem dX4_readsModule_159 : decode cX4_readsModule 159 = .ok (.dup, 1) := by decide +kernel
theorem dX4_readsModule_160 : decode cX4_readsModule 160 = .ok (.getfield 108, 3) := by decide +kernel
theorem dX4_readsModule_163 : decode cX4_readsModule 163 = .ok (.iconst 1, 1) := by decide +kernel
theorem dX4_readsModule_164 : decode cX4_readsModule 164 = .ok (.iadd, 1) := by decide +kernel
theorem dX4_readsModule_165 : decode cX4_readsModule 165 = .ok (.putfield 108, 3) := by decide +kernel
theorem dX4_readsModule_168 : decode cX4_readsModule 168 = .ok (.aload_n 0, 1) := by decide +kernel
theorem dX4_readsModule_169 : decode cX4_readsModule 169 = .ok (.getfield 31, 3) := by decide +kernel
theorem dX4_readsModule_172 : decode cX4_readsModule 172 = .ok (.iload 4, 2) := by decide +kernel
theorem dX4_readsModule_174 : decode cX4_readsModule 174 = .ok (.dup2, 1) := by decide +kernel
theorem dX4_readsModule_175 : decode cX4_readsModule 175 = .ok (.iaload, 1) := by decide +kernel
theorem dX4_readsModule_176 : decode cX4_readsModule 176 = .ok (.iconst 1, 1) := by decide +kernel
theorem dX4_readsModule_177 : decode cX4_readsModule 177 = .ok (.iadd, 1) := by decide +kernel
theorem dX4_readsModule_178 : decode cX4_readsModule 178 = .ok (.iastore, 1) := by decide +kernel
theorem dX4_readsModule_179 : decode cX4_readsModule 179 = .ok (.aload_n 0, 1) := by decide +kernel
theorem dX4_readsModule_180 : decode cX4_readsModule 180 = .ok (.dup, 1) := by decide +kernel
theorem dX4_readsModule_181 : decode cX4_readsModule 181 = .ok (.getfield 94, 3) := by decide +kernel
theorem dX4_readsModule_184 : decode cX4_readsModule 184 = .ok (.iconst 1, 1) := by decide +kernel
theorem dX4_readsModule_185 : decode cX4_readsModule 185 = .ok (.iadd, 1) := by decide +kernel
theorem dX4_readsModule_186 : decode cX4_readsModule 186 = .ok (.putfield 94, 3) := by decide +kernel
theorem dX4_readsModule_189 : decode cX4_readsModule 189 = .ok (.goto (-79), 3) := by decide +kernel
theorem dX4_readsModule_192 : decode cX4_readsModule 192 = .ok (.aload_n 0, 1) := by decide +kernel
theorem dX4_readsModule_193 : decode cX4_readsModule 193 = .ok (.dup, 1) := by decide +kernel
theorem dX4_readsModule_194 : decode cX4_readsModule 194 = .ok (.getfield 97, 3) := by decide +kernel
theorem dX4_readsModule_197 : decode cX4_readsModule 197 = .ok (.iconst 1, 1) := by decide +kernel
theorem dX4_readsModule_198 : decode cX4_readsModule 198 = .ok (.iadd, 1) := by decide +kernel
theorem dX4_readsModule_199 : decode cX4_readsModule 199 = .ok (.putfield 97, 3) := by decide +kernel
theorem dX4_readsModule_202 : decode cX4_readsModule 202 = .ok (.aload_n 0, 1) := by decide +kernel
theorem dX4_readsModule_203 : decode cX4_readsModule 203 = .ok (.getfield 31, 3) := by decide +kernel
theorem dX4_readsModule_206 : decode cX4_readsModule 206 = .ok (.iload 4, 2) := by decide +kernel
theorem dX4_readsModule_208 : decode cX4_readsModule 208 = .ok (.iaload, 1) := by decide +kernel
theorem dX4_readsModule_209 : decode cX4_readsModule 209 = .ok (.ifCond .le 7, 3) := by decide +kernel
theorem dX4_readsModule_212 : decode cX4_readsModule 212 = .ok (.iconst 1, 1) := by decide +kernel
theorem dX4_readsModule_213 : decode cX4_readsModule 213 = .ok (.goto 4, 3) := by decide +kernel
theorem dX4_readsModule_216 : decode cX4_readsModule 216 = .ok (.iconst 0, 1) := by decide +kernel
theorem dX4_readsModule_217 : decode cX4_readsModule 217 = .ok (.ireturn, 1) := by decide +kernel
theorem dX4_readsWall_0 : decode cX4_readsWall 0 = .ok (.aload_n 0, 1) := by decide +kernel
theorem dX4_readsWall_1 : decode cX4_readsWall 1 = .ok (.iconst 0, 1) := by decide +kernel
theorem dX4_readsWall_2 : decode cX4_readsWall 2 = .ok (.putfield 94, 3) := by decide +kernel
theorem dX4_readsWall_5 : decode cX4_readsWall 5 = .ok (.aload_n 0, 1) := by decide +kernel
theorem dX4_readsWall_6 : decode cX4_readsWall 6 = .ok (.iconst 0, 1) := by decide +kernel
theorem dX4_readsWall_7 : decode cX4_readsWall 7 = .ok (.putfield 97, 3) := by decide +kernel
theorem dX4_readsWall_10 : decode cX4_readsWall 10 = .ok (.aload_n 0, 1) := by decide +kernel
theorem dX4_readsWall_11 : decode cX4_readsWall 11 = .ok (.iconst 0, 1) := by decide +kernel
theorem dX4_readsWall_12 : decode cX4_readsWall 12 = .ok (.putfield 108, 3) := by decide +kernel
theorem dX4_readsWall_15 : decode cX4_readsWall 15 = .ok (.aload_n 0, 1) := by decide +kernel
theorem dX4_readsWall_16 : decode cX4_readsWall 16 = .ok (.iload_n 1, 1) := by decide +kernel
theorem dX4_readsWall_17 : decode cX4_readsWall 17 = .ok (.iload_n 2, 1) := by decide +kernel
theorem dX4_readsWall_18 : decode cX4_readsWall 18 = .ok (.invokevirtual 100, 3) := by decide +kernel
theorem dX4_readsWall_21 : decode cX4_readsWall 21 = .ok (.bipush 119, 2) := by decide +kernel
theorem dX4_readsWall_23 : decode cX4_readsWall 23 = .ok (.if_icmp .eq 5, 3) := by decide +kernel
theorem dX4_readsWall_26 : decode cX4_readsWall 26 = .ok (.iconst 0, 1) := by decide +kernel
theorem dX4_readsWall_27 : decode cX4_readsWall 27 = .ok (.ireturn, 1) := by decide +kernel
theorem dX4_readsWall_28 : decode cX4_readsWall 28 = .ok (.aload_n 0, 1) := by decide +kernel
theorem dX4_readsWall_29 : decode cX4_readsWall 29 = .ok (.dup, 1) := by decide +kernel
theorem dX4_readsWall_30 : decode cX4_readsWall 30 = .ok (.getfield 94, 3) := by decide +kernel
theorem dX4_readsWall_33 : decode cX4_readsWall 33 = .ok (.iconst 1, 1) := by decide +kernel
theorem dX4_readsWall_34 : decode cX4_readsWall 34 = .ok (.iadd, 1) := by decide +kernel
theorem dX4_readsWall_35 : decode cX4_readsWall 35 = .ok (.putfield 94, 3) := by decide +kernel
theorem dX4_readsWall_38 : decode cX4_readsWall 38 = .ok (.aload_n 0, 1) := by decide +kernel
theorem dX4_readsWall_39 : decode cX4_readsWall 39 = .ok (.aload_n 0, 1) := by decide +kernel
theorem dX4_readsWall_40 : decode cX4_readsWall 40 = .ok (.iload_n 1, 1) := by decide +kernel
theorem dX4_readsWall_41 : decode cX4_readsWall 41 = .ok (.iload_n 2, 1) := by decide +kernel
theorem dX4_readsWall_42 : decode cX4_readsWall 42 = .ok (.invokevirtual 100, 3) := by decide +kernel
theorem dX4_readsWall_45 : decode cX4_readsWall 45 = .ok (.bipush 48, 2) := by decide +kernel
theorem dX4_readsWall_47 : decode cX4_readsWall 47 = .ok (.isub, 1) := by decide +kernel
theorem dX4_readsWall_48 : decode cX4_readsWall 48 = .ok (.putfield 111, 3) := by decide +kernel
theorem dX4_readsWall_51 : decode cX4_readsWall 51 = .ok (.aload_n 0, 1) := by decide +kernel
theorem dX4_readsWall_52 : decode cX4_readsWall 52 = .ok (.getfield 111, 3) := by decide +kernel
theorem dX4_readsWall_55 : decode cX4_readsWall 55 = .ok (.i2l, 1) := by decide +kernel
theorem dX4_readsWall_56 : decode cX4_readsWall 56 = .ok (.lconst 1, 1) := by decide +kernel
theorem dX4_readsWall_57 : decode cX4_readsWall 57 = .ok (.ldc2_w 114, 3) := by decide +kernel
theorem dX4_readsWall_60 : decode cX4_readsWall 60 = .ok (.invokestatic 87, 3) := by decide +kernel
theorem dX4_readsWall_63 : decode cX4_readsWall 63 = .ok (.ifCond .ne 5, 3) := by decide +kernel
theorem dX4_readsWall_66 : decode cX4_readsWall 66 = .ok (.iconst 0, 1) := by decide +kernel
theorem dX4_readsWall_67 : decode cX4_readsWall 67 = .ok (.ireturn, 1) := by decide +kernel
theorem dX4_readsWall_68 : decode cX4_readsWall 68 = .ok (.aload_n 0, 1) := by decide +kernel
theorem dX4_readsWall_69 : decode cX4_readsWall 69 = .ok (.dup, 1) := by decide +kernel
theorem dX4_readsWall_70 : decode cX4_readsWall 70 = .ok (.getfield 94, 3) := by decide +kernel
theorem dX4_readsWall_73 : decode cX4_readsWall 73 = .ok (.iconst 1, 1) := by decide +kernel
theorem dX4_readsWall_74 : decode cX4_readsWall 74 = .ok (.iadd, 1) := by decide +kernel
theorem dX4_readsWall_75 : decode cX4_readsWall 75 = .ok (.putfield 94, 3) := by decide +kernel
theorem dX4_readsWall_78 : decode cX4_readsWall 78 = .ok (.iconst 1, 1) := by decide +kernel
theorem dX4_readsWall_79 : decode cX4_readsWall 79 = .ok (.istore_n 3, 1) := by decide +kernel
theorem dX4_readsWall_80 : decode cX4_readsWall 80 = .ok (.iload_n 3, 1) := by decide +kernel
theorem dX4_readsWall_81 : decode cX4_readsWall 81 = .ok (.ifCond .eq 29, 3) := by decide +kernel
theorem dX4_readsWall_84 : decode cX4_readsWall 84 = .ok (.aload_n 0, 1) := by decide +kernel
theorem dX4_readsWall_85 : decode cX4_readsWall 85 = .ok (.getfield 97, 3) := by decide +kernel
theorem dX4_readsWall_88 : decode cX4_readsWall 88 = .ok (.iconst 1, 1) := by decide +kernel
theorem dX4_readsWall_89 : decode cX4_readsWall 89 = .ok (.if_icmp .lt 11, 3) := by decide +kernel
theorem dX4_readsWall_92 : decode cX4_readsWall 92 = .ok (.aload_n 0, 1) := by decide +kernel
theorem dX4_readsWall_93 : decode cX4_readsWall 93 = .ok (.getfield 94, 3) := by decide +kernel
theorem dX4_readsWall_96 : decode cX4_readsWall 96 = .ok (.iload_n 2, 1) := by decide +kernel
theorem dX4_readsWall_97 : decode cX4_readsWall 97 = .ok (.if_icmp .ge 13, 3) := by decide +kernel
theorem dX4_readsWall_100 : decode cX4_readsWall 100 = .ok (.aload_n 0, 1) := by decide +kernel
theorem dX4_readsWall_101 : decode cX4_readsWall 101 = .ok (.iload_n 1, 1) := by decide +kernel
theorem dX4_readsWall_102 : decode cX4_readsWall 102 = .ok (.iload_n 2, 1) := by decide +kernel
theorem dX4_readsWall_103 : decode cX4_readsWall 103 = .ok (.invokevirtual 116, 3) := by decide +kernel
theorem dX4_readsWall_106 : decode cX4_readsWall 106 = .ok (.istore_n 3, 1) := by decide +kernel
theorem dX4_readsWall_107 : decode cX4_readsWall 107 = .ok (.goto (-27), 3) := by decide +kernel
theorem dX4_readsWall_110 : decode cX4_readsWall 110 = .ok (.iload_n 3, 1) := by decide +kernel
theorem dX4_readsWall_111 : decode cX4_readsWall 111 = .ok (.ireturn, 1) := by decide +kernel
theorem dX4_cellsBarred_0 : decode cX4_cellsBarred 0 = .ok (.aload_n 0, 1) := by decide +kernel
theorem dX4_cellsBarred_1 : decode cX4_cellsBarred 1 = .ok (.getfield 62, 3) := by decide +kernel
theorem dX4_cellsBarred_4 : decode cX4_cellsBarred 4 = .ok (.iload_n 1, 1) := by decide +kernel
theorem dX4_cellsBarred_5 : decode cX4_cellsBarred 5 = .ok (.iaload, 1) := by decide +kernel
theorem dX4_cellsBarred_6 : decode cX4_cellsBarred 6 = .ok (.ifCond .lt 19, 3) := by decide +kernel
theorem dX4_cellsBarred_9 : decode cX4_cellsBarred 9 = .ok (.aload_n 0, 1) := by decide +kernel
theorem dX4_cellsBarred_10 : decode cX4_cellsBarred 10 = .ok (.getfield 65, 3) := by decide +kernel
theorem dX4_cellsBarred_13 : decode cX4_cellsBarred 13 = .ok (.iload_n 1, 1) := by decide +kernel
theorem dX4_cellsBarred_14 : decode cX4_cellsBarred 14 = .ok (.iaload, 1) := by decide +kernel
theorem dX4_cellsBarred_15 : decode cX4_cellsBarred 15 = .ok (.iload_n 2, 1) := by decide +kernel
theorem dX4_cellsBarred_16 : decode cX4_cellsBarred 16 = .ok (.if_icmp .eq 9, 3) := by decide +kernel
theorem dX4_cellsBarred_19 : decode cX4_cellsBarred 19 = .ok (.aload_n 0, 1) := by decide +kernel
theorem dX4_cellsBarred_20 : decode cX4_cellsBarred 20 = .ok (.iconst 2, 1) := by decide +kernel
theorem dX4_cellsBarred_21 : decode cX4_cellsBarred 21 = .ok (.invokevirtual 120, 3) := by decide +kernel
theorem dX4_cellsBarred_24 : decode cX4_cellsBarred 24 = .ok (.ireturn, 1) := by decide +kernel
theorem dX4_cellsBarred_25 : decode cX4_cellsBarred 25 = .ok (.aload_n 0, 1) := by decide +kernel
theorem dX4_cellsBarred_26 : decode cX4_cellsBarred 26 = .ok (.getfield 62, 3) := by decide +kernel
theorem dX4_cellsBarred_29 : decode cX4_cellsBarred 29 = .ok (.iload_n 1, 1) := by decide +kernel
theorem dX4_cellsBarred_30 : decode cX4_cellsBarred 30 = .ok (.iaload, 1) := by decide +kernel
theorem dX4_cellsBarred_31 : decode cX4_cellsBarred 31 = .ok (.ifCond .ge 9, 3) := by decide +kernel
theorem dX4_cellsBarred_34 : decode cX4_cellsBarred 34 = .ok (.aload_n 0, 1) := by decide +kernel
theorem dX4_cellsBarred_35 : decode cX4_cellsBarred 35 = .ok (.iconst 1, 1) := by decide +kernel
theorem dX4_cellsBarred_36 : decode cX4_cellsBarred 36 = .ok (.invokevirtual 120, 3) := by decide +kernel
theorem dX4_cellsBarred_39 : decode cX4_cellsBarred 39 = .ok (.ireturn, 1) := by decide +kernel
theorem dX4_cellsBarred_40 : decode cX4_cellsBarred 40 = .ok (.lload 4, 2) := by decide +kernel
theorem dX4_cellsBarred_42 : decode cX4_cellsBarred 42 = .ok (.lconst 0, 1) := by decide +kernel
theorem dX4_cellsBarred_43 : decode cX4_cellsBarred 43 = .ok (.lcmp, 1) := by decide +kernel
theorem dX4_cellsBarred_44 : decode cX4_cellsBarred 44 = .ok (.ifCond .ge 9, 3) := by decide +kernel
theorem dX4_cellsBarred_47 : decode cX4_cellsBarred 47 = .ok (.aload_n 0, 1) := by decide +kernel
theorem dX4_cellsBarred_48 : decode cX4_cellsBarred 48 = .ok (.iconst 4, 1) := by decide +kernel
theorem dX4_cellsBarred_49 : decode cX4_cellsBarred 49 = .ok (.invokevirtual 120, 3) := by decide +kernel
theorem dX4_cellsBarred_52 : decode cX4_cellsBarred 52 = .ok (.ireturn, 1) := by decide +kernel
theorem dX4_cellsBarred_53 : decode cX4_cellsBarred 53 = .ok (.iload_n 3, 1) := by decide +kernel
theorem dX4_cellsBarred_54 : decode cX4_cellsBarred 54 = .ok (.lload 4, 2) := by decide +kernel
theorem dX4_cellsBarred_56 : decode cX4_cellsBarred 56 = .ok (.aload_n 0, 1) := by decide +kernel
theorem dX4_cellsBarred_57 : decode cX4_cellsBarred 57 = .ok (.getfield 62, 3) := by decide +kernel
theorem dX4_cellsBarred_60 : decode cX4_cellsBarred 60 = .ok (.iload_n 1, 1) := by decide +kernel
theorem dX4_cellsBarred_61 : decode cX4_cellsBarred 61 = .ok (.iaload, 1) := by decide +kernel
theorem dX4_cellsBarred_62 : decode cX4_cellsBarred 62 = .ok (.invokestatic 124, 3) := by decide +kernel
theorem dX4_cellsBarred_65 : decode cX4_cellsBarred 65 = .ok (.ifCond .eq 11, 3) := by decide +kernel
theorem dX4_cellsBarred_68 : decode cX4_cellsBarred 68 = .ok (.aload_n 0, 1) := by decide +kernel
theorem dX4_cellsBarred_69 : decode cX4_cellsBarred 69 = .ok (.iconst 3, 1) := by decide +kernel
theorem dX4_cellsBarred_70 : decode cX4_cellsBarred 70 = .ok (.invokevirtual 120, 3) := by decide +kernel
theorem dX4_cellsBarred_73 : decode cX4_cellsBarred 73 = .ok (.goto 4, 3) := by decide +kernel
theorem dX4_cellsBarred_76 : decode cX4_cellsBarred 76 = .ok (.iconst 0, 1) := by decide +kernel
theorem dX4_cellsBarred_77 : decode cX4_cellsBarred 77 = .ok (.ireturn, 1) := by decide +kernel
theorem dX4_wall_0 : decode cX4_wall 0 = .ok (.iload_n 1, 1) := by decide +kernel
theorem dX4_wall_1 : decode cX4_wall 1 = .ok (.invokestatic 128, 3) := by decide +kernel
theorem dX4_wall_4 : decode cX4_wall 4 = .ok (.ifCond .eq 9, 3) := by decide +kernel
theorem dX4_wall_7 : decode cX4_wall 7 = .ok (.aload_n 0, 1) := by decide +kernel
theorem dX4_wall_8 : decode cX4_wall 8 = .ok (.iconst (-1), 1) := by decide +kernel
theorem dX4_wall_9 : decode cX4_wall 9 = .ok (.invokevirtual 132, 3) := by decide +kernel
theorem dX4_wall_12 : decode cX4_wall 12 = .ok (.ireturn, 1) := by decide +kernel
theorem dX4_wall_13 : decode cX4_wall 13 = .ok (.iload_n 2, 1) := by decide +kernel
theorem dX4_wall_14 : decode cX4_wall 14 = .ok (.i2l, 1) := by decide +kernel
theorem dX4_wall_15 : decode cX4_wall 15 = .ok (.lconst 0, 1) := by decide +kernel
theorem dX4_wall_16 : decode cX4_wall 16 = .ok (.ldc2_w 135, 3) := by decide +kernel
theorem dX4_wall_19 : decode cX4_wall 19 = .ok (.invokestatic 87, 3) := by decide +kernel
theorem dX4_wall_22 : decode cX4_wall 22 = .ok (.ifCond .ne 10, 3) := by decide +kernel
theorem dX4_wall_25 : decode cX4_wall 25 = .ok (.aload_n 0, 1) := by decide +kernel
theorem dX4_wall_26 : decode cX4_wall 26 = .ok (.bipush (-2), 2) := by decide +kernel
theorem dX4_wall_28 : decode cX4_wall 28 = .ok (.invokevirtual 132, 3) := by decide +kernel
theorem dX4_wall_31 : decode cX4_wall 31 = .ok (.ireturn, 1) := by decide +kernel
theorem dX4_wall_32 : decode cX4_wall 32 = .ok (.aload_n 0, 1) := by decide +kernel
theorem dX4_wall_33 : decode cX4_wall 33 = .ok (.iload_n 1, 1) := by decide +kernel
theorem dX4_wall_34 : decode cX4_wall 34 = .ok (.iload_n 2, 1) := by decide +kernel
theorem dX4_wall_35 : decode cX4_wall 35 = .ok (.iload_n 3, 1) := by decide +kernel
theorem dX4_wall_36 : decode cX4_wall 36 = .ok (.iload 4, 2) := by decide +kernel
theorem dX4_wall_38 : decode cX4_wall 38 = .ok (.i2l, 1) := by decide +kernel
theorem dX4_wall_39 : decode cX4_wall 39 = .ok (.invokevirtual 137, 3) := by decide +kernel
theorem dX4_wall_42 : decode cX4_wall 42 = .ok (.istore 5, 2) := by decide +kernel
theorem dX4_wall_44 : decode cX4_wall 44 = .ok (.iload 5, 2) := by decide +kernel
theorem dX4_wall_46 : decode cX4_wall 46 = .ok (.ifCond .ge 6, 3) := by decide +kernel
theorem dX4_wall_49 : decode cX4_wall 49 = .ok (.iload 5, 2) := by decide +kernel
theorem dX4_wall_51 : decode cX4_wall 51 = .ok (.ireturn, 1) := by decide +kernel
theorem dX4_wall_52 : decode cX4_wall 52 = .ok (.aload_n 0, 1) := by decide +kernel
theorem dX4_wall_53 : decode cX4_wall 53 = .ok (.bipush 60, 2) := by decide +kernel
theorem dX4_wall_55 : decode cX4_wall 55 = .ok (.iload_n 1, 1) := by decide +kernel
theorem dX4_wall_56 : decode cX4_wall 56 = .ok (.imul, 1) := by decide +kernel
theorem dX4_wall_57 : decode cX4_wall 57 = .ok (.iload_n 3, 1) := by decide +kernel
theorem dX4_wall_58 : decode cX4_wall 58 = .ok (.iadd, 1) := by decide +kernel
theorem dX4_wall_59 : decode cX4_wall 59 = .ok (.iload 4, 2) := by decide +kernel
theorem dX4_wall_61 : decode cX4_wall 61 = .ok (.invokevirtual 141, 3) := by decide +kernel
theorem dX4_wall_64 : decode cX4_wall 64 = .ok (.ifCond .ne 15, 3) := by decide +kernel
theorem dX4_wall_67 : decode cX4_wall 67 = .ok (.aload_n 0, 1) := by decide +kernel
theorem dX4_wall_68 : decode cX4_wall 68 = .ok (.bipush (-100), 2) := by decide +kernel
theorem dX4_wall_70 : decode cX4_wall 70 = .ok (.aload_n 0, 1) := by decide +kernel
theorem dX4_wall_71 : decode cX4_wall 71 = .ok (.getfield 94, 3) := by decide +kernel
theorem dX4_wall_74 : decode cX4_wall 74 = .ok (.isub, 1) := by decide +kernel
theorem dX4_wall_75 : decode cX4_wall 75 = .ok (.invokevirtual 132, 3) := by decide +kernel
theorem dX4_wall_78 : decode cX4_wall 78 = .ok (.ireturn, 1) := by decide +kernel
theorem dX4_wall_79 : decode cX4_wall 79 = .ok (.aload_n 0, 1) := by decide +kernel
theorem dX4_wall_80 : decode cX4_wall 80 = .ok (.aload_n 0, 1) := by decide +kernel
theorem dX4_wall_81 : decode cX4_wall 81 = .ok (.getfield 97, 3) := by decide +kernel
theorem dX4_wall_84 : decode cX4_wall 84 = .ok (.putfield 84, 3) := by decide +kernel
theorem dX4_wall_87 : decode cX4_wall 87 = .ok (.aload_n 0, 1) := by decide +kernel
theorem dX4_wall_88 : decode cX4_wall 88 = .ok (.aload_n 0, 1) := by decide +kernel
theorem dX4_wall_89 : decode cX4_wall 89 = .ok (.getfield 108, 3) := by decide +kernel
theorem dX4_wall_92 : decode cX4_wall 92 = .ok (.putfield 91, 3) := by decide +kernel
theorem dX4_wall_95 : decode cX4_wall 95 = .ok (.aload_n 0, 1) := by decide +kernel
theorem dX4_wall_96 : decode cX4_wall 96 = .ok (.aload_n 0, 1) := by decide +kernel
theorem dX4_wall_97 : decode cX4_wall 97 = .ok (.getfield 111, 3) := by decide +kernel
theorem dX4_wall_100 : decode cX4_wall 100 = .ok (.putfield 144, 3) := by decide +kernel
theorem dX4_wall_103 : decode cX4_wall 103 = .ok (.iconst 0, 1) := by decide +kernel
theorem dX4_wall_104 : decode cX4_wall 104 = .ok (.istore 6, 2) := by decide +kernel
theorem dX4_wall_106 : decode cX4_wall 106 = .ok (.iconst 0, 1) := by decide +kernel
theorem dX4_wall_107 : decode cX4_wall 107 = .ok (.istore 7, 2) := by decide +kernel
theorem dX4_wall_109 : decode cX4_wall 109 = .ok (.iload 7, 2) := by decide +kernel
theorem dX4_wall_111 : decode cX4_wall 111 = .ok (.aload_n 0, 1) := by decide +kernel
theorem dX4_wall_112 : decode cX4_wall 112 = .ok (.getfield 84, 3) := by decide +kernel
theorem dX4_wall_115 : decode cX4_wall 115 = .ok (.if_icmp .ge 101, 3) := by decide +kernel
theorem dX4_wall_118 : decode cX4_wall 118 = .ok (.aload_n 0, 1) := by decide +kernel
theorem dX4_wall_119 : decode cX4_wall 119 = .ok (.getfield 7, 3) := by decide +kernel
theorem dX4_wall_122 : decode cX4_wall 122 = .ok (.iload 7, 2) := by decide +kernel
theorem dX4_wall_124 : decode cX4_wall 124 = .ok (.aload_n 0, 1) := by decide +kernel
theorem dX4_wall_125 : decode cX4_wall 125 = .ok (.getfield 28, 3) := by decide +kernel
theorem dX4_wall_128 : decode cX4_wall 128 = .ok (.iload 7, 2) := by decide +kernel
theorem dX4_wall_130 : decode cX4_wall 130 = .ok (.iaload, 1) := by decide +kernel
theorem dX4_wall_131 : decode cX4_wall 131 = .ok (.iastore, 1) := by decide +kernel
theorem dX4_wall_132 : decode cX4_wall 132 = .ok (.aload_n 0, 1) := by decide +kernel
theorem dX4_wall_133 : decode cX4_wall 133 = .ok (.getfield 16, 3) := by decide +kernel
theorem dX4_wall_136 : decode cX4_wall 136 = .ok (.iload 7, 2) := by decide +kernel
theorem dX4_wall_138 : decode cX4_wall 138 = .ok (.aload_n 0, 1) := by decide +kernel
theorem dX4_wall_139 : decode cX4_wall 139 = .ok (.getfield 31, 3) := by decide +kernel
theorem dX4_wall_142 : decode cX4_wall 142 = .ok (.iload 7, 2) := by decide +kernel
theorem dX4_wall_144 : decode cX4_wall 144 = .ok (.iaload, 1) := by decide +kernel
theorem dX4_wall_145 : decode cX4_wall 145 = .ok (.iastore, 1) := by decide +kernel
theorem dX4_wall_146 : decode cX4_wall 146 = .ok (.aload_n 0, 1) := by decide +kernel
theorem dX4_wall_147 : decode cX4_wall 147 = .ok (.getfield 13, 3) := by decide +kernel
theorem dX4_wall_150 : decode cX4_wall 150 = .ok (.iload 7, 2) := by decide +kernel
theorem dX4_wall_152 : decode cX4_wall 152 = .ok (.iload 6, 2) := by decide +kernel
theorem dX4_wall_154 : decode cX4_wall 154 = .ok (.iastore, 1) := by decide +kernel
theorem dX4_wall_155 : decode cX4_wall 155 = .ok (.aload_n 0, 1) := by decide +kernel
theorem dX4_wall_156 : decode cX4_wall 156 = .ok (.getfield 19, 3) := by decide +kernel
theorem dX4_wall_159 : decode cX4_wall 159 = .ok (.iload 7, 2) := by decide +kernel
theorem dX4_wall_161 : decode cX4_wall 161 = .ok (.iconst 0, 1) := by decide +kernel
theorem dX4_wall_162 : decode cX4_wall 162 = .ok (.iastore, 1) := by decide +kernel
theorem dX4_wall_163 : decode cX4_wall 163 = .ok (.iconst 0, 1) := by decide +kernel
theorem dX4_wall_164 : decode cX4_wall 164 = .ok (.istore 8, 2) := by decide +kernel
theorem dX4_wall_166 : decode cX4_wall 166 = .ok (.iload 8, 2) := by decide +kernel
theorem dX4_wall_168 : decode cX4_wall 168 = .ok (.aload_n 0, 1) := by decide +kernel
theorem dX4_wall_169 : decode cX4_wall 169 = .ok (.getfield 16, 3) := by decide +kernel
theorem dX4_wall_172 : decode cX4_wall 172 = .ok (.iload 7, 2) := by decide +kernel
theorem dX4_wall_174 : decode cX4_wall 174 = .ok (.iaload, 1) := by decide +kernel
theorem dX4_wall_175 : decode cX4_wall 175 = .ok (.if_icmp .ge 35, 3) := by decide +kernel
theorem dX4_wall_178 : decode cX4_wall 178 = .ok (.aload_n 0, 1) := by decide +kernel
theorem dX4_wall_179 : decode cX4_wall 179 = .ok (.getfield 22, 3) := by decide +kernel
theorem dX4_wall_182 : decode cX4_wall 182 = .ok (.iload 6, 2) := by decide +kernel
theorem dX4_wall_184 : decode cX4_wall 184 = .ok (.aload_n 0, 1) := by decide +kernel
theorem dX4_wall_185 : decode cX4_wall 185 = .ok (.getfield 34, 3) := by decide +kernel
theorem dX4_wall_188 : decode cX4_wall 188 = .ok (.iload 6, 2) := by decide +kernel
theorem dX4_wall_190 : decode cX4_wall 190 = .ok (.iaload, 1) := by decide +kernel
theorem dX4_wall_191 : decode cX4_wall 191 = .ok (.iastore, 1) := by decide +kernel
theorem dX4_wall_192 : decode cX4_wall 192 = .ok (.aload_n 0, 1) := by decide +kernel
theorem dX4_wall_193 : decode cX4_wall 193 = .ok (.getfield 25, 3) := by decide +kernel
theorem dX4_wall_196 : decode cX4_wall 196 = .ok (.iload 6, 2) := by decide +kernel
theorem dX4_wall_198 : decode cX4_wall 198 = .ok (.iload 7, 2) := by decide +kernel
theorem dX4_wall_200 : decode cX4_wall 200 = .ok (.iastore, 1) := by decide +kernel
theorem dX4_wall_201 : decode cX4_wall 201 = .ok (.iinc 6 1, 3) := by decide +kernel
theorem dX4_wall_204 : decode cX4_wall 204 = .ok (.iinc 8 1, 3) := by decide +kernel
theorem dX4_wall_207 : decode cX4_wall 207 = .ok (.goto (-41), 3) := by decide +kernel
theorem dX4_wall_210 : decode cX4_wall 210 = .ok (.iinc 7 1, 3) := by decide +kernel
theorem dX4_wall_213 : decode cX4_wall 213 = .ok (.goto (-104), 3) := by decide +kernel
theorem dX4_wall_216 : decode cX4_wall 216 = .ok (.aload_n 0, 1) := by decide +kernel
theorem dX4_wall_217 : decode cX4_wall 217 = .ok (.iconst 0, 1) := by decide +kernel
theorem dX4_wall_218 : decode cX4_wall 218 = .ok (.putfield 147, 3) := by decide +kernel
theorem dX4_wall_221 : decode cX4_wall 221 = .ok (.aload_n 0, 1) := by decide +kernel
theorem dX4_wall_222 : decode cX4_wall 222 = .ok (.aload_n 0, 1) := by decide +kernel
theorem dX4_wall_223 : decode cX4_wall 223 = .ok (.getfield 84, 3) := by decide +kernel
theorem dX4_wall_226 : decode cX4_wall 226 = .ok (.invokevirtual 132, 3) := by decide +kernel
theorem dX4_wall_229 : decode cX4_wall 229 = .ok (.ireturn, 1) := by decide +kernel
theorem dX4_lightBy_0 : decode cX4_lightBy 0 = .ok (.iload_n 0, 1) := by decide +kernel
theorem dX4_lightBy_1 : decode cX4_lightBy 1 = .ok (.ifCond .ne 7, 3) := by decide +kernel
theorem dX4_lightBy_4 : decode cX4_lightBy 4 = .ok (.iload_n 1, 1) := by decide +kernel
theorem dX4_lightBy_5 : decode cX4_lightBy 5 = .ok (.goto 19, 3) := by decide +kernel
theorem dX4_lightBy_8 : decode cX4_lightBy 8 = .ok (.iload_n 0, 1) := by decide +kernel
theorem dX4_lightBy_9 : decode cX4_lightBy 9 = .ok (.iconst 1, 1) := by decide +kernel
theorem dX4_lightBy_10 : decode cX4_lightBy 10 = .ok (.if_icmp .ne 9, 3) := by decide +kernel
theorem dX4_lightBy_13 : decode cX4_lightBy 13 = .ok (.iload_n 1, 1) := by decide +kernel
theorem dX4_lightBy_14 : decode cX4_lightBy 14 = .ok (.iconst 2, 1) := by decide +kernel
theorem dX4_lightBy_15 : decode cX4_lightBy 15 = .ok (.idiv, 1) := by decide +kernel
theorem dX4_lightBy_16 : decode cX4_lightBy 16 = .ok (.goto 8, 3) := by decide +kernel
theorem dX4_lightBy_19 : decode cX4_lightBy 19 = .ok (.iload_n 1, 1) := by decide +kernel
theorem dX4_lightBy_20 : decode cX4_lightBy 20 = .ok (.iconst 2, 1) := by decide +kernel
theorem dX4_lightBy_21 : decode cX4_lightBy 21 = .ok (.idiv, 1) := by decide +kernel
theorem dX4_lightBy_22 : decode cX4_lightBy 22 = .ok (.iload_n 1, 1) := by decide +kernel
theorem dX4_lightBy_23 : decode cX4_lightBy 23 = .ok (.iadd, 1) := by decide +kernel
theorem dX4_lightBy_24 : decode cX4_lightBy 24 = .ok (.ireturn, 1) := by decide +kernel
theorem dX4_light_0 : decode cX4_light 0 = .ok (.aload_n 0, 1) := by decide +kernel
theorem dX4_light_1 : decode cX4_light 1 = .ok (.getfield 25, 3) := by decide +kernel
theorem dX4_light_4 : decode cX4_light 4 = .ok (.iload_n 1, 1) := by decide +kernel
theorem dX4_light_5 : decode cX4_light 5 = .ok (.iaload, 1) := by decide +kernel
theorem dX4_light_6 : decode cX4_light 6 = .ok (.istore_n 2, 1) := by decide +kernel
theorem dX4_light_7 : decode cX4_light 7 = .ok (.aload_n 0, 1) := by decide +kernel
theorem dX4_light_8 : decode cX4_light 8 = .ok (.getfield 19, 3) := by decide +kernel
theorem dX4_light_11 : decode cX4_light 11 = .ok (.iload_n 2, 1) := by decide +kernel
theorem dX4_light_12 : decode cX4_light 12 = .ok (.iaload, 1) := by decide +kernel
theorem dX4_light_13 : decode cX4_light 13 = .ok (.iconst 1, 1) := by decide +kernel
theorem dX4_light_14 : decode cX4_light 14 = .ok (.if_icmp .ne 7, 3) := by decide +kernel
theorem dX4_light_17 : decode cX4_light 17 = .ok (.iconst 0, 1) := by decide +kernel
theorem dX4_light_18 : decode cX4_light 18 = .ok (.goto 18, 3) := by decide +kernel
theorem dX4_light_21 : decode cX4_light 21 = .ok (.aload_n 0, 1) := by decide +kernel
theorem dX4_light_22 : decode cX4_light 22 = .ok (.getfield 7, 3) := by decide +kernel
theorem dX4_light_25 : decode cX4_light 25 = .ok (.iload_n 2, 1) := by decide +kernel
theorem dX4_light_26 : decode cX4_light 26 = .ok (.iaload, 1) := by decide +kernel
theorem dX4_light_27 : decode cX4_light 27 = .ok (.aload_n 0, 1) := by decide +kernel
theorem dX4_light_28 : decode cX4_light 28 = .ok (.getfield 22, 3) := by decide +kernel
theorem dX4_light_31 : decode cX4_light 31 = .ok (.iload_n 1, 1) := by decide +kernel
theorem dX4_light_32 : decode cX4_light 32 = .ok (.iaload, 1) := by decide +kernel
theorem dX4_light_33 : decode cX4_light 33 = .ok (.invokestatic 150, 3) := by decide +kernel
theorem dX4_light_36 : decode cX4_light 36 = .ok (.ireturn, 1) := by decide +kernel
theorem dX4_lightOfAll_0 : decode cX4_lightOfAll 0 = .ok (.iconst 0, 1) := by decide +kernel
theorem dX4_lightOfAll_1 : decode cX4_lightOfAll 1 = .ok (.istore_n 1, 1) := by decide +kernel
theorem dX4_lightOfAll_2 : decode cX4_lightOfAll 2 = .ok (.iconst 0, 1) := by decide +kernel
theorem dX4_lightOfAll_3 : decode cX4_lightOfAll 3 = .ok (.istore_n 2, 1) := by decide +kernel
theorem dX4_lightOfAll_4 : decode cX4_lightOfAll 4 = .ok (.iload_n 2, 1) := by decide +kernel
theorem dX4_lightOfAll_5 : decode cX4_lightOfAll 5 = .ok (.aload_n 0, 1) := by decide +kernel
theorem dX4_lightOfAll_6 : decode cX4_lightOfAll 6 = .ok (.getfield 91, 3) := by decide +kernel
theorem dX4_lightOfAll_9 : decode cX4_lightOfAll 9 = .ok (.if_icmp .ge 17, 3) := by decide +kernel
theorem dX4_lightOfAll_12 : decode cX4_lightOfAll 12 = .ok (.iload_n 1, 1) := by decide +kernel
theorem dX4_lightOfAll_13 : decode cX4_lightOfAll 13 = .ok (.aload_n 0, 1) := by decide +kernel
theorem dX4_lightOfAll_14 : decode cX4_lightOfAll 14 = .ok (.iload_n 2, 1) := by decide +kernel
theorem dX4_lightOfAll_15 : decode cX4_lightOfAll 15 = .ok (.invokevirtual 153, 3) := by decide +kernel
theorem dX4_lightOfAll_18 : decode cX4_lightOfAll 18 = .ok (.iadd, 1) := by decide +kernel
theorem dX4_lightOfAll_19 : decode cX4_lightOfAll 19 = .ok (.istore_n 1, 1) := by decide +kernel
theorem dX4_lightOfAll_20 : decode cX4_lightOfAll 20 = .ok (.iinc 2 1, 3) := by decide +kernel
theorem dX4_lightOfAll_23 : decode cX4_lightOfAll 23 = .ok (.goto (-19), 3) := by decide +kernel
theorem dX4_lightOfAll_26 : decode cX4_lightOfAll 26 = .ok (.iload_n 1, 1) := by decide +kernel
theorem dX4_lightOfAll_27 : decode cX4_lightOfAll 27 = .ok (.ireturn, 1) := by decide +kernel
theorem dX4_slicesOf_0 : decode cX4_slicesOf 0 = .ok (.iconst 1, 1) := by decide +kernel
theorem dX4_slicesOf_1 : decode cX4_slicesOf 1 = .ok (.iload_n 1, 1) := by decide +kernel
theorem dX4_slicesOf_2 : decode cX4_slicesOf 2 = .ok (.ishl, 1) := by decide +kernel
theorem dX4_slicesOf_3 : decode cX4_slicesOf 3 = .ok (.aload_n 0, 1) := by decide +kernel
theorem dX4_slicesOf_4 : decode cX4_slicesOf 4 = .ok (.getfield 144, 3) := by decide +kernel
theorem dX4_slicesOf_7 : decode cX4_slicesOf 7 = .ok (.iadd, 1) := by decide +kernel
theorem dX4_slicesOf_8 : decode cX4_slicesOf 8 = .ok (.iconst 1, 1) := by decide +kernel
theorem dX4_slicesOf_9 : decode cX4_slicesOf 9 = .ok (.isub, 1) := by decide +kernel
theorem dX4_slicesOf_10 : decode cX4_slicesOf 10 = .ok (.aload_n 0, 1) := by decide +kernel
theorem dX4_slicesOf_11 : decode cX4_slicesOf 11 = .ok (.getfield 144, 3) := by decide +kernel
theorem dX4_slicesOf_14 : decode cX4_slicesOf 14 = .ok (.idiv, 1) := by decide +kernel
theorem dX4_slicesOf_15 : decode cX4_slicesOf 15 = .ok (.ireturn, 1) := by decide +kernel
theorem dX4_frames_0 : decode cX4_frames 0 = .ok (.iconst 0, 1) := by decide +kernel
theorem dX4_frames_1 : decode cX4_frames 1 = .ok (.istore_n 1, 1) := by decide +kernel
theorem dX4_frames_2 : decode cX4_frames 2 = .ok (.iconst 0, 1) := by decide +kernel
theorem dX4_frames_3 : decode cX4_frames 3 = .ok (.istore_n 2, 1) := by decide +kernel
theorem dX4_frames_4 : decode cX4_frames 4 = .ok (.iload_n 2, 1) := by decide +kernel
theorem dX4_frames_5 : decode cX4_frames 5 = .ok (.bipush 8, 2) := by decide +kernel
theorem dX4_frames_7 : decode cX4_frames 7 = .ok (.if_icmp .ge 75, 3) := by decide +kernel
theorem dX4_frames_10 : decode cX4_frames 10 = .ok (.iconst 3, 1) := by decide +kernel
theorem dX4_frames_11 : decode cX4_frames 11 = .ok (.istore_n 3, 1) := by decide +kernel
theorem dX4_frames_12 : decode cX4_frames 12 = .ok (.iload_n 3, 1) := by decide +kernel
theorem dX4_frames_13 : decode cX4_frames 13 = .ok (.ifCond .lt 63, 3) := by decide +kernel
theorem dX4_frames_16 : decode cX4_frames 16 = .ok (.iconst 1, 1) := by decide +kernel
theorem dX4_frames_17 : decode cX4_frames 17 = .ok (.iload_n 3, 1) := by decide +kernel
theorem dX4_frames_18 : decode cX4_frames 18 = .ok (.ishl, 1) := by decide +kernel
theorem dX4_frames_19 : decode cX4_frames 19 = .ok (.iload_n 2, 1) := by decide +kernel
theorem dX4_frames_20 : decode cX4_frames 20 = .ok (.aload_n 0, 1) := by decide +kernel
theorem dX4_frames_21 : decode cX4_frames 21 = .ok (.getfield 144, 3) := by decide +kernel
theorem dX4_frames_24 : decode cX4_frames 24 = .ok (.imul, 1) := by decide +kernel
theorem dX4_frames_25 : decode cX4_frames 25 = .ok (.isub, 1) := by decide +kernel
theorem dX4_frames_26 : decode cX4_frames 26 = .ok (.istore 4, 2) := by decide +kernel
theorem dX4_frames_28 : decode cX4_frames 28 = .ok (.iconst 0, 1) := by decide +kernel
theorem dX4_frames_29 : decode cX4_frames 29 = .ok (.istore 5, 2) := by decide +kernel
theorem dX4_frames_31 : decode cX4_frames 31 = .ok (.iload 5, 2) := by decide +kernel
theorem dX4_frames_33 : decode cX4_frames 33 = .ok (.aload_n 0, 1) := by decide +kernel
theorem dX4_frames_34 : decode cX4_frames 34 = .ok (.getfield 144, 3) := by decide +kernel
theorem dX4_frames_37 : decode cX4_frames 37 = .ok (.if_icmp .ge 33, 3) := by decide +kernel
theorem dX4_frames_40 : decode cX4_frames 40 = .ok (.iload 5, 2) := by decide +kernel
theorem dX4_frames_42 : decode cX4_frames 42 = .ok (.iload 4, 2) := by decide +kernel
theorem dX4_frames_44 : decode cX4_frames 44 = .ok (.if_icmp .ge 26, 3) := by decide +kernel
theorem dX4_frames_47 : decode cX4_frames 47 = .ok (.aload_n 0, 1) := by decide +kernel
theorem dX4_frames_48 : decode cX4_frames 48 = .ok (.getfield 37, 3) := by decide +kernel
theorem dX4_frames_51 : decode cX4_frames 51 = .ok (.iload_n 1, 1) := by decide +kernel
theorem dX4_frames_52 : decode cX4_frames 52 = .ok (.iload_n 3, 1) := by decide +kernel
theorem dX4_frames_53 : decode cX4_frames 53 = .ok (.iastore, 1) := by decide +kernel
theorem dX4_frames_54 : decode cX4_frames 54 = .ok (.aload_n 0, 1) := by decide +kernel
theorem dX4_frames_55 : decode cX4_frames 55 = .ok (.getfield 40, 3) := by decide +kernel
theorem dX4_frames_58 : decode cX4_frames 58 = .ok (.iload_n 1, 1) := by decide +kernel
theorem dX4_frames_59 : decode cX4_frames 59 = .ok (.iload_n 2, 1) := by decide +kernel
theorem dX4_frames_60 : decode cX4_frames 60 = .ok (.iastore, 1) := by decide +kernel
theorem dX4_frames_61 : decode cX4_frames 61 = .ok (.iinc 1 1, 3) := by decide +kernel
theorem dX4_frames_64 : decode cX4_frames 64 = .ok (.iinc 5 1, 3) := by decide +kernel
theorem dX4_frames_67 : decode cX4_frames 67 = .ok (.goto (-36), 3) := by decide +kernel
theorem dX4_frames_70 : decode cX4_frames 70 = .ok (.iinc 3 (-1), 3) := by decide +kernel
theorem dX4_frames_73 : decode cX4_frames 73 = .ok (.goto (-61), 3) := by decide +kernel
theorem dX4_frames_76 : decode cX4_frames 76 = .ok (.iinc 2 1, 3) := by decide +kernel
theorem dX4_frames_79 : decode cX4_frames 79 = .ok (.goto (-75), 3) := by decide +kernel
theorem dX4_frames_82 : decode cX4_frames 82 = .ok (.return_, 1) := by decide +kernel
theorem dX4_litBy_0 : decode cX4_litBy 0 = .ok (.iconst 0, 1) := by decide +kernel
theorem dX4_litBy_1 : decode cX4_litBy 1 = .ok (.istore_n 2, 1) := by decide +kernel
theorem dX4_litBy_2 : decode cX4_litBy 2 = .ok (.iconst 0, 1) := by decide +kernel
theorem dX4_litBy_3 : decode cX4_litBy 3 = .ok (.istore_n 3, 1) := by decide +kernel
theorem dX4_litBy_4 : decode cX4_litBy 4 = .ok (.iload_n 3, 1) := by decide +kernel
theorem dX4_litBy_5 : decode cX4_litBy 5 = .ok (.bipush 15, 2) := by decide +kernel
theorem dX4_litBy_7 : decode cX4_litBy 7 = .ok (.if_icmp .ge 24, 3) := by decide +kernel
theorem dX4_litBy_10 : decode cX4_litBy 10 = .ok (.iload_n 2, 1) := by decide +kernel
theorem dX4_litBy_11 : decode cX4_litBy 11 = .ok (.iload_n 1, 1) := by decide +kernel
theorem dX4_litBy_12 : decode cX4_litBy 12 = .ok (.aload_n 0, 1) := by decide +kernel
theorem dX4_litBy_13 : decode cX4_litBy 13 = .ok (.getfield 37, 3) := by decide +kernel
theorem dX4_litBy_16 : decode cX4_litBy 16 = .ok (.iload_n 3, 1) := by decide +kernel
theorem dX4_litBy_17 : decode cX4_litBy 17 = .ok (.iaload, 1) := by decide +kernel
theorem dX4_litBy_18 : decode cX4_litBy 18 = .ok (.ishr, 1) := by decide +kernel
theorem dX4_litBy_19 : decode cX4_litBy 19 = .ok (.iconst 1, 1) := by decide +kernel
theorem dX4_litBy_20 : decode cX4_litBy 20 = .ok (.iand, 1) := by decide +kernel
theorem dX4_litBy_21 : decode cX4_litBy 21 = .ok (.iload_n 3, 1) := by decide +kernel
theorem dX4_litBy_22 : decode cX4_litBy 22 = .ok (.ishl, 1) := by decide +kernel
theorem dX4_litBy_23 : decode cX4_litBy 23 = .ok (.ior, 1) := by decide +kernel
theorem dX4_litBy_24 : decode cX4_litBy 24 = .ok (.istore_n 2, 1) := by decide +kernel
theorem dX4_litBy_25 : decode cX4_litBy 25 = .ok (.iinc 3 1, 3) := by decide +kernel
theorem dX4_litBy_28 : decode cX4_litBy 28 = .ok (.goto (-24), 3) := by decide +kernel
theorem dX4_litBy_31 : decode cX4_litBy 31 = .ok (.iload_n 2, 1) := by decide +kernel
theorem dX4_litBy_32 : decode cX4_litBy 32 = .ok (.ireturn, 1) := by decide +kernel
theorem dX4_litOf_0 : decode cX4_litOf 0 = .ok (.aload_n 0, 1) := by decide +kernel
theorem dX4_litOf_1 : decode cX4_litOf 1 = .ok (.aload_n 0, 1) := by decide +kernel
theorem dX4_litOf_2 : decode cX4_litOf 2 = .ok (.iload_n 1, 1) := by decide +kernel
theorem dX4_litOf_3 : decode cX4_litOf 3 = .ok (.invokevirtual 153, 3) := by decide +kernel
theorem dX4_litOf_6 : decode cX4_litOf 6 = .ok (.invokevirtual 156, 3) := by decide +kernel
theorem dX4_litOf_9 : decode cX4_litOf 9 = .ok (.ireturn, 1) := by decide +kernel
theorem dX4_darkOf_0 : decode cX4_darkOf 0 = .ok (.aload_n 0, 1) := by decide +kernel
theorem dX4_darkOf_1 : decode cX4_darkOf 1 = .ok (.iload_n 1, 1) := by decide +kernel
theorem dX4_darkOf_2 : decode cX4_darkOf 2 = .ok (.invokevirtual 159, 3) := by decide +kernel
theorem dX4_darkOf_5 : decode cX4_darkOf 5 = .ok (.istore_n 2, 1) := by decide +kernel
theorem dX4_darkOf_6 : decode cX4_darkOf 6 = .ok (.iconst 0, 1) := by decide +kernel
theorem dX4_darkOf_7 : decode cX4_darkOf 7 = .ok (.istore_n 3, 1) := by decide +kernel
theorem dX4_darkOf_8 : decode cX4_darkOf 8 = .ok (.iconst 0, 1) := by decide +kernel
theorem dX4_darkOf_9 : decode cX4_darkOf 9 = .ok (.istore 4, 2) := by decide +kernel
theorem dX4_darkOf_11 : decode cX4_darkOf 11 = .ok (.iconst 0, 1) := by decide +kernel
theorem dX4_darkOf_12 : decode cX4_darkOf 12 = .ok (.istore 5, 2) := by decide +kernel
theorem dX4_darkOf_14 : decode cX4_darkOf 14 = .ok (.iload 5, 2) := by decide +kernel
theorem dX4_darkOf_16 : decode cX4_darkOf 16 = .ok (.bipush 30, 2) := by decide +kernel
theorem dX4_darkOf_18 : decode cX4_darkOf 18 = .ok (.if_icmp .ge 45, 3) := by decide +kernel
theorem dX4_darkOf_21 : decode cX4_darkOf 21 = .ok (.iload_n 2, 1) := by decide +kernel
theorem dX4_darkOf_22 : decode cX4_darkOf 22 = .ok (.iload 5, 2) := by decide +kernel
theorem dX4_darkOf_24 : decode cX4_darkOf 24 = .ok (.bipush 15, 2) := by decide +kernel
theorem dX4_darkOf_26 : decode cX4_darkOf 26 = .ok (.irem, 1) := by decide +kernel
theorem dX4_darkOf_27 : decode cX4_darkOf 27 = .ok (.ishr, 1) := by decide +kernel
theorem dX4_darkOf_28 : decode cX4_darkOf 28 = .ok (.iconst 1, 1) := by decide +kernel
theorem dX4_darkOf_29 : decode cX4_darkOf 29 = .ok (.iand, 1) := by decide +kernel
theorem dX4_darkOf_30 : decode cX4_darkOf 30 = .ok (.iconst 1, 1) := by decide +kernel
theorem dX4_darkOf_31 : decode cX4_darkOf 31 = .ok (.if_icmp .ne 7, 3) := by decide +kernel
theorem dX4_darkOf_34 : decode cX4_darkOf 34 = .ok (.iconst 0, 1) := by decide +kernel
theorem dX4_darkOf_35 : decode cX4_darkOf 35 = .ok (.goto 7, 3) := by decide +kernel
theorem dX4_darkOf_38 : decode cX4_darkOf 38 = .ok (.iload 4, 2) := by decide +kernel
theorem dX4_darkOf_40 : decode cX4_darkOf 40 = .ok (.iconst 1, 1) := by decide +kernel
theorem dX4_darkOf_41 : decode cX4_darkOf 41 = .ok (.iadd, 1) := by decide +kernel
theorem dX4_darkOf_42 : decode cX4_darkOf 42 = .ok (.istore 4, 2) := by decide +kernel
theorem dX4_darkOf_44 : decode cX4_darkOf 44 = .ok (.iload 4, 2) := by decide +kernel
theorem dX4_darkOf_46 : decode cX4_darkOf 46 = .ok (.iload_n 3, 1) := by decide +kernel
theorem dX4_darkOf_47 : decode cX4_darkOf 47 = .ok (.if_icmp .le 8, 3) := by decide +kernel
theorem dX4_darkOf_50 : decode cX4_darkOf 50 = .ok (.iload 4, 2) := by decide +kernel
theorem dX4_darkOf_52 : decode cX4_darkOf 52 = .ok (.goto 4, 3) := by decide +kernel
theorem dX4_darkOf_55 : decode cX4_darkOf 55 = .ok (.iload_n 3, 1) := by decide +kernel
theorem dX4_darkOf_56 : decode cX4_darkOf 56 = .ok (.istore_n 3, 1) := by decide +kernel
theorem dX4_darkOf_57 : decode cX4_darkOf 57 = .ok (.iinc 5 1, 3) := by decide +kernel
theorem dX4_darkOf_60 : decode cX4_darkOf 60 = .ok (.goto (-46), 3) := by decide +kernel
theorem dX4_darkOf_63 : decode cX4_darkOf 63 = .ok (.iload_n 3, 1) := by decide +kernel
theorem dX4_darkOf_64 : decode cX4_darkOf 64 = .ok (.bipush 15, 2) := by decide +kernel
theorem dX4_darkOf_66 : decode cX4_darkOf 66 = .ok (.if_icmp .le 8, 3) := by decide +kernel
theorem dX4_darkOf_69 : decode cX4_darkOf 69 = .ok (.bipush 15, 2) := by decide +kernel
theorem dX4_darkOf_71 : decode cX4_darkOf 71 = .ok (.goto 4, 3) := by decide +kernel
theorem dX4_darkOf_74 : decode cX4_darkOf 74 = .ok (.iload_n 3, 1) := by decide +kernel
theorem dX4_darkOf_75 : decode cX4_darkOf 75 = .ok (.ireturn, 1) := by decide +kernel
theorem dX4_turnsOf_0 : decode cX4_turnsOf 0 = .ok (.aload_n 0, 1) := by decide +kernel
theorem dX4_turnsOf_1 : decode cX4_turnsOf 1 = .ok (.iload_n 1, 1) := by decide +kernel
theorem dX4_turnsOf_2 : decode cX4_turnsOf 2 = .ok (.invokevirtual 159, 3) := by decide +kernel
theorem dX4_turnsOf_5 : decode cX4_turnsOf 5 = .ok (.istore_n 2, 1) := by decide +kernel
theorem dX4_turnsOf_6 : decode cX4_turnsOf 6 = .ok (.iconst 0, 1) := by decide +kernel
theorem dX4_turnsOf_7 : decode cX4_turnsOf 7 = .ok (.istore_n 3, 1) := by decide +kernel
theorem dX4_turnsOf_8 : decode cX4_turnsOf 8 = .ok (.iconst 0, 1) := by decide +kernel
theorem dX4_turnsOf_9 : decode cX4_turnsOf 9 = .ok (.istore 4, 2) := by decide +kernel
theorem dX4_turnsOf_11 : decode cX4_turnsOf 11 = .ok (.iload 4, 2) := by decide +kernel
theorem dX4_turnsOf_13 : decode cX4_turnsOf 13 = .ok (.bipush 15, 2) := by decide +kernel
theorem dX4_turnsOf_15 : decode cX4_turnsOf 15 = .ok (.if_icmp .ge 37, 3) := by decide +kernel
theorem dX4_turnsOf_18 : decode cX4_turnsOf 18 = .ok (.iload_n 3, 1) := by decide +kernel
theorem dX4_turnsOf_19 : decode cX4_turnsOf 19 = .ok (.iload_n 2, 1) := by decide +kernel
theorem dX4_turnsOf_20 : decode cX4_turnsOf 20 = .ok (.iload 4, 2) := by decide +kernel
theorem dX4_turnsOf_22 : decode cX4_turnsOf 22 = .ok (.ishr, 1) := by decide +kernel
theorem dX4_turnsOf_23 : decode cX4_turnsOf 23 = .ok (.iconst 1, 1) := by decide +kernel
theorem dX4_turnsOf_24 : decode cX4_turnsOf 24 = .ok (.iand, 1) := by decide +kernel
theorem dX4_turnsOf_25 : decode cX4_turnsOf 25 = .ok (.iload_n 2, 1) := by decide +kernel
theorem dX4_turnsOf_26 : decode cX4_turnsOf 26 = .ok (.iload 4, 2) := by decide +kernel
theorem dX4_turnsOf_28 : decode cX4_turnsOf 28 = .ok (.iconst 1, 1) := by decide +kernel
theorem dX4_turnsOf_29 : decode cX4_turnsOf 29 = .ok (.iadd, 1) := by decide +kernel
theorem dX4_turnsOf_30 : decode cX4_turnsOf 30 = .ok (.bipush 15, 2) := by decide +kernel
theorem dX4_turnsOf_32 : decode cX4_turnsOf 32 = .ok (.irem, 1) := by decide +kernel
theorem dX4_turnsOf_33 : decode cX4_turnsOf 33 = .ok (.ishr, 1) := by decide +kernel
theorem dX4_turnsOf_34 : decode cX4_turnsOf 34 = .ok (.iconst 1, 1) := by decide +kernel
theorem dX4_turnsOf_35 : decode cX4_turnsOf 35 = .ok (.iand, 1) := by decide +kernel
theorem dX4_turnsOf_36 : decode cX4_turnsOf 36 = .ok (.if_icmp .eq 7, 3) := by decide +kernel
theorem dX4_turnsOf_39 : decode cX4_turnsOf 39 = .ok (.iconst 1, 1) := by decide +kernel
theorem dX4_turnsOf_40 : decode cX4_turnsOf 40 = .ok (.goto 4, 3) := by decide +kernel
theorem dX4_turnsOf_43 : decode cX4_turnsOf 43 = .ok (.iconst 0, 1) := by decide +kernel
theorem dX4_turnsOf_44 : decode cX4_turnsOf 44 = .ok (.iadd, 1) := by decide +kernel
theorem dX4_turnsOf_45 : decode cX4_turnsOf 45 = .ok (.istore_n 3, 1) := by decide +kernel
theorem dX4_turnsOf_46 : decode cX4_turnsOf 46 = .ok (.iinc 4 1, 3) := by decide +kernel
theorem dX4_turnsOf_49 : decode cX4_turnsOf 49 = .ok (.goto (-38), 3) := by decide +kernel
theorem dX4_turnsOf_52 : decode cX4_turnsOf 52 = .ok (.iload_n 3, 1) := by decide +kernel
theorem dX4_turnsOf_53 : decode cX4_turnsOf 53 = .ok (.ireturn, 1) := by decide +kernel
theorem dX4_ghostsOf_0 : decode cX4_ghostsOf 0 = .ok (.aload_n 0, 1) := by decide +kernel
theorem dX4_ghostsOf_1 : decode cX4_ghostsOf 1 = .ok (.getfield 13, 3) := by decide +kernel
theorem dX4_ghostsOf_4 : decode cX4_ghostsOf 4 = .ok (.aload_n 0, 1) := by decide +kernel
theorem dX4_ghostsOf_5 : decode cX4_ghostsOf 5 = .ok (.getfield 25, 3) := by decide +kernel
theorem dX4_ghostsOf_8 : decode cX4_ghostsOf 8 = .ok (.iload_n 1, 1) := by decide +kernel
theorem dX4_ghostsOf_9 : decode cX4_ghostsOf 9 = .ok (.iaload, 1) := by decide +kernel
theorem dX4_ghostsOf_10 : decode cX4_ghostsOf 10 = .ok (.iaload, 1) := by decide +kernel
theorem dX4_ghostsOf_11 : decode cX4_ghostsOf 11 = .ok (.iload_n 1, 1) := by decide +kernel
theorem dX4_ghostsOf_12 : decode cX4_ghostsOf 12 = .ok (.if_icmp .ne 7, 3) := by decide +kernel
theorem dX4_ghostsOf_15 : decode cX4_ghostsOf 15 = .ok (.iconst 1, 1) := by decide +kernel
theorem dX4_ghostsOf_16 : decode cX4_ghostsOf 16 = .ok (.goto 4, 3) := by decide +kernel
theorem dX4_ghostsOf_19 : decode cX4_ghostsOf 19 = .ok (.iconst 0, 1) := by decide +kernel
theorem dX4_ghostsOf_20 : decode cX4_ghostsOf 20 = .ok (.istore_n 2, 1) := by decide +kernel
theorem dX4_ghostsOf_21 : decode cX4_ghostsOf 21 = .ok (.iload_n 2, 1) := by decide +kernel
theorem dX4_ghostsOf_22 : decode cX4_ghostsOf 22 = .ok (.ifCond .eq 7, 3) := by decide +kernel
theorem dX4_ghostsOf_25 : decode cX4_ghostsOf 25 = .ok (.iconst 0, 1) := by decide +kernel
theorem dX4_ghostsOf_26 : decode cX4_ghostsOf 26 = .ok (.goto 20, 3) := by decide +kernel
theorem dX4_ghostsOf_29 : decode cX4_ghostsOf 29 = .ok (.aload_n 0, 1) := by decide +kernel
theorem dX4_ghostsOf_30 : decode cX4_ghostsOf 30 = .ok (.iload_n 1, 1) := by decide +kernel
theorem dX4_ghostsOf_31 : decode cX4_ghostsOf 31 = .ok (.iconst 1, 1) := by decide +kernel
theorem dX4_ghostsOf_32 : decode cX4_ghostsOf 32 = .ok (.isub, 1) := by decide +kernel
theorem dX4_ghostsOf_33 : decode cX4_ghostsOf 33 = .ok (.invokevirtual 159, 3) := by decide +kernel
theorem dX4_ghostsOf_36 : decode cX4_ghostsOf 36 = .ok (.sipush 32767, 3) := by decide +kernel
theorem dX4_ghostsOf_39 : decode cX4_ghostsOf 39 = .ok (.aload_n 0, 1) := by decide +kernel
theorem dX4_ghostsOf_40 : decode cX4_ghostsOf 40 = .ok (.iload_n 1, 1) := by decide +kernel
theorem dX4_ghostsOf_41 : decode cX4_ghostsOf 41 = .ok (.invokevirtual 159, 3) := by decide +kernel
theorem dX4_ghostsOf_44 : decode cX4_ghostsOf 44 = .ok (.isub, 1) := by decide +kernel
theorem dX4_ghostsOf_45 : decode cX4_ghostsOf 45 = .ok (.iand, 1) := by decide +kernel
theorem dX4_ghostsOf_46 : decode cX4_ghostsOf 46 = .ok (.ireturn, 1) := by decide +kernel
theorem dX4_darkOfAll_0 : decode cX4_darkOfAll 0 = .ok (.aload_n 0, 1) := by decide +kernel
theorem dX4_darkOfAll_1 : decode cX4_darkOfAll 1 = .ok (.invokevirtual 162, 3) := by decide +kernel
theorem dX4_darkOfAll_4 : decode cX4_darkOfAll 4 = .ok (.iconst 0, 1) := by decide +kernel
theorem dX4_darkOfAll_5 : decode cX4_darkOfAll 5 = .ok (.istore_n 1, 1) := by decide +kernel
theorem dX4_darkOfAll_6 : decode cX4_darkOfAll 6 = .ok (.iconst 0, 1) := by decide +kernel
theorem dX4_darkOfAll_7 : decode cX4_darkOfAll 7 = .ok (.istore_n 2, 1) := by decide +kernel
theorem dX4_darkOfAll_8 : decode cX4_darkOfAll 8 = .ok (.iload_n 2, 1) := by decide +kernel
theorem dX4_darkOfAll_9 : decode cX4_darkOfAll 9 = .ok (.aload_n 0, 1) := by decide +kernel
theorem dX4_darkOfAll_10 : decode cX4_darkOfAll 10 = .ok (.getfield 91, 3) := by decide +kernel
theorem dX4_darkOfAll_13 : decode cX4_darkOfAll 13 = .ok (.if_icmp .ge 17, 3) := by decide +kernel
theorem dX4_darkOfAll_16 : decode cX4_darkOfAll 16 = .ok (.iload_n 1, 1) := by decide +kernel
theorem dX4_darkOfAll_17 : decode cX4_darkOfAll 17 = .ok (.aload_n 0, 1) := by decide +kernel
theorem dX4_darkOfAll_18 : decode cX4_darkOfAll 18 = .ok (.iload_n 2, 1) := by decide +kernel
theorem dX4_darkOfAll_19 : decode cX4_darkOfAll 19 = .ok (.invokevirtual 165, 3) := by decide +kernel
theorem dX4_darkOfAll_22 : decode cX4_darkOfAll 22 = .ok (.iadd, 1) := by decide +kernel
theorem dX4_darkOfAll_23 : decode cX4_darkOfAll 23 = .ok (.istore_n 1, 1) := by decide +kernel
theorem dX4_darkOfAll_24 : decode cX4_darkOfAll 24 = .ok (.iinc 2 1, 3) := by decide +kernel
theorem dX4_darkOfAll_27 : decode cX4_darkOfAll 27 = .ok (.goto (-19), 3) := by decide +kernel
theorem dX4_darkOfAll_30 : decode cX4_darkOfAll 30 = .ok (.iload_n 1, 1) := by decide +kernel
theorem dX4_darkOfAll_31 : decode cX4_darkOfAll 31 = .ok (.ireturn, 1) := by decide +kernel
theorem dX4_litIn_0 : decode cX4_litIn 0 = .ok (.iconst 0, 1) := by decide +kernel
theorem dX4_litIn_1 : decode cX4_litIn 1 = .ok (.istore_n 2, 1) := by decide +kernel
theorem dX4_litIn_2 : decode cX4_litIn 2 = .ok (.iconst 0, 1) := by decide +kernel
theorem dX4_litIn_3 : decode cX4_litIn 3 = .ok (.istore_n 3, 1) := by decide +kernel
theorem dX4_litIn_4 : decode cX4_litIn 4 = .ok (.iload_n 3, 1) := by decide +kernel
theorem dX4_litIn_5 : decode cX4_litIn 5 = .ok (.aload_n 0, 1) := by decide +kernel
theorem dX4_litIn_6 : decode cX4_litIn 6 = .ok (.getfield 91, 3) := by decide +kernel
theorem dX4_litIn_9 : decode cX4_litIn 9 = .ok (.if_icmp .ge 28, 3) := by decide +kernel
theorem dX4_litIn_12 : decode cX4_litIn 12 = .ok (.iload_n 2, 1) := by decide +kernel
theorem dX4_litIn_13 : decode cX4_litIn 13 = .ok (.aload_n 0, 1) := by decide +kernel
theorem dX4_litIn_14 : decode cX4_litIn 14 = .ok (.iload_n 3, 1) := by decide +kernel
theorem dX4_litIn_15 : decode cX4_litIn 15 = .ok (.invokevirtual 153, 3) := by decide +kernel
theorem dX4_litIn_18 : decode cX4_litIn 18 = .ok (.aload_n 0, 1) := by decide +kernel
theorem dX4_litIn_19 : decode cX4_litIn 19 = .ok (.getfield 37, 3) := by decide +kernel
theorem dX4_litIn_22 : decode cX4_litIn 22 = .ok (.iload_n 1, 1) := by decide +kernel
theorem dX4_litIn_23 : decode cX4_litIn 23 = .ok (.iaload, 1) := by decide +kernel
theorem dX4_litIn_24 : decode cX4_litIn 24 = .ok (.ishr, 1) := by decide +kernel
theorem dX4_litIn_25 : decode cX4_litIn 25 = .ok (.iconst 1, 1) := by decide +kernel
theorem dX4_litIn_26 : decode cX4_litIn 26 = .ok (.iand, 1) := by decide +kernel
theorem dX4_litIn_27 : decode cX4_litIn 27 = .ok (.iload_n 3, 1) := by decide +kernel
theorem dX4_litIn_28 : decode cX4_litIn 28 = .ok (.ishl, 1) := by decide +kernel
theorem dX4_litIn_29 : decode cX4_litIn 29 = .ok (.ior, 1) := by decide +kernel
theorem dX4_litIn_30 : decode cX4_litIn 30 = .ok (.istore_n 2, 1) := by decide +kernel
theorem dX4_litIn_31 : decode cX4_litIn 31 = .ok (.iinc 3 1, 3) := by decide +kernel
theorem dX4_litIn_34 : decode cX4_litIn 34 = .ok (.goto (-30), 3) := by decide +kernel
theorem dX4_litIn_37 : decode cX4_litIn 37 = .ok (.iload_n 2, 1) := by decide +kernel
theorem dX4_litIn_38 : decode cX4_litIn 38 = .ok (.ireturn, 1) := by decide +kernel
theorem dX4_ofModule_0 : decode cX4_ofModule 0 = .ok (.aload_n 0, 1) := by decide +kernel
theorem dX4_ofModule_1 : decode cX4_ofModule 1 = .ok (.iload_n 1, 1) := by decide +kernel
theorem dX4_ofModule_2 : decode cX4_ofModule 2 = .ok (.invokevirtual 168, 3) := by decide +kernel
theorem dX4_ofModule_5 : decode cX4_ofModule 5 = .ok (.ifCond .eq 5, 3) := by decide +kernel
theorem dX4_ofModule_8 : decode cX4_ofModule 8 = .ok (.iconst (-1), 1) := by decide +kernel
theorem dX4_ofModule_9 : decode cX4_ofModule 9 = .ok (.ireturn, 1) := by decide +kernel
theorem dX4_ofModule_10 : decode cX4_ofModule 10 = .ok (.iconst 0, 1) := by decide +kernel
theorem dX4_ofModule_11 : decode cX4_ofModule 11 = .ok (.istore_n 3, 1) := by decide +kernel
theorem dX4_ofModule_12 : decode cX4_ofModule 12 = .ok (.iconst 0, 1) := by decide +kernel
theorem dX4_ofModule_13 : decode cX4_ofModule 13 = .ok (.istore 4, 2) := by decide +kernel
theorem dX4_ofModule_15 : decode cX4_ofModule 15 = .ok (.iload 4, 2) := by decide +kernel
theorem dX4_ofModule_17 : decode cX4_ofModule 17 = .ok (.iload_n 1, 1) := by decide +kernel
theorem dX4_ofModule_18 : decode cX4_ofModule 18 = .ok (.if_icmp .ge 21, 3) := by decide +kernel
theorem dX4_ofModule_21 : decode cX4_ofModule 21 = .ok (.iload_n 3, 1) := by decide +kernel
theorem dX4_ofModule_22 : decode cX4_ofModule 22 = .ok (.iconst 1, 1) := by decide +kernel
theorem dX4_ofModule_23 : decode cX4_ofModule 23 = .ok (.aload_n 0, 1) := by decide +kernel
theorem dX4_ofModule_24 : decode cX4_ofModule 24 = .ok (.getfield 19, 3) := by decide +kernel
theorem dX4_ofModule_27 : decode cX4_ofModule 27 = .ok (.iload 4, 2) := by decide +kernel
theorem dX4_ofModule_29 : decode cX4_ofModule 29 = .ok (.iaload, 1) := by decide +kernel
theorem dX4_ofModule_30 : decode cX4_ofModule 30 = .ok (.isub, 1) := by decide +kernel
theorem dX4_ofModule_31 : decode cX4_ofModule 31 = .ok (.iadd, 1) := by decide +kernel
theorem dX4_ofModule_32 : decode cX4_ofModule 32 = .ok (.istore_n 3, 1) := by decide +kernel
theorem dX4_ofModule_33 : decode cX4_ofModule 33 = .ok (.iinc 4 1, 3) := by decide +kernel
theorem dX4_ofModule_36 : decode cX4_ofModule 36 = .ok (.goto (-21), 3) := by decide +kernel
theorem dX4_ofModule_39 : decode cX4_ofModule 39 = .ok (.iload_n 2, 1) := by decide +kernel
theorem dX4_ofModule_40 : decode cX4_ofModule 40 = .ok (.tableswitch 81 0 4 #[36, 43, 50, 57, 64], 36) := by decide +kernel
theorem dX4_ofModule_76 : decode cX4_ofModule 76 = .ok (.aload_n 0, 1) := by decide +kernel
theorem dX4_ofModule_77 : decode cX4_ofModule 77 = .ok (.getfield 7, 3) := by decide +kernel
theorem dX4_ofModule_80 : decode cX4_ofModule 80 = .ok (.iload_n 1, 1) := by decide +kernel
theorem dX4_ofModule_81 : decode cX4_ofModule 81 = .ok (.iaload, 1) := by decide +kernel
theorem dX4_ofModule_82 : decode cX4_ofModule 82 = .ok (.ireturn, 1) := by decide +kernel
theorem dX4_ofModule_83 : decode cX4_ofModule 83 = .ok (.aload_n 0, 1) := by decide +kernel
theorem dX4_ofModule_84 : decode cX4_ofModule 84 = .ok (.getfield 16, 3) := by decide +kernel
theorem dX4_ofModule_87 : decode cX4_ofModule 87 = .ok (.iload_n 1, 1) := by decide +kernel
theorem dX4_ofModule_88 : decode cX4_ofModule 88 = .ok (.iaload, 1) := by decide +kernel
theorem dX4_ofModule_89 : decode cX4_ofModule 89 = .ok (.ireturn, 1) := by decide +kernel
theorem dX4_ofModule_90 : decode cX4_ofModule 90 = .ok (.aload_n 0, 1) := by decide +kernel
theorem dX4_ofModule_91 : decode cX4_ofModule 91 = .ok (.getfield 13, 3) := by decide +kernel
theorem dX4_ofModule_94 : decode cX4_ofModule 94 = .ok (.iload_n 1, 1) := by decide +kernel
theorem dX4_ofModule_95 : decode cX4_ofModule 95 = .ok (.iaload, 1) := by decide +kernel
theorem dX4_ofModule_96 : decode cX4_ofModule 96 = .ok (.ireturn, 1) := by decide +kernel
theorem dX4_ofModule_97 : decode cX4_ofModule 97 = .ok (.aload_n 0, 1) := by decide +kernel
theorem dX4_ofModule_98 : decode cX4_ofModule 98 = .ok (.getfield 19, 3) := by decide +kernel
theorem dX4_ofModule_101 : decode cX4_ofModule 101 = .ok (.iload_n 1, 1) := by decide +kernel
theorem dX4_ofModule_102 : decode cX4_ofModule 102 = .ok (.iaload, 1) := by decide +kernel
theorem dX4_ofModule_103 : decode cX4_ofModule 103 = .ok (.ireturn, 1) := by decide +kernel
theorem dX4_ofModule_104 : decode cX4_ofModule 104 = .ok (.aload_n 0, 1) := by decide +kernel
theorem dX4_ofModule_105 : decode cX4_ofModule 105 = .ok (.getfield 19, 3) := by decide +kernel
theorem dX4_ofModule_108 : decode cX4_ofModule 108 = .ok (.iload_n 1, 1) := by decide +kernel
theorem dX4_ofModule_109 : decode cX4_ofModule 109 = .ok (.iaload, 1) := by decide +kernel
theorem dX4_ofModule_110 : decode cX4_ofModule 110 = .ok (.iconst 1, 1) := by decide +kernel
theorem dX4_ofModule_111 : decode cX4_ofModule 111 = .ok (.if_icmp .ne 8, 3) := by decide +kernel
theorem dX4_ofModule_114 : decode cX4_ofModule 114 = .ok (.bipush (-9), 2) := by decide +kernel
theorem dX4_ofModule_116 : decode cX4_ofModule 116 = .ok (.goto 4, 3) := by decide +kernel
theorem dX4_ofModule_119 : decode cX4_ofModule 119 = .ok (.iload_n 3, 1) := by decide +kernel
theorem dX4_ofModule_120 : decode cX4_ofModule 120 = .ok (.ireturn, 1) := by decide +kernel
theorem dX4_ofModule_121 : decode cX4_ofModule 121 = .ok (.bipush (-2), 2) := by decide +kernel
theorem dX4_ofModule_123 : decode cX4_ofModule 123 = .ok (.ireturn, 1) := by decide +kernel
theorem dX4_ofLamp_0 : decode cX4_ofLamp 0 = .ok (.aload_n 0, 1) := by decide +kernel
theorem dX4_ofLamp_1 : decode cX4_ofLamp 1 = .ok (.iload_n 1, 1) := by decide +kernel
theorem dX4_ofLamp_2 : decode cX4_ofLamp 2 = .ok (.invokevirtual 171, 3) := by decide +kernel
theorem dX4_ofLamp_5 : decode cX4_ofLamp 5 = .ok (.ifCond .eq 5, 3) := by decide +kernel
theorem dX4_ofLamp_8 : decode cX4_ofLamp 8 = .ok (.iconst (-1), 1) := by decide +kernel
theorem dX4_ofLamp_9 : decode cX4_ofLamp 9 = .ok (.ireturn, 1) := by decide +kernel
theorem dX4_ofLamp_10 : decode cX4_ofLamp 10 = .ok (.aload_n 0, 1) := by decide +kernel
theorem dX4_ofLamp_11 : decode cX4_ofLamp 11 = .ok (.invokevirtual 162, 3) := by decide +kernel
theorem dX4_ofLamp_14 : decode cX4_ofLamp 14 = .ok (.iload_n 2, 1) := by decide +kernel
theorem dX4_ofLamp_15 : decode cX4_ofLamp 15 = .ok (.tableswitch 85 0 6 #[41, 48, 55, 61, 67, 73, 79], 41) := by decide +kernel
theorem dX4_ofLamp_56 : decode cX4_ofLamp 56 = .ok (.aload_n 0, 1) := by decide +kernel
theorem dX4_ofLamp_57 : decode cX4_ofLamp 57 = .ok (.getfield 25, 3) := by decide +kernel
theorem dX4_ofLamp_60 : decode cX4_ofLamp 60 = .ok (.iload_n 1, 1) := by decide +kernel
theorem dX4_ofLamp_61 : decode cX4_ofLamp 61 = .ok (.iaload, 1) := by decide +kernel
theorem dX4_ofLamp_62 : decode cX4_ofLamp 62 = .ok (.ireturn, 1) := by decide +kernel
theorem dX4_ofLamp_63 : decode cX4_ofLamp 63 = .ok (.aload_n 0, 1) := by decide +kernel
theorem dX4_ofLamp_64 : decode cX4_ofLamp 64 = .ok (.getfield 22, 3) := by decide +kernel
theorem dX4_ofLamp_67 : decode cX4_ofLamp 67 = .ok (.iload_n 1, 1) := by decide +kernel
theorem dX4_ofLamp_68 : decode cX4_ofLamp 68 = .ok (.iaload, 1) := by decide +kernel
theorem dX4_ofLamp_69 : decode cX4_ofLamp 69 = .ok (.ireturn, 1) := by decide +kernel
theorem dX4_ofLamp_70 : decode cX4_ofLamp 70 = .ok (.aload_n 0, 1) := by decide +kernel
theorem dX4_ofLamp_71 : decode cX4_ofLamp 71 = .ok (.iload_n 1, 1) := by decide +kernel
theorem dX4_ofLamp_72 : decode cX4_ofLamp 72 = .ok (.invokevirtual 153, 3) := by decide +kernel
theorem dX4_ofLamp_75 : decode cX4_ofLamp 75 = .ok (.ireturn, 1) := by decide +kernel
theorem dX4_ofLamp_76 : decode cX4_ofLamp 76 = .ok (.aload_n 0, 1) := by decide +kernel
theorem dX4_ofLamp_77 : decode cX4_ofLamp 77 = .ok (.iload_n 1, 1) := by decide +kernel
theorem dX4_ofLamp_78 : decode cX4_ofLamp 78 = .ok (.invokevirtual 165, 3) := by decide +kernel
theorem dX4_ofLamp_81 : decode cX4_ofLamp 81 = .ok (.ireturn, 1) := by decide +kernel
theorem dX4_ofLamp_82 : decode cX4_ofLamp 82 = .ok (.aload_n 0, 1) := by decide +kernel
theorem dX4_ofLamp_83 : decode cX4_ofLamp 83 = .ok (.iload_n 1, 1) := by decide +kernel
theorem dX4_ofLamp_84 : decode cX4_ofLamp 84 = .ok (.invokevirtual 174, 3) := by decide +kernel
theorem dX4_ofLamp_87 : decode cX4_ofLamp 87 = .ok (.ireturn, 1) := by decide +kernel
theorem dX4_ofLamp_88 : decode cX4_ofLamp 88 = .ok (.aload_n 0, 1) := by decide +kernel
theorem dX4_ofLamp_89 : decode cX4_ofLamp 89 = .ok (.iload_n 1, 1) := by decide +kernel
theorem dX4_ofLamp_90 : decode cX4_ofLamp 90 = .ok (.invokevirtual 159, 3) := by decide +kernel
theorem dX4_ofLamp_93 : decode cX4_ofLamp 93 = .ok (.ireturn, 1) := by decide +kernel
theorem dX4_ofLamp_94 : decode cX4_ofLamp 94 = .ok (.aload_n 0, 1) := by decide +kernel
theorem dX4_ofLamp_95 : decode cX4_ofLamp 95 = .ok (.iload_n 1, 1) := by decide +kernel
theorem dX4_ofLamp_96 : decode cX4_ofLamp 96 = .ok (.invokevirtual 177, 3) := by decide +kernel
theorem dX4_ofLamp_99 : decode cX4_ofLamp 99 = .ok (.ireturn, 1) := by decide +kernel
theorem dX4_ofLamp_100 : decode cX4_ofLamp 100 = .ok (.bipush (-2), 2) := by decide +kernel
theorem dX4_ofLamp_102 : decode cX4_ofLamp 102 = .ok (.ireturn, 1) := by decide +kernel
theorem dX4_isFigure_0 : decode cX4_isFigure 0 = .ok (.iload_n 0, 1) := by decide +kernel
theorem dX4_isFigure_1 : decode cX4_isFigure 1 = .ok (.i2l, 1) := by decide +kernel
theorem dX4_isFigure_2 : decode cX4_isFigure 2 = .ok (.lconst 0, 1) := by decide +kernel
theorem dX4_isFigure_3 : decode cX4_isFigure 3 = .ok (.ldc2_w 180, 3) := by decide +kernel
theorem dX4_isFigure_6 : decode cX4_isFigure 6 = .ok (.invokestatic 87, 3) := by decide +kernel
theorem dX4_isFigure_9 : decode cX4_isFigure 9 = .ok (.ireturn, 1) := by decide +kernel
theorem dX4_level_0 : decode cX4_level 0 = .ok (.aload_n 0, 1) := by decide +kernel
theorem dX4_level_1 : decode cX4_level 1 = .ok (.iload_n 1, 1) := by decide +kernel
theorem dX4_level_2 : decode cX4_level 2 = .ok (.invokevirtual 171, 3) := by decide +kernel
theorem dX4_level_5 : decode cX4_level 5 = .ok (.ifCond .eq 5, 3) := by decide +kernel
theorem dX4_level_8 : decode cX4_level 8 = .ok (.iconst (-1), 1) := by decide +kernel
theorem dX4_level_9 : decode cX4_level 9 = .ok (.ireturn, 1) := by decide +kernel
theorem dX4_level_10 : decode cX4_level 10 = .ok (.iload_n 2, 1) := by decide +kernel
theorem dX4_level_11 : decode cX4_level 11 = .ok (.invokestatic 182, 3) := by decide +kernel
theorem dX4_level_14 : decode cX4_level 14 = .ok (.ifCond .ne 6, 3) := by decide +kernel
theorem dX4_level_17 : decode cX4_level 17 = .ok (.bipush (-2), 2) := by decide +kernel
theorem dX4_level_19 : decode cX4_level 19 = .ok (.ireturn, 1) := by decide +kernel
theorem dX4_level_20 : decode cX4_level 20 = .ok (.aload_n 0, 1) := by decide +kernel
theorem dX4_level_21 : decode cX4_level 21 = .ok (.getfield 22, 3) := by decide +kernel
theorem dX4_level_24 : decode cX4_level 24 = .ok (.iload_n 1, 1) := by decide +kernel
theorem dX4_level_25 : decode cX4_level 25 = .ok (.iaload, 1) := by decide +kernel
theorem dX4_level_26 : decode cX4_level 26 = .ok (.istore_n 3, 1) := by decide +kernel
theorem dX4_level_27 : decode cX4_level 27 = .ok (.aload_n 0, 1) := by decide +kernel
theorem dX4_level_28 : decode cX4_level 28 = .ok (.getfield 22, 3) := by decide +kernel
theorem dX4_level_31 : decode cX4_level 31 = .ok (.iload_n 1, 1) := by decide +kernel
theorem dX4_level_32 : decode cX4_level 32 = .ok (.iload_n 2, 1) := by decide +kernel
theorem dX4_level_33 : decode cX4_level 33 = .ok (.iastore, 1) := by decide +kernel
theorem dX4_level_34 : decode cX4_level 34 = .ok (.iload_n 3, 1) := by decide +kernel
theorem dX4_level_35 : decode cX4_level 35 = .ok (.ireturn, 1) := by decide +kernel
theorem dX4_die_0 : decode cX4_die 0 = .ok (.aload_n 0, 1) := by decide +kernel
theorem dX4_die_1 : decode cX4_die 1 = .ok (.iload_n 1, 1) := by decide +kernel
theorem dX4_die_2 : decode cX4_die 2 = .ok (.invokevirtual 168, 3) := by decide +kernel
theorem dX4_die_5 : decode cX4_die 5 = .ok (.ifCond .eq 5, 3) := by decide +kernel
theorem dX4_die_8 : decode cX4_die 8 = .ok (.iconst (-1), 1) := by decide +kernel
theorem dX4_die_9 : decode cX4_die 9 = .ok (.ireturn, 1) := by decide +kernel
theorem dX4_die_10 : decode cX4_die 10 = .ok (.aload_n 0, 1) := by decide +kernel
theorem dX4_die_11 : decode cX4_die 11 = .ok (.getfield 19, 3) := by decide +kernel
theorem dX4_die_14 : decode cX4_die 14 = .ok (.iload_n 1, 1) := by decide +kernel
theorem dX4_die_15 : decode cX4_die 15 = .ok (.iconst 1, 1) := by decide +kernel
theorem dX4_die_16 : decode cX4_die 16 = .ok (.aload_n 0, 1) := by decide +kernel
theorem dX4_die_17 : decode cX4_die 17 = .ok (.getfield 19, 3) := by decide +kernel
theorem dX4_die_20 : decode cX4_die 20 = .ok (.iload_n 1, 1) := by decide +kernel
theorem dX4_die_21 : decode cX4_die 21 = .ok (.iaload, 1) := by decide +kernel
theorem dX4_die_22 : decode cX4_die 22 = .ok (.isub, 1) := by decide +kernel
theorem dX4_die_23 : decode cX4_die 23 = .ok (.iastore, 1) := by decide +kernel
theorem dX4_die_24 : decode cX4_die 24 = .ok (.aload_n 0, 1) := by decide +kernel
theorem dX4_die_25 : decode cX4_die 25 = .ok (.getfield 19, 3) := by decide +kernel
theorem dX4_die_28 : decode cX4_die 28 = .ok (.iload_n 1, 1) := by decide +kernel
theorem dX4_die_29 : decode cX4_die 29 = .ok (.iaload, 1) := by decide +kernel
theorem dX4_die_30 : decode cX4_die 30 = .ok (.ireturn, 1) := by decide +kernel
theorem dX4_isCut_0 : decode cX4_isCut 0 = .ok (.iload_n 0, 1) := by decide +kernel
theorem dX4_isCut_1 : decode cX4_isCut 1 = .ok (.i2l, 1) := by decide +kernel
theorem dX4_isCut_2 : decode cX4_isCut 2 = .ok (.lconst 1, 1) := by decide +kernel
theorem dX4_isCut_3 : decode cX4_isCut 3 = .ok (.ldc2_w 114, 3) := by decide +kernel
theorem dX4_isCut_6 : decode cX4_isCut 6 = .ok (.invokestatic 87, 3) := by decide +kernel
theorem dX4_isCut_9 : decode cX4_isCut 9 = .ok (.ireturn, 1) := by decide +kernel
theorem dX4_cut_0 : decode cX4_cut 0 = .ok (.iload_n 1, 1) := by decide +kernel
theorem dX4_cut_1 : decode cX4_cut 1 = .ok (.invokestatic 185, 3) := by decide +kernel
theorem dX4_cut_4 : decode cX4_cut 4 = .ok (.ifCond .ne 6, 3) := by decide +kernel
theorem dX4_cut_7 : decode cX4_cut 7 = .ok (.bipush (-2), 2) := by decide +kernel
theorem dX4_cut_9 : decode cX4_cut 9 = .ok (.ireturn, 1) := by decide +kernel
theorem dX4_cut_10 : decode cX4_cut 10 = .ok (.aload_n 0, 1) := by decide +kernel
theorem dX4_cut_11 : decode cX4_cut 11 = .ok (.getfield 84, 3) := by decide +kernel
theorem dX4_cut_14 : decode cX4_cut 14 = .ok (.ifCond .ne 6, 3) := by decide +kernel
theorem dX4_cut_17 : decode cX4_cut 17 = .ok (.bipush (-3), 2) := by decide +kernel
theorem dX4_cut_19 : decode cX4_cut 19 = .ok (.ireturn, 1) := by decide +kernel
theorem dX4_cut_20 : decode cX4_cut 20 = .ok (.aload_n 0, 1) := by decide +kernel
theorem dX4_cut_21 : decode cX4_cut 21 = .ok (.getfield 144, 3) := by decide +kernel
theorem dX4_cut_24 : decode cX4_cut 24 = .ok (.istore_n 2, 1) := by decide +kernel
theorem dX4_cut_25 : decode cX4_cut 25 = .ok (.aload_n 0, 1) := by decide +kernel
theorem dX4_cut_26 : decode cX4_cut 26 = .ok (.iload_n 1, 1) := by decide +kernel
theorem dX4_cut_27 : decode cX4_cut 27 = .ok (.putfield 144, 3) := by decide +kernel
theorem dX4_cut_30 : decode cX4_cut 30 = .ok (.iload_n 2, 1) := by decide +kernel
theorem dX4_cut_31 : decode cX4_cut 31 = .ok (.ireturn, 1) := by decide +kernel
theorem dX4_ghostsIn_0 : decode cX4_ghostsIn 0 = .ok (.iconst 0, 1) := by decide +kernel
theorem dX4_ghostsIn_1 : decode cX4_ghostsIn 1 = .ok (.istore_n 2, 1) := by decide +kernel
theorem dX4_ghostsIn_2 : decode cX4_ghostsIn 2 = .ok (.iconst 0, 1) := by decide +kernel
theorem dX4_ghostsIn_3 : decode cX4_ghostsIn 3 = .ok (.istore_n 3, 1) := by decide +kernel
theorem dX4_ghostsIn_4 : decode cX4_ghostsIn 4 = .ok (.iload_n 3, 1) := by decide +kernel
theorem dX4_ghostsIn_5 : decode cX4_ghostsIn 5 = .ok (.aload_n 0, 1) := by decide +kernel
theorem dX4_ghostsIn_6 : decode cX4_ghostsIn 6 = .ok (.getfield 91, 3) := by decide +kernel
theorem dX4_ghostsIn_9 : decode cX4_ghostsIn 9 = .ok (.if_icmp .ge 21, 3) := by decide +kernel
theorem dX4_ghostsIn_12 : decode cX4_ghostsIn 12 = .ok (.iload_n 2, 1) := by decide +kernel
theorem dX4_ghostsIn_13 : decode cX4_ghostsIn 13 = .ok (.aload_n 0, 1) := by decide +kernel
theorem dX4_ghostsIn_14 : decode cX4_ghostsIn 14 = .ok (.iload_n 3, 1) := by decide +kernel
theorem dX4_ghostsIn_15 : decode cX4_ghostsIn 15 = .ok (.invokevirtual 177, 3) := by decide +kernel
theorem dX4_ghostsIn_18 : decode cX4_ghostsIn 18 = .ok (.iload_n 1, 1) := by decide +kernel
theorem dX4_ghostsIn_19 : decode cX4_ghostsIn 19 = .ok (.ishr, 1) := by decide +kernel
theorem dX4_ghostsIn_20 : decode cX4_ghostsIn 20 = .ok (.iconst 1, 1) := by decide +kernel
theorem dX4_ghostsIn_21 : decode cX4_ghostsIn 21 = .ok (.iand, 1) := by decide +kernel
theorem dX4_ghostsIn_22 : decode cX4_ghostsIn 22 = .ok (.iadd, 1) := by decide +kernel
theorem dX4_ghostsIn_23 : decode cX4_ghostsIn 23 = .ok (.istore_n 2, 1) := by decide +kernel
theorem dX4_ghostsIn_24 : decode cX4_ghostsIn 24 = .ok (.iinc 3 1, 3) := by decide +kernel
theorem dX4_ghostsIn_27 : decode cX4_ghostsIn 27 = .ok (.goto (-23), 3) := by decide +kernel
theorem dX4_ghostsIn_30 : decode cX4_ghostsIn 30 = .ok (.iload_n 2, 1) := by decide +kernel
theorem dX4_ghostsIn_31 : decode cX4_ghostsIn 31 = .ok (.ireturn, 1) := by decide +kernel
theorem dX4_ofUnit_0 : decode cX4_ofUnit 0 = .ok (.iload_n 1, 1) := by decide +kernel
theorem dX4_ofUnit_1 : decode cX4_ofUnit 1 = .ok (.i2l, 1) := by decide +kernel
theorem dX4_ofUnit_2 : decode cX4_ofUnit 2 = .ok (.lconst 0, 1) := by decide +kernel
theorem dX4_ofUnit_3 : decode cX4_ofUnit 3 = .ok (.ldc2_w 188, 3) := by decide +kernel
theorem dX4_ofUnit_6 : decode cX4_ofUnit 6 = .ok (.invokestatic 87, 3) := by decide +kernel
theorem dX4_ofUnit_9 : decode cX4_ofUnit 9 = .ok (.ifCond .eq 15, 3) := by decide +kernel
theorem dX4_ofUnit_12 : decode cX4_ofUnit 12 = .ok (.iload_n 2, 1) := by decide +kernel
theorem dX4_ofUnit_13 : decode cX4_ofUnit 13 = .ok (.i2l, 1) := by decide +kernel
theorem dX4_ofUnit_14 : decode cX4_ofUnit 14 = .ok (.lconst 0, 1) := by decide +kernel
theorem dX4_ofUnit_15 : decode cX4_ofUnit 15 = .ok (.ldc2_w 190, 3) := by decide +kernel
theorem dX4_ofUnit_18 : decode cX4_ofUnit 18 = .ok (.invokestatic 87, 3) := by decide +kernel
theorem dX4_ofUnit_21 : decode cX4_ofUnit 21 = .ok (.ifCond .ne 6, 3) := by decide +kernel
theorem dX4_ofUnit_24 : decode cX4_ofUnit 24 = .ok (.bipush (-2), 2) := by decide +kernel
theorem dX4_ofUnit_26 : decode cX4_ofUnit 26 = .ok (.ireturn, 1) := by decide +kernel
theorem dX4_ofUnit_27 : decode cX4_ofUnit 27 = .ok (.aload_n 0, 1) := by decide +kernel
theorem dX4_ofUnit_28 : decode cX4_ofUnit 28 = .ok (.getfield 84, 3) := by decide +kernel
theorem dX4_ofUnit_31 : decode cX4_ofUnit 31 = .ok (.ifCond .ne 6, 3) := by decide +kernel
theorem dX4_ofUnit_34 : decode cX4_ofUnit 34 = .ok (.bipush (-3), 2) := by decide +kernel
theorem dX4_ofUnit_36 : decode cX4_ofUnit 36 = .ok (.ireturn, 1) := by decide +kernel
theorem dX4_ofUnit_37 : decode cX4_ofUnit 37 = .ok (.aload_n 0, 1) := by decide +kernel
theorem dX4_ofUnit_38 : decode cX4_ofUnit 38 = .ok (.invokevirtual 162, 3) := by decide +kernel
theorem dX4_ofUnit_41 : decode cX4_ofUnit 41 = .ok (.iload_n 2, 1) := by decide +kernel
theorem dX4_ofUnit_42 : decode cX4_ofUnit 42 = .ok (.ifCond .ne 12, 3) := by decide +kernel
theorem dX4_ofUnit_45 : decode cX4_ofUnit 45 = .ok (.aload_n 0, 1) := by decide +kernel
theorem dX4_ofUnit_46 : decode cX4_ofUnit 46 = .ok (.getfield 37, 3) := by decide +kernel
theorem dX4_ofUnit_49 : decode cX4_ofUnit 49 = .ok (.iload_n 1, 1) := by decide +kernel
theorem dX4_ofUnit_50 : decode cX4_ofUnit 50 = .ok (.iaload, 1) := by decide +kernel
theorem dX4_ofUnit_51 : decode cX4_ofUnit 51 = .ok (.goto 51, 3) := by decide +kernel
theorem dX4_ofUnit_54 : decode cX4_ofUnit 54 = .ok (.iload_n 2, 1) := by decide +kernel
theorem dX4_ofUnit_55 : decode cX4_ofUnit 55 = .ok (.iconst 1, 1) := by decide +kernel
theorem dX4_ofUnit_56 : decode cX4_ofUnit 56 = .ok (.if_icmp .ne 14, 3) := by decide +kernel
theorem dX4_ofUnit_59 : decode cX4_ofUnit 59 = .ok (.aload_n 0, 1) := by decide +kernel
theorem dX4_ofUnit_60 : decode cX4_ofUnit 60 = .ok (.iload_n 1, 1) := by decide +kernel
theorem dX4_ofUnit_61 : decode cX4_ofUnit 61 = .ok (.invokevirtual 192, 3) := by decide +kernel
theorem dX4_ofUnit_64 : decode cX4_ofUnit 64 = .ok (.invokestatic 195, 3) := by decide +kernel
theorem dX4_ofUnit_67 : decode cX4_ofUnit 67 = .ok (.goto 35, 3) := by decide +kernel
theorem dX4_ofUnit_70 : decode cX4_ofUnit 70 = .ok (.iload_n 2, 1) := by decide +kernel
theorem dX4_ofUnit_71 : decode cX4_ofUnit 71 = .ok (.iconst 2, 1) := by decide +kernel
theorem dX4_ofUnit_72 : decode cX4_ofUnit 72 = .ok (.if_icmp .ne 11, 3) := by decide +kernel
theorem dX4_ofUnit_75 : decode cX4_ofUnit 75 = .ok (.aload_n 0, 1) := by decide +kernel
theorem dX4_ofUnit_76 : decode cX4_ofUnit 76 = .ok (.iload_n 1, 1) := by decide +kernel
theorem dX4_ofUnit_77 : decode cX4_ofUnit 77 = .ok (.invokevirtual 192, 3) := by decide +kernel
theorem dX4_ofUnit_80 : decode cX4_ofUnit 80 = .ok (.goto 22, 3) := by decide +kernel
theorem dX4_ofUnit_83 : decode cX4_ofUnit 83 = .ok (.iload_n 2, 1) := by decide +kernel
theorem dX4_ofUnit_84 : decode cX4_ofUnit 84 = .ok (.iconst 3, 1) := by decide +kernel
theorem dX4_ofUnit_85 : decode cX4_ofUnit 85 = .ok (.if_icmp .ne 12, 3) := by decide +kernel
theorem dX4_ofUnit_88 : decode cX4_ofUnit 88 = .ok (.aload_n 0, 1) := by decide +kernel
theorem dX4_ofUnit_89 : decode cX4_ofUnit 89 = .ok (.getfield 40, 3) := by decide +kernel
theorem dX4_ofUnit_92 : decode cX4_ofUnit 92 = .ok (.iload_n 1, 1) := by decide +kernel
theorem dX4_ofUnit_93 : decode cX4_ofUnit 93 = .ok (.iaload, 1) := by decide +kernel
theorem dX4_ofUnit_94 : decode cX4_ofUnit 94 = .ok (.goto 8, 3) := by decide +kernel
theorem dX4_ofUnit_97 : decode cX4_ofUnit 97 = .ok (.aload_n 0, 1) := by decide +kernel
theorem dX4_ofUnit_98 : decode cX4_ofUnit 98 = .ok (.iload_n 1, 1) := by decide +kernel
theorem dX4_ofUnit_99 : decode cX4_ofUnit 99 = .ok (.invokevirtual 198, 3) := by decide +kernel
theorem dX4_ofUnit_102 : decode cX4_ofUnit 102 = .ok (.ireturn, 1) := by decide +kernel
theorem dX4_slices_0 : decode cX4_slices 0 = .ok (.iload_n 1, 1) := by decide +kernel
theorem dX4_slices_1 : decode cX4_slices 1 = .ok (.i2l, 1) := by decide +kernel
theorem dX4_slices_2 : decode cX4_slices 2 = .ok (.ldc2_w 201, 3) := by decide +kernel
theorem dX4_slices_5 : decode cX4_slices 5 = .ok (.ldc2_w 203, 3) := by decide +kernel
theorem dX4_slices_8 : decode cX4_slices 8 = .ok (.invokestatic 87, 3) := by decide +kernel
theorem dX4_slices_11 : decode cX4_slices 11 = .ok (.ifCond .ne 6, 3) := by decide +kernel
theorem dX4_slices_14 : decode cX4_slices 14 = .ok (.bipush (-2), 2) := by decide +kernel
theorem dX4_slices_16 : decode cX4_slices 16 = .ok (.ireturn, 1) := by decide +kernel
theorem dX4_slices_17 : decode cX4_slices 17 = .ok (.aload_n 0, 1) := by decide +kernel
theorem dX4_slices_18 : decode cX4_slices 18 = .ok (.getfield 84, 3) := by decide +kernel
theorem dX4_slices_21 : decode cX4_slices 21 = .ok (.ifCond .ne 6, 3) := by decide +kernel
theorem dX4_slices_24 : decode cX4_slices 24 = .ok (.bipush (-3), 2) := by decide +kernel
theorem dX4_slices_26 : decode cX4_slices 26 = .ok (.ireturn, 1) := by decide +kernel
theorem dX4_slices_27 : decode cX4_slices 27 = .ok (.iconst 0, 1) := by decide +kernel
theorem dX4_slices_28 : decode cX4_slices 28 = .ok (.istore_n 2, 1) := by decide +kernel
theorem dX4_slices_29 : decode cX4_slices 29 = .ok (.iconst 0, 1) := by decide +kernel
theorem dX4_slices_30 : decode cX4_slices 30 = .ok (.istore_n 3, 1) := by decide +kernel
theorem dX4_slices_31 : decode cX4_slices 31 = .ok (.iload_n 3, 1) := by decide +kernel
theorem dX4_slices_32 : decode cX4_slices 32 = .ok (.iconst 4, 1) := by decide +kernel
theorem dX4_slices_33 : decode cX4_slices 33 = .ok (.if_icmp .ge 30, 3) := by decide +kernel
theorem dX4_slices_36 : decode cX4_slices 36 = .ok (.iload_n 2, 1) := by decide +kernel
theorem dX4_slices_37 : decode cX4_slices 37 = .ok (.iload_n 1, 1) := by decide +kernel
theorem dX4_slices_38 : decode cX4_slices 38 = .ok (.ifCond .lt 8, 3) := by decide +kernel
theorem dX4_slices_41 : decode cX4_slices 41 = .ok (.iload_n 1, 1) := by decide +kernel
theorem dX4_slices_42 : decode cX4_slices 42 = .ok (.iload_n 3, 1) := by decide +kernel
theorem dX4_slices_43 : decode cX4_slices 43 = .ok (.if_icmp .ne 11, 3) := by decide +kernel
theorem dX4_slices_46 : decode cX4_slices 46 = .ok (.aload_n 0, 1) := by decide +kernel
theorem dX4_slices_47 : decode cX4_slices 47 = .ok (.iload_n 3, 1) := by decide +kernel
theorem dX4_slices_48 : decode cX4_slices 48 = .ok (.invokevirtual 205, 3) := by decide +kernel
theorem dX4_slices_51 : decode cX4_slices 51 = .ok (.goto 4, 3) := by decide +kernel
theorem dX4_slices_54 : decode cX4_slices 54 = .ok (.iconst 0, 1) := by decide +kernel
theorem dX4_slices_55 : decode cX4_slices 55 = .ok (.iadd, 1) := by decide +kernel
theorem dX4_slices_56 : decode cX4_slices 56 = .ok (.istore_n 2, 1) := by decide +kernel
theorem dX4_slices_57 : decode cX4_slices 57 = .ok (.iinc 3 1, 3) := by decide +kernel
theorem dX4_slices_60 : decode cX4_slices 60 = .ok (.goto (-29), 3) := by decide +kernel
theorem dX4_slices_63 : decode cX4_slices 63 = .ok (.iload_n 2, 1) := by decide +kernel
theorem dX4_slices_64 : decode cX4_slices 64 = .ok (.ireturn, 1) := by decide +kernel
theorem dX4_greatest_0 : decode cX4_greatest 0 = .ok (.iconst 0, 1) := by decide +kernel
theorem dX4_greatest_1 : decode cX4_greatest 1 = .ok (.istore_n 2, 1) := by decide +kernel
theorem dX4_greatest_2 : decode cX4_greatest 2 = .ok (.iconst 0, 1) := by decide +kernel
theorem dX4_greatest_3 : decode cX4_greatest 3 = .ok (.istore_n 3, 1) := by decide +kernel
theorem dX4_greatest_4 : decode cX4_greatest 4 = .ok (.iload_n 3, 1) := by decide +kernel
theorem dX4_greatest_5 : decode cX4_greatest 5 = .ok (.iconst 4, 1) := by decide +kernel
theorem dX4_greatest_6 : decode cX4_greatest 6 = .ok (.if_icmp .ge 63, 3) := by decide +kernel
theorem dX4_greatest_9 : decode cX4_greatest 9 = .ok (.iconst 0, 1) := by decide +kernel
theorem dX4_greatest_10 : decode cX4_greatest 10 = .ok (.istore 4, 2) := by decide +kernel
theorem dX4_greatest_12 : decode cX4_greatest 12 = .ok (.iconst 0, 1) := by decide +kernel
theorem dX4_greatest_13 : decode cX4_greatest 13 = .ok (.istore 5, 2) := by decide +kernel
theorem dX4_greatest_15 : decode cX4_greatest 15 = .ok (.iload 5, 2) := by decide +kernel
theorem dX4_greatest_17 : decode cX4_greatest 17 = .ok (.aload_n 0, 1) := by decide +kernel
theorem dX4_greatest_18 : decode cX4_greatest 18 = .ok (.getfield 91, 3) := by decide +kernel
theorem dX4_greatest_21 : decode cX4_greatest 21 = .ok (.if_icmp .ge 29, 3) := by decide +kernel
theorem dX4_greatest_24 : decode cX4_greatest 24 = .ok (.iload 4, 2) := by decide +kernel
theorem dX4_greatest_26 : decode cX4_greatest 26 = .ok (.aload_n 0, 1) := by decide +kernel
theorem dX4_greatest_27 : decode cX4_greatest 27 = .ok (.iload 5, 2) := by decide +kernel
theorem dX4_greatest_29 : decode cX4_greatest 29 = .ok (.invokevirtual 153, 3) := by decide +kernel
theorem dX4_greatest_32 : decode cX4_greatest 32 = .ok (.iload_n 1, 1) := by decide +kernel
theorem dX4_greatest_33 : decode cX4_greatest 33 = .ok (.imul, 1) := by decide +kernel
theorem dX4_greatest_34 : decode cX4_greatest 34 = .ok (.bipush 15, 2) := by decide +kernel
theorem dX4_greatest_36 : decode cX4_greatest 36 = .ok (.idiv, 1) := by decide +kernel
theorem dX4_greatest_37 : decode cX4_greatest 37 = .ok (.iload_n 3, 1) := by decide +kernel
theorem dX4_greatest_38 : decode cX4_greatest 38 = .ok (.ishr, 1) := by decide +kernel
theorem dX4_greatest_39 : decode cX4_greatest 39 = .ok (.iconst 1, 1) := by decide +kernel
theorem dX4_greatest_40 : decode cX4_greatest 40 = .ok (.iand, 1) := by decide +kernel
theorem dX4_greatest_41 : decode cX4_greatest 41 = .ok (.iadd, 1) := by decide +kernel
theorem dX4_greatest_42 : decode cX4_greatest 42 = .ok (.istore 4, 2) := by decide +kernel
theorem dX4_greatest_44 : decode cX4_greatest 44 = .ok (.iinc 5 1, 3) := by decide +kernel
theorem dX4_greatest_47 : decode cX4_greatest 47 = .ok (.goto (-32), 3) := by decide +kernel
theorem dX4_greatest_50 : decode cX4_greatest 50 = .ok (.iload 4, 2) := by decide +kernel
theorem dX4_greatest_52 : decode cX4_greatest 52 = .ok (.iload_n 2, 1) := by decide +kernel
theorem dX4_greatest_53 : decode cX4_greatest 53 = .ok (.if_icmp .le 8, 3) := by decide +kernel
theorem dX4_greatest_56 : decode cX4_greatest 56 = .ok (.iload 4, 2) := by decide +kernel
theorem dX4_greatest_58 : decode cX4_greatest 58 = .ok (.goto 4, 3) := by decide +kernel
theorem dX4_greatest_61 : decode cX4_greatest 61 = .ok (.iload_n 2, 1) := by decide +kernel
theorem dX4_greatest_62 : decode cX4_greatest 62 = .ok (.istore_n 2, 1) := by decide +kernel
theorem dX4_greatest_63 : decode cX4_greatest 63 = .ok (.iinc 3 1, 3) := by decide +kernel
theorem dX4_greatest_66 : decode cX4_greatest 66 = .ok (.goto (-62), 3) := by decide +kernel
theorem dX4_greatest_69 : decode cX4_greatest 69 = .ok (.iload_n 2, 1) := by decide +kernel
theorem dX4_greatest_70 : decode cX4_greatest 70 = .ok (.ireturn, 1) := by decide +kernel
theorem dX4_bears_0 : decode cX4_bears 0 = .ok (.iload_n 1, 1) := by decide +kernel
theorem dX4_bears_1 : decode cX4_bears 1 = .ok (.i2l, 1) := by decide +kernel
theorem dX4_bears_2 : decode cX4_bears 2 = .ok (.lconst 0, 1) := by decide +kernel
theorem dX4_bears_3 : decode cX4_bears 3 = .ok (.ldc2_w 208, 3) := by decide +kernel
theorem dX4_bears_6 : decode cX4_bears 6 = .ok (.invokestatic 87, 3) := by decide +kernel
theorem dX4_bears_9 : decode cX4_bears 9 = .ok (.ifCond .ne 6, 3) := by decide +kernel
theorem dX4_bears_12 : decode cX4_bears 12 = .ok (.bipush (-2), 2) := by decide +kernel
theorem dX4_bears_14 : decode cX4_bears 14 = .ok (.ireturn, 1) := by decide +kernel
theorem dX4_bears_15 : decode cX4_bears 15 = .ok (.aload_n 0, 1) := by decide +kernel
theorem dX4_bears_16 : decode cX4_bears 16 = .ok (.getfield 84, 3) := by decide +kernel
theorem dX4_bears_19 : decode cX4_bears 19 = .ok (.ifCond .ne 6, 3) := by decide +kernel
theorem dX4_bears_22 : decode cX4_bears 22 = .ok (.bipush (-3), 2) := by decide +kernel
theorem dX4_bears_24 : decode cX4_bears 24 = .ok (.ireturn, 1) := by decide +kernel
theorem dX4_bears_25 : decode cX4_bears 25 = .ok (.iconst 0, 1) := by decide +kernel
theorem dX4_bears_26 : decode cX4_bears 26 = .ok (.istore_n 2, 1) := by decide +kernel
theorem dX4_bears_27 : decode cX4_bears 27 = .ok (.iconst 1, 1) := by decide +kernel
theorem dX4_bears_28 : decode cX4_bears 28 = .ok (.istore_n 3, 1) := by decide +kernel
theorem dX4_bears_29 : decode cX4_bears 29 = .ok (.iload_n 3, 1) := by decide +kernel
theorem dX4_bears_30 : decode cX4_bears 30 = .ok (.bipush 15, 2) := by decide +kernel
theorem dX4_bears_32 : decode cX4_bears 32 = .ok (.if_icmp .gt 24, 3) := by decide +kernel
theorem dX4_bears_35 : decode cX4_bears 35 = .ok (.aload_n 0, 1) := by decide +kernel
theorem dX4_bears_36 : decode cX4_bears 36 = .ok (.iload_n 3, 1) := by decide +kernel
theorem dX4_bears_37 : decode cX4_bears 37 = .ok (.invokevirtual 210, 3) := by decide +kernel
theorem dX4_bears_40 : decode cX4_bears 40 = .ok (.iload_n 1, 1) := by decide +kernel
theorem dX4_bears_41 : decode cX4_bears 41 = .ok (.if_icmp .gt 7, 3) := by decide +kernel
theorem dX4_bears_44 : decode cX4_bears 44 = .ok (.iload_n 3, 1) := by decide +kernel
theorem dX4_bears_45 : decode cX4_bears 45 = .ok (.goto 4, 3) := by decide +kernel
theorem dX4_bears_48 : decode cX4_bears 48 = .ok (.iload_n 2, 1) := by decide +kernel
theorem dX4_bears_49 : decode cX4_bears 49 = .ok (.istore_n 2, 1) := by decide +kernel
theorem dX4_bears_50 : decode cX4_bears 50 = .ok (.iinc 3 1, 3) := by decide +kernel
theorem dX4_bears_53 : decode cX4_bears 53 = .ok (.goto (-24), 3) := by decide +kernel
theorem dX4_bears_56 : decode cX4_bears 56 = .ok (.iload_n 2, 1) := by decide +kernel
theorem dX4_bears_57 : decode cX4_bears 57 = .ok (.ireturn, 1) := by decide +kernel
theorem dX4_darkBy_0 : decode cX4_darkBy 0 = .ok (.aload_n 0, 1) := by decide +kernel
theorem dX4_darkBy_1 : decode cX4_darkBy 1 = .ok (.getfield 144, 3) := by decide +kernel
theorem dX4_darkBy_4 : decode cX4_darkBy 4 = .ok (.istore_n 2, 1) := by decide +kernel
theorem dX4_darkBy_5 : decode cX4_darkBy 5 = .ok (.aload_n 0, 1) := by decide +kernel
theorem dX4_darkBy_6 : decode cX4_darkBy 6 = .ok (.iload_n 1, 1) := by decide +kernel
theorem dX4_darkBy_7 : decode cX4_darkBy 7 = .ok (.putfield 144, 3) := by decide +kernel
theorem dX4_darkBy_10 : decode cX4_darkBy 10 = .ok (.aload_n 0, 1) := by decide +kernel
theorem dX4_darkBy_11 : decode cX4_darkBy 11 = .ok (.invokevirtual 213, 3) := by decide +kernel
theorem dX4_darkBy_14 : decode cX4_darkBy 14 = .ok (.istore_n 3, 1) := by decide +kernel
theorem dX4_darkBy_15 : decode cX4_darkBy 15 = .ok (.aload_n 0, 1) := by decide +kernel
theorem dX4_darkBy_16 : decode cX4_darkBy 16 = .ok (.iload_n 2, 1) := by decide +kernel
theorem dX4_darkBy_17 : decode cX4_darkBy 17 = .ok (.putfield 144, 3) := by decide +kernel
theorem dX4_darkBy_20 : decode cX4_darkBy 20 = .ok (.iload_n 3, 1) := by decide +kernel
theorem dX4_darkBy_21 : decode cX4_darkBy 21 = .ok (.ireturn, 1) := by decide +kernel
theorem dX4_steadiest_0 : decode cX4_steadiest 0 = .ok (.iload_n 1, 1) := by decide +kernel
theorem dX4_steadiest_1 : decode cX4_steadiest 1 = .ok (.i2l, 1) := by decide +kernel
theorem dX4_steadiest_2 : decode cX4_steadiest 2 = .ok (.lconst 0, 1) := by decide +kernel
theorem dX4_steadiest_3 : decode cX4_steadiest 3 = .ok (.ldc2_w 135, 3) := by decide +kernel
theorem dX4_steadiest_6 : decode cX4_steadiest 6 = .ok (.invokestatic 87, 3) := by decide +kernel
theorem dX4_steadiest_9 : decode cX4_steadiest 9 = .ok (.ifCond .ne 6, 3) := by decide +kernel
theorem dX4_steadiest_12 : decode cX4_steadiest 12 = .ok (.bipush (-2), 2) := by decide +kernel
theorem dX4_steadiest_14 : decode cX4_steadiest 14 = .ok (.ireturn, 1) := by decide +kernel
theorem dX4_steadiest_15 : decode cX4_steadiest 15 = .ok (.aload_n 0, 1) := by decide +kernel
theorem dX4_steadiest_16 : decode cX4_steadiest 16 = .ok (.getfield 84, 3) := by decide +kernel
theorem dX4_steadiest_19 : decode cX4_steadiest 19 = .ok (.ifCond .ne 6, 3) := by decide +kernel
theorem dX4_steadiest_22 : decode cX4_steadiest 22 = .ok (.bipush (-3), 2) := by decide +kernel
theorem dX4_steadiest_24 : decode cX4_steadiest 24 = .ok (.ireturn, 1) := by decide +kernel
theorem dX4_steadiest_25 : decode cX4_steadiest 25 = .ok (.iconst 1, 1) := by decide +kernel
theorem dX4_steadiest_26 : decode cX4_steadiest 26 = .ok (.istore_n 2, 1) := by decide +kernel
theorem dX4_steadiest_27 : decode cX4_steadiest 27 = .ok (.iconst 2, 1) := by decide +kernel
theorem dX4_steadiest_28 : decode cX4_steadiest 28 = .ok (.istore_n 3, 1) := by decide +kernel
theorem dX4_steadiest_29 : decode cX4_steadiest 29 = .ok (.iload_n 3, 1) := by decide +kernel
theorem dX4_steadiest_30 : decode cX4_steadiest 30 = .ok (.bipush 8, 2) := by decide +kernel
theorem dX4_steadiest_32 : decode cX4_steadiest 32 = .ok (.if_icmp .gt 28, 3) := by decide +kernel
theorem dX4_steadiest_35 : decode cX4_steadiest 35 = .ok (.aload_n 0, 1) := by decide +kernel
theorem dX4_steadiest_36 : decode cX4_steadiest 36 = .ok (.iload_n 3, 1) := by decide +kernel
theorem dX4_steadiest_37 : decode cX4_steadiest 37 = .ok (.invokevirtual 217, 3) := by decide +kernel
theorem dX4_steadiest_40 : decode cX4_steadiest 40 = .ok (.aload_n 0, 1) := by decide +kernel
theorem dX4_steadiest_41 : decode cX4_steadiest 41 = .ok (.iload_n 2, 1) := by decide +kernel
theorem dX4_steadiest_42 : decode cX4_steadiest 42 = .ok (.invokevirtual 217, 3) := by decide +kernel
theorem dX4_steadiest_45 : decode cX4_steadiest 45 = .ok (.if_icmp .ge 7, 3) := by decide +kernel
theorem dX4_steadiest_48 : decode cX4_steadiest 48 = .ok (.iload_n 3, 1) := by decide +kernel
theorem dX4_steadiest_49 : decode cX4_steadiest 49 = .ok (.goto 4, 3) := by decide +kernel
theorem dX4_steadiest_52 : decode cX4_steadiest 52 = .ok (.iload_n 2, 1) := by decide +kernel
theorem dX4_steadiest_53 : decode cX4_steadiest 53 = .ok (.istore_n 2, 1) := by decide +kernel
theorem dX4_steadiest_54 : decode cX4_steadiest 54 = .ok (.iinc 3 1, 3) := by decide +kernel
theorem dX4_steadiest_57 : decode cX4_steadiest 57 = .ok (.goto (-28), 3) := by decide +kernel
theorem dX4_steadiest_60 : decode cX4_steadiest 60 = .ok (.iload_n 1, 1) := by decide +kernel
theorem dX4_steadiest_61 : decode cX4_steadiest 61 = .ok (.ifCond .ne 7, 3) := by decide +kernel
theorem dX4_steadiest_64 : decode cX4_steadiest 64 = .ok (.iload_n 2, 1) := by decide +kernel
theorem dX4_steadiest_65 : decode cX4_steadiest 65 = .ok (.goto 24, 3) := by decide +kernel
theorem dX4_steadiest_68 : decode cX4_steadiest 68 = .ok (.iload_n 1, 1) := by decide +kernel
theorem dX4_steadiest_69 : decode cX4_steadiest 69 = .ok (.iconst 1, 1) := by decide +kernel
theorem dX4_steadiest_70 : decode cX4_steadiest 70 = .ok (.if_icmp .ne 11, 3) := by decide +kernel
theorem dX4_steadiest_73 : decode cX4_steadiest 73 = .ok (.aload_n 0, 1) := by decide +kernel
theorem dX4_steadiest_74 : decode cX4_steadiest 74 = .ok (.iload_n 2, 1) := by decide +kernel
theorem dX4_steadiest_75 : decode cX4_steadiest 75 = .ok (.invokevirtual 217, 3) := by decide +kernel
theorem dX4_steadiest_78 : decode cX4_steadiest 78 = .ok (.goto 11, 3) := by decide +kernel
theorem dX4_steadiest_81 : decode cX4_steadiest 81 = .ok (.aload_n 0, 1) := by decide +kernel
theorem dX4_steadiest_82 : decode cX4_steadiest 82 = .ok (.aload_n 0, 1) := by decide +kernel
theorem dX4_steadiest_83 : decode cX4_steadiest 83 = .ok (.getfield 144, 3) := by decide +kernel
theorem dX4_steadiest_86 : decode cX4_steadiest 86 = .ok (.invokevirtual 217, 3) := by decide +kernel
theorem dX4_steadiest_89 : decode cX4_steadiest 89 = .ok (.ireturn, 1) := by decide +kernel
theorem dX4_send_0 : decode cX4_send 0 = .ok (.iload_n 1, 1) := by decide +kernel
theorem dX4_send_1 : decode cX4_send 1 = .ok (.invokestatic 128, 3) := by decide +kernel
theorem dX4_send_4 : decode cX4_send 4 = .ok (.ifCond .eq 9, 3) := by decide +kernel
theorem dX4_send_7 : decode cX4_send 7 = .ok (.aload_n 0, 1) := by decide +kernel
theorem dX4_send_8 : decode cX4_send 8 = .ok (.iconst (-1), 1) := by decide +kernel
theorem dX4_send_9 : decode cX4_send 9 = .ok (.invokevirtual 132, 3) := by decide +kernel
theorem dX4_send_12 : decode cX4_send 12 = .ok (.ireturn, 1) := by decide +kernel
theorem dX4_send_13 : decode cX4_send 13 = .ok (.iload_n 2, 1) := by decide +kernel
theorem dX4_send_14 : decode cX4_send 14 = .ok (.i2l, 1) := by decide +kernel
theorem dX4_send_15 : decode cX4_send 15 = .ok (.lconst 0, 1) := by decide +kernel
theorem dX4_send_16 : decode cX4_send 16 = .ok (.ldc2_w 135, 3) := by decide +kernel
theorem dX4_send_19 : decode cX4_send 19 = .ok (.invokestatic 87, 3) := by decide +kernel
theorem dX4_send_22 : decode cX4_send 22 = .ok (.ifCond .eq 16, 3) := by decide +kernel
theorem dX4_send_25 : decode cX4_send 25 = .ok (.iload 4, 2) := by decide +kernel
theorem dX4_send_27 : decode cX4_send 27 = .ok (.i2l, 1) := by decide +kernel
theorem dX4_send_28 : decode cX4_send 28 = .ok (.lconst 0, 1) := by decide +kernel
theorem dX4_send_29 : decode cX4_send 29 = .ok (.ldc2_w 220, 3) := by decide +kernel
theorem dX4_send_32 : decode cX4_send 32 = .ok (.invokestatic 87, 3) := by decide +kernel
theorem dX4_send_35 : decode cX4_send 35 = .ok (.ifCond .ne 10, 3) := by decide +kernel
theorem dX4_send_38 : decode cX4_send 38 = .ok (.aload_n 0, 1) := by decide +kernel
theorem dX4_send_39 : decode cX4_send 39 = .ok (.bipush (-2), 2) := by decide +kernel
theorem dX4_send_41 : decode cX4_send 41 = .ok (.invokevirtual 132, 3) := by decide +kernel
theorem dX4_send_44 : decode cX4_send 44 = .ok (.ireturn, 1) := by decide +kernel
theorem dX4_send_45 : decode cX4_send 45 = .ok (.aload_n 0, 1) := by decide +kernel
theorem dX4_send_46 : decode cX4_send 46 = .ok (.getfield 84, 3) := by decide +kernel
theorem dX4_send_49 : decode cX4_send 49 = .ok (.ifCond .ne 10, 3) := by decide +kernel
theorem dX4_send_52 : decode cX4_send 52 = .ok (.aload_n 0, 1) := by decide +kernel
theorem dX4_send_53 : decode cX4_send 53 = .ok (.bipush (-3), 2) := by decide +kernel
theorem dX4_send_55 : decode cX4_send 55 = .ok (.invokevirtual 132, 3) := by decide +kernel
theorem dX4_send_58 : decode cX4_send 58 = .ok (.ireturn, 1) := by decide +kernel
theorem dX4_send_59 : decode cX4_send 59 = .ok (.aload_n 0, 1) := by decide +kernel
theorem dX4_send_60 : decode cX4_send 60 = .ok (.iload_n 1, 1) := by decide +kernel
theorem dX4_send_61 : decode cX4_send 61 = .ok (.iload_n 2, 1) := by decide +kernel
theorem dX4_send_62 : decode cX4_send 62 = .ok (.iload_n 3, 1) := by decide +kernel
theorem dX4_send_63 : decode cX4_send 63 = .ok (.iload 4, 2) := by decide +kernel
theorem dX4_send_65 : decode cX4_send 65 = .ok (.i2l, 1) := by decide +kernel
theorem dX4_send_66 : decode cX4_send 66 = .ok (.invokevirtual 137, 3) := by decide +kernel
theorem dX4_send_69 : decode cX4_send 69 = .ok (.istore 5, 2) := by decide +kernel
theorem dX4_send_71 : decode cX4_send 71 = .ok (.iload 5, 2) := by decide +kernel
theorem dX4_send_73 : decode cX4_send 73 = .ok (.ifCond .ge 6, 3) := by decide +kernel
theorem dX4_send_76 : decode cX4_send 76 = .ok (.iload 5, 2) := by decide +kernel
theorem dX4_send_78 : decode cX4_send 78 = .ok (.ireturn, 1) := by decide +kernel
theorem dX4_send_79 : decode cX4_send 79 = .ok (.bipush 60, 2) := by decide +kernel
theorem dX4_send_81 : decode cX4_send 81 = .ok (.iload_n 1, 1) := by decide +kernel
theorem dX4_send_82 : decode cX4_send 82 = .ok (.imul, 1) := by decide +kernel
theorem dX4_send_83 : decode cX4_send 83 = .ok (.iload_n 3, 1) := by decide +kernel
theorem dX4_send_84 : decode cX4_send 84 = .ok (.iadd, 1) := by decide +kernel
theorem dX4_send_85 : decode cX4_send 85 = .ok (.istore 6, 2) := by decide +kernel
theorem dX4_send_87 : decode cX4_send 87 = .ok (.iconst 0, 1) := by decide +kernel
theorem dX4_send_88 : decode cX4_send 88 = .ok (.istore 7, 2) := by decide +kernel
theorem dX4_send_90 : decode cX4_send 90 = .ok (.iload 7, 2) := by decide +kernel
theorem dX4_send_92 : decode cX4_send 92 = .ok (.iload 4, 2) := by decide +kernel
theorem dX4_send_94 : decode cX4_send 94 = .ok (.if_icmp .ge 32, 3) := by decide +kernel
theorem dX4_send_97 : decode cX4_send 97 = .ok (.aload_n 0, 1) := by decide +kernel
theorem dX4_send_98 : decode cX4_send 98 = .ok (.getfield 68, 3) := by decide +kernel
theorem dX4_send_101 : decode cX4_send 101 = .ok (.iload 6, 2) := by decide +kernel
theorem dX4_send_103 : decode cX4_send 103 = .ok (.iload 7, 2) := by decide +kernel
theorem dX4_send_105 : decode cX4_send 105 = .ok (.iadd, 1) := by decide +kernel
theorem dX4_send_106 : decode cX4_send 106 = .ok (.iaload, 1) := by decide +kernel
theorem dX4_send_107 : decode cX4_send 107 = .ok (.invokestatic 182, 3) := by decide +kernel
theorem dX4_send_110 : decode cX4_send 110 = .ok (.ifCond .ne 10, 3) := by decide +kernel
theorem dX4_send_113 : decode cX4_send 113 = .ok (.aload_n 0, 1) := by decide +kernel
theorem dX4_send_114 : decode cX4_send 114 = .ok (.bipush (-2), 2) := by decide +kernel
theorem dX4_send_116 : decode cX4_send 116 = .ok (.invokevirtual 132, 3) := by decide +kernel
theorem dX4_send_119 : decode cX4_send 119 = .ok (.ireturn, 1) := by decide +kernel
theorem dX4_send_120 : decode cX4_send 120 = .ok (.iinc 7 1, 3) := by decide +kernel
theorem dX4_send_123 : decode cX4_send 123 = .ok (.goto (-33), 3) := by decide +kernel
theorem dX4_send_126 : decode cX4_send 126 = .ok (.iload 4, 2) := by decide +kernel
theorem dX4_send_128 : decode cX4_send 128 = .ok (.istore 7, 2) := by decide +kernel
theorem dX4_send_130 : decode cX4_send 130 = .ok (.iconst 1, 1) := by decide +kernel
theorem dX4_send_131 : decode cX4_send 131 = .ok (.istore 8, 2) := by decide +kernel
theorem dX4_send_133 : decode cX4_send 133 = .ok (.iconst 0, 1) := by decide +kernel
theorem dX4_send_134 : decode cX4_send 134 = .ok (.istore 9, 2) := by decide +kernel
theorem dX4_send_136 : decode cX4_send 136 = .ok (.iload 9, 2) := by decide +kernel
theorem dX4_send_138 : decode cX4_send 138 = .ok (.aload_n 0, 1) := by decide +kernel
theorem dX4_send_139 : decode cX4_send 139 = .ok (.getfield 84, 3) := by decide +kernel
theorem dX4_send_142 : decode cX4_send 142 = .ok (.if_icmp .ge 128, 3) := by decide +kernel
theorem dX4_send_145 : decode cX4_send 145 = .ok (.aload_n 0, 1) := by decide +kernel
theorem dX4_send_146 : decode cX4_send 146 = .ok (.getfield 19, 3) := by decide +kernel
theorem dX4_send_149 : decode cX4_send 149 = .ok (.iload 9, 2) := by decide +kernel
theorem dX4_send_151 : decode cX4_send 151 = .ok (.iaload, 1) := by decide +kernel
theorem dX4_send_152 : decode cX4_send 152 = .ok (.ifCond .ne 24, 3) := by decide +kernel
theorem dX4_send_155 : decode cX4_send 155 = .ok (.iload 8, 2) := by decide +kernel
theorem dX4_send_157 : decode cX4_send 157 = .ok (.ifCond .eq 19, 3) := by decide +kernel
theorem dX4_send_160 : decode cX4_send 160 = .ok (.iload 7, 2) := by decide +kernel
theorem dX4_send_162 : decode cX4_send 162 = .ok (.aload_n 0, 1) := by decide +kernel
theorem dX4_send_163 : decode cX4_send 163 = .ok (.getfield 16, 3) := by decide +kernel
theorem dX4_send_166 : decode cX4_send 166 = .ok (.iload 9, 2) := by decide +kernel
theorem dX4_send_168 : decode cX4_send 168 = .ok (.iaload, 1) := by decide +kernel
theorem dX4_send_169 : decode cX4_send 169 = .ok (.if_icmp .lt 7, 3) := by decide +kernel
theorem dX4_send_172 : decode cX4_send 172 = .ok (.iconst 1, 1) := by decide +kernel
theorem dX4_send_173 : decode cX4_send 173 = .ok (.goto 4, 3) := by decide +kernel
theorem dX4_send_176 : decode cX4_send 176 = .ok (.iconst 0, 1) := by decide +kernel
theorem dX4_send_177 : decode cX4_send 177 = .ok (.istore 10, 2) := by decide +kernel
theorem dX4_send_179 : decode cX4_send 179 = .ok (.iload 8, 2) := by decide +kernel
theorem dX4_send_181 : decode cX4_send 181 = .ok (.ifCond .eq 23, 3) := by decide +kernel
theorem dX4_send_184 : decode cX4_send 184 = .ok (.aload_n 0, 1) := by decide +kernel
theorem dX4_send_185 : decode cX4_send 185 = .ok (.getfield 19, 3) := by decide +kernel
theorem dX4_send_188 : decode cX4_send 188 = .ok (.iload 9, 2) := by decide +kernel
theorem dX4_send_190 : decode cX4_send 190 = .ok (.iaload, 1) := by decide +kernel
theorem dX4_send_191 : decode cX4_send 191 = .ok (.iconst 1, 1) := by decide +kernel
theorem dX4_send_192 : decode cX4_send 192 = .ok (.if_icmp .eq 8, 3) := by decide +kernel
theorem dX4_send_195 : decode cX4_send 195 = .ok (.iload 10, 2) := by decide +kernel
theorem dX4_send_197 : decode cX4_send 197 = .ok (.ifCond .eq 7, 3) := by decide +kernel
theorem dX4_send_200 : decode cX4_send 200 = .ok (.iconst 1, 1) := by decide +kernel
theorem dX4_send_201 : decode cX4_send 201 = .ok (.goto 4, 3) := by decide +kernel
theorem dX4_send_204 : decode cX4_send 204 = .ok (.iconst 0, 1) := by decide +kernel
theorem dX4_send_205 : decode cX4_send 205 = .ok (.istore 8, 2) := by decide +kernel
theorem dX4_send_207 : decode cX4_send 207 = .ok (.iconst 0, 1) := by decide +kernel
theorem dX4_send_208 : decode cX4_send 208 = .ok (.istore 11, 2) := by decide +kernel
theorem dX4_send_210 : decode cX4_send 210 = .ok (.iload 11, 2) := by decide +kernel
theorem dX4_send_212 : decode cX4_send 212 = .ok (.aload_n 0, 1) := by decide +kernel
theorem dX4_send_213 : decode cX4_send 213 = .ok (.getfield 16, 3) := by decide +kernel
theorem dX4_send_216 : decode cX4_send 216 = .ok (.iload 9, 2) := by decide +kernel
theorem dX4_send_218 : decode cX4_send 218 = .ok (.iaload, 1) := by decide +kernel
theorem dX4_send_219 : decode cX4_send 219 = .ok (.if_icmp .ge 45, 3) := by decide +kernel
theorem dX4_send_222 : decode cX4_send 222 = .ok (.iload 10, 2) := by decide +kernel
theorem dX4_send_224 : decode cX4_send 224 = .ok (.ifCond .eq 40, 3) := by decide +kernel
theorem dX4_send_227 : decode cX4_send 227 = .ok (.aload_n 0, 1) := by decide +kernel
theorem dX4_send_228 : decode cX4_send 228 = .ok (.getfield 22, 3) := by decide +kernel
theorem dX4_send_231 : decode cX4_send 231 = .ok (.aload_n 0, 1) := by decide +kernel
theorem dX4_send_232 : decode cX4_send 232 = .ok (.getfield 13, 3) := by decide +kernel
theorem dX4_send_235 : decode cX4_send 235 = .ok (.iload 9, 2) := by decide +kernel
theorem dX4_send_237 : decode cX4_send 237 = .ok (.iaload, 1) := by decide +kernel
theorem dX4_send_238 : decode cX4_send 238 = .ok (.iload 11, 2) := by decide +kernel
theorem dX4_send_240 : decode cX4_send 240 = .ok (.iadd, 1) := by decide +kernel
theorem dX4_send_241 : decode cX4_send 241 = .ok (.aload_n 0, 1) := by decide +kernel
theorem dX4_send_242 : decode cX4_send 242 = .ok (.getfield 68, 3) := by decide +kernel
theorem dX4_send_245 : decode cX4_send 245 = .ok (.iload 6, 2) := by decide +kernel
theorem dX4_send_247 : decode cX4_send 247 = .ok (.iload 4, 2) := by decide +kernel
theorem dX4_send_249 : decode cX4_send 249 = .ok (.iadd, 1) := by decide +kernel
theorem dX4_send_250 : decode cX4_send 250 = .ok (.iload 7, 2) := by decide +kernel
theorem dX4_send_252 : decode cX4_send 252 = .ok (.isub, 1) := by decide +kernel
theorem dX4_send_253 : decode cX4_send 253 = .ok (.iaload, 1) := by decide +kernel
theorem dX4_send_254 : decode cX4_send 254 = .ok (.iastore, 1) := by decide +kernel
theorem dX4_send_255 : decode cX4_send 255 = .ok (.iinc 7 (-1), 3) := by decide +kernel
theorem dX4_send_258 : decode cX4_send 258 = .ok (.iinc 11 1, 3) := by decide +kernel
theorem dX4_send_261 : decode cX4_send 261 = .ok (.goto (-51), 3) := by decide +kernel
theorem dX4_send_264 : decode cX4_send 264 = .ok (.iinc 9 1, 3) := by decide +kernel
theorem dX4_send_267 : decode cX4_send 267 = .ok (.goto (-131), 3) := by decide +kernel
theorem dX4_send_270 : decode cX4_send 270 = .ok (.aload_n 0, 1) := by decide +kernel
theorem dX4_send_271 : decode cX4_send 271 = .ok (.iload 7, 2) := by decide +kernel
theorem dX4_send_273 : decode cX4_send 273 = .ok (.invokevirtual 132, 3) := by decide +kernel
theorem dX4_send_276 : decode cX4_send 276 = .ok (.ireturn, 1) := by decide +kernel
theorem dX4_isAsTold_0 : decode cX4_isAsTold 0 = .ok (.iload_n 1, 1) := by decide +kernel
theorem dX4_isAsTold_1 : decode cX4_isAsTold 1 = .ok (.i2l, 1) := by decide +kernel
theorem dX4_isAsTold_2 : decode cX4_isAsTold 2 = .ok (.lconst 0, 1) := by decide +kernel
theorem dX4_isAsTold_3 : decode cX4_isAsTold 3 = .ok (.ldc2_w 222, 3) := by decide +kernel
theorem dX4_isAsTold_6 : decode cX4_isAsTold 6 = .ok (.invokestatic 87, 3) := by decide +kernel
theorem dX4_isAsTold_9 : decode cX4_isAsTold 9 = .ok (.ifCond .eq 8, 3) := by decide +kernel
theorem dX4_isAsTold_12 : decode cX4_isAsTold 12 = .ok (.iload_n 0, 1) := by decide +kernel
theorem dX4_isAsTold_13 : decode cX4_isAsTold 13 = .ok (.invokestatic 182, 3) := by decide +kernel
theorem dX4_isAsTold_16 : decode cX4_isAsTold 16 = .ok (.ireturn, 1) := by decide +kernel
theorem dX4_isAsTold_17 : decode cX4_isAsTold 17 = .ok (.iload_n 1, 1) := by decide +kernel
theorem dX4_isAsTold_18 : decode cX4_isAsTold 18 = .ok (.bipush 20, 2) := by decide +kernel
theorem dX4_isAsTold_20 : decode cX4_isAsTold 20 = .ok (.if_icmp .ne 10, 3) := by decide +kernel
theorem dX4_isAsTold_23 : decode cX4_isAsTold 23 = .ok (.iload_n 0, 1) := by decide +kernel
theorem dX4_isAsTold_24 : decode cX4_isAsTold 24 = .ok (.invokestatic 185, 3) := by decide +kernel
theorem dX4_isAsTold_27 : decode cX4_isAsTold 27 = .ok (.goto 26, 3) := by decide +kernel
theorem dX4_isAsTold_30 : decode cX4_isAsTold 30 = .ok (.iload_n 1, 1) := by decide +kernel
theorem dX4_isAsTold_31 : decode cX4_isAsTold 31 = .ok (.i2l, 1) := by decide +kernel
theorem dX4_isAsTold_32 : decode cX4_isAsTold 32 = .ok (.ldc2_w 224, 3) := by decide +kernel
theorem dX4_isAsTold_35 : decode cX4_isAsTold 35 = .ok (.ldc2_w 226, 3) := by decide +kernel
theorem dX4_isAsTold_38 : decode cX4_isAsTold 38 = .ok (.invokestatic 87, 3) := by decide +kernel
theorem dX4_isAsTold_41 : decode cX4_isAsTold 41 = .ok (.ifCond .eq 11, 3) := by decide +kernel
theorem dX4_isAsTold_44 : decode cX4_isAsTold 44 = .ok (.iload_n 0, 1) := by decide +kernel
theorem dX4_isAsTold_45 : decode cX4_isAsTold 45 = .ok (.ifCond .ne 7, 3) := by decide +kernel
theorem dX4_isAsTold_48 : decode cX4_isAsTold 48 = .ok (.iconst 1, 1) := by decide +kernel
theorem dX4_isAsTold_49 : decode cX4_isAsTold 49 = .ok (.goto 4, 3) := by decide +kernel
theorem dX4_isAsTold_52 : decode cX4_isAsTold 52 = .ok (.iconst 0, 1) := by decide +kernel
theorem dX4_isAsTold_53 : decode cX4_isAsTold 53 = .ok (.ireturn, 1) := by decide +kernel
theorem dX4_doesPair_0 : decode cX4_doesPair 0 = .ok (.iload_n 2, 1) := by decide +kernel
theorem dX4_doesPair_1 : decode cX4_doesPair 1 = .ok (.bipush 16, 2) := by decide +kernel
theorem dX4_doesPair_3 : decode cX4_doesPair 3 = .ok (.if_icmp .ge 20, 3) := by decide +kernel
theorem dX4_doesPair_6 : decode cX4_doesPair 6 = .ok (.aload_n 0, 1) := by decide +kernel
theorem dX4_doesPair_7 : decode cX4_doesPair 7 = .ok (.iload_n 2, 1) := by decide +kernel
theorem dX4_doesPair_8 : decode cX4_doesPair 8 = .ok (.iload_n 1, 1) := by decide +kernel
theorem dX4_doesPair_9 : decode cX4_doesPair 9 = .ok (.invokevirtual 228, 3) := by decide +kernel
theorem dX4_doesPair_12 : decode cX4_doesPair 12 = .ok (.ifCond .lt 7, 3) := by decide +kernel
theorem dX4_doesPair_15 : decode cX4_doesPair 15 = .ok (.iconst 1, 1) := by decide +kernel
theorem dX4_doesPair_16 : decode cX4_doesPair 16 = .ok (.goto 45, 3) := by decide +kernel
theorem dX4_doesPair_19 : decode cX4_doesPair 19 = .ok (.iconst 0, 1) := by decide +kernel
theorem dX4_doesPair_20 : decode cX4_doesPair 20 = .ok (.goto 41, 3) := by decide +kernel
theorem dX4_doesPair_23 : decode cX4_doesPair 23 = .ok (.iload_n 2, 1) := by decide +kernel
theorem dX4_doesPair_24 : decode cX4_doesPair 24 = .ok (.bipush 20, 2) := by decide +kernel
theorem dX4_doesPair_26 : decode cX4_doesPair 26 = .ok (.if_icmp .ne 19, 3) := by decide +kernel
theorem dX4_doesPair_29 : decode cX4_doesPair 29 = .ok (.aload_n 0, 1) := by decide +kernel
theorem dX4_doesPair_30 : decode cX4_doesPair 30 = .ok (.iload_n 1, 1) := by decide +kernel
theorem dX4_doesPair_31 : decode cX4_doesPair 31 = .ok (.invokevirtual 231, 3) := by decide +kernel
theorem dX4_doesPair_34 : decode cX4_doesPair 34 = .ok (.ifCond .lt 7, 3) := by decide +kernel
theorem dX4_doesPair_37 : decode cX4_doesPair 37 = .ok (.iconst 1, 1) := by decide +kernel
theorem dX4_doesPair_38 : decode cX4_doesPair 38 = .ok (.goto 23, 3) := by decide +kernel
theorem dX4_doesPair_41 : decode cX4_doesPair 41 = .ok (.iconst 0, 1) := by decide +kernel
theorem dX4_doesPair_42 : decode cX4_doesPair 42 = .ok (.goto 19, 3) := by decide +kernel
theorem dX4_doesPair_45 : decode cX4_doesPair 45 = .ok (.aload_n 0, 1) := by decide +kernel
theorem dX4_doesPair_46 : decode cX4_doesPair 46 = .ok (.iload_n 2, 1) := by decide +kernel
theorem dX4_doesPair_47 : decode cX4_doesPair 47 = .ok (.bipush 30, 2) := by decide +kernel
theorem dX4_doesPair_49 : decode cX4_doesPair 49 = .ok (.isub, 1) := by decide +kernel
theorem dX4_doesPair_50 : decode cX4_doesPair 50 = .ok (.invokevirtual 234, 3) := by decide +kernel
theorem dX4_doesPair_53 : decode cX4_doesPair 53 = .ok (.ifCond .lt 7, 3) := by decide +kernel
theorem dX4_doesPair_56 : decode cX4_doesPair 56 = .ok (.iconst 1, 1) := by decide +kernel
theorem dX4_doesPair_57 : decode cX4_doesPair 57 = .ok (.goto 4, 3) := by decide +kernel
theorem dX4_doesPair_60 : decode cX4_doesPair 60 = .ok (.iconst 0, 1) := by decide +kernel
theorem dX4_doesPair_61 : decode cX4_doesPair 61 = .ok (.ireturn, 1) := by decide +kernel
theorem dX4_dayOf_0 : decode cX4_dayOf 0 = .ok (.bipush (-9), 2) := by decide +kernel
theorem dX4_dayOf_2 : decode cX4_dayOf 2 = .ok (.istore 4, 2) := by decide +kernel
theorem dX4_dayOf_4 : decode cX4_dayOf 4 = .ok (.iconst 0, 1) := by decide +kernel
theorem dX4_dayOf_5 : decode cX4_dayOf 5 = .ok (.istore 5, 2) := by decide +kernel
theorem dX4_dayOf_7 : decode cX4_dayOf 7 = .ok (.iload 5, 2) := by decide +kernel
theorem dX4_dayOf_9 : decode cX4_dayOf 9 = .ok (.iload_n 2, 1) := by decide +kernel
theorem dX4_dayOf_10 : decode cX4_dayOf 10 = .ok (.if_icmp .ge 54, 3) := by decide +kernel
theorem dX4_dayOf_13 : decode cX4_dayOf 13 = .ok (.iload 4, 2) := by decide +kernel
theorem dX4_dayOf_15 : decode cX4_dayOf 15 = .ok (.ifCond .ge 49, 3) := by decide +kernel
theorem dX4_dayOf_18 : decode cX4_dayOf 18 = .ok (.aload_n 0, 1) := by decide +kernel
theorem dX4_dayOf_19 : decode cX4_dayOf 19 = .ok (.aload_n 0, 1) := by decide +kernel
theorem dX4_dayOf_20 : decode cX4_dayOf 20 = .ok (.getfield 68, 3) := by decide +kernel
theorem dX4_dayOf_23 : decode cX4_dayOf 23 = .ok (.iload_n 1, 1) := by decide +kernel
theorem dX4_dayOf_24 : decode cX4_dayOf 24 = .ok (.iconst 2, 1) := by decide +kernel
theorem dX4_dayOf_25 : decode cX4_dayOf 25 = .ok (.iload 5, 2) := by decide +kernel
theorem dX4_dayOf_27 : decode cX4_dayOf 27 = .ok (.imul, 1) := by decide +kernel
theorem dX4_dayOf_28 : decode cX4_dayOf 28 = .ok (.iadd, 1) := by decide +kernel
theorem dX4_dayOf_29 : decode cX4_dayOf 29 = .ok (.iaload, 1) := by decide +kernel
theorem dX4_dayOf_30 : decode cX4_dayOf 30 = .ok (.aload_n 0, 1) := by decide +kernel
theorem dX4_dayOf_31 : decode cX4_dayOf 31 = .ok (.getfield 68, 3) := by decide +kernel
theorem dX4_dayOf_34 : decode cX4_dayOf 34 = .ok (.iload_n 1, 1) := by decide +kernel
theorem dX4_dayOf_35 : decode cX4_dayOf 35 = .ok (.iconst 2, 1) := by decide +kernel
theorem dX4_dayOf_36 : decode cX4_dayOf 36 = .ok (.iload 5, 2) := by decide +kernel
theorem dX4_dayOf_38 : decode cX4_dayOf 38 = .ok (.imul, 1) := by decide +kernel
theorem dX4_dayOf_39 : decode cX4_dayOf 39 = .ok (.iadd, 1) := by decide +kernel
theorem dX4_dayOf_40 : decode cX4_dayOf 40 = .ok (.iconst 1, 1) := by decide +kernel
theorem dX4_dayOf_41 : decode cX4_dayOf 41 = .ok (.iadd, 1) := by decide +kernel
theorem dX4_dayOf_42 : decode cX4_dayOf 42 = .ok (.iaload, 1) := by decide +kernel
theorem dX4_dayOf_43 : decode cX4_dayOf 43 = .ok (.invokevirtual 237, 3) := by decide +kernel
theorem dX4_dayOf_46 : decode cX4_dayOf 46 = .ok (.ifCond .eq 8, 3) := by decide +kernel
theorem dX4_dayOf_49 : decode cX4_dayOf 49 = .ok (.bipush (-9), 2) := by decide +kernel
theorem dX4_dayOf_51 : decode cX4_dayOf 51 = .ok (.goto 5, 3) := by decide +kernel
theorem dX4_dayOf_54 : decode cX4_dayOf 54 = .ok (.iload 5, 2) := by decide +kernel
theorem dX4_dayOf_56 : decode cX4_dayOf 56 = .ok (.istore 4, 2) := by decide +kernel
theorem dX4_dayOf_58 : decode cX4_dayOf 58 = .ok (.iinc 5 1, 3) := by decide +kernel
theorem dX4_dayOf_61 : decode cX4_dayOf 61 = .ok (.goto (-54), 3) := by decide +kernel
theorem dX4_dayOf_64 : decode cX4_dayOf 64 = .ok (.iload_n 3, 1) := by decide +kernel
theorem dX4_dayOf_65 : decode cX4_dayOf 65 = .ok (.iconst 1, 1) := by decide +kernel
theorem dX4_dayOf_66 : decode cX4_dayOf 66 = .ok (.if_icmp .ne 6, 3) := by decide +kernel
theorem dX4_dayOf_69 : decode cX4_dayOf 69 = .ok (.iload 4, 2) := by decide +kernel
theorem dX4_dayOf_71 : decode cX4_dayOf 71 = .ok (.ireturn, 1) := by decide +kernel
theorem dX4_dayOf_72 : decode cX4_dayOf 72 = .ok (.iload 4, 2) := by decide +kernel
theorem dX4_dayOf_74 : decode cX4_dayOf 74 = .ok (.ifCond .lt 9, 3) := by decide +kernel
theorem dX4_dayOf_77 : decode cX4_dayOf 77 = .ok (.bipush (-100), 2) := by decide +kernel
theorem dX4_dayOf_79 : decode cX4_dayOf 79 = .ok (.iload 4, 2) := by decide +kernel
theorem dX4_dayOf_81 : decode cX4_dayOf 81 = .ok (.isub, 1) := by decide +kernel
theorem dX4_dayOf_82 : decode cX4_dayOf 82 = .ok (.ireturn, 1) := by decide +kernel
theorem dX4_dayOf_83 : decode cX4_dayOf 83 = .ok (.iload_n 3, 1) := by decide +kernel
theorem dX4_dayOf_84 : decode cX4_dayOf 84 = .ok (.bipush 10, 2) := by decide +kernel
theorem dX4_dayOf_86 : decode cX4_dayOf 86 = .ok (.if_icmp .lt 29, 3) := by decide +kernel
theorem dX4_dayOf_89 : decode cX4_dayOf 89 = .ok (.aload_n 0, 1) := by decide +kernel
theorem dX4_dayOf_90 : decode cX4_dayOf 90 = .ok (.iload_n 3, 1) := by decide +kernel
theorem dX4_dayOf_91 : decode cX4_dayOf 91 = .ok (.bipush 10, 2) := by decide +kernel
theorem dX4_dayOf_93 : decode cX4_dayOf 93 = .ok (.isub, 1) := by decide +kernel
theorem dX4_dayOf_94 : decode cX4_dayOf 94 = .ok (.invokevirtual 171, 3) := by decide +kernel
theorem dX4_dayOf_97 : decode cX4_dayOf 97 = .ok (.ifCond .eq 8, 3) := by decide +kernel
theorem dX4_dayOf_100 : decode cX4_dayOf 100 = .ok (.bipush (-9), 2) := by decide +kernel
theorem dX4_dayOf_102 : decode cX4_dayOf 102 = .ok (.goto 12, 3) := by decide +kernel
theorem dX4_dayOf_105 : decode cX4_dayOf 105 = .ok (.aload_n 0, 1) := by decide +kernel
theorem dX4_dayOf_106 : decode cX4_dayOf 106 = .ok (.getfield 22, 3) := by decide +kernel
theorem dX4_dayOf_109 : decode cX4_dayOf 109 = .ok (.iload_n 3, 1) := by decide +kernel
theorem dX4_dayOf_110 : decode cX4_dayOf 110 = .ok (.bipush 10, 2) := by decide +kernel
theorem dX4_dayOf_112 : decode cX4_dayOf 112 = .ok (.isub, 1) := by decide +kernel
theorem dX4_dayOf_113 : decode cX4_dayOf 113 = .ok (.iaload, 1) := by decide +kernel
theorem dX4_dayOf_114 : decode cX4_dayOf 114 = .ok (.ireturn, 1) := by decide +kernel
theorem dX4_dayOf_115 : decode cX4_dayOf 115 = .ok (.aload_n 0, 1) := by decide +kernel
theorem dX4_dayOf_116 : decode cX4_dayOf 116 = .ok (.invokevirtual 162, 3) := by decide +kernel
theorem dX4_dayOf_119 : decode cX4_dayOf 119 = .ok (.iconst 0, 1) := by decide +kernel
theorem dX4_dayOf_120 : decode cX4_dayOf 120 = .ok (.istore 5, 2) := by decide +kernel
theorem dX4_dayOf_122 : decode cX4_dayOf 122 = .ok (.iconst 0, 1) := by decide +kernel
theorem dX4_dayOf_123 : decode cX4_dayOf 123 = .ok (.istore 6, 2) := by decide +kernel
theorem dX4_dayOf_125 : decode cX4_dayOf 125 = .ok (.iload 6, 2) := by decide +kernel
theorem dX4_dayOf_127 : decode cX4_dayOf 127 = .ok (.aload_n 0, 1) := by decide +kernel
theorem dX4_dayOf_128 : decode cX4_dayOf 128 = .ok (.getfield 91, 3) := by decide +kernel
theorem dX4_dayOf_131 : decode cX4_dayOf 131 = .ok (.if_icmp .ge 23, 3) := by decide +kernel
theorem dX4_dayOf_134 : decode cX4_dayOf 134 = .ok (.iload 5, 2) := by decide +kernel
theorem dX4_dayOf_136 : decode cX4_dayOf 136 = .ok (.aload_n 0, 1) := by decide +kernel
theorem dX4_dayOf_137 : decode cX4_dayOf 137 = .ok (.iload 6, 2) := by decide +kernel
theorem dX4_dayOf_139 : decode cX4_dayOf 139 = .ok (.invokevirtual 177, 3) := by decide +kernel
theorem dX4_dayOf_142 : decode cX4_dayOf 142 = .ok (.invokestatic 195, 3) := by decide +kernel
theorem dX4_dayOf_145 : decode cX4_dayOf 145 = .ok (.iadd, 1) := by decide +kernel
theorem dX4_dayOf_146 : decode cX4_dayOf 146 = .ok (.istore 5, 2) := by decide +kernel
theorem dX4_dayOf_148 : decode cX4_dayOf 148 = .ok (.iinc 6 1, 3) := by decide +kernel
theorem dX4_dayOf_151 : decode cX4_dayOf 151 = .ok (.goto (-26), 3) := by decide +kernel
theorem dX4_dayOf_154 : decode cX4_dayOf 154 = .ok (.iload_n 3, 1) := by decide +kernel
theorem dX4_dayOf_155 : decode cX4_dayOf 155 = .ok (.ifCond .ne 10, 3) := by decide +kernel
theorem dX4_dayOf_158 : decode cX4_dayOf 158 = .ok (.aload_n 0, 1) := by decide +kernel
theorem dX4_dayOf_159 : decode cX4_dayOf 159 = .ok (.invokevirtual 240, 3) := by decide +kernel
theorem dX4_dayOf_162 : decode cX4_dayOf 162 = .ok (.goto 31, 3) := by decide +kernel
theorem dX4_dayOf_165 : decode cX4_dayOf 165 = .ok (.iload_n 3, 1) := by decide +kernel
theorem dX4_dayOf_166 : decode cX4_dayOf 166 = .ok (.iconst 2, 1) := by decide +kernel
theorem dX4_dayOf_167 : decode cX4_dayOf 167 = .ok (.if_icmp .ne 12, 3) := by decide +kernel
theorem dX4_dayOf_170 : decode cX4_dayOf 170 = .ok (.aload_n 0, 1) := by decide +kernel
theorem dX4_dayOf_171 : decode cX4_dayOf 171 = .ok (.bipush 15, 2) := by decide +kernel
theorem dX4_dayOf_173 : decode cX4_dayOf 173 = .ok (.invokevirtual 210, 3) := by decide +kernel
theorem dX4_dayOf_176 : decode cX4_dayOf 176 = .ok (.goto 17, 3) := by decide +kernel
theorem dX4_dayOf_179 : decode cX4_dayOf 179 = .ok (.iload_n 3, 1) := by decide +kernel
theorem dX4_dayOf_180 : decode cX4_dayOf 180 = .ok (.iconst 3, 1) := by decide +kernel
theorem dX4_dayOf_181 : decode cX4_dayOf 181 = .ok (.if_icmp .ne 10, 3) := by decide +kernel
theorem dX4_dayOf_184 : decode cX4_dayOf 184 = .ok (.aload_n 0, 1) := by decide +kernel
theorem dX4_dayOf_185 : decode cX4_dayOf 185 = .ok (.invokevirtual 213, 3) := by decide +kernel
theorem dX4_dayOf_188 : decode cX4_dayOf 188 = .ok (.goto 5, 3) := by decide +kernel
theorem dX4_dayOf_191 : decode cX4_dayOf 191 = .ok (.iload 5, 2) := by decide +kernel
theorem dX4_dayOf_193 : decode cX4_dayOf 193 = .ok (.ireturn, 1) := by decide +kernel
theorem dX4_day_0 : decode cX4_day 0 = .ok (.iload_n 1, 1) := by decide +kernel
theorem dX4_day_1 : decode cX4_day 1 = .ok (.invokestatic 128, 3) := by decide +kernel
theorem dX4_day_4 : decode cX4_day 4 = .ok (.ifCond .eq 9, 3) := by decide +kernel
theorem dX4_day_7 : decode cX4_day 7 = .ok (.aload_n 0, 1) := by decide +kernel
theorem dX4_day_8 : decode cX4_day 8 = .ok (.iconst (-1), 1) := by decide +kernel
theorem dX4_day_9 : decode cX4_day 9 = .ok (.invokevirtual 132, 3) := by decide +kernel
theorem dX4_day_12 : decode cX4_day 12 = .ok (.ireturn, 1) := by decide +kernel
theorem dX4_day_13 : decode cX4_day 13 = .ok (.iload_n 2, 1) := by decide +kernel
theorem dX4_day_14 : decode cX4_day 14 = .ok (.i2l, 1) := by decide +kernel
theorem dX4_day_15 : decode cX4_day 15 = .ok (.lconst 0, 1) := by decide +kernel
theorem dX4_day_16 : decode cX4_day 16 = .ok (.ldc2_w 135, 3) := by decide +kernel
theorem dX4_day_19 : decode cX4_day 19 = .ok (.invokestatic 87, 3) := by decide +kernel
theorem dX4_day_22 : decode cX4_day 22 = .ok (.ifCond .eq 44, 3) := by decide +kernel
theorem dX4_day_25 : decode cX4_day 25 = .ok (.iload 4, 2) := by decide +kernel
theorem dX4_day_27 : decode cX4_day 27 = .ok (.i2l, 1) := by decide +kernel
theorem dX4_day_28 : decode cX4_day 28 = .ok (.lconst 0, 1) := by decide +kernel
theorem dX4_day_29 : decode cX4_day 29 = .ok (.ldc2_w 220, 3) := by decide +kernel
theorem dX4_day_32 : decode cX4_day 32 = .ok (.invokestatic 87, 3) := by decide +kernel
theorem dX4_day_35 : decode cX4_day 35 = .ok (.ifCond .eq 31, 3) := by decide +kernel
theorem dX4_day_38 : decode cX4_day 38 = .ok (.iload 5, 2) := by decide +kernel
theorem dX4_day_40 : decode cX4_day 40 = .ok (.i2l, 1) := by decide +kernel
theorem dX4_day_41 : decode cX4_day 41 = .ok (.lconst 0, 1) := by decide +kernel
theorem dX4_day_42 : decode cX4_day 42 = .ok (.ldc2_w 190, 3) := by decide +kernel
theorem dX4_day_45 : decode cX4_day 45 = .ok (.invokestatic 87, 3) := by decide +kernel
theorem dX4_day_48 : decode cX4_day 48 = .ok (.ifCond .ne 25, 3) := by decide +kernel
theorem dX4_day_51 : decode cX4_day 51 = .ok (.iload 5, 2) := by decide +kernel
theorem dX4_day_53 : decode cX4_day 53 = .ok (.i2l, 1) := by decide +kernel
theorem dX4_day_54 : decode cX4_day 54 = .ok (.ldc2_w 243, 3) := by decide +kernel
theorem dX4_day_57 : decode cX4_day 57 = .ok (.ldc2_w 245, 3) := by decide +kernel
theorem dX4_day_60 : decode cX4_day 60 = .ok (.invokestatic 87, 3) := by decide +kernel
theorem dX4_day_63 : decode cX4_day 63 = .ok (.ifCond .ne 10, 3) := by decide +kernel
theorem dX4_day_66 : decode cX4_day 66 = .ok (.aload_n 0, 1) := by decide +kernel
theorem dX4_day_67 : decode cX4_day 67 = .ok (.bipush (-2), 2) := by decide +kernel
theorem dX4_day_69 : decode cX4_day 69 = .ok (.invokevirtual 132, 3) := by decide +kernel
theorem dX4_day_72 : decode cX4_day 72 = .ok (.ireturn, 1) := by decide +kernel
theorem dX4_day_73 : decode cX4_day 73 = .ok (.aload_n 0, 1) := by decide +kernel
theorem dX4_day_74 : decode cX4_day 74 = .ok (.getfield 84, 3) := by decide +kernel
theorem dX4_day_77 : decode cX4_day 77 = .ok (.ifCond .ne 10, 3) := by decide +kernel
theorem dX4_day_80 : decode cX4_day 80 = .ok (.aload_n 0, 1) := by decide +kernel
theorem dX4_day_81 : decode cX4_day 81 = .ok (.bipush (-3), 2) := by decide +kernel
theorem dX4_day_83 : decode cX4_day 83 = .ok (.invokevirtual 132, 3) := by decide +kernel
theorem dX4_day_86 : decode cX4_day 86 = .ok (.ireturn, 1) := by decide +kernel
theorem dX4_day_87 : decode cX4_day 87 = .ok (.aload_n 0, 1) := by decide +kernel
theorem dX4_day_88 : decode cX4_day 88 = .ok (.iload_n 1, 1) := by decide +kernel
theorem dX4_day_89 : decode cX4_day 89 = .ok (.iload_n 2, 1) := by decide +kernel
theorem dX4_day_90 : decode cX4_day 90 = .ok (.iload_n 3, 1) := by decide +kernel
theorem dX4_day_91 : decode cX4_day 91 = .ok (.ldc2_w 135, 3) := by decide +kernel
theorem dX4_day_94 : decode cX4_day 94 = .ok (.iload 4, 2) := by decide +kernel
theorem dX4_day_96 : decode cX4_day 96 = .ok (.i2l, 1) := by decide +kernel
theorem dX4_day_97 : decode cX4_day 97 = .ok (.lmul, 1) := by decide +kernel
theorem dX4_day_98 : decode cX4_day 98 = .ok (.invokevirtual 137, 3) := by decide +kernel
theorem dX4_day_101 : decode cX4_day 101 = .ok (.istore 6, 2) := by decide +kernel
theorem dX4_day_103 : decode cX4_day 103 = .ok (.iload 6, 2) := by decide +kernel
theorem dX4_day_105 : decode cX4_day 105 = .ok (.ifCond .ge 6, 3) := by decide +kernel
theorem dX4_day_108 : decode cX4_day 108 = .ok (.iload 6, 2) := by decide +kernel
theorem dX4_day_110 : decode cX4_day 110 = .ok (.ireturn, 1) := by decide +kernel
theorem dX4_day_111 : decode cX4_day 111 = .ok (.bipush 60, 2) := by decide +kernel
theorem dX4_day_113 : decode cX4_day 113 = .ok (.iload_n 1, 1) := by decide +kernel
theorem dX4_day_114 : decode cX4_day 114 = .ok (.imul, 1) := by decide +kernel
theorem dX4_day_115 : decode cX4_day 115 = .ok (.iload_n 3, 1) := by decide +kernel
theorem dX4_day_116 : decode cX4_day 116 = .ok (.iadd, 1) := by decide +kernel
theorem dX4_day_117 : decode cX4_day 117 = .ok (.istore 7, 2) := by decide +kernel
theorem dX4_day_119 : decode cX4_day 119 = .ok (.iconst 0, 1) := by decide +kernel
theorem dX4_day_120 : decode cX4_day 120 = .ok (.istore 8, 2) := by decide +kernel
theorem dX4_day_122 : decode cX4_day 122 = .ok (.iload 8, 2) := by decide +kernel
theorem dX4_day_124 : decode cX4_day 124 = .ok (.iload 4, 2) := by decide +kernel
theorem dX4_day_126 : decode cX4_day 126 = .ok (.if_icmp .ge 48, 3) := by decide +kernel
theorem dX4_day_129 : decode cX4_day 129 = .ok (.aload_n 0, 1) := by decide +kernel
theorem dX4_day_130 : decode cX4_day 130 = .ok (.getfield 68, 3) := by decide +kernel
theorem dX4_day_133 : decode cX4_day 133 = .ok (.iload 7, 2) := by decide +kernel
theorem dX4_day_135 : decode cX4_day 135 = .ok (.iconst 2, 1) := by decide +kernel
theorem dX4_day_136 : decode cX4_day 136 = .ok (.iload 8, 2) := by decide +kernel
theorem dX4_day_138 : decode cX4_day 138 = .ok (.imul, 1) := by decide +kernel
theorem dX4_day_139 : decode cX4_day 139 = .ok (.iadd, 1) := by decide +kernel
theorem dX4_day_140 : decode cX4_day 140 = .ok (.iaload, 1) := by decide +kernel
theorem dX4_day_141 : decode cX4_day 141 = .ok (.aload_n 0, 1) := by decide +kernel
theorem dX4_day_142 : decode cX4_day 142 = .ok (.getfield 68, 3) := by decide +kernel
theorem dX4_day_145 : decode cX4_day 145 = .ok (.iload 7, 2) := by decide +kernel
theorem dX4_day_147 : decode cX4_day 147 = .ok (.iconst 2, 1) := by decide +kernel
theorem dX4_day_148 : decode cX4_day 148 = .ok (.iload 8, 2) := by decide +kernel
theorem dX4_day_150 : decode cX4_day 150 = .ok (.imul, 1) := by decide +kernel
theorem dX4_day_151 : decode cX4_day 151 = .ok (.iadd, 1) := by decide +kernel
theorem dX4_day_152 : decode cX4_day 152 = .ok (.iconst 1, 1) := by decide +kernel
theorem dX4_day_153 : decode cX4_day 153 = .ok (.iadd, 1) := by decide +kernel
theorem dX4_day_154 : decode cX4_day 154 = .ok (.iaload, 1) := by decide +kernel
theorem dX4_day_155 : decode cX4_day 155 = .ok (.invokestatic 247, 3) := by decide +kernel
theorem dX4_day_158 : decode cX4_day 158 = .ok (.ifCond .ne 10, 3) := by decide +kernel
theorem dX4_day_161 : decode cX4_day 161 = .ok (.aload_n 0, 1) := by decide +kernel
theorem dX4_day_162 : decode cX4_day 162 = .ok (.bipush (-2), 2) := by decide +kernel
theorem dX4_day_164 : decode cX4_day 164 = .ok (.invokevirtual 132, 3) := by decide +kernel
theorem dX4_day_167 : decode cX4_day 167 = .ok (.ireturn, 1) := by decide +kernel
theorem dX4_day_168 : decode cX4_day 168 = .ok (.iinc 8 1, 3) := by decide +kernel
theorem dX4_day_171 : decode cX4_day 171 = .ok (.goto (-49), 3) := by decide +kernel
theorem dX4_day_174 : decode cX4_day 174 = .ok (.aload_n 0, 1) := by decide +kernel
theorem dX4_day_175 : decode cX4_day 175 = .ok (.getfield 144, 3) := by decide +kernel
theorem dX4_day_178 : decode cX4_day 178 = .ok (.istore 8, 2) := by decide +kernel
theorem dX4_day_180 : decode cX4_day 180 = .ok (.iconst 0, 1) := by decide +kernel
theorem dX4_day_181 : decode cX4_day 181 = .ok (.istore 9, 2) := by decide +kernel
theorem dX4_day_183 : decode cX4_day 183 = .ok (.iload 9, 2) := by decide +kernel
theorem dX4_day_185 : decode cX4_day 185 = .ok (.aload_n 0, 1) := by decide +kernel
theorem dX4_day_186 : decode cX4_day 186 = .ok (.getfield 91, 3) := by decide +kernel
theorem dX4_day_189 : decode cX4_day 189 = .ok (.if_icmp .ge 23, 3) := by decide +kernel
theorem dX4_day_192 : decode cX4_day 192 = .ok (.aload_n 0, 1) := by decide +kernel
theorem dX4_day_193 : decode cX4_day 193 = .ok (.getfield 43, 3) := by decide +kernel
theorem dX4_day_196 : decode cX4_day 196 = .ok (.iload 9, 2) := by decide +kernel
theorem dX4_day_198 : decode cX4_day 198 = .ok (.aload_n 0, 1) := by decide +kernel
theorem dX4_day_199 : decode cX4_day 199 = .ok (.getfield 22, 3) := by decide +kernel
theorem dX4_day_202 : decode cX4_day 202 = .ok (.iload 9, 2) := by decide +kernel
theorem dX4_day_204 : decode cX4_day 204 = .ok (.iaload, 1) := by decide +kernel
theorem dX4_day_205 : decode cX4_day 205 = .ok (.iastore, 1) := by decide +kernel
theorem dX4_day_206 : decode cX4_day 206 = .ok (.iinc 9 1, 3) := by decide +kernel
theorem dX4_day_209 : decode cX4_day 209 = .ok (.goto (-26), 3) := by decide +kernel
theorem dX4_day_212 : decode cX4_day 212 = .ok (.iconst 0, 1) := by decide +kernel
theorem dX4_day_213 : decode cX4_day 213 = .ok (.istore 9, 2) := by decide +kernel
theorem dX4_day_215 : decode cX4_day 215 = .ok (.iload 9, 2) := by decide +kernel
theorem dX4_day_217 : decode cX4_day 217 = .ok (.aload_n 0, 1) := by decide +kernel
theorem dX4_day_218 : decode cX4_day 218 = .ok (.getfield 84, 3) := by decide +kernel
theorem dX4_day_221 : decode cX4_day 221 = .ok (.if_icmp .ge 23, 3) := by decide +kernel
theorem dX4_day_224 : decode cX4_day 224 = .ok (.aload_n 0, 1) := by decide +kernel
theorem dX4_day_225 : decode cX4_day 225 = .ok (.getfield 46, 3) := by decide +kernel
theorem dX4_day_228 : decode cX4_day 228 = .ok (.iload 9, 2) := by decide +kernel
theorem dX4_day_230 : decode cX4_day 230 = .ok (.aload_n 0, 1) := by decide +kernel
theorem dX4_day_231 : decode cX4_day 231 = .ok (.getfield 19, 3) := by decide +kernel
theorem dX4_day_234 : decode cX4_day 234 = .ok (.iload 9, 2) := by decide +kernel
theorem dX4_day_236 : decode cX4_day 236 = .ok (.iaload, 1) := by decide +kernel
theorem dX4_day_237 : decode cX4_day 237 = .ok (.iastore, 1) := by decide +kernel
theorem dX4_day_238 : decode cX4_day 238 = .ok (.iinc 9 1, 3) := by decide +kernel
theorem dX4_day_241 : decode cX4_day 241 = .ok (.goto (-26), 3) := by decide +kernel
theorem dX4_day_244 : decode cX4_day 244 = .ok (.aload_n 0, 1) := by decide +kernel
theorem dX4_day_245 : decode cX4_day 245 = .ok (.iload 7, 2) := by decide +kernel
theorem dX4_day_247 : decode cX4_day 247 = .ok (.iload 4, 2) := by decide +kernel
theorem dX4_day_249 : decode cX4_day 249 = .ok (.iload 5, 2) := by decide +kernel
theorem dX4_day_251 : decode cX4_day 251 = .ok (.invokevirtual 250, 3) := by decide +kernel
theorem dX4_day_254 : decode cX4_day 254 = .ok (.istore 9, 2) := by decide +kernel
theorem dX4_day_256 : decode cX4_day 256 = .ok (.aload_n 0, 1) := by decide +kernel
theorem dX4_day_257 : decode cX4_day 257 = .ok (.iload 8, 2) := by decide +kernel
theorem dX4_day_259 : decode cX4_day 259 = .ok (.putfield 144, 3) := by decide +kernel
theorem dX4_day_262 : decode cX4_day 262 = .ok (.iconst 0, 1) := by decide +kernel
theorem dX4_day_263 : decode cX4_day 263 = .ok (.istore 10, 2) := by decide +kernel
theorem dX4_day_265 : decode cX4_day 265 = .ok (.iload 10, 2) := by decide +kernel
theorem dX4_day_267 : decode cX4_day 267 = .ok (.aload_n 0, 1) := by decide +kernel
theorem dX4_day_268 : decode cX4_day 268 = .ok (.getfield 91, 3) := by decide +kernel
theorem dX4_day_271 : decode cX4_day 271 = .ok (.if_icmp .ge 23, 3) := by decide +kernel
theorem dX4_day_274 : decode cX4_day 274 = .ok (.aload_n 0, 1) := by decide +kernel
theorem dX4_day_275 : decode cX4_day 275 = .ok (.getfield 22, 3) := by decide +kernel
theorem dX4_day_278 : decode cX4_day 278 = .ok (.iload 10, 2) := by decide +kernel
theorem dX4_day_280 : decode cX4_day 280 = .ok (.aload_n 0, 1) := by decide +kernel
theorem dX4_day_281 : decode cX4_day 281 = .ok (.getfield 43, 3) := by decide +kernel
theorem dX4_day_284 : decode cX4_day 284 = .ok (.iload 10, 2) := by decide +kernel
theorem dX4_day_286 : decode cX4_day 286 = .ok (.iaload, 1) := by decide +kernel
theorem dX4_day_287 : decode cX4_day 287 = .ok (.iastore, 1) := by decide +kernel
theorem dX4_day_288 : decode cX4_day 288 = .ok (.iinc 10 1, 3) := by decide +kernel
theorem dX4_day_291 : decode cX4_day 291 = .ok (.goto (-26), 3) := by decide +kernel
theorem dX4_day_294 : decode cX4_day 294 = .ok (.iconst 0, 1) := by decide +kernel
theorem dX4_day_295 : decode cX4_day 295 = .ok (.istore 10, 2) := by decide +kernel
theorem dX4_day_297 : decode cX4_day 297 = .ok (.iload 10, 2) := by decide +kernel
theorem dX4_day_299 : decode cX4_day 299 = .ok (.aload_n 0, 1) := by decide +kernel
theorem dX4_day_300 : decode cX4_day 300 = .ok (.getfield 84, 3) := by decide +kernel
theorem dX4_day_303 : decode cX4_day 303 = .ok (.if_icmp .ge 23, 3) := by decide +kernel
theorem dX4_day_306 : decode cX4_day 306 = .ok (.aload_n 0, 1) := by decide +kernel
theorem dX4_day_307 : decode cX4_day 307 = .ok (.getfield 19, 3) := by decide +kernel
theorem dX4_day_310 : decode cX4_day 310 = .ok (.iload 10, 2) := by decide +kernel
theorem dX4_day_312 : decode cX4_day 312 = .ok (.aload_n 0, 1) := by decide +kernel
theorem dX4_day_313 : decode cX4_day 313 = .ok (.getfield 46, 3) := by decide +kernel
theorem dX4_day_316 : decode cX4_day 316 = .ok (.iload 10, 2) := by decide +kernel
theorem dX4_day_318 : decode cX4_day 318 = .ok (.iaload, 1) := by decide +kernel
theorem dX4_day_319 : decode cX4_day 319 = .ok (.iastore, 1) := by decide +kernel
theorem dX4_day_320 : decode cX4_day 320 = .ok (.iinc 10 1, 3) := by decide +kernel
theorem dX4_day_323 : decode cX4_day 323 = .ok (.goto (-26), 3) := by decide +kernel
theorem dX4_day_326 : decode cX4_day 326 = .ok (.aload_n 0, 1) := by decide +kernel
theorem dX4_day_327 : decode cX4_day 327 = .ok (.iload 9, 2) := by decide +kernel
theorem dX4_day_329 : decode cX4_day 329 = .ok (.invokevirtual 132, 3) := by decide +kernel
theorem dX4_day_332 : decode cX4_day 332 = .ok (.ireturn, 1) := by decide +kernel
theorem dX4_reading_0 : decode cX4_reading 0 = .ok (.aload_n 0, 1) := by decide +kernel
theorem dX4_reading_1 : decode cX4_reading 1 = .ok (.iload_n 2, 1) := by decide +kernel
theorem dX4_reading_2 : decode cX4_reading 2 = .ok (.invokevirtual 171, 3) := by decide +kernel
theorem dX4_reading_5 : decode cX4_reading 5 = .ok (.ifCond .eq 5, 3) := by decide +kernel
theorem dX4_reading_8 : decode cX4_reading 8 = .ok (.iconst (-1), 1) := by decide +kernel
theorem dX4_reading_9 : decode cX4_reading 9 = .ok (.ireturn, 1) := by decide +kernel
theorem dX4_reading_10 : decode cX4_reading 10 = .ok (.iload_n 1, 1) := by decide +kernel
theorem dX4_reading_11 : decode cX4_reading 11 = .ok (.i2l, 1) := by decide +kernel
theorem dX4_reading_12 : decode cX4_reading 12 = .ok (.lconst 0, 1) := by decide +kernel
theorem dX4_reading_13 : decode cX4_reading 13 = .ok (.ldc2_w 188, 3) := by decide +kernel
theorem dX4_reading_16 : decode cX4_reading 16 = .ok (.invokestatic 87, 3) := by decide +kernel
theorem dX4_reading_19 : decode cX4_reading 19 = .ok (.ifCond .eq 13, 3) := by decide +kernel
theorem dX4_reading_22 : decode cX4_reading 22 = .ok (.iload_n 3, 1) := by decide +kernel
theorem dX4_reading_23 : decode cX4_reading 23 = .ok (.i2l, 1) := by decide +kernel
theorem dX4_reading_24 : decode cX4_reading 24 = .ok (.lconst 0, 1) := by decide +kernel
theorem dX4_reading_25 : decode cX4_reading 25 = .ok (.lconst 1, 1) := by decide +kernel
theorem dX4_reading_26 : decode cX4_reading 26 = .ok (.invokestatic 87, 3) := by decide +kernel
theorem dX4_reading_29 : decode cX4_reading 29 = .ok (.ifCond .ne 6, 3) := by decide +kernel
theorem dX4_reading_32 : decode cX4_reading 32 = .ok (.bipush (-2), 2) := by decide +kernel
theorem dX4_reading_34 : decode cX4_reading 34 = .ok (.ireturn, 1) := by decide +kernel
theorem dX4_reading_35 : decode cX4_reading 35 = .ok (.aload_n 0, 1) := by decide +kernel
theorem dX4_reading_36 : decode cX4_reading 36 = .ok (.getfield 147, 3) := by decide +kernel
theorem dX4_reading_39 : decode cX4_reading 39 = .ok (.bipush 8, 2) := by decide +kernel
theorem dX4_reading_41 : decode cX4_reading 41 = .ok (.if_icmp .ne 6, 3) := by decide +kernel
theorem dX4_reading_44 : decode cX4_reading 44 = .ok (.bipush (-4), 2) := by decide +kernel
theorem dX4_reading_46 : decode cX4_reading 46 = .ok (.ireturn, 1) := by decide +kernel
theorem dX4_reading_47 : decode cX4_reading 47 = .ok (.aload_n 0, 1) := by decide +kernel
theorem dX4_reading_48 : decode cX4_reading 48 = .ok (.getfield 49, 3) := by decide +kernel
theorem dX4_reading_51 : decode cX4_reading 51 = .ok (.aload_n 0, 1) := by decide +kernel
theorem dX4_reading_52 : decode cX4_reading 52 = .ok (.getfield 147, 3) := by decide +kernel
theorem dX4_reading_55 : decode cX4_reading 55 = .ok (.iload_n 1, 1) := by decide +kernel
theorem dX4_reading_56 : decode cX4_reading 56 = .ok (.iastore, 1) := by decide +kernel
theorem dX4_reading_57 : decode cX4_reading 57 = .ok (.aload_n 0, 1) := by decide +kernel
theorem dX4_reading_58 : decode cX4_reading 58 = .ok (.getfield 52, 3) := by decide +kernel
theorem dX4_reading_61 : decode cX4_reading 61 = .ok (.aload_n 0, 1) := by decide +kernel
theorem dX4_reading_62 : decode cX4_reading 62 = .ok (.getfield 147, 3) := by decide +kernel
theorem dX4_reading_65 : decode cX4_reading 65 = .ok (.iload_n 2, 1) := by decide +kernel
theorem dX4_reading_66 : decode cX4_reading 66 = .ok (.iastore, 1) := by decide +kernel
theorem dX4_reading_67 : decode cX4_reading 67 = .ok (.aload_n 0, 1) := by decide +kernel
theorem dX4_reading_68 : decode cX4_reading 68 = .ok (.getfield 55, 3) := by decide +kernel
theorem dX4_reading_71 : decode cX4_reading 71 = .ok (.aload_n 0, 1) := by decide +kernel
theorem dX4_reading_72 : decode cX4_reading 72 = .ok (.getfield 147, 3) := by decide +kernel
theorem dX4_reading_75 : decode cX4_reading 75 = .ok (.iload_n 3, 1) := by decide +kernel
theorem dX4_reading_76 : decode cX4_reading 76 = .ok (.iastore, 1) := by decide +kernel
theorem dX4_reading_77 : decode cX4_reading 77 = .ok (.aload_n 0, 1) := by decide +kernel
theorem dX4_reading_78 : decode cX4_reading 78 = .ok (.dup, 1) := by decide +kernel
theorem dX4_reading_79 : decode cX4_reading 79 = .ok (.getfield 147, 3) := by decide +kernel
theorem dX4_reading_82 : decode cX4_reading 82 = .ok (.iconst 1, 1) := by decide +kernel
theorem dX4_reading_83 : decode cX4_reading 83 = .ok (.iadd, 1) := by decide +kernel
theorem dX4_reading_84 : decode cX4_reading 84 = .ok (.putfield 147, 3) := by decide +kernel
theorem dX4_reading_87 : decode cX4_reading 87 = .ok (.aload_n 0, 1) := by decide +kernel
theorem dX4_reading_88 : decode cX4_reading 88 = .ok (.getfield 147, 3) := by decide +kernel
theorem dX4_reading_91 : decode cX4_reading 91 = .ok (.iconst 1, 1) := by decide +kernel
theorem dX4_reading_92 : decode cX4_reading 92 = .ok (.isub, 1) := by decide +kernel
theorem dX4_reading_93 : decode cX4_reading 93 = .ok (.ireturn, 1) := by decide +kernel
theorem dX4_back_0 : decode cX4_back 0 = .ok (.iload_n 1, 1) := by decide +kernel
theorem dX4_back_1 : decode cX4_back 1 = .ok (.i2l, 1) := by decide +kernel
theorem dX4_back_2 : decode cX4_back 2 = .ok (.lconst 0, 1) := by decide +kernel
theorem dX4_back_3 : decode cX4_back 3 = .ok (.aload_n 0, 1) := by decide +kernel
theorem dX4_back_4 : decode cX4_back 4 = .ok (.getfield 147, 3) := by decide +kernel
theorem dX4_back_7 : decode cX4_back 7 = .ok (.i2l, 1) := by decide +kernel
theorem dX4_back_8 : decode cX4_back 8 = .ok (.invokestatic 87, 3) := by decide +kernel
theorem dX4_back_11 : decode cX4_back 11 = .ok (.ifCond .ne 6, 3) := by decide +kernel
theorem dX4_back_14 : decode cX4_back 14 = .ok (.bipush (-2), 2) := by decide +kernel
theorem dX4_back_16 : decode cX4_back 16 = .ok (.ireturn, 1) := by decide +kernel
theorem dX4_back_17 : decode cX4_back 17 = .ok (.aload_n 0, 1) := by decide +kernel
theorem dX4_back_18 : decode cX4_back 18 = .ok (.dup, 1) := by decide +kernel
theorem dX4_back_19 : decode cX4_back 19 = .ok (.getfield 147, 3) := by decide +kernel
theorem dX4_back_22 : decode cX4_back 22 = .ok (.iload_n 1, 1) := by decide +kernel
theorem dX4_back_23 : decode cX4_back 23 = .ok (.isub, 1) := by decide +kernel
theorem dX4_back_24 : decode cX4_back 24 = .ok (.putfield 147, 3) := by decide +kernel
theorem dX4_back_27 : decode cX4_back 27 = .ok (.aload_n 0, 1) := by decide +kernel
theorem dX4_back_28 : decode cX4_back 28 = .ok (.getfield 147, 3) := by decide +kernel
theorem dX4_back_31 : decode cX4_back 31 = .ok (.ireturn, 1) := by decide +kernel
theorem dX4_areSo_0 : decode cX4_areSo 0 = .ok (.aload_n 0, 1) := by decide +kernel
theorem dX4_areSo_1 : decode cX4_areSo 1 = .ok (.invokevirtual 162, 3) := by decide +kernel
theorem dX4_areSo_4 : decode cX4_areSo 4 = .ok (.iconst 1, 1) := by decide +kernel
theorem dX4_areSo_5 : decode cX4_areSo 5 = .ok (.istore_n 1, 1) := by decide +kernel
theorem dX4_areSo_6 : decode cX4_areSo 6 = .ok (.iconst 0, 1) := by decide +kernel
theorem dX4_areSo_7 : decode cX4_areSo 7 = .ok (.istore_n 2, 1) := by decide +kernel
theorem dX4_areSo_8 : decode cX4_areSo 8 = .ok (.iload_n 2, 1) := by decide +kernel
theorem dX4_areSo_9 : decode cX4_areSo 9 = .ok (.aload_n 0, 1) := by decide +kernel
theorem dX4_areSo_10 : decode cX4_areSo 10 = .ok (.getfield 147, 3) := by decide +kernel
theorem dX4_areSo_13 : decode cX4_areSo 13 = .ok (.if_icmp .ge 52, 3) := by decide +kernel
theorem dX4_areSo_16 : decode cX4_areSo 16 = .ok (.iload_n 1, 1) := by decide +kernel
theorem dX4_areSo_17 : decode cX4_areSo 17 = .ok (.ifCond .eq 40, 3) := by decide +kernel
theorem dX4_areSo_20 : decode cX4_areSo 20 = .ok (.aload_n 0, 1) := by decide +kernel
theorem dX4_areSo_21 : decode cX4_areSo 21 = .ok (.aload_n 0, 1) := by decide +kernel
theorem dX4_areSo_22 : decode cX4_areSo 22 = .ok (.getfield 52, 3) := by decide +kernel
theorem dX4_areSo_25 : decode cX4_areSo 25 = .ok (.iload_n 2, 1) := by decide +kernel
theorem dX4_areSo_26 : decode cX4_areSo 26 = .ok (.iaload, 1) := by decide +kernel
theorem dX4_areSo_27 : decode cX4_areSo 27 = .ok (.invokevirtual 153, 3) := by decide +kernel
theorem dX4_areSo_30 : decode cX4_areSo 30 = .ok (.aload_n 0, 1) := by decide +kernel
theorem dX4_areSo_31 : decode cX4_areSo 31 = .ok (.getfield 37, 3) := by decide +kernel
theorem dX4_areSo_34 : decode cX4_areSo 34 = .ok (.aload_n 0, 1) := by decide +kernel
theorem dX4_areSo_35 : decode cX4_areSo 35 = .ok (.getfield 49, 3) := by decide +kernel
theorem dX4_areSo_38 : decode cX4_areSo 38 = .ok (.iload_n 2, 1) := by decide +kernel
theorem dX4_areSo_39 : decode cX4_areSo 39 = .ok (.iaload, 1) := by decide +kernel
theorem dX4_areSo_40 : decode cX4_areSo 40 = .ok (.iaload, 1) := by decide +kernel
theorem dX4_areSo_41 : decode cX4_areSo 41 = .ok (.ishr, 1) := by decide +kernel
theorem dX4_areSo_42 : decode cX4_areSo 42 = .ok (.iconst 1, 1) := by decide +kernel
theorem dX4_areSo_43 : decode cX4_areSo 43 = .ok (.iand, 1) := by decide +kernel
theorem dX4_areSo_44 : decode cX4_areSo 44 = .ok (.aload_n 0, 1) := by decide +kernel
theorem dX4_areSo_45 : decode cX4_areSo 45 = .ok (.getfield 55, 3) := by decide +kernel
theorem dX4_areSo_48 : decode cX4_areSo 48 = .ok (.iload_n 2, 1) := by decide +kernel
theorem dX4_areSo_49 : decode cX4_areSo 49 = .ok (.iaload, 1) := by decide +kernel
theorem dX4_areSo_50 : decode cX4_areSo 50 = .ok (.if_icmp .ne 7, 3) := by decide +kernel
theorem dX4_areSo_53 : decode cX4_areSo 53 = .ok (.iconst 1, 1) := by decide +kernel
theorem dX4_areSo_54 : decode cX4_areSo 54 = .ok (.goto 4, 3) := by decide +kernel
theorem dX4_areSo_57 : decode cX4_areSo 57 = .ok (.iconst 0, 1) := by decide +kernel
theorem dX4_areSo_58 : decode cX4_areSo 58 = .ok (.istore_n 1, 1) := by decide +kernel
theorem dX4_areSo_59 : decode cX4_areSo 59 = .ok (.iinc 2 1, 3) := by decide +kernel
theorem dX4_areSo_62 : decode cX4_areSo 62 = .ok (.goto (-54), 3) := by decide +kernel
theorem dX4_areSo_65 : decode cX4_areSo 65 = .ok (.iload_n 1, 1) := by decide +kernel
theorem dX4_areSo_66 : decode cX4_areSo 66 = .ok (.ireturn, 1) := by decide +kernel
theorem dX4_kinds_0 : decode cX4_kinds 0 = .ok (.aload_n 0, 1) := by decide +kernel
theorem dX4_kinds_1 : decode cX4_kinds 1 = .ok (.iload_n 1, 1) := by decide +kernel
theorem dX4_kinds_2 : decode cX4_kinds 2 = .ok (.invokevirtual 168, 3) := by decide +kernel
theorem dX4_kinds_5 : decode cX4_kinds 5 = .ok (.ifCond .eq 5, 3) := by decide +kernel
theorem dX4_kinds_8 : decode cX4_kinds 8 = .ok (.iconst (-1), 1) := by decide +kernel
theorem dX4_kinds_9 : decode cX4_kinds 9 = .ok (.ireturn, 1) := by decide +kernel
theorem dX4_kinds_10 : decode cX4_kinds 10 = .ok (.aload_n 0, 1) := by decide +kernel
theorem dX4_kinds_11 : decode cX4_kinds 11 = .ok (.getfield 7, 3) := by decide +kernel
theorem dX4_kinds_14 : decode cX4_kinds 14 = .ok (.iload_n 1, 1) := by decide +kernel
theorem dX4_kinds_15 : decode cX4_kinds 15 = .ok (.iaload, 1) := by decide +kernel
theorem dX4_kinds_16 : decode cX4_kinds 16 = .ok (.istore_n 2, 1) := by decide +kernel
theorem dX4_kinds_17 : decode cX4_kinds 17 = .ok (.iconst 0, 1) := by decide +kernel
theorem dX4_kinds_18 : decode cX4_kinds 18 = .ok (.istore_n 3, 1) := by decide +kernel
theorem dX4_kinds_19 : decode cX4_kinds 19 = .ok (.iconst 0, 1) := by decide +kernel
theorem dX4_kinds_20 : decode cX4_kinds 20 = .ok (.istore 4, 2) := by decide +kernel
theorem dX4_kinds_22 : decode cX4_kinds 22 = .ok (.iload 4, 2) := by decide +kernel
theorem dX4_kinds_24 : decode cX4_kinds 24 = .ok (.iconst 3, 1) := by decide +kernel
theorem dX4_kinds_25 : decode cX4_kinds 25 = .ok (.if_icmp .ge 35, 3) := by decide +kernel
theorem dX4_kinds_28 : decode cX4_kinds 28 = .ok (.aload_n 0, 1) := by decide +kernel
theorem dX4_kinds_29 : decode cX4_kinds 29 = .ok (.getfield 7, 3) := by decide +kernel
theorem dX4_kinds_32 : decode cX4_kinds 32 = .ok (.iload_n 1, 1) := by decide +kernel
theorem dX4_kinds_33 : decode cX4_kinds 33 = .ok (.iload 4, 2) := by decide +kernel
theorem dX4_kinds_35 : decode cX4_kinds 35 = .ok (.iastore, 1) := by decide +kernel
theorem dX4_kinds_36 : decode cX4_kinds 36 = .ok (.iload_n 3, 1) := by decide +kernel
theorem dX4_kinds_37 : decode cX4_kinds 37 = .ok (.aload_n 0, 1) := by decide +kernel
theorem dX4_kinds_38 : decode cX4_kinds 38 = .ok (.invokevirtual 254, 3) := by decide +kernel
theorem dX4_kinds_41 : decode cX4_kinds 41 = .ok (.ifCond .eq 10, 3) := by decide +kernel
theorem dX4_kinds_44 : decode cX4_kinds 44 = .ok (.iconst 1, 1) := by decide +kernel
theorem dX4_kinds_45 : decode cX4_kinds 45 = .ok (.iload 4, 2) := by decide +kernel
theorem dX4_kinds_47 : decode cX4_kinds 47 = .ok (.ishl, 1) := by decide +kernel
theorem dX4_kinds_48 : decode cX4_kinds 48 = .ok (.goto 4, 3) := by decide +kernel
theorem dX4_kinds_51 : decode cX4_kinds 51 = .ok (.iconst 0, 1) := by decide +kernel
theorem dX4_kinds_52 : decode cX4_kinds 52 = .ok (.ior, 1) := by decide +kernel
theorem dX4_kinds_53 : decode cX4_kinds 53 = .ok (.istore_n 3, 1) := by decide +kernel
theorem dX4_kinds_54 : decode cX4_kinds 54 = .ok (.iinc 4 1, 3) := by decide +kernel
theorem dX4_kinds_57 : decode cX4_kinds 57 = .ok (.goto (-35), 3) := by decide +kernel
theorem dX4_kinds_60 : decode cX4_kinds 60 = .ok (.aload_n 0, 1) := by decide +kernel
theorem dX4_kinds_61 : decode cX4_kinds 61 = .ok (.getfield 7, 3) := by decide +kernel
theorem dX4_kinds_64 : decode cX4_kinds 64 = .ok (.iload_n 1, 1) := by decide +kernel
theorem dX4_kinds_65 : decode cX4_kinds 65 = .ok (.iload_n 2, 1) := by decide +kernel
theorem dX4_kinds_66 : decode cX4_kinds 66 = .ok (.iastore, 1) := by decide +kernel
theorem dX4_kinds_67 : decode cX4_kinds 67 = .ok (.iload_n 3, 1) := by decide +kernel
theorem dX4_kinds_68 : decode cX4_kinds 68 = .ok (.ireturn, 1) := by decide +kernel
theorem dX4_levels_0 : decode cX4_levels 0 = .ok (.aload_n 0, 1) := by decide +kernel
theorem dX4_levels_1 : decode cX4_levels 1 = .ok (.iload_n 1, 1) := by decide +kernel
theorem dX4_levels_2 : decode cX4_levels 2 = .ok (.invokevirtual 171, 3) := by decide +kernel
theorem dX4_levels_5 : decode cX4_levels 5 = .ok (.ifCond .eq 5, 3) := by decide +kernel
theorem dX4_levels_8 : decode cX4_levels 8 = .ok (.iconst (-1), 1) := by decide +kernel
theorem dX4_levels_9 : decode cX4_levels 9 = .ok (.ireturn, 1) := by decide +kernel
theorem dX4_levels_10 : decode cX4_levels 10 = .ok (.aload_n 0, 1) := by decide +kernel
theorem dX4_levels_11 : decode cX4_levels 11 = .ok (.getfield 22, 3) := by decide +kernel
theorem dX4_levels_14 : decode cX4_levels 14 = .ok (.iload_n 1, 1) := by decide +kernel
theorem dX4_levels_15 : decode cX4_levels 15 = .ok (.iaload, 1) := by decide +kernel
theorem dX4_levels_16 : decode cX4_levels 16 = .ok (.istore_n 2, 1) := by decide +kernel
theorem dX4_levels_17 : decode cX4_levels 17 = .ok (.iconst 0, 1) := by decide +kernel
theorem dX4_levels_18 : decode cX4_levels 18 = .ok (.istore_n 3, 1) := by decide +kernel
theorem dX4_levels_19 : decode cX4_levels 19 = .ok (.iconst 0, 1) := by decide +kernel
theorem dX4_levels_20 : decode cX4_levels 20 = .ok (.istore 4, 2) := by decide +kernel
theorem dX4_levels_22 : decode cX4_levels 22 = .ok (.iload 4, 2) := by decide +kernel
theorem dX4_levels_24 : decode cX4_levels 24 = .ok (.bipush 9, 2) := by decide +kernel
theorem dX4_levels_26 : decode cX4_levels 26 = .ok (.if_icmp .gt 35, 3) := by decide +kernel
theorem dX4_levels_29 : decode cX4_levels 29 = .ok (.aload_n 0, 1) := by decide +kernel
theorem dX4_levels_30 : decode cX4_levels 30 = .ok (.getfield 22, 3) := by decide +kernel
theorem dX4_levels_33 : decode cX4_levels 33 = .ok (.iload_n 1, 1) := by decide +kernel
theorem dX4_levels_34 : decode cX4_levels 34 = .ok (.iload 4, 2) := by decide +kernel
theorem dX4_levels_36 : decode cX4_levels 36 = .ok (.iastore, 1) := by decide +kernel
theorem dX4_levels_37 : decode cX4_levels 37 = .ok (.iload_n 3, 1) := by decide +kernel
theorem dX4_levels_38 : decode cX4_levels 38 = .ok (.aload_n 0, 1) := by decide +kernel
theorem dX4_levels_39 : decode cX4_levels 39 = .ok (.invokevirtual 254, 3) := by decide +kernel
theorem dX4_levels_42 : decode cX4_levels 42 = .ok (.ifCond .eq 10, 3) := by decide +kernel
theorem dX4_levels_45 : decode cX4_levels 45 = .ok (.iconst 1, 1) := by decide +kernel
theorem dX4_levels_46 : decode cX4_levels 46 = .ok (.iload 4, 2) := by decide +kernel
theorem dX4_levels_48 : decode cX4_levels 48 = .ok (.ishl, 1) := by decide +kernel
theorem dX4_levels_49 : decode cX4_levels 49 = .ok (.goto 4, 3) := by decide +kernel
theorem dX4_levels_52 : decode cX4_levels 52 = .ok (.iconst 0, 1) := by decide +kernel
theorem dX4_levels_53 : decode cX4_levels 53 = .ok (.ior, 1) := by decide +kernel
theorem dX4_levels_54 : decode cX4_levels 54 = .ok (.istore_n 3, 1) := by decide +kernel
theorem dX4_levels_55 : decode cX4_levels 55 = .ok (.iinc 4 1, 3) := by decide +kernel
theorem dX4_levels_58 : decode cX4_levels 58 = .ok (.goto (-36), 3) := by decide +kernel
theorem dX4_levels_61 : decode cX4_levels 61 = .ok (.aload_n 0, 1) := by decide +kernel
theorem dX4_levels_62 : decode cX4_levels 62 = .ok (.getfield 22, 3) := by decide +kernel
theorem dX4_levels_65 : decode cX4_levels 65 = .ok (.iload_n 1, 1) := by decide +kernel
theorem dX4_levels_66 : decode cX4_levels 66 = .ok (.iload_n 2, 1) := by decide +kernel
theorem dX4_levels_67 : decode cX4_levels 67 = .ok (.iastore, 1) := by decide +kernel
theorem dX4_levels_68 : decode cX4_levels 68 = .ok (.iload_n 3, 1) := by decide +kernel
theorem dX4_levels_69 : decode cX4_levels 69 = .ok (.ireturn, 1) := by decide +kernel
theorem dX4_cuts_0 : decode cX4_cuts 0 = .ok (.aload_n 0, 1) := by decide +kernel
theorem dX4_cuts_1 : decode cX4_cuts 1 = .ok (.getfield 84, 3) := by decide +kernel
theorem dX4_cuts_4 : decode cX4_cuts 4 = .ok (.ifCond .ne 6, 3) := by decide +kernel
theorem dX4_cuts_7 : decode cX4_cuts 7 = .ok (.bipush (-3), 2) := by decide +kernel
theorem dX4_cuts_9 : decode cX4_cuts 9 = .ok (.ireturn, 1) := by decide +kernel
theorem dX4_cuts_10 : decode cX4_cuts 10 = .ok (.aload_n 0, 1) := by decide +kernel
theorem dX4_cuts_11 : decode cX4_cuts 11 = .ok (.getfield 144, 3) := by decide +kernel
theorem dX4_cuts_14 : decode cX4_cuts 14 = .ok (.istore_n 1, 1) := by decide +kernel
theorem dX4_cuts_15 : decode cX4_cuts 15 = .ok (.iconst 0, 1) := by decide +kernel
theorem dX4_cuts_16 : decode cX4_cuts 16 = .ok (.istore_n 2, 1) := by decide +kernel
theorem dX4_cuts_17 : decode cX4_cuts 17 = .ok (.iconst 1, 1) := by decide +kernel
theorem dX4_cuts_18 : decode cX4_cuts 18 = .ok (.istore_n 3, 1) := by decide +kernel
theorem dX4_cuts_19 : decode cX4_cuts 19 = .ok (.iload_n 3, 1) := by decide +kernel
theorem dX4_cuts_20 : decode cX4_cuts 20 = .ok (.bipush 8, 2) := by decide +kernel
theorem dX4_cuts_22 : decode cX4_cuts 22 = .ok (.if_icmp .gt 31, 3) := by decide +kernel
theorem dX4_cuts_25 : decode cX4_cuts 25 = .ok (.aload_n 0, 1) := by decide +kernel
theorem dX4_cuts_26 : decode cX4_cuts 26 = .ok (.iload_n 3, 1) := by decide +kernel
theorem dX4_cuts_27 : decode cX4_cuts 27 = .ok (.putfield 144, 3) := by decide +kernel
theorem dX4_cuts_30 : decode cX4_cuts 30 = .ok (.iload_n 2, 1) := by decide +kernel
theorem dX4_cuts_31 : decode cX4_cuts 31 = .ok (.aload_n 0, 1) := by decide +kernel
theorem dX4_cuts_32 : decode cX4_cuts 32 = .ok (.invokevirtual 254, 3) := by decide +kernel
theorem dX4_cuts_35 : decode cX4_cuts 35 = .ok (.ifCond .eq 9, 3) := by decide +kernel
theorem dX4_cuts_38 : decode cX4_cuts 38 = .ok (.iconst 1, 1) := by decide +kernel
theorem dX4_cuts_39 : decode cX4_cuts 39 = .ok (.iload_n 3, 1) := by decide +kernel
theorem dX4_cuts_40 : decode cX4_cuts 40 = .ok (.ishl, 1) := by decide +kernel
theorem dX4_cuts_41 : decode cX4_cuts 41 = .ok (.goto 4, 3) := by decide +kernel
theorem dX4_cuts_44 : decode cX4_cuts 44 = .ok (.iconst 0, 1) := by decide +kernel
theorem dX4_cuts_45 : decode cX4_cuts 45 = .ok (.ior, 1) := by decide +kernel
theorem dX4_cuts_46 : decode cX4_cuts 46 = .ok (.istore_n 2, 1) := by decide +kernel
theorem dX4_cuts_47 : decode cX4_cuts 47 = .ok (.iinc 3 1, 3) := by decide +kernel
theorem dX4_cuts_50 : decode cX4_cuts 50 = .ok (.goto (-31), 3) := by decide +kernel
theorem dX4_cuts_53 : decode cX4_cuts 53 = .ok (.aload_n 0, 1) := by decide +kernel
theorem dX4_cuts_54 : decode cX4_cuts 54 = .ok (.iload_n 1, 1) := by decide +kernel
theorem dX4_cuts_55 : decode cX4_cuts 55 = .ok (.putfield 144, 3) := by decide +kernel
theorem dX4_cuts_58 : decode cX4_cuts 58 = .ok (.iload_n 2, 1) := by decide +kernel
theorem dX4_cuts_59 : decode cX4_cuts 59 = .ok (.ireturn, 1) := by decide +kernel
theorem dX4_addsLamp_0 : decode cX4_addsLamp 0 = .ok (.bipush 16, 2) := by decide +kernel
theorem dX4_addsLamp_2 : decode cX4_addsLamp 2 = .ok (.istore_n 2, 1) := by decide +kernel
theorem dX4_addsLamp_3 : decode cX4_addsLamp 3 = .ok (.iload_n 2, 1) := by decide +kernel
theorem dX4_addsLamp_4 : decode cX4_addsLamp 4 = .ok (.ifCond .lt 49, 3) := by decide +kernel
theorem dX4_addsLamp_7 : decode cX4_addsLamp 7 = .ok (.iload_n 2, 1) := by decide +kernel
theorem dX4_addsLamp_8 : decode cX4_addsLamp 8 = .ok (.ifCond .le 17, 3) := by decide +kernel
theorem dX4_addsLamp_11 : decode cX4_addsLamp 11 = .ok (.aload_n 0, 1) := by decide +kernel
theorem dX4_addsLamp_12 : decode cX4_addsLamp 12 = .ok (.getfield 58, 3) := by decide +kernel
theorem dX4_addsLamp_15 : decode cX4_addsLamp 15 = .ok (.iload_n 2, 1) := by decide +kernel
theorem dX4_addsLamp_16 : decode cX4_addsLamp 16 = .ok (.iconst 1, 1) := by decide +kernel
theorem dX4_addsLamp_17 : decode cX4_addsLamp 17 = .ok (.isub, 1) := by decide +kernel
theorem dX4_addsLamp_18 : decode cX4_addsLamp 18 = .ok (.laload, 1) := by decide +kernel
theorem dX4_addsLamp_19 : decode cX4_addsLamp 19 = .ok (.iload_n 1, 1) := by decide +kernel
theorem dX4_addsLamp_20 : decode cX4_addsLamp 20 = .ok (.i2l, 1) := by decide +kernel
theorem dX4_addsLamp_21 : decode cX4_addsLamp 21 = .ok (.lmul, 1) := by decide +kernel
theorem dX4_addsLamp_22 : decode cX4_addsLamp 22 = .ok (.goto 4, 3) := by decide +kernel
theorem dX4_addsLamp_25 : decode cX4_addsLamp 25 = .ok (.lconst 0, 1) := by decide +kernel
theorem dX4_addsLamp_26 : decode cX4_addsLamp 26 = .ok (.lstore_n 3, 1) := by decide +kernel
theorem dX4_addsLamp_27 : decode cX4_addsLamp 27 = .ok (.aload_n 0, 1) := by decide +kernel
theorem dX4_addsLamp_28 : decode cX4_addsLamp 28 = .ok (.getfield 58, 3) := by decide +kernel
theorem dX4_addsLamp_31 : decode cX4_addsLamp 31 = .ok (.iload_n 2, 1) := by decide +kernel
theorem dX4_addsLamp_32 : decode cX4_addsLamp 32 = .ok (.aload_n 0, 1) := by decide +kernel
theorem dX4_addsLamp_33 : decode cX4_addsLamp 33 = .ok (.getfield 58, 3) := by decide +kernel
theorem dX4_addsLamp_36 : decode cX4_addsLamp 36 = .ok (.iload_n 2, 1) := by decide +kernel
theorem dX4_addsLamp_37 : decode cX4_addsLamp 37 = .ok (.laload, 1) := by decide +kernel
theorem dX4_addsLamp_38 : decode cX4_addsLamp 38 = .ok (.bipush 10, 2) := by decide +kernel
theorem dX4_addsLamp_40 : decode cX4_addsLamp 40 = .ok (.iload_n 1, 1) := by decide +kernel
theorem dX4_addsLamp_41 : decode cX4_addsLamp 41 = .ok (.isub, 1) := by decide +kernel
theorem dX4_addsLamp_42 : decode cX4_addsLamp 42 = .ok (.i2l, 1) := by decide +kernel
theorem dX4_addsLamp_43 : decode cX4_addsLamp 43 = .ok (.lmul, 1) := by decide +kernel
theorem dX4_addsLamp_44 : decode cX4_addsLamp 44 = .ok (.lload_n 3, 1) := by decide +kernel
theorem dX4_addsLamp_45 : decode cX4_addsLamp 45 = .ok (.ladd, 1) := by decide +kernel
theorem dX4_addsLamp_46 : decode cX4_addsLamp 46 = .ok (.lastore, 1) := by decide +kernel
theorem dX4_addsLamp_47 : decode cX4_addsLamp 47 = .ok (.iinc 2 (-1), 3) := by decide +kernel
theorem dX4_addsLamp_50 : decode cX4_addsLamp 50 = .ok (.goto (-47), 3) := by decide +kernel
theorem dX4_addsLamp_53 : decode cX4_addsLamp 53 = .ok (.return_, 1) := by decide +kernel
theorem dX4_levelsLit_0 : decode cX4_levelsLit 0 = .ok (.iconst 0, 1) := by decide +kernel
theorem dX4_levelsLit_1 : decode cX4_levelsLit 1 = .ok (.istore_n 2, 1) := by decide +kernel
theorem dX4_levelsLit_2 : decode cX4_levelsLit 2 = .ok (.iconst 0, 1) := by decide +kernel
theorem dX4_levelsLit_3 : decode cX4_levelsLit 3 = .ok (.istore_n 3, 1) := by decide +kernel
theorem dX4_levelsLit_4 : decode cX4_levelsLit 4 = .ok (.iload_n 3, 1) := by decide +kernel
theorem dX4_levelsLit_5 : decode cX4_levelsLit 5 = .ok (.bipush 9, 2) := by decide +kernel
theorem dX4_levelsLit_7 : decode cX4_levelsLit 7 = .ok (.if_icmp .gt 21, 3) := by decide +kernel
theorem dX4_levelsLit_10 : decode cX4_levelsLit 10 = .ok (.iload_n 2, 1) := by decide +kernel
theorem dX4_levelsLit_11 : decode cX4_levelsLit 11 = .ok (.iload_n 0, 1) := by decide +kernel
theorem dX4_levelsLit_12 : decode cX4_levelsLit 12 = .ok (.iload_n 3, 1) := by decide +kernel
theorem dX4_levelsLit_13 : decode cX4_levelsLit 13 = .ok (.invokestatic 150, 3) := by decide +kernel
theorem dX4_levelsLit_16 : decode cX4_levelsLit 16 = .ok (.iload_n 1, 1) := by decide +kernel
theorem dX4_levelsLit_17 : decode cX4_levelsLit 17 = .ok (.ishr, 1) := by decide +kernel
theorem dX4_levelsLit_18 : decode cX4_levelsLit 18 = .ok (.iconst 1, 1) := by decide +kernel
theorem dX4_levelsLit_19 : decode cX4_levelsLit 19 = .ok (.iand, 1) := by decide +kernel
theorem dX4_levelsLit_20 : decode cX4_levelsLit 20 = .ok (.iadd, 1) := by decide +kernel
theorem dX4_levelsLit_21 : decode cX4_levelsLit 21 = .ok (.istore_n 2, 1) := by decide +kernel
theorem dX4_levelsLit_22 : decode cX4_levelsLit 22 = .ok (.iinc 3 1, 3) := by decide +kernel
theorem dX4_levelsLit_25 : decode cX4_levelsLit 25 = .ok (.goto (-21), 3) := by decide +kernel
theorem dX4_levelsLit_28 : decode cX4_levelsLit 28 = .ok (.iload_n 2, 1) := by decide +kernel
theorem dX4_levelsLit_29 : decode cX4_levelsLit 29 = .ok (.ireturn, 1) := by decide +kernel
theorem dX4_odds_0 : decode cX4_odds 0 = .ok (.iload_n 1, 1) := by decide +kernel
theorem dX4_odds_1 : decode cX4_odds 1 = .ok (.i2l, 1) := by decide +kernel
theorem dX4_odds_2 : decode cX4_odds 2 = .ok (.lconst 0, 1) := by decide +kernel
theorem dX4_odds_3 : decode cX4_odds 3 = .ok (.ldc2_w 188, 3) := by decide +kernel
theorem dX4_odds_6 : decode cX4_odds 6 = .ok (.invokestatic 87, 3) := by decide +kernel
theorem dX4_odds_9 : decode cX4_odds 9 = .ok (.ifCond .eq 32, 3) := by decide +kernel
theorem dX4_odds_12 : decode cX4_odds 12 = .ok (.iload_n 2, 1) := by decide +kernel
theorem dX4_odds_13 : decode cX4_odds 13 = .ok (.i2l, 1) := by decide +kernel
theorem dX4_odds_14 : decode cX4_odds 14 = .ok (.lconst 0, 1) := by decide +kernel
theorem dX4_odds_15 : decode cX4_odds 15 = .ok (.ldc2_w 208, 3) := by decide +kernel
theorem dX4_odds_18 : decode cX4_odds 18 = .ok (.invokestatic 87, 3) := by decide +kernel
theorem dX4_odds_21 : decode cX4_odds 21 = .ok (.ifCond .eq 20, 3) := by decide +kernel
theorem dX4_odds_24 : decode cX4_odds 24 = .ok (.iload_n 3, 1) := by decide +kernel
theorem dX4_odds_25 : decode cX4_odds 25 = .ok (.i2l, 1) := by decide +kernel
theorem dX4_odds_26 : decode cX4_odds 26 = .ok (.lconst 0, 1) := by decide +kernel
theorem dX4_odds_27 : decode cX4_odds 27 = .ok (.lconst 1, 1) := by decide +kernel
theorem dX4_odds_28 : decode cX4_odds 28 = .ok (.invokestatic 87, 3) := by decide +kernel
theorem dX4_odds_31 : decode cX4_odds 31 = .ok (.ifCond .eq 10, 3) := by decide +kernel
theorem dX4_odds_34 : decode cX4_odds 34 = .ok (.aload_n 0, 1) := by decide +kernel
theorem dX4_odds_35 : decode cX4_odds 35 = .ok (.getfield 84, 3) := by decide +kernel
theorem dX4_odds_38 : decode cX4_odds 38 = .ok (.ifCond .ne 7, 3) := by decide +kernel
theorem dX4_odds_41 : decode cX4_odds 41 = .ok (.invokestatic 80, 3) := by decide +kernel
theorem dX4_odds_44 : decode cX4_odds 44 = .ok (.lreturn, 1) := by decide +kernel
theorem dX4_odds_45 : decode cX4_odds 45 = .ok (.aload_n 0, 1) := by decide +kernel
theorem dX4_odds_46 : decode cX4_odds 46 = .ok (.invokevirtual 162, 3) := by decide +kernel
theorem dX4_odds_49 : decode cX4_odds 49 = .ok (.iconst 0, 1) := by decide +kernel
theorem dX4_odds_50 : decode cX4_odds 50 = .ok (.istore 4, 2) := by decide +kernel
theorem dX4_odds_52 : decode cX4_odds 52 = .ok (.iload 4, 2) := by decide +kernel
theorem dX4_odds_54 : decode cX4_odds 54 = .ok (.bipush 17, 2) := by decide +kernel
theorem dX4_odds_56 : decode cX4_odds 56 = .ok (.if_icmp .ge 26, 3) := by decide +kernel
theorem dX4_odds_59 : decode cX4_odds 59 = .ok (.aload_n 0, 1) := by decide +kernel
theorem dX4_odds_60 : decode cX4_odds 60 = .ok (.getfield 58, 3) := by decide +kernel
theorem dX4_odds_63 : decode cX4_odds 63 = .ok (.iload 4, 2) := by decide +kernel
theorem dX4_odds_65 : decode cX4_odds 65 = .ok (.iload 4, 2) := by decide +kernel
theorem dX4_odds_67 : decode cX4_odds 67 = .ok (.ifCond .ne 7, 3) := by decide +kernel
theorem dX4_odds_70 : decode cX4_odds 70 = .ok (.lconst 1, 1) := by decide +kernel
theorem dX4_odds_71 : decode cX4_odds 71 = .ok (.goto 4, 3) := by decide +kernel
theorem dX4_odds_74 : decode cX4_odds 74 = .ok (.lconst 0, 1) := by decide +kernel
theorem dX4_odds_75 : decode cX4_odds 75 = .ok (.lastore, 1) := by decide +kernel
theorem dX4_odds_76 : decode cX4_odds 76 = .ok (.iinc 4 1, 3) := by decide +kernel
theorem dX4_odds_79 : decode cX4_odds 79 = .ok (.goto (-27), 3) := by decide +kernel
theorem dX4_odds_82 : decode cX4_odds 82 = .ok (.lconst 1, 1) := by decide +kernel
theorem dX4_odds_83 : decode cX4_odds 83 = .ok (.lstore 4, 2) := by decide +kernel
theorem dX4_odds_85 : decode cX4_odds 85 = .ok (.iconst 0, 1) := by decide +kernel
theorem dX4_odds_86 : decode cX4_odds 86 = .ok (.istore 6, 2) := by decide +kernel
theorem dX4_odds_88 : decode cX4_odds 88 = .ok (.iload 6, 2) := by decide +kernel
theorem dX4_odds_90 : decode cX4_odds 90 = .ok (.aload_n 0, 1) := by decide +kernel
theorem dX4_odds_91 : decode cX4_odds 91 = .ok (.getfield 91, 3) := by decide +kernel
theorem dX4_odds_94 : decode cX4_odds 94 = .ok (.if_icmp .ge 56, 3) := by decide +kernel
theorem dX4_odds_97 : decode cX4_odds 97 = .ok (.aload_n 0, 1) := by decide +kernel
theorem dX4_odds_98 : decode cX4_odds 98 = .ok (.getfield 25, 3) := by decide +kernel
theorem dX4_odds_101 : decode cX4_odds 101 = .ok (.iload 6, 2) := by decide +kernel
theorem dX4_odds_103 : decode cX4_odds 103 = .ok (.iaload, 1) := by decide +kernel
theorem dX4_odds_104 : decode cX4_odds 104 = .ok (.istore 7, 2) := by decide +kernel
theorem dX4_odds_106 : decode cX4_odds 106 = .ok (.aload_n 0, 1) := by decide +kernel
theorem dX4_odds_107 : decode cX4_odds 107 = .ok (.getfield 19, 3) := by decide +kernel
theorem dX4_odds_110 : decode cX4_odds 110 = .ok (.iload 7, 2) := by decide +kernel
theorem dX4_odds_112 : decode cX4_odds 112 = .ok (.iaload, 1) := by decide +kernel
theorem dX4_odds_113 : decode cX4_odds 113 = .ok (.ifCond .ne 31, 3) := by decide +kernel
theorem dX4_odds_116 : decode cX4_odds 116 = .ok (.aload_n 0, 1) := by decide +kernel
theorem dX4_odds_117 : decode cX4_odds 117 = .ok (.aload_n 0, 1) := by decide +kernel
theorem dX4_odds_118 : decode cX4_odds 118 = .ok (.getfield 7, 3) := by decide +kernel
theorem dX4_odds_121 : decode cX4_odds 121 = .ok (.iload 7, 2) := by decide +kernel
theorem dX4_odds_123 : decode cX4_odds 123 = .ok (.iaload, 1) := by decide +kernel
theorem dX4_odds_124 : decode cX4_odds 124 = .ok (.aload_n 0, 1) := by decide +kernel
theorem dX4_odds_125 : decode cX4_odds 125 = .ok (.getfield 37, 3) := by decide +kernel
theorem dX4_odds_128 : decode cX4_odds 128 = .ok (.iload_n 1, 1) := by decide +kernel
theorem dX4_odds_129 : decode cX4_odds 129 = .ok (.iaload, 1) := by decide +kernel
theorem dX4_odds_130 : decode cX4_odds 130 = .ok (.invokestatic 258, 3) := by decide +kernel
theorem dX4_odds_133 : decode cX4_odds 133 = .ok (.invokevirtual 261, 3) := by decide +kernel
theorem dX4_odds_136 : decode cX4_odds 136 = .ok (.lload 4, 2) := by decide +kernel
theorem dX4_odds_138 : decode cX4_odds 138 = .ok (.ldc2_w 243, 3) := by decide +kernel
theorem dX4_odds_141 : decode cX4_odds 141 = .ok (.lmul, 1) := by decide +kernel
theorem dX4_odds_142 : decode cX4_odds 142 = .ok (.lstore 4, 2) := by decide +kernel
theorem dX4_odds_144 : decode cX4_odds 144 = .ok (.iinc 6 1, 3) := by decide +kernel
theorem dX4_odds_147 : decode cX4_odds 147 = .ok (.goto (-59), 3) := by decide +kernel
theorem dX4_odds_150 : decode cX4_odds 150 = .ok (.lconst 0, 1) := by decide +kernel
theorem dX4_odds_151 : decode cX4_odds 151 = .ok (.lstore 6, 2) := by decide +kernel
theorem dX4_odds_153 : decode cX4_odds 153 = .ok (.iload_n 2, 1) := by decide +kernel
theorem dX4_odds_154 : decode cX4_odds 154 = .ok (.istore 8, 2) := by decide +kernel
theorem dX4_odds_156 : decode cX4_odds 156 = .ok (.iload 8, 2) := by decide +kernel
theorem dX4_odds_158 : decode cX4_odds 158 = .ok (.bipush 17, 2) := by decide +kernel
theorem dX4_odds_160 : decode cX4_odds 160 = .ok (.if_icmp .ge 21, 3) := by decide +kernel
theorem dX4_odds_163 : decode cX4_odds 163 = .ok (.lload 6, 2) := by decide +kernel
theorem dX4_odds_165 : decode cX4_odds 165 = .ok (.aload_n 0, 1) := by decide +kernel
theorem dX4_odds_166 : decode cX4_odds 166 = .ok (.getfield 58, 3) := by decide +kernel
theorem dX4_odds_169 : decode cX4_odds 169 = .ok (.iload 8, 2) := by decide +kernel
theorem dX4_odds_171 : decode cX4_odds 171 = .ok (.laload, 1) := by decide +kernel
theorem dX4_odds_172 : decode cX4_odds 172 = .ok (.ladd, 1) := by decide +kernel
theorem dX4_odds_173 : decode cX4_odds 173 = .ok (.lstore 6, 2) := by decide +kernel
theorem dX4_odds_175 : decode cX4_odds 175 = .ok (.iinc 8 1, 3) := by decide +kernel
theorem dX4_odds_178 : decode cX4_odds 178 = .ok (.goto (-22), 3) := by decide +kernel
theorem dX4_odds_181 : decode cX4_odds 181 = .ok (.lload 6, 2) := by decide +kernel
theorem dX4_odds_183 : decode cX4_odds 183 = .ok (.lload 4, 2) := by decide +kernel
theorem dX4_odds_185 : decode cX4_odds 185 = .ok (.iload_n 3, 1) := by decide +kernel
theorem dX4_odds_186 : decode cX4_odds 186 = .ok (.invokestatic 265, 3) := by decide +kernel
theorem dX4_odds_189 : decode cX4_odds 189 = .ok (.lreturn, 1) := by decide +kernel
theorem dX4_noSheet_0 : decode cX4_noSheet 0 = .ok (.iload_n 0, 1) := by decide +kernel
theorem dX4_noSheet_1 : decode cX4_noSheet 1 = .ok (.i2l, 1) := by decide +kernel
theorem dX4_noSheet_2 : decode cX4_noSheet 2 = .ok (.lconst 0, 1) := by decide +kernel
theorem dX4_noSheet_3 : decode cX4_noSheet 3 = .ok (.ldc2_w 203, 3) := by decide +kernel
theorem dX4_noSheet_6 : decode cX4_noSheet 6 = .ok (.invokestatic 87, 3) := by decide +kernel
theorem dX4_noSheet_9 : decode cX4_noSheet 9 = .ok (.ifCond .ne 7, 3) := by decide +kernel
theorem dX4_noSheet_12 : decode cX4_noSheet 12 = .ok (.iconst 1, 1) := by decide +kernel
theorem dX4_noSheet_13 : decode cX4_noSheet 13 = .ok (.goto 4, 3) := by decide +kernel
theorem dX4_noSheet_16 : decode cX4_noSheet 16 = .ok (.iconst 0, 1) := by decide +kernel
theorem dX4_noSheet_17 : decode cX4_noSheet 17 = .ok (.ireturn, 1) := by decide +kernel
theorem dX4_sheet_0 : decode cX4_sheet 0 = .ok (.iload_n 1, 1) := by decide +kernel
theorem dX4_sheet_1 : decode cX4_sheet 1 = .ok (.invokestatic 128, 3) := by decide +kernel
theorem dX4_sheet_4 : decode cX4_sheet 4 = .ok (.ifCond .eq 9, 3) := by decide +kernel
theorem dX4_sheet_7 : decode cX4_sheet 7 = .ok (.aload_n 0, 1) := by decide +kernel
theorem dX4_sheet_8 : decode cX4_sheet 8 = .ok (.iconst (-1), 1) := by decide +kernel
theorem dX4_sheet_9 : decode cX4_sheet 9 = .ok (.invokevirtual 132, 3) := by decide +kernel
theorem dX4_sheet_12 : decode cX4_sheet 12 = .ok (.ireturn, 1) := by decide +kernel
theorem dX4_sheet_13 : decode cX4_sheet 13 = .ok (.iload_n 2, 1) := by decide +kernel
theorem dX4_sheet_14 : decode cX4_sheet 14 = .ok (.i2l, 1) := by decide +kernel
theorem dX4_sheet_15 : decode cX4_sheet 15 = .ok (.lconst 0, 1) := by decide +kernel
theorem dX4_sheet_16 : decode cX4_sheet 16 = .ok (.ldc2_w 135, 3) := by decide +kernel
theorem dX4_sheet_19 : decode cX4_sheet 19 = .ok (.invokestatic 87, 3) := by decide +kernel
theorem dX4_sheet_22 : decode cX4_sheet 22 = .ok (.ifCond .eq 9, 3) := by decide +kernel
theorem dX4_sheet_25 : decode cX4_sheet 25 = .ok (.iload_n 3, 1) := by decide +kernel
theorem dX4_sheet_26 : decode cX4_sheet 26 = .ok (.bipush 60, 2) := by decide +kernel
theorem dX4_sheet_28 : decode cX4_sheet 28 = .ok (.if_icmp .le 10, 3) := by decide +kernel
theorem dX4_sheet_31 : decode cX4_sheet 31 = .ok (.aload_n 0, 1) := by decide +kernel
theorem dX4_sheet_32 : decode cX4_sheet 32 = .ok (.bipush (-2), 2) := by decide +kernel
theorem dX4_sheet_34 : decode cX4_sheet 34 = .ok (.invokevirtual 132, 3) := by decide +kernel
theorem dX4_sheet_37 : decode cX4_sheet 37 = .ok (.ireturn, 1) := by decide +kernel
theorem dX4_sheet_38 : decode cX4_sheet 38 = .ok (.iload_n 3, 1) := by decide +kernel
theorem dX4_sheet_39 : decode cX4_sheet 39 = .ok (.ifCond .ge 9, 3) := by decide +kernel
theorem dX4_sheet_42 : decode cX4_sheet 42 = .ok (.aload_n 0, 1) := by decide +kernel
theorem dX4_sheet_43 : decode cX4_sheet 43 = .ok (.iconst 4, 1) := by decide +kernel
theorem dX4_sheet_44 : decode cX4_sheet 44 = .ok (.invokevirtual 120, 3) := by decide +kernel
theorem dX4_sheet_47 : decode cX4_sheet 47 = .ok (.ireturn, 1) := by decide +kernel
theorem dX4_sheet_48 : decode cX4_sheet 48 = .ok (.aload_n 0, 1) := by decide +kernel
theorem dX4_sheet_49 : decode cX4_sheet 49 = .ok (.getfield 62, 3) := by decide +kernel
theorem dX4_sheet_52 : decode cX4_sheet 52 = .ok (.iload_n 1, 1) := by decide +kernel
theorem dX4_sheet_53 : decode cX4_sheet 53 = .ok (.iload_n 3, 1) := by decide +kernel
theorem dX4_sheet_54 : decode cX4_sheet 54 = .ok (.iastore, 1) := by decide +kernel
theorem dX4_sheet_55 : decode cX4_sheet 55 = .ok (.aload_n 0, 1) := by decide +kernel
theorem dX4_sheet_56 : decode cX4_sheet 56 = .ok (.getfield 65, 3) := by decide +kernel
theorem dX4_sheet_59 : decode cX4_sheet 59 = .ok (.iload_n 1, 1) := by decide +kernel
theorem dX4_sheet_60 : decode cX4_sheet 60 = .ok (.iload_n 2, 1) := by decide +kernel
theorem dX4_sheet_61 : decode cX4_sheet 61 = .ok (.iastore, 1) := by decide +kernel
theorem dX4_sheet_62 : decode cX4_sheet 62 = .ok (.iconst 0, 1) := by decide +kernel
theorem dX4_sheet_63 : decode cX4_sheet 63 = .ok (.istore 4, 2) := by decide +kernel
theorem dX4_sheet_65 : decode cX4_sheet 65 = .ok (.iload 4, 2) := by decide +kernel
theorem dX4_sheet_67 : decode cX4_sheet 67 = .ok (.iload_n 3, 1) := by decide +kernel
theorem dX4_sheet_68 : decode cX4_sheet 68 = .ok (.if_icmp .ge 22, 3) := by decide +kernel
theorem dX4_sheet_71 : decode cX4_sheet 71 = .ok (.aload_n 0, 1) := by decide +kernel
theorem dX4_sheet_72 : decode cX4_sheet 72 = .ok (.getfield 68, 3) := by decide +kernel
theorem dX4_sheet_75 : decode cX4_sheet 75 = .ok (.bipush 60, 2) := by decide +kernel
theorem dX4_sheet_77 : decode cX4_sheet 77 = .ok (.iload_n 1, 1) := by decide +kernel
theorem dX4_sheet_78 : decode cX4_sheet 78 = .ok (.imul, 1) := by decide +kernel
theorem dX4_sheet_79 : decode cX4_sheet 79 = .ok (.iload 4, 2) := by decide +kernel
theorem dX4_sheet_81 : decode cX4_sheet 81 = .ok (.iadd, 1) := by decide +kernel
theorem dX4_sheet_82 : decode cX4_sheet 82 = .ok (.iconst 0, 1) := by decide +kernel
theorem dX4_sheet_83 : decode cX4_sheet 83 = .ok (.iastore, 1) := by decide +kernel
theorem dX4_sheet_84 : decode cX4_sheet 84 = .ok (.iinc 4 1, 3) := by decide +kernel
theorem dX4_sheet_87 : decode cX4_sheet 87 = .ok (.goto (-22), 3) := by decide +kernel
theorem dX4_sheet_90 : decode cX4_sheet 90 = .ok (.aload_n 0, 1) := by decide +kernel
theorem dX4_sheet_91 : decode cX4_sheet 91 = .ok (.iconst 1, 1) := by decide +kernel
theorem dX4_sheet_92 : decode cX4_sheet 92 = .ok (.invokevirtual 132, 3) := by decide +kernel
theorem dX4_sheet_95 : decode cX4_sheet 95 = .ok (.ireturn, 1) := by decide +kernel
theorem dX4_lose_0 : decode cX4_lose 0 = .ok (.iload_n 1, 1) := by decide +kernel
theorem dX4_lose_1 : decode cX4_lose 1 = .ok (.invokestatic 128, 3) := by decide +kernel
theorem dX4_lose_4 : decode cX4_lose 4 = .ok (.ifCond .eq 5, 3) := by decide +kernel
theorem dX4_lose_7 : decode cX4_lose 7 = .ok (.iconst (-1), 1) := by decide +kernel
theorem dX4_lose_8 : decode cX4_lose 8 = .ok (.ireturn, 1) := by decide +kernel
theorem dX4_lose_9 : decode cX4_lose 9 = .ok (.aload_n 0, 1) := by decide +kernel
theorem dX4_lose_10 : decode cX4_lose 10 = .ok (.getfield 62, 3) := by decide +kernel
theorem dX4_lose_13 : decode cX4_lose 13 = .ok (.iload_n 1, 1) := by decide +kernel
theorem dX4_lose_14 : decode cX4_lose 14 = .ok (.iaload, 1) := by decide +kernel
theorem dX4_lose_15 : decode cX4_lose 15 = .ok (.ifCond .ge 7, 3) := by decide +kernel
theorem dX4_lose_18 : decode cX4_lose 18 = .ok (.iconst 0, 1) := by decide +kernel
theorem dX4_lose_19 : decode cX4_lose 19 = .ok (.goto 4, 3) := by decide +kernel
theorem dX4_lose_22 : decode cX4_lose 22 = .ok (.iconst 1, 1) := by decide +kernel
theorem dX4_lose_23 : decode cX4_lose 23 = .ok (.istore_n 2, 1) := by decide +kernel
theorem dX4_lose_24 : decode cX4_lose 24 = .ok (.aload_n 0, 1) := by decide +kernel
theorem dX4_lose_25 : decode cX4_lose 25 = .ok (.getfield 62, 3) := by decide +kernel
theorem dX4_lose_28 : decode cX4_lose 28 = .ok (.iload_n 1, 1) := by decide +kernel
theorem dX4_lose_29 : decode cX4_lose 29 = .ok (.iconst (-1), 1) := by decide +kernel
theorem dX4_lose_30 : decode cX4_lose 30 = .ok (.iastore, 1) := by decide +kernel
theorem dX4_lose_31 : decode cX4_lose 31 = .ok (.iload_n 2, 1) := by decide +kernel
theorem dX4_lose_32 : decode cX4_lose 32 = .ok (.ireturn, 1) := by decide +kernel
theorem dX4_noCell_0 : decode cX4_noCell 0 = .ok (.aload_n 0, 1) := by decide +kernel
theorem dX4_noCell_1 : decode cX4_noCell 1 = .ok (.getfield 62, 3) := by decide +kernel
theorem dX4_noCell_4 : decode cX4_noCell 4 = .ok (.iload_n 1, 1) := by decide +kernel
theorem dX4_noCell_5 : decode cX4_noCell 5 = .ok (.iaload, 1) := by decide +kernel
theorem dX4_noCell_6 : decode cX4_noCell 6 = .ok (.ifCond .ge 7, 3) := by decide +kernel
theorem dX4_noCell_9 : decode cX4_noCell 9 = .ok (.iconst 1, 1) := by decide +kernel
theorem dX4_noCell_10 : decode cX4_noCell 10 = .ok (.goto 26, 3) := by decide +kernel
theorem dX4_noCell_13 : decode cX4_noCell 13 = .ok (.iload_n 2, 1) := by decide +kernel
theorem dX4_noCell_14 : decode cX4_noCell 14 = .ok (.i2l, 1) := by decide +kernel
theorem dX4_noCell_15 : decode cX4_noCell 15 = .ok (.lconst 0, 1) := by decide +kernel
theorem dX4_noCell_16 : decode cX4_noCell 16 = .ok (.aload_n 0, 1) := by decide +kernel
theorem dX4_noCell_17 : decode cX4_noCell 17 = .ok (.getfield 62, 3) := by decide +kernel
theorem dX4_noCell_20 : decode cX4_noCell 20 = .ok (.iload_n 1, 1) := by decide +kernel
theorem dX4_noCell_21 : decode cX4_noCell 21 = .ok (.iaload, 1) := by decide +kernel
theorem dX4_noCell_22 : decode cX4_noCell 22 = .ok (.i2l, 1) := by decide +kernel
theorem dX4_noCell_23 : decode cX4_noCell 23 = .ok (.lconst 1, 1) := by decide +kernel
theorem dX4_noCell_24 : decode cX4_noCell 24 = .ok (.lsub, 1) := by decide +kernel
theorem dX4_noCell_25 : decode cX4_noCell 25 = .ok (.invokestatic 87, 3) := by decide +kernel
theorem dX4_noCell_28 : decode cX4_noCell 28 = .ok (.ifCond .eq 7, 3) := by decide +kernel
theorem dX4_noCell_31 : decode cX4_noCell 31 = .ok (.iconst 0, 1) := by decide +kernel
theorem dX4_noCell_32 : decode cX4_noCell 32 = .ok (.goto 4, 3) := by decide +kernel
theorem dX4_noCell_35 : decode cX4_noCell 35 = .ok (.iconst 3, 1) := by decide +kernel
theorem dX4_noCell_36 : decode cX4_noCell 36 = .ok (.ireturn, 1) := by decide +kernel
theorem dX4_put_0 : decode cX4_put 0 = .ok (.iload_n 1, 1) := by decide +kernel
theorem dX4_put_1 : decode cX4_put 1 = .ok (.invokestatic 128, 3) := by decide +kernel
theorem dX4_put_4 : decode cX4_put 4 = .ok (.ifCond .eq 9, 3) := by decide +kernel
theorem dX4_put_7 : decode cX4_put 7 = .ok (.aload_n 0, 1) := by decide +kernel
theorem dX4_put_8 : decode cX4_put 8 = .ok (.iconst (-1), 1) := by decide +kernel
theorem dX4_put_9 : decode cX4_put 9 = .ok (.invokevirtual 132, 3) := by decide +kernel
theorem dX4_put_12 : decode cX4_put 12 = .ok (.ireturn, 1) := by decide +kernel
theorem dX4_put_13 : decode cX4_put 13 = .ok (.aload_n 0, 1) := by decide +kernel
theorem dX4_put_14 : decode cX4_put 14 = .ok (.iload_n 1, 1) := by decide +kernel
theorem dX4_put_15 : decode cX4_put 15 = .ok (.iload_n 2, 1) := by decide +kernel
theorem dX4_put_16 : decode cX4_put 16 = .ok (.invokevirtual 269, 3) := by decide +kernel
theorem dX4_put_19 : decode cX4_put 19 = .ok (.ifCond .le 14, 3) := by decide +kernel
theorem dX4_put_22 : decode cX4_put 22 = .ok (.aload_n 0, 1) := by decide +kernel
theorem dX4_put_23 : decode cX4_put 23 = .ok (.aload_n 0, 1) := by decide +kernel
theorem dX4_put_24 : decode cX4_put 24 = .ok (.iload_n 1, 1) := by decide +kernel
theorem dX4_put_25 : decode cX4_put 25 = .ok (.iload_n 2, 1) := by decide +kernel
theorem dX4_put_26 : decode cX4_put 26 = .ok (.invokevirtual 269, 3) := by decide +kernel
theorem dX4_put_29 : decode cX4_put 29 = .ok (.invokevirtual 120, 3) := by decide +kernel
theorem dX4_put_32 : decode cX4_put 32 = .ok (.ireturn, 1) := by decide +kernel
theorem dX4_put_33 : decode cX4_put 33 = .ok (.aload_n 0, 1) := by decide +kernel
theorem dX4_put_34 : decode cX4_put 34 = .ok (.getfield 68, 3) := by decide +kernel
theorem dX4_put_37 : decode cX4_put 37 = .ok (.bipush 60, 2) := by decide +kernel
theorem dX4_put_39 : decode cX4_put 39 = .ok (.iload_n 1, 1) := by decide +kernel
theorem dX4_put_40 : decode cX4_put 40 = .ok (.imul, 1) := by decide +kernel
theorem dX4_put_41 : decode cX4_put 41 = .ok (.iload_n 2, 1) := by decide +kernel
theorem dX4_put_42 : decode cX4_put 42 = .ok (.iadd, 1) := by decide +kernel
theorem dX4_put_43 : decode cX4_put 43 = .ok (.aload_n 0, 1) := by decide +kernel
theorem dX4_put_44 : decode cX4_put 44 = .ok (.getfield 65, 3) := by decide +kernel
theorem dX4_put_47 : decode cX4_put 47 = .ok (.iload_n 1, 1) := by decide +kernel
theorem dX4_put_48 : decode cX4_put 48 = .ok (.iaload, 1) := by decide +kernel
theorem dX4_put_49 : decode cX4_put 49 = .ok (.ifCond .ne 8, 3) := by decide +kernel
theorem dX4_put_52 : decode cX4_put 52 = .ok (.iload_n 3, 1) := by decide +kernel
theorem dX4_put_53 : decode cX4_put 53 = .ok (.i2b, 1) := by decide +kernel
theorem dX4_put_54 : decode cX4_put 54 = .ok (.goto 19, 3) := by decide +kernel
theorem dX4_put_57 : decode cX4_put 57 = .ok (.aload_n 0, 1) := by decide +kernel
theorem dX4_put_58 : decode cX4_put 58 = .ok (.getfield 65, 3) := by decide +kernel
theorem dX4_put_61 : decode cX4_put 61 = .ok (.iload_n 1, 1) := by decide +kernel
theorem dX4_put_62 : decode cX4_put 62 = .ok (.iaload, 1) := by decide +kernel
theorem dX4_put_63 : decode cX4_put 63 = .ok (.iconst 1, 1) := by decide +kernel
theorem dX4_put_64 : decode cX4_put 64 = .ok (.if_icmp .ne 8, 3) := by decide +kernel
theorem dX4_put_67 : decode cX4_put 67 = .ok (.iload_n 3, 1) := by decide +kernel
theorem dX4_put_68 : decode cX4_put 68 = .ok (.i2s, 1) := by decide +kernel
theorem dX4_put_69 : decode cX4_put 69 = .ok (.goto 4, 3) := by decide +kernel
theorem dX4_put_72 : decode cX4_put 72 = .ok (.iload_n 3, 1) := by decide +kernel
theorem dX4_put_73 : decode cX4_put 73 = .ok (.iastore, 1) := by decide +kernel
theorem dX4_put_74 : decode cX4_put 74 = .ok (.aload_n 0, 1) := by decide +kernel
theorem dX4_put_75 : decode cX4_put 75 = .ok (.iconst 1, 1) := by decide +kernel
theorem dX4_put_76 : decode cX4_put 76 = .ok (.invokevirtual 132, 3) := by decide +kernel
theorem dX4_put_79 : decode cX4_put 79 = .ok (.ireturn, 1) := by decide +kernel
theorem dX4_cell_0 : decode cX4_cell 0 = .ok (.aload_n 0, 1) := by decide +kernel
theorem dX4_cell_1 : decode cX4_cell 1 = .ok (.iconst 0, 1) := by decide +kernel
theorem dX4_cell_2 : decode cX4_cell 2 = .ok (.putfield 76, 3) := by decide +kernel
theorem dX4_cell_5 : decode cX4_cell 5 = .ok (.iload_n 1, 1) := by decide +kernel
theorem dX4_cell_6 : decode cX4_cell 6 = .ok (.invokestatic 128, 3) := by decide +kernel
theorem dX4_cell_9 : decode cX4_cell 9 = .ok (.ifCond .ne 15, 3) := by decide +kernel
theorem dX4_cell_12 : decode cX4_cell 12 = .ok (.iload_n 3, 1) := by decide +kernel
theorem dX4_cell_13 : decode cX4_cell 13 = .ok (.i2l, 1) := by decide +kernel
theorem dX4_cell_14 : decode cX4_cell 14 = .ok (.lconst 0, 1) := by decide +kernel
theorem dX4_cell_15 : decode cX4_cell 15 = .ok (.ldc2_w 135, 3) := by decide +kernel
theorem dX4_cell_18 : decode cX4_cell 18 = .ok (.invokestatic 87, 3) := by decide +kernel
theorem dX4_cell_21 : decode cX4_cell 21 = .ok (.ifCond .ne 7, 3) := by decide +kernel
theorem dX4_cell_24 : decode cX4_cell 24 = .ok (.invokestatic 80, 3) := by decide +kernel
theorem dX4_cell_27 : decode cX4_cell 27 = .ok (.lreturn, 1) := by decide +kernel
theorem dX4_cell_28 : decode cX4_cell 28 = .ok (.aload_n 0, 1) := by decide +kernel
theorem dX4_cell_29 : decode cX4_cell 29 = .ok (.getfield 62, 3) := by decide +kernel
theorem dX4_cell_32 : decode cX4_cell 32 = .ok (.iload_n 1, 1) := by decide +kernel
theorem dX4_cell_33 : decode cX4_cell 33 = .ok (.iaload, 1) := by decide +kernel
theorem dX4_cell_34 : decode cX4_cell 34 = .ok (.ifCond .lt 19, 3) := by decide +kernel
theorem dX4_cell_37 : decode cX4_cell 37 = .ok (.aload_n 0, 1) := by decide +kernel
theorem dX4_cell_38 : decode cX4_cell 38 = .ok (.getfield 65, 3) := by decide +kernel
theorem dX4_cell_41 : decode cX4_cell 41 = .ok (.iload_n 1, 1) := by decide +kernel
theorem dX4_cell_42 : decode cX4_cell 42 = .ok (.iaload, 1) := by decide +kernel
theorem dX4_cell_43 : decode cX4_cell 43 = .ok (.iload_n 3, 1) := by decide +kernel
theorem dX4_cell_44 : decode cX4_cell 44 = .ok (.if_icmp .eq 9, 3) := by decide +kernel
theorem dX4_cell_47 : decode cX4_cell 47 = .ok (.aload_n 0, 1) := by decide +kernel
theorem dX4_cell_48 : decode cX4_cell 48 = .ok (.iconst 2, 1) := by decide +kernel
theorem dX4_cell_49 : decode cX4_cell 49 = .ok (.invokevirtual 272, 3) := by decide +kernel
theorem dX4_cell_52 : decode cX4_cell 52 = .ok (.lreturn, 1) := by decide +kernel
theorem dX4_cell_53 : decode cX4_cell 53 = .ok (.aload_n 0, 1) := by decide +kernel
theorem dX4_cell_54 : decode cX4_cell 54 = .ok (.iload_n 1, 1) := by decide +kernel
theorem dX4_cell_55 : decode cX4_cell 55 = .ok (.iload_n 2, 1) := by decide +kernel
theorem dX4_cell_56 : decode cX4_cell 56 = .ok (.invokevirtual 269, 3) := by decide +kernel
theorem dX4_cell_59 : decode cX4_cell 59 = .ok (.ifCond .le 16, 3) := by decide +kernel
theorem dX4_cell_62 : decode cX4_cell 62 = .ok (.aload_n 0, 1) := by decide +kernel
theorem dX4_cell_63 : decode cX4_cell 63 = .ok (.aload_n 0, 1) := by decide +kernel
theorem dX4_cell_64 : decode cX4_cell 64 = .ok (.iload_n 1, 1) := by decide +kernel
theorem dX4_cell_65 : decode cX4_cell 65 = .ok (.iload_n 2, 1) := by decide +kernel
theorem dX4_cell_66 : decode cX4_cell 66 = .ok (.invokevirtual 269, 3) := by decide +kernel
theorem dX4_cell_69 : decode cX4_cell 69 = .ok (.invokevirtual 272, 3) := by decide +kernel
theorem dX4_cell_72 : decode cX4_cell 72 = .ok (.goto 15, 3) := by decide +kernel
theorem dX4_cell_75 : decode cX4_cell 75 = .ok (.aload_n 0, 1) := by decide +kernel
theorem dX4_cell_76 : decode cX4_cell 76 = .ok (.getfield 68, 3) := by decide +kernel
theorem dX4_cell_79 : decode cX4_cell 79 = .ok (.bipush 60, 2) := by decide +kernel
theorem dX4_cell_81 : decode cX4_cell 81 = .ok (.iload_n 1, 1) := by decide +kernel
theorem dX4_cell_82 : decode cX4_cell 82 = .ok (.imul, 1) := by decide +kernel
theorem dX4_cell_83 : decode cX4_cell 83 = .ok (.iload_n 2, 1) := by decide +kernel
theorem dX4_cell_84 : decode cX4_cell 84 = .ok (.iadd, 1) := by decide +kernel
theorem dX4_cell_85 : decode cX4_cell 85 = .ok (.iaload, 1) := by decide +kernel
theorem dX4_cell_86 : decode cX4_cell 86 = .ok (.i2l, 1) := by decide +kernel
theorem dX4_cell_87 : decode cX4_cell 87 = .ok (.lreturn, 1) := by decide +kernel
theorem dX4_isBeyond_0 : decode cX4_isBeyond 0 = .ok (.iload_n 0, 1) := by decide +kernel
theorem dX4_isBeyond_1 : decode cX4_isBeyond 1 = .ok (.ifCond .lt 19, 3) := by decide +kernel
theorem dX4_isBeyond_4 : decode cX4_isBeyond 4 = .ok (.lload_n 1, 1) := by decide +kernel
theorem dX4_isBeyond_5 : decode cX4_isBeyond 5 = .ok (.lconst 0, 1) := by decide +kernel
theorem dX4_isBeyond_6 : decode cX4_isBeyond 6 = .ok (.lcmp, 1) := by decide +kernel
theorem dX4_isBeyond_7 : decode cX4_isBeyond 7 = .ok (.ifCond .lt 13, 3) := by decide +kernel
theorem dX4_isBeyond_10 : decode cX4_isBeyond 10 = .ok (.iload_n 0, 1) := by decide +kernel
theorem dX4_isBeyond_11 : decode cX4_isBeyond 11 = .ok (.i2l, 1) := by decide +kernel
theorem dX4_isBeyond_12 : decode cX4_isBeyond 12 = .ok (.lload_n 1, 1) := by decide +kernel
theorem dX4_isBeyond_13 : decode cX4_isBeyond 13 = .ok (.ladd, 1) := by decide +kernel
theorem dX4_isBeyond_14 : decode cX4_isBeyond 14 = .ok (.iload_n 3, 1) := by decide +kernel
theorem dX4_isBeyond_15 : decode cX4_isBeyond 15 = .ok (.i2l, 1) := by decide +kernel
theorem dX4_isBeyond_16 : decode cX4_isBeyond 16 = .ok (.lcmp, 1) := by decide +kernel
theorem dX4_isBeyond_17 : decode cX4_isBeyond 17 = .ok (.ifCond .le 7, 3) := by decide +kernel
theorem dX4_isBeyond_20 : decode cX4_isBeyond 20 = .ok (.iconst 1, 1) := by decide +kernel
theorem dX4_isBeyond_21 : decode cX4_isBeyond 21 = .ok (.goto 4, 3) := by decide +kernel
theorem dX4_isBeyond_24 : decode cX4_isBeyond 24 = .ok (.iconst 0, 1) := by decide +kernel
theorem dX4_isBeyond_25 : decode cX4_isBeyond 25 = .ok (.ireturn, 1) := by decide +kernel
theorem dX4_copy_0 : decode cX4_copy 0 = .ok (.iload_n 1, 1) := by decide +kernel
theorem dX4_copy_1 : decode cX4_copy 1 = .ok (.invokestatic 128, 3) := by decide +kernel
theorem dX4_copy_4 : decode cX4_copy 4 = .ok (.ifCond .ne 10, 3) := by decide +kernel
theorem dX4_copy_7 : decode cX4_copy 7 = .ok (.iload_n 3, 1) := by decide +kernel
theorem dX4_copy_8 : decode cX4_copy 8 = .ok (.invokestatic 128, 3) := by decide +kernel
theorem dX4_copy_11 : decode cX4_copy 11 = .ok (.ifCond .eq 9, 3) := by decide +kernel
theorem dX4_copy_14 : decode cX4_copy 14 = .ok (.aload_n 0, 1) := by decide +kernel
theorem dX4_copy_15 : decode cX4_copy 15 = .ok (.iconst (-1), 1) := by decide +kernel
theorem dX4_copy_16 : decode cX4_copy 16 = .ok (.invokevirtual 132, 3) := by decide +kernel
theorem dX4_copy_19 : decode cX4_copy 19 = .ok (.ireturn, 1) := by decide +kernel
theorem dX4_copy_20 : decode cX4_copy 20 = .ok (.aload_n 0, 1) := by decide +kernel
theorem dX4_copy_21 : decode cX4_copy 21 = .ok (.getfield 62, 3) := by decide +kernel
theorem dX4_copy_24 : decode cX4_copy 24 = .ok (.iload_n 1, 1) := by decide +kernel
theorem dX4_copy_25 : decode cX4_copy 25 = .ok (.iaload, 1) := by decide +kernel
theorem dX4_copy_26 : decode cX4_copy 26 = .ok (.ifCond .lt 12, 3) := by decide +kernel
theorem dX4_copy_29 : decode cX4_copy 29 = .ok (.aload_n 0, 1) := by decide +kernel
theorem dX4_copy_30 : decode cX4_copy 30 = .ok (.getfield 62, 3) := by decide +kernel
theorem dX4_copy_33 : decode cX4_copy 33 = .ok (.iload_n 3, 1) := by decide +kernel
theorem dX4_copy_34 : decode cX4_copy 34 = .ok (.iaload, 1) := by decide +kernel
theorem dX4_copy_35 : decode cX4_copy 35 = .ok (.ifCond .ge 9, 3) := by decide +kernel
theorem dX4_copy_38 : decode cX4_copy 38 = .ok (.aload_n 0, 1) := by decide +kernel
theorem dX4_copy_39 : decode cX4_copy 39 = .ok (.iconst 1, 1) := by decide +kernel
theorem dX4_copy_40 : decode cX4_copy 40 = .ok (.invokevirtual 120, 3) := by decide +kernel
theorem dX4_copy_43 : decode cX4_copy 43 = .ok (.ireturn, 1) := by decide +kernel
theorem dX4_copy_44 : decode cX4_copy 44 = .ok (.aload_n 0, 1) := by decide +kernel
theorem dX4_copy_45 : decode cX4_copy 45 = .ok (.getfield 65, 3) := by decide +kernel
theorem dX4_copy_48 : decode cX4_copy 48 = .ok (.iload_n 1, 1) := by decide +kernel
theorem dX4_copy_49 : decode cX4_copy 49 = .ok (.iaload, 1) := by decide +kernel
theorem dX4_copy_50 : decode cX4_copy 50 = .ok (.aload_n 0, 1) := by decide +kernel
theorem dX4_copy_51 : decode cX4_copy 51 = .ok (.getfield 65, 3) := by decide +kernel
theorem dX4_copy_54 : decode cX4_copy 54 = .ok (.iload_n 3, 1) := by decide +kernel
theorem dX4_copy_55 : decode cX4_copy 55 = .ok (.iaload, 1) := by decide +kernel
theorem dX4_copy_56 : decode cX4_copy 56 = .ok (.if_icmp .eq 9, 3) := by decide +kernel
theorem dX4_copy_59 : decode cX4_copy 59 = .ok (.aload_n 0, 1) := by decide +kernel
theorem dX4_copy_60 : decode cX4_copy 60 = .ok (.iconst 2, 1) := by decide +kernel
theorem dX4_copy_61 : decode cX4_copy 61 = .ok (.invokevirtual 120, 3) := by decide +kernel
theorem dX4_copy_64 : decode cX4_copy 64 = .ok (.ireturn, 1) := by decide +kernel
theorem dX4_copy_65 : decode cX4_copy 65 = .ok (.iload_n 2, 1) := by decide +kernel
theorem dX4_copy_66 : decode cX4_copy 66 = .ok (.iload 5, 2) := by decide +kernel
theorem dX4_copy_68 : decode cX4_copy 68 = .ok (.i2l, 1) := by decide +kernel
theorem dX4_copy_69 : decode cX4_copy 69 = .ok (.aload_n 0, 1) := by decide +kernel
theorem dX4_copy_70 : decode cX4_copy 70 = .ok (.getfield 62, 3) := by decide +kernel
theorem dX4_copy_73 : decode cX4_copy 73 = .ok (.iload_n 1, 1) := by decide +kernel
theorem dX4_copy_74 : decode cX4_copy 74 = .ok (.iaload, 1) := by decide +kernel
theorem dX4_copy_75 : decode cX4_copy 75 = .ok (.invokestatic 124, 3) := by decide +kernel
theorem dX4_copy_78 : decode cX4_copy 78 = .ok (.ifCond .ne 20, 3) := by decide +kernel
theorem dX4_copy_81 : decode cX4_copy 81 = .ok (.iload 4, 2) := by decide +kernel
theorem dX4_copy_83 : decode cX4_copy 83 = .ok (.iload 5, 2) := by decide +kernel
theorem dX4_copy_85 : decode cX4_copy 85 = .ok (.i2l, 1) := by decide +kernel
theorem dX4_copy_86 : decode cX4_copy 86 = .ok (.aload_n 0, 1) := by decide +kernel
theorem dX4_copy_87 : decode cX4_copy 87 = .ok (.getfield 62, 3) := by decide +kernel
theorem dX4_copy_90 : decode cX4_copy 90 = .ok (.iload_n 3, 1) := by decide +kernel
theorem dX4_copy_91 : decode cX4_copy 91 = .ok (.iaload, 1) := by decide +kernel
theorem dX4_copy_92 : decode cX4_copy 92 = .ok (.invokestatic 124, 3) := by decide +kernel
theorem dX4_copy_95 : decode cX4_copy 95 = .ok (.ifCond .eq 9, 3) := by decide +kernel
theorem dX4_copy_98 : decode cX4_copy 98 = .ok (.aload_n 0, 1) := by decide +kernel
theorem dX4_copy_99 : decode cX4_copy 99 = .ok (.iconst 3, 1) := by decide +kernel
theorem dX4_copy_100 : decode cX4_copy 100 = .ok (.invokevirtual 120, 3) := by decide +kernel
theorem dX4_copy_103 : decode cX4_copy 103 = .ok (.ireturn, 1) := by decide +kernel
theorem dX4_copy_104 : decode cX4_copy 104 = .ok (.iconst 0, 1) := by decide +kernel
theorem dX4_copy_105 : decode cX4_copy 105 = .ok (.istore 6, 2) := by decide +kernel
theorem dX4_copy_107 : decode cX4_copy 107 = .ok (.iload 6, 2) := by decide +kernel
theorem dX4_copy_109 : decode cX4_copy 109 = .ok (.iload 5, 2) := by decide +kernel
theorem dX4_copy_111 : decode cX4_copy 111 = .ok (.if_icmp .ge 30, 3) := by decide +kernel
theorem dX4_copy_114 : decode cX4_copy 114 = .ok (.aload_n 0, 1) := by decide +kernel
theorem dX4_copy_115 : decode cX4_copy 115 = .ok (.getfield 71, 3) := by decide +kernel
theorem dX4_copy_118 : decode cX4_copy 118 = .ok (.iload 6, 2) := by decide +kernel
theorem dX4_copy_120 : decode cX4_copy 120 = .ok (.aload_n 0, 1) := by decide +kernel
theorem dX4_copy_121 : decode cX4_copy 121 = .ok (.getfield 68, 3) := by decide +kernel
theorem dX4_copy_124 : decode cX4_copy 124 = .ok (.bipush 60, 2) := by decide +kernel
theorem dX4_copy_126 : decode cX4_copy 126 = .ok (.iload_n 1, 1) := by decide +kernel
theorem dX4_copy_127 : decode cX4_copy 127 = .ok (.imul, 1) := by decide +kernel
theorem dX4_copy_128 : decode cX4_copy 128 = .ok (.iload_n 2, 1) := by decide +kernel
theorem dX4_copy_129 : decode cX4_copy 129 = .ok (.iadd, 1) := by decide +kernel
theorem dX4_copy_130 : decode cX4_copy 130 = .ok (.iload 6, 2) := by decide +kernel
theorem dX4_copy_132 : decode cX4_copy 132 = .ok (.iadd, 1) := by decide +kernel
theorem dX4_copy_133 : decode cX4_copy 133 = .ok (.iaload, 1) := by decide +kernel
theorem dX4_copy_134 : decode cX4_copy 134 = .ok (.iastore, 1) := by decide +kernel
theorem dX4_copy_135 : decode cX4_copy 135 = .ok (.iinc 6 1, 3) := by decide +kernel
theorem dX4_copy_138 : decode cX4_copy 138 = .ok (.goto (-31), 3) := by decide +kernel
theorem dX4_copy_141 : decode cX4_copy 141 = .ok (.iconst 0, 1) := by decide +kernel
theorem dX4_copy_142 : decode cX4_copy 142 = .ok (.istore 6, 2) := by decide +kernel
theorem dX4_copy_144 : decode cX4_copy 144 = .ok (.iload 6, 2) := by decide +kernel
theorem dX4_copy_146 : decode cX4_copy 146 = .ok (.iload 5, 2) := by decide +kernel
theorem dX4_copy_148 : decode cX4_copy 148 = .ok (.if_icmp .ge 31, 3) := by decide +kernel
theorem dX4_copy_151 : decode cX4_copy 151 = .ok (.aload_n 0, 1) := by decide +kernel
theorem dX4_copy_152 : decode cX4_copy 152 = .ok (.getfield 68, 3) := by decide +kernel
theorem dX4_copy_155 : decode cX4_copy 155 = .ok (.bipush 60, 2) := by decide +kernel
theorem dX4_copy_157 : decode cX4_copy 157 = .ok (.iload_n 3, 1) := by decide +kernel
theorem dX4_copy_158 : decode cX4_copy 158 = .ok (.imul, 1) := by decide +kernel
theorem dX4_copy_159 : decode cX4_copy 159 = .ok (.iload 4, 2) := by decide +kernel
theorem dX4_copy_161 : decode cX4_copy 161 = .ok (.iadd, 1) := by decide +kernel
theorem dX4_copy_162 : decode cX4_copy 162 = .ok (.iload 6, 2) := by decide +kernel
theorem dX4_copy_164 : decode cX4_copy 164 = .ok (.iadd, 1) := by decide +kernel
theorem dX4_copy_165 : decode cX4_copy 165 = .ok (.aload_n 0, 1) := by decide +kernel
theorem dX4_copy_166 : decode cX4_copy 166 = .ok (.getfield 71, 3) := by decide +kernel
theorem dX4_copy_169 : decode cX4_copy 169 = .ok (.iload 6, 2) := by decide +kernel
theorem dX4_copy_171 : decode cX4_copy 171 = .ok (.iaload, 1) := by decide +kernel
theorem dX4_copy_172 : decode cX4_copy 172 = .ok (.iastore, 1) := by decide +kernel
theorem dX4_copy_173 : decode cX4_copy 173 = .ok (.iinc 6 1, 3) := by decide +kernel
theorem dX4_copy_176 : decode cX4_copy 176 = .ok (.goto (-32), 3) := by decide +kernel
theorem dX4_copy_179 : decode cX4_copy 179 = .ok (.aload_n 0, 1) := by decide +kernel
theorem dX4_copy_180 : decode cX4_copy 180 = .ok (.iload 5, 2) := by decide +kernel
theorem dX4_copy_182 : decode cX4_copy 182 = .ok (.invokevirtual 132, 3) := by decide +kernel
theorem dX4_copy_185 : decode cX4_copy 185 = .ok (.ireturn, 1) := by decide +kernel
theorem dX4_traced_0 : decode cX4_traced 0 = .ok (.aload_n 0, 1) := by decide +kernel
theorem dX4_traced_1 : decode cX4_traced 1 = .ok (.bipush 31, 2) := by decide +kernel
theorem dX4_traced_3 : decode cX4_traced 3 = .ok (.aload_n 0, 1) := by decide +kernel
theorem dX4_traced_4 : decode cX4_traced 4 = .ok (.getfield 276, 3) := by decide +kernel
theorem dX4_traced_7 : decode cX4_traced 7 = .ok (.imul, 1) := by decide +kernel
theorem dX4_traced_8 : decode cX4_traced 8 = .ok (.iload_n 1, 1) := by decide +kernel
theorem dX4_traced_9 : decode cX4_traced 9 = .ok (.iadd, 1) := by decide +kernel
theorem dX4_traced_10 : decode cX4_traced 10 = .ok (.putfield 276, 3) := by decide +kernel
theorem dX4_traced_13 : decode cX4_traced 13 = .ok (.return_, 1) := by decide +kernel
theorem dX4_tell_0 : decode cX4_tell 0 = .ok (.aload_n 0, 1) := by decide +kernel
theorem dX4_tell_1 : decode cX4_tell 1 = .ok (.iload_n 1, 1) := by decide +kernel
theorem dX4_tell_2 : decode cX4_tell 2 = .ok (.invokevirtual 168, 3) := by decide +kernel
theorem dX4_tell_5 : decode cX4_tell 5 = .ok (.ifCond .eq 5, 3) := by decide +kernel
theorem dX4_tell_8 : decode cX4_tell 8 = .ok (.iconst (-1), 1) := by decide +kernel
theorem dX4_tell_9 : decode cX4_tell 9 = .ok (.ireturn, 1) := by decide +kernel
theorem dX4_tell_10 : decode cX4_tell 10 = .ok (.aload_n 0, 1) := by decide +kernel
theorem dX4_tell_11 : decode cX4_tell 11 = .ok (.getfield 7, 3) := by decide +kernel
theorem dX4_tell_14 : decode cX4_tell 14 = .ok (.iload_n 1, 1) := by decide +kernel
theorem dX4_tell_15 : decode cX4_tell 15 = .ok (.iaload, 1) := by decide +kernel
theorem dX4_tell_16 : decode cX4_tell 16 = .ok (.istore_n 2, 1) := by decide +kernel
theorem dX4_tell_17 : decode cX4_tell 17 = .ok (.iload_n 2, 1) := by decide +kernel
theorem dX4_tell_18 : decode cX4_tell 18 = .ok (.iconst 2, 1) := by decide +kernel
theorem dX4_tell_19 : decode cX4_tell 19 = .ok (.if_icmp .ne 8, 3) := by decide +kernel
theorem dX4_tell_22 : decode cX4_tell 22 = .ok (.aload_n 0, 1) := by decide +kernel
theorem dX4_tell_23 : decode cX4_tell 23 = .ok (.iconst 3, 1) := by decide +kernel
theorem dX4_tell_24 : decode cX4_tell 24 = .ok (.invokevirtual 279, 3) := by decide +kernel
theorem dX4_tell_27 : decode cX4_tell 27 = .ok (.iload_n 2, 1) := by decide +kernel
theorem dX4_tell_28 : decode cX4_tell 28 = .ok (.ifCond .le 8, 3) := by decide +kernel
theorem dX4_tell_31 : decode cX4_tell 31 = .ok (.aload_n 0, 1) := by decide +kernel
theorem dX4_tell_32 : decode cX4_tell 32 = .ok (.iconst 2, 1) := by decide +kernel
theorem dX4_tell_33 : decode cX4_tell 33 = .ok (.invokevirtual 279, 3) := by decide +kernel
theorem dX4_tell_36 : decode cX4_tell 36 = .ok (.aload_n 0, 1) := by decide +kernel
theorem dX4_tell_37 : decode cX4_tell 37 = .ok (.iconst 1, 1) := by decide +kernel
theorem dX4_tell_38 : decode cX4_tell 38 = .ok (.invokevirtual 279, 3) := by decide +kernel
theorem dX4_tell_41 : decode cX4_tell 41 = .ok (.iload_n 2, 1) := by decide +kernel
theorem dX4_tell_42 : decode cX4_tell 42 = .ok (.iconst 2, 1) := by decide +kernel
theorem dX4_tell_43 : decode cX4_tell 43 = .ok (.if_icmp .ne 8, 3) := by decide +kernel
theorem dX4_tell_46 : decode cX4_tell 46 = .ok (.aload_n 0, 1) := by decide +kernel
theorem dX4_tell_47 : decode cX4_tell 47 = .ok (.iconst 1, 1) := by decide +kernel
theorem dX4_tell_48 : decode cX4_tell 48 = .ok (.invokevirtual 279, 3) := by decide +kernel
theorem dX4_tell_51 : decode cX4_tell 51 = .ok (.aload_n 0, 1) := by decide +kernel
theorem dX4_tell_52 : decode cX4_tell 52 = .ok (.getfield 16, 3) := by decide +kernel
theorem dX4_tell_55 : decode cX4_tell 55 = .ok (.iload_n 1, 1) := by decide +kernel
theorem dX4_tell_56 : decode cX4_tell 56 = .ok (.iaload, 1) := by decide +kernel
theorem dX4_tell_57 : decode cX4_tell 57 = .ok (.istore_n 3, 1) := by decide +kernel
theorem dX4_tell_58 : decode cX4_tell 58 = .ok (.iload_n 2, 1) := by decide +kernel
theorem dX4_tell_59 : decode cX4_tell 59 = .ok (.ifCond .ne 7, 3) := by decide +kernel
theorem dX4_tell_62 : decode cX4_tell 62 = .ok (.iload_n 3, 1) := by decide +kernel
theorem dX4_tell_63 : decode cX4_tell 63 = .ok (.goto 21, 3) := by decide +kernel
theorem dX4_tell_66 : decode cX4_tell 66 = .ok (.iload_n 2, 1) := by decide +kernel
theorem dX4_tell_67 : decode cX4_tell 67 = .ok (.iconst 1, 1) := by decide +kernel
theorem dX4_tell_68 : decode cX4_tell 68 = .ok (.if_icmp .ne 10, 3) := by decide +kernel
theorem dX4_tell_71 : decode cX4_tell 71 = .ok (.iload_n 3, 1) := by decide +kernel
theorem dX4_tell_72 : decode cX4_tell 72 = .ok (.bipush 100, 2) := by decide +kernel
theorem dX4_tell_74 : decode cX4_tell 74 = .ok (.iadd, 1) := by decide +kernel
theorem dX4_tell_75 : decode cX4_tell 75 = .ok (.goto 9, 3) := by decide +kernel
theorem dX4_tell_78 : decode cX4_tell 78 = .ok (.iconst 2, 1) := by decide +kernel
theorem dX4_tell_79 : decode cX4_tell 79 = .ok (.iload_n 3, 1) := by decide +kernel
theorem dX4_tell_80 : decode cX4_tell 80 = .ok (.imul, 1) := by decide +kernel
theorem dX4_tell_81 : decode cX4_tell 81 = .ok (.bipush 100, 2) := by decide +kernel
theorem dX4_tell_83 : decode cX4_tell 83 = .ok (.iadd, 1) := by decide +kernel
theorem dX4_tell_84 : decode cX4_tell 84 = .ok (.ireturn, 1) := by decide +kernel
theorem dX4_switchOn_0 : decode cX4_switchOn 0 = .ok (.aload_n 0, 1) := by decide +kernel
theorem dX4_switchOn_1 : decode cX4_switchOn 1 = .ok (.iload_n 1, 1) := by decide +kernel
theorem dX4_switchOn_2 : decode cX4_switchOn 2 = .ok (.invokevirtual 168, 3) := by decide +kernel
theorem dX4_switchOn_5 : decode cX4_switchOn 5 = .ok (.ifCond .eq 5, 3) := by decide +kernel
theorem dX4_switchOn_8 : decode cX4_switchOn 8 = .ok (.iconst (-1), 1) := by decide +kernel
theorem dX4_switchOn_9 : decode cX4_switchOn 9 = .ok (.ireturn, 1) := by decide +kernel
theorem dX4_switchOn_10 : decode cX4_switchOn 10 = .ok (.aload_n 0, 1) := by decide +kernel
theorem dX4_switchOn_11 : decode cX4_switchOn 11 = .ok (.aload_n 0, 1) := by decide +kernel
theorem dX4_switchOn_12 : decode cX4_switchOn 12 = .ok (.getfield 7, 3) := by decide +kernel
theorem dX4_switchOn_15 : decode cX4_switchOn 15 = .ok (.iload_n 1, 1) := by decide +kernel
theorem dX4_switchOn_16 : decode cX4_switchOn 16 = .ok (.iaload, 1) := by decide +kernel
theorem dX4_switchOn_17 : decode cX4_switchOn 17 = .ok (.iconst 2, 1) := by decide +kernel
theorem dX4_switchOn_18 : decode cX4_switchOn 18 = .ok (.if_icmp .ne 7, 3) := by decide +kernel
theorem dX4_switchOn_21 : decode cX4_switchOn 21 = .ok (.iconst 5, 1) := by decide +kernel
theorem dX4_switchOn_22 : decode cX4_switchOn 22 = .ok (.goto 4, 3) := by decide +kernel
theorem dX4_switchOn_25 : decode cX4_switchOn 25 = .ok (.iconst 4, 1) := by decide +kernel
theorem dX4_switchOn_26 : decode cX4_switchOn 26 = .ok (.invokevirtual 279, 3) := by decide +kernel
theorem dX4_switchOn_29 : decode cX4_switchOn 29 = .ok (.iconst 0, 1) := by decide +kernel
theorem dX4_switchOn_30 : decode cX4_switchOn 30 = .ok (.istore_n 2, 1) := by decide +kernel
theorem dX4_switchOn_31 : decode cX4_switchOn 31 = .ok (.iconst 0, 1) := by decide +kernel
theorem dX4_switchOn_32 : decode cX4_switchOn 32 = .ok (.istore_n 3, 1) := by decide +kernel
theorem dX4_switchOn_33 : decode cX4_switchOn 33 = .ok (.iload_n 3, 1) := by decide +kernel
theorem dX4_switchOn_34 : decode cX4_switchOn 34 = .ok (.aload_n 0, 1) := by decide +kernel
theorem dX4_switchOn_35 : decode cX4_switchOn 35 = .ok (.getfield 16, 3) := by decide +kernel
theorem dX4_switchOn_38 : decode cX4_switchOn 38 = .ok (.iload_n 1, 1) := by decide +kernel
theorem dX4_switchOn_39 : decode cX4_switchOn 39 = .ok (.iaload, 1) := by decide +kernel
theorem dX4_switchOn_40 : decode cX4_switchOn 40 = .ok (.if_icmp .ge 25, 3) := by decide +kernel
theorem dX4_switchOn_43 : decode cX4_switchOn 43 = .ok (.iload_n 2, 1) := by decide +kernel
theorem dX4_switchOn_44 : decode cX4_switchOn 44 = .ok (.aload_n 0, 1) := by decide +kernel
theorem dX4_switchOn_45 : decode cX4_switchOn 45 = .ok (.getfield 22, 3) := by decide +kernel
theorem dX4_switchOn_48 : decode cX4_switchOn 48 = .ok (.aload_n 0, 1) := by decide +kernel
theorem dX4_switchOn_49 : decode cX4_switchOn 49 = .ok (.getfield 13, 3) := by decide +kernel
theorem dX4_switchOn_52 : decode cX4_switchOn 52 = .ok (.iload_n 1, 1) := by decide +kernel
theorem dX4_switchOn_53 : decode cX4_switchOn 53 = .ok (.iaload, 1) := by decide +kernel
theorem dX4_switchOn_54 : decode cX4_switchOn 54 = .ok (.iload_n 3, 1) := by decide +kernel
theorem dX4_switchOn_55 : decode cX4_switchOn 55 = .ok (.iadd, 1) := by decide +kernel
theorem dX4_switchOn_56 : decode cX4_switchOn 56 = .ok (.iaload, 1) := by decide +kernel
theorem dX4_switchOn_57 : decode cX4_switchOn 57 = .ok (.iadd, 1) := by decide +kernel
theorem dX4_switchOn_58 : decode cX4_switchOn 58 = .ok (.istore_n 2, 1) := by decide +kernel
theorem dX4_switchOn_59 : decode cX4_switchOn 59 = .ok (.iinc 3 1, 3) := by decide +kernel
theorem dX4_switchOn_62 : decode cX4_switchOn 62 = .ok (.goto (-29), 3) := by decide +kernel
theorem dX4_switchOn_65 : decode cX4_switchOn 65 = .ok (.aload_n 0, 1) := by decide +kernel
theorem dX4_switchOn_66 : decode cX4_switchOn 66 = .ok (.getfield 7, 3) := by decide +kernel
theorem dX4_switchOn_69 : decode cX4_switchOn 69 = .ok (.iload_n 1, 1) := by decide +kernel
theorem dX4_switchOn_70 : decode cX4_switchOn 70 = .ok (.iaload, 1) := by decide +kernel
theorem dX4_switchOn_71 : decode cX4_switchOn 71 = .ok (.iconst 2, 1) := by decide +kernel
theorem dX4_switchOn_72 : decode cX4_switchOn 72 = .ok (.if_icmp .ne 8, 3) := by decide +kernel
theorem dX4_switchOn_75 : decode cX4_switchOn 75 = .ok (.bipush 60, 2) := by decide +kernel
theorem dX4_switchOn_77 : decode cX4_switchOn 77 = .ok (.goto 4, 3) := by decide +kernel
theorem dX4_switchOn_80 : decode cX4_switchOn 80 = .ok (.iload_n 2, 1) := by decide +kernel
theorem dX4_switchOn_81 : decode cX4_switchOn 81 = .ok (.ireturn, 1) := by decide +kernel
theorem dX4_as_0 : decode cX4_as 0 = .ok (.aload_n 0, 1) := by decide +kernel
theorem dX4_as_1 : decode cX4_as 1 = .ok (.iload_n 1, 1) := by decide +kernel
theorem dX4_as_2 : decode cX4_as 2 = .ok (.invokevirtual 168, 3) := by decide +kernel
theorem dX4_as_5 : decode cX4_as 5 = .ok (.ifCond .eq 9, 3) := by decide +kernel
theorem dX4_as_8 : decode cX4_as 8 = .ok (.aload_n 0, 1) := by decide +kernel
theorem dX4_as_9 : decode cX4_as 9 = .ok (.iconst (-1), 1) := by decide +kernel
theorem dX4_as_10 : decode cX4_as 10 = .ok (.invokevirtual 132, 3) := by decide +kernel
theorem dX4_as_13 : decode cX4_as 13 = .ok (.ireturn, 1) := by decide +kernel
theorem dX4_as_14 : decode cX4_as 14 = .ok (.iload_n 2, 1) := by decide +kernel
theorem dX4_as_15 : decode cX4_as 15 = .ok (.i2l, 1) := by decide +kernel
theorem dX4_as_16 : decode cX4_as 16 = .ok (.lconst 0, 1) := by decide +kernel
theorem dX4_as_17 : decode cX4_as 17 = .ok (.ldc2_w 135, 3) := by decide +kernel
theorem dX4_as_20 : decode cX4_as 20 = .ok (.invokestatic 87, 3) := by decide +kernel
theorem dX4_as_23 : decode cX4_as 23 = .ok (.ifCond .ne 10, 3) := by decide +kernel
theorem dX4_as_26 : decode cX4_as 26 = .ok (.aload_n 0, 1) := by decide +kernel
theorem dX4_as_27 : decode cX4_as 27 = .ok (.bipush (-2), 2) := by decide +kernel
theorem dX4_as_29 : decode cX4_as 29 = .ok (.invokevirtual 132, 3) := by decide +kernel
theorem dX4_as_32 : decode cX4_as 32 = .ok (.ireturn, 1) := by decide +kernel
theorem dX4_as_33 : decode cX4_as 33 = .ok (.aload_n 0, 1) := by decide +kernel
theorem dX4_as_34 : decode cX4_as 34 = .ok (.getfield 7, 3) := by decide +kernel
theorem dX4_as_37 : decode cX4_as 37 = .ok (.iload_n 1, 1) := by decide +kernel
theorem dX4_as_38 : decode cX4_as 38 = .ok (.iaload, 1) := by decide +kernel
theorem dX4_as_39 : decode cX4_as 39 = .ok (.iload_n 2, 1) := by decide +kernel
theorem dX4_as_40 : decode cX4_as 40 = .ok (.if_icmp .lt 11, 3) := by decide +kernel
theorem dX4_as_43 : decode cX4_as 43 = .ok (.aload_n 0, 1) := by decide +kernel
theorem dX4_as_44 : decode cX4_as 44 = .ok (.iconst 1, 1) := by decide +kernel
theorem dX4_as_45 : decode cX4_as 45 = .ok (.invokevirtual 132, 3) := by decide +kernel
theorem dX4_as_48 : decode cX4_as 48 = .ok (.goto 8, 3) := by decide +kernel
theorem dX4_as_51 : decode cX4_as 51 = .ok (.aload_n 0, 1) := by decide +kernel
theorem dX4_as_52 : decode cX4_as 52 = .ok (.iconst 2, 1) := by decide +kernel
theorem dX4_as_53 : decode cX4_as 53 = .ok (.invokevirtual 120, 3) := by decide +kernel
theorem dX4_as_56 : decode cX4_as 56 = .ok (.ireturn, 1) := by decide +kernel
theorem dX4_trace_0 : decode cX4_trace 0 = .ok (.aload_n 0, 1) := by decide +kernel
theorem dX4_trace_1 : decode cX4_trace 1 = .ok (.getfield 276, 3) := by decide +kernel
theorem dX4_trace_4 : decode cX4_trace 4 = .ok (.ireturn, 1) := by decide +kernel
theorem dX4_fault_0 : decode cX4_fault 0 = .ok (.aload_n 0, 1) := by decide +kernel
theorem dX4_fault_1 : decode cX4_fault 1 = .ok (.getfield 76, 3) := by decide +kernel
theorem dX4_fault_4 : decode cX4_fault 4 = .ok (.ireturn, 1) := by decide +kernel
theorem dX4_many_0 : decode cX4_many 0 = .ok (.iconst 0, 1) := by decide +kernel
theorem dX4_many_1 : decode cX4_many 1 = .ok (.istore_n 2, 1) := by decide +kernel
theorem dX4_many_2 : decode cX4_many 2 = .ok (.iconst 0, 1) := by decide +kernel
theorem dX4_many_3 : decode cX4_many 3 = .ok (.istore_n 3, 1) := by decide +kernel
theorem dX4_many_4 : decode cX4_many 4 = .ok (.iload_n 3, 1) := by decide +kernel
theorem dX4_many_5 : decode cX4_many 5 = .ok (.aload_n 0, 1) := by decide +kernel
theorem dX4_many_6 : decode cX4_many 6 = .ok (.getfield 84, 3) := by decide +kernel
theorem dX4_many_9 : decode cX4_many 9 = .ok (.if_icmp .ge 18, 3) := by decide +kernel
theorem dX4_many_12 : decode cX4_many 12 = .ok (.iload_n 2, 1) := by decide +kernel
theorem dX4_many_13 : decode cX4_many 13 = .ok (.aload_n 0, 1) := by decide +kernel
theorem dX4_many_14 : decode cX4_many 14 = .ok (.getfield 19, 3) := by decide +kernel
theorem dX4_many_17 : decode cX4_many 17 = .ok (.iload_n 3, 1) := by decide +kernel
theorem dX4_many_18 : decode cX4_many 18 = .ok (.iaload, 1) := by decide +kernel
theorem dX4_many_19 : decode cX4_many 19 = .ok (.iadd, 1) := by decide +kernel
theorem dX4_many_20 : decode cX4_many 20 = .ok (.istore_n 2, 1) := by decide +kernel
theorem dX4_many_21 : decode cX4_many 21 = .ok (.iinc 3 1, 3) := by decide +kernel
theorem dX4_many_24 : decode cX4_many 24 = .ok (.goto (-20), 3) := by decide +kernel
theorem dX4_many_27 : decode cX4_many 27 = .ok (.iload_n 1, 1) := by decide +kernel
theorem dX4_many_28 : decode cX4_many 28 = .ok (.tableswitch 67 0 5 #[40, 45, 50, 52, 57, 62], 40) := by decide +kernel
theorem dX4_many_68 : decode cX4_many 68 = .ok (.aload_n 0, 1) := by decide +kernel
theorem dX4_many_69 : decode cX4_many 69 = .ok (.getfield 84, 3) := by decide +kernel
theorem dX4_many_72 : decode cX4_many 72 = .ok (.ireturn, 1) := by decide +kernel
theorem dX4_many_73 : decode cX4_many 73 = .ok (.aload_n 0, 1) := by decide +kernel
theorem dX4_many_74 : decode cX4_many 74 = .ok (.getfield 91, 3) := by decide +kernel
theorem dX4_many_77 : decode cX4_many 77 = .ok (.ireturn, 1) := by decide +kernel
theorem dX4_many_78 : decode cX4_many 78 = .ok (.iload_n 2, 1) := by decide +kernel
theorem dX4_many_79 : decode cX4_many 79 = .ok (.ireturn, 1) := by decide +kernel
theorem dX4_many_80 : decode cX4_many 80 = .ok (.aload_n 0, 1) := by decide +kernel
theorem dX4_many_81 : decode cX4_many 81 = .ok (.invokevirtual 240, 3) := by decide +kernel
theorem dX4_many_84 : decode cX4_many 84 = .ok (.ireturn, 1) := by decide +kernel
theorem dX4_many_85 : decode cX4_many 85 = .ok (.aload_n 0, 1) := by decide +kernel
theorem dX4_many_86 : decode cX4_many 86 = .ok (.getfield 147, 3) := by decide +kernel
theorem dX4_many_89 : decode cX4_many 89 = .ok (.ireturn, 1) := by decide +kernel
theorem dX4_many_90 : decode cX4_many 90 = .ok (.aload_n 0, 1) := by decide +kernel
theorem dX4_many_91 : decode cX4_many 91 = .ok (.getfield 144, 3) := by decide +kernel
theorem dX4_many_94 : decode cX4_many 94 = .ok (.ireturn, 1) := by decide +kernel
theorem dX4_many_95 : decode cX4_many 95 = .ok (.bipush (-2), 2) := by decide +kernel
theorem dX4_many_97 : decode cX4_many 97 = .ok (.ireturn, 1) := by decide +kernel
end
section
theorem dL_law_0 : decode cL_law 0 = .ok (.new 7, 3) := by decide +kernel
theorem dL_law_3 : decode cL_law 3 = .ok (.dup, 1) := by decide +kernel
theorem dL_law_4 : decode cL_law 4 = .ok (.invokespecial 9, 3) := by decide +kernel
theorem dL_law_7 : decode cL_law 7 = .ok (.astore_n 1, 1) := by decide +kernel
theorem dL_law_8 : decode cL_law 8 = .ok (.new 10, 3) := by decide +kernel
theorem dL_law_11 : decode cL_law 11 = .ok (.dup, 1) := by decide +kernel
theorem dL_law_12 : decode cL_law 12 = .ok (.invokespecial 12, 3) := by decide +kernel
theorem dL_law_15 : decode cL_law 15 = .ok (.astore_n 2, 1) := by decide +kernel
theorem dL_law_16 : decode cL_law 16 = .ok (.iconst 0, 1) := by decide +kernel
theorem dL_law_17 : decode cL_law 17 = .ok (.istore_n 3, 1) := by decide +kernel
theorem dL_law_18 : decode cL_law 18 = .ok (.iload_n 3, 1) := by decide +kernel
theorem dL_law_19 : decode cL_law 19 = .ok (.aload_n 0, 1) := by decide +kernel
theorem dL_law_20 : decode cL_law 20 = .ok (.arraylength, 1) := by decide +kernel
theorem dL_law_21 : decode cL_law 21 = .ok (.bipush 6, 2) := by decide +kernel
theorem dL_law_23 : decode cL_law 23 = .ok (.isub, 1) := by decide +kernel
theorem dL_law_24 : decode cL_law 24 = .ok (.if_icmp .gt 1075, 3) := by decide +kernel
theorem dL_law_27 : decode cL_law 27 = .ok (.aload_n 0, 1) := by decide +kernel
theorem dL_law_28 : decode cL_law 28 = .ok (.iload_n 3, 1) := by decide +kernel
theorem dL_law_29 : decode cL_law 29 = .ok (.iaload, 1) := by decide +kernel
theorem dL_law_30 : decode cL_law 30 = .ok (.bipush 31, 2) := by decide +kernel
theorem dL_law_32 : decode cL_law 32 = .ok (.iand, 1) := by decide +kernel
theorem dL_law_33 : decode cL_law 33 = .ok (.tableswitch 1060 0 28 #[131, 184, 217, 250, 283, 306, 329, 362, 385, 408, 431, 484, 547, 590, 613, 636, 659, 672, 716, 759, 782, 825, 869, 932, 955, 978, 1011, 1024, 1037], 131) := by decide +kernel
theorem dL_law_164 : decode cL_law 164 = .ok (.aload_n 1, 1) := by decide +kernel
theorem dL_law_165 : decode cL_law 165 = .ok (.aload_n 0, 1) := by decide +kernel
theorem dL_law_166 : decode cL_law 166 = .ok (.iload_n 3, 1) := by decide +kernel
theorem dL_law_167 : decode cL_law 167 = .ok (.iconst 1, 1) := by decide +kernel
theorem dL_law_168 : decode cL_law 168 = .ok (.iadd, 1) := by decide +kernel
theorem dL_law_169 : decode cL_law 169 = .ok (.iaload, 1) := by decide +kernel
theorem dL_law_170 : decode cL_law 170 = .ok (.aload_n 0, 1) := by decide +kernel
theorem dL_law_171 : decode cL_law 171 = .ok (.iload_n 3, 1) := by decide +kernel
theorem dL_law_172 : decode cL_law 172 = .ok (.iconst 2, 1) := by decide +kernel
theorem dL_law_173 : decode cL_law 173 = .ok (.iadd, 1) := by decide +kernel
theorem dL_law_174 : decode cL_law 174 = .ok (.iaload, 1) := by decide +kernel
theorem dL_law_175 : decode cL_law 175 = .ok (.aload_n 0, 1) := by decide +kernel
theorem dL_law_176 : decode cL_law 176 = .ok (.iload_n 3, 1) := by decide +kernel
theorem dL_law_177 : decode cL_law 177 = .ok (.iconst 3, 1) := by decide +kernel
theorem dL_law_178 : decode cL_law 178 = .ok (.iadd, 1) := by decide +kernel
theorem dL_law_179 : decode cL_law 179 = .ok (.iaload, 1) := by decide +kernel
theorem dL_law_180 : decode cL_law 180 = .ok (.aload_n 0, 1) := by decide +kernel
theorem dL_law_181 : decode cL_law 181 = .ok (.iload_n 3, 1) := by decide +kernel
theorem dL_law_182 : decode cL_law 182 = .ok (.iconst 4, 1) := by decide +kernel
theorem dL_law_183 : decode cL_law 183 = .ok (.iadd, 1) := by decide +kernel
theorem dL_law_184 : decode cL_law 184 = .ok (.iaload, 1) := by decide +kernel
theorem dL_law_185 : decode cL_law 185 = .ok (.invokevirtual 13, 3) := by decide +kernel
theorem dL_law_188 : decode cL_law 188 = .ok (.aload_n 2, 1) := by decide +kernel
theorem dL_law_189 : decode cL_law 189 = .ok (.aload_n 0, 1) := by decide +kernel
theorem dL_law_190 : decode cL_law 190 = .ok (.iload_n 3, 1) := by decide +kernel
theorem dL_law_191 : decode cL_law 191 = .ok (.iconst 1, 1) := by decide +kernel
theorem dL_law_192 : decode cL_law 192 = .ok (.iadd, 1) := by decide +kernel
theorem dL_law_193 : decode cL_law 193 = .ok (.iaload, 1) := by decide +kernel
theorem dL_law_194 : decode cL_law 194 = .ok (.aload_n 0, 1) := by decide +kernel
theorem dL_law_195 : decode cL_law 195 = .ok (.iload_n 3, 1) := by decide +kernel
theorem dL_law_196 : decode cL_law 196 = .ok (.iconst 2, 1) := by decide +kernel
theorem dL_law_197 : decode cL_law 197 = .ok (.iadd, 1) := by decide +kernel
theorem dL_law_198 : decode cL_law 198 = .ok (.iaload, 1) := by decide +kernel
theorem dL_law_199 : decode cL_law 199 = .ok (.aload_n 0, 1) := by decide +kernel
theorem dL_law_200 : decode cL_law 200 = .ok (.iload_n 3, 1) := by decide +kernel
theorem dL_law_201 : decode cL_law 201 = .ok (.iconst 3, 1) := by decide +kernel
theorem dL_law_202 : decode cL_law 202 = .ok (.iadd, 1) := by decide +kernel
theorem dL_law_203 : decode cL_law 203 = .ok (.iaload, 1) := by decide +kernel
theorem dL_law_204 : decode cL_law 204 = .ok (.aload_n 0, 1) := by decide +kernel
theorem dL_law_205 : decode cL_law 205 = .ok (.iload_n 3, 1) := by decide +kernel
theorem dL_law_206 : decode cL_law 206 = .ok (.iconst 4, 1) := by decide +kernel
theorem dL_law_207 : decode cL_law 207 = .ok (.iadd, 1) := by decide +kernel
theorem dL_law_208 : decode cL_law 208 = .ok (.iaload, 1) := by decide +kernel
theorem dL_law_209 : decode cL_law 209 = .ok (.invokevirtual 17, 3) := by decide +kernel
theorem dL_law_212 : decode cL_law 212 = .ok (.if_icmp .eq 881, 3) := by decide +kernel
theorem dL_law_215 : decode cL_law 215 = .ok (.iconst 0, 1) := by decide +kernel
theorem dL_law_216 : decode cL_law 216 = .ok (.ireturn, 1) := by decide +kernel
theorem dL_law_217 : decode cL_law 217 = .ok (.aload_n 1, 1) := by decide +kernel
theorem dL_law_218 : decode cL_law 218 = .ok (.aload_n 0, 1) := by decide +kernel
theorem dL_law_219 : decode cL_law 219 = .ok (.iload_n 3, 1) := by decide +kernel
theorem dL_law_220 : decode cL_law 220 = .ok (.iconst 1, 1) := by decide +kernel
theorem dL_law_221 : decode cL_law 221 = .ok (.iadd, 1) := by decide +kernel
theorem dL_law_222 : decode cL_law 222 = .ok (.iaload, 1) := by decide +kernel
theorem dL_law_223 : decode cL_law 223 = .ok (.aload_n 0, 1) := by decide +kernel
theorem dL_law_224 : decode cL_law 224 = .ok (.iload_n 3, 1) := by decide +kernel
theorem dL_law_225 : decode cL_law 225 = .ok (.iconst 2, 1) := by decide +kernel
theorem dL_law_226 : decode cL_law 226 = .ok (.iadd, 1) := by decide +kernel
theorem dL_law_227 : decode cL_law 227 = .ok (.iaload, 1) := by decide +kernel
theorem dL_law_228 : decode cL_law 228 = .ok (.invokevirtual 18, 3) := by decide +kernel
theorem dL_law_231 : decode cL_law 231 = .ok (.aload_n 2, 1) := by decide +kernel
theorem dL_law_232 : decode cL_law 232 = .ok (.aload_n 0, 1) := by decide +kernel
theorem dL_law_233 : decode cL_law 233 = .ok (.iload_n 3, 1) := by decide +kernel
theorem dL_law_234 : decode cL_law 234 = .ok (.iconst 1, 1) := by decide +kernel
theorem dL_law_235 : decode cL_law 235 = .ok (.iadd, 1) := by decide +kernel
theorem dL_law_236 : decode cL_law 236 = .ok (.iaload, 1) := by decide +kernel
theorem dL_law_237 : decode cL_law 237 = .ok (.aload_n 0, 1) := by decide +kernel
theorem dL_law_238 : decode cL_law 238 = .ok (.iload_n 3, 1) := by decide +kernel
theorem dL_law_239 : decode cL_law 239 = .ok (.iconst 2, 1) := by decide +kernel
theorem dL_law_240 : decode cL_law 240 = .ok (.iadd, 1) := by decide +kernel
theorem dL_law_241 : decode cL_law 241 = .ok (.iaload, 1) := by decide +kernel
theorem dL_law_242 : decode cL_law 242 = .ok (.invokevirtual 22, 3) := by decide +kernel
theorem dL_law_245 : decode cL_law 245 = .ok (.if_icmp .eq 848, 3) := by decide +kernel
theorem dL_law_248 : decode cL_law 248 = .ok (.iconst 0, 1) := by decide +kernel
theorem dL_law_249 : decode cL_law 249 = .ok (.ireturn, 1) := by decide +kernel
theorem dL_law_250 : decode cL_law 250 = .ok (.aload_n 1, 1) := by decide +kernel
theorem dL_law_251 : decode cL_law 251 = .ok (.aload_n 0, 1) := by decide +kernel
theorem dL_law_252 : decode cL_law 252 = .ok (.iload_n 3, 1) := by decide +kernel
theorem dL_law_253 : decode cL_law 253 = .ok (.iconst 1, 1) := by decide +kernel
theorem dL_law_254 : decode cL_law 254 = .ok (.iadd, 1) := by decide +kernel
theorem dL_law_255 : decode cL_law 255 = .ok (.iaload, 1) := by decide +kernel
theorem dL_law_256 : decode cL_law 256 = .ok (.aload_n 0, 1) := by decide +kernel
theorem dL_law_257 : decode cL_law 257 = .ok (.iload_n 3, 1) := by decide +kernel
theorem dL_law_258 : decode cL_law 258 = .ok (.iconst 2, 1) := by decide +kernel
theorem dL_law_259 : decode cL_law 259 = .ok (.iadd, 1) := by decide +kernel
theorem dL_law_260 : decode cL_law 260 = .ok (.iaload, 1) := by decide +kernel
theorem dL_law_261 : decode cL_law 261 = .ok (.invokevirtual 23, 3) := by decide +kernel
theorem dL_law_264 : decode cL_law 264 = .ok (.aload_n 2, 1) := by decide +kernel
theorem dL_law_265 : decode cL_law 265 = .ok (.aload_n 0, 1) := by decide +kernel
theorem dL_law_266 : decode cL_law 266 = .ok (.iload_n 3, 1) := by decide +kernel
theorem dL_law_267 : decode cL_law 267 = .ok (.iconst 1, 1) := by decide +kernel
theorem dL_law_268 : decode cL_law 268 = .ok (.iadd, 1) := by decide +kernel
theorem dL_law_269 : decode cL_law 269 = .ok (.iaload, 1) := by decide +kernel
theorem dL_law_270 : decode cL_law 270 = .ok (.aload_n 0, 1) := by decide +kernel
theorem dL_law_271 : decode cL_law 271 = .ok (.iload_n 3, 1) := by decide +kernel
theorem dL_law_272 : decode cL_law 272 = .ok (.iconst 2, 1) := by decide +kernel
theorem dL_law_273 : decode cL_law 273 = .ok (.iadd, 1) := by decide +kernel
theorem dL_law_274 : decode cL_law 274 = .ok (.iaload, 1) := by decide +kernel
theorem dL_law_275 : decode cL_law 275 = .ok (.invokevirtual 26, 3) := by decide +kernel
theorem dL_law_278 : decode cL_law 278 = .ok (.if_icmp .eq 815, 3) := by decide +kernel
theorem dL_law_281 : decode cL_law 281 = .ok (.iconst 0, 1) := by decide +kernel
theorem dL_law_282 : decode cL_law 282 = .ok (.ireturn, 1) := by decide +kernel
theorem dL_law_283 : decode cL_law 283 = .ok (.aload_n 1, 1) := by decide +kernel
theorem dL_law_284 : decode cL_law 284 = .ok (.aload_n 0, 1) := by decide +kernel
theorem dL_law_285 : decode cL_law 285 = .ok (.iload_n 3, 1) := by decide +kernel
theorem dL_law_286 : decode cL_law 286 = .ok (.iconst 1, 1) := by decide +kernel
theorem dL_law_287 : decode cL_law 287 = .ok (.iadd, 1) := by decide +kernel
theorem dL_law_288 : decode cL_law 288 = .ok (.iaload, 1) := by decide +kernel
theorem dL_law_289 : decode cL_law 289 = .ok (.aload_n 0, 1) := by decide +kernel
theorem dL_law_290 : decode cL_law 290 = .ok (.iload_n 3, 1) := by decide +kernel
theorem dL_law_291 : decode cL_law 291 = .ok (.iconst 2, 1) := by decide +kernel
theorem dL_law_292 : decode cL_law 292 = .ok (.iadd, 1) := by decide +kernel
theorem dL_law_293 : decode cL_law 293 = .ok (.iaload, 1) := by decide +kernel
theorem dL_law_294 : decode cL_law 294 = .ok (.invokevirtual 27, 3) := by decide +kernel
theorem dL_law_297 : decode cL_law 297 = .ok (.aload_n 2, 1) := by decide +kernel
theorem dL_law_298 : decode cL_law 298 = .ok (.aload_n 0, 1) := by decide +kernel
theorem dL_law_299 : decode cL_law 299 = .ok (.iload_n 3, 1) := by decide +kernel
theorem dL_law_300 : decode cL_law 300 = .ok (.iconst 1, 1) := by decide +kernel
theorem dL_law_301 : decode cL_law 301 = .ok (.iadd, 1) := by decide +kernel
theorem dL_law_302 : decode cL_law 302 = .ok (.iaload, 1) := by decide +kernel
theorem dL_law_303 : decode cL_law 303 = .ok (.aload_n 0, 1) := by decide +kernel
theorem dL_law_304 : decode cL_law 304 = .ok (.iload_n 3, 1) := by decide +kernel
theorem dL_law_305 : decode cL_law 305 = .ok (.iconst 2, 1) := by decide +kernel
theorem dL_law_306 : decode cL_law 306 = .ok (.iadd, 1) := by decide +kernel
theorem dL_law_307 : decode cL_law 307 = .ok (.iaload, 1) := by decide +kernel
theorem dL_law_308 : decode cL_law 308 = .ok (.invokevirtual 30, 3) := by decide +kernel
theorem dL_law_311 : decode cL_law 311 = .ok (.if_icmp .eq 782, 3) := by decide +kernel
theorem dL_law_314 : decode cL_law 314 = .ok (.iconst 0, 1) := by decide +kernel
theorem dL_law_315 : decode cL_law 315 = .ok (.ireturn, 1) := by decide +kernel
theorem dL_law_316 : decode cL_law 316 = .ok (.aload_n 1, 1) := by decide +kernel
theorem dL_law_317 : decode cL_law 317 = .ok (.aload_n 0, 1) := by decide +kernel
theorem dL_law_318 : decode cL_law 318 = .ok (.iload_n 3, 1) := by decide +kernel
theorem dL_law_319 : decode cL_law 319 = .ok (.iconst 1, 1) := by decide +kernel
theorem dL_law_320 : decode cL_law 320 = .ok (.iadd, 1) := by decide +kernel
theorem dL_law_321 : decode cL_law 321 = .ok (.iaload, 1) := by decide +kernel
theorem dL_law_322 : decode cL_law 322 = .ok (.invokevirtual 31, 3) := by decide +kernel
theorem dL_law_325 : decode cL_law 325 = .ok (.aload_n 2, 1) := by decide +kernel
theorem dL_law_326 : decode cL_law 326 = .ok (.aload_n 0, 1) := by decide +kernel
theorem dL_law_327 : decode cL_law 327 = .ok (.iload_n 3, 1) := by decide +kernel
theorem dL_law_328 : decode cL_law 328 = .ok (.iconst 1, 1) := by decide +kernel
theorem dL_law_329 : decode cL_law 329 = .ok (.iadd, 1) := by decide +kernel
theorem dL_law_330 : decode cL_law 330 = .ok (.iaload, 1) := by decide +kernel
theorem dL_law_331 : decode cL_law 331 = .ok (.invokevirtual 35, 3) := by decide +kernel
theorem dL_law_334 : decode cL_law 334 = .ok (.if_icmp .eq 759, 3) := by decide +kernel
theorem dL_law_337 : decode cL_law 337 = .ok (.iconst 0, 1) := by decide +kernel
theorem dL_law_338 : decode cL_law 338 = .ok (.ireturn, 1) := by decide +kernel
theorem dL_law_339 : decode cL_law 339 = .ok (.aload_n 1, 1) := by decide +kernel
theorem dL_law_340 : decode cL_law 340 = .ok (.aload_n 0, 1) := by decide +kernel
theorem dL_law_341 : decode cL_law 341 = .ok (.iload_n 3, 1) := by decide +kernel
theorem dL_law_342 : decode cL_law 342 = .ok (.iconst 1, 1) := by decide +kernel
theorem dL_law_343 : decode cL_law 343 = .ok (.iadd, 1) := by decide +kernel
theorem dL_law_344 : decode cL_law 344 = .ok (.iaload, 1) := by decide +kernel
theorem dL_law_345 : decode cL_law 345 = .ok (.invokevirtual 36, 3) := by decide +kernel
theorem dL_law_348 : decode cL_law 348 = .ok (.aload_n 2, 1) := by decide +kernel
theorem dL_law_349 : decode cL_law 349 = .ok (.aload_n 0, 1) := by decide +kernel
theorem dL_law_350 : decode cL_law 350 = .ok (.iload_n 3, 1) := by decide +kernel
theorem dL_law_351 : decode cL_law 351 = .ok (.iconst 1, 1) := by decide +kernel
theorem dL_law_352 : decode cL_law 352 = .ok (.iadd, 1) := by decide +kernel
theorem dL_law_353 : decode cL_law 353 = .ok (.iaload, 1) := by decide +kernel
theorem dL_law_354 : decode cL_law 354 = .ok (.invokevirtual 39, 3) := by decide +kernel
theorem dL_law_357 : decode cL_law 357 = .ok (.if_icmp .eq 736, 3) := by decide +kernel
theorem dL_law_360 : decode cL_law 360 = .ok (.iconst 0, 1) := by decide +kernel
theorem dL_law_361 : decode cL_law 361 = .ok (.ireturn, 1) := by decide +kernel
theorem dL_law_362 : decode cL_law 362 = .ok (.aload_n 1, 1) := by decide +kernel
theorem dL_law_363 : decode cL_law 363 = .ok (.aload_n 0, 1) := by decide +kernel
theorem dL_law_364 : decode cL_law 364 = .ok (.iload_n 3, 1) := by decide +kernel
theorem dL_law_365 : decode cL_law 365 = .ok (.iconst 1, 1) := by decide +kernel
theorem dL_law_366 : decode cL_law 366 = .ok (.iadd, 1) := by decide +kernel
theorem dL_law_367 : decode cL_law 367 = .ok (.iaload, 1) := by decide +kernel
theorem dL_law_368 : decode cL_law 368 = .ok (.aload_n 0, 1) := by decide +kernel
theorem dL_law_369 : decode cL_law 369 = .ok (.iload_n 3, 1) := by decide +kernel
theorem dL_law_370 : decode cL_law 370 = .ok (.iconst 2, 1) := by decide +kernel
theorem dL_law_371 : decode cL_law 371 = .ok (.iadd, 1) := by decide +kernel
theorem dL_law_372 : decode cL_law 372 = .ok (.iaload, 1) := by decide +kernel
theorem dL_law_373 : decode cL_law 373 = .ok (.invokevirtual 40, 3) := by decide +kernel
theorem dL_law_376 : decode cL_law 376 = .ok (.aload_n 2, 1) := by decide +kernel
theorem dL_law_377 : decode cL_law 377 = .ok (.aload_n 0, 1) := by decide +kernel
theorem dL_law_378 : decode cL_law 378 = .ok (.iload_n 3, 1) := by decide +kernel
theorem dL_law_379 : decode cL_law 379 = .ok (.iconst 1, 1) := by decide +kernel
theorem dL_law_380 : decode cL_law 380 = .ok (.iadd, 1) := by decide +kernel
theorem dL_law_381 : decode cL_law 381 = .ok (.iaload, 1) := by decide +kernel
theorem dL_law_382 : decode cL_law 382 = .ok (.aload_n 0, 1) := by decide +kernel
theorem dL_law_383 : decode cL_law 383 = .ok (.iload_n 3, 1) := by decide +kernel
theorem dL_law_384 : decode cL_law 384 = .ok (.iconst 2, 1) := by decide +kernel
theorem dL_law_385 : decode cL_law 385 = .ok (.iadd, 1) := by decide +kernel
theorem dL_law_386 : decode cL_law 386 = .ok (.iaload, 1) := by decide +kernel
theorem dL_law_387 : decode cL_law 387 = .ok (.invokevirtual 43, 3) := by decide +kernel
theorem dL_law_390 : decode cL_law 390 = .ok (.if_icmp .eq 703, 3) := by decide +kernel
theorem dL_law_393 : decode cL_law 393 = .ok (.iconst 0, 1) := by decide +kernel
theorem dL_law_394 : decode cL_law 394 = .ok (.ireturn, 1) := by decide +kernel
theorem dL_law_395 : decode cL_law 395 = .ok (.aload_n 1, 1) := by decide +kernel
theorem dL_law_396 : decode cL_law 396 = .ok (.aload_n 0, 1) := by decide +kernel
theorem dL_law_397 : decode cL_law 397 = .ok (.iload_n 3, 1) := by decide +kernel
theorem dL_law_398 : decode cL_law 398 = .ok (.iconst 1, 1) := by decide +kernel
theorem dL_law_399 : decode cL_law 399 = .ok (.iadd, 1) := by decide +kernel
theorem dL_law_400 : decode cL_law 400 = .ok (.iaload, 1) := by decide +kernel
theorem dL_law_401 : decode cL_law 401 = .ok (.invokevirtual 44, 3) := by decide +kernel
theorem dL_law_404 : decode cL_law 404 = .ok (.aload_n 2, 1) := by decide +kernel
theorem dL_law_405 : decode cL_law 405 = .ok (.aload_n 0, 1) := by decide +kernel
theorem dL_law_406 : decode cL_law 406 = .ok (.iload_n 3, 1) := by decide +kernel
theorem dL_law_407 : decode cL_law 407 = .ok (.iconst 1, 1) := by decide +kernel
theorem dL_law_408 : decode cL_law 408 = .ok (.iadd, 1) := by decide +kernel
theorem dL_law_409 : decode cL_law 409 = .ok (.iaload, 1) := by decide +kernel
theorem dL_law_410 : decode cL_law 410 = .ok (.invokevirtual 47, 3) := by decide +kernel
theorem dL_law_413 : decode cL_law 413 = .ok (.if_icmp .eq 680, 3) := by decide +kernel
theorem dL_law_416 : decode cL_law 416 = .ok (.iconst 0, 1) := by decide +kernel
theorem dL_law_417 : decode cL_law 417 = .ok (.ireturn, 1) := by decide +kernel
theorem dL_law_418 : decode cL_law 418 = .ok (.aload_n 1, 1) := by decide +kernel
theorem dL_law_419 : decode cL_law 419 = .ok (.aload_n 0, 1) := by decide +kernel
theorem dL_law_420 : decode cL_law 420 = .ok (.iload_n 3, 1) := by decide +kernel
theorem dL_law_421 : decode cL_law 421 = .ok (.iconst 1, 1) := by decide +kernel
theorem dL_law_422 : decode cL_law 422 = .ok (.iadd, 1) := by decide +kernel
theorem dL_law_423 : decode cL_law 423 = .ok (.iaload, 1) := by decide +kernel
theorem dL_law_424 : decode cL_law 424 = .ok (.invokevirtual 48, 3) := by decide +kernel
theorem dL_law_427 : decode cL_law 427 = .ok (.aload_n 2, 1) := by decide +kernel
theorem dL_law_428 : decode cL_law 428 = .ok (.aload_n 0, 1) := by decide +kernel
theorem dL_law_429 : decode cL_law 429 = .ok (.iload_n 3, 1) := by decide +kernel
theorem dL_law_430 : decode cL_law 430 = .ok (.iconst 1, 1) := by decide +kernel
theorem dL_law_431 : decode cL_law 431 = .ok (.iadd, 1) := by decide +kernel
theorem dL_law_432 : decode cL_law 432 = .ok (.iaload, 1) := by decide +kernel
theorem dL_law_433 : decode cL_law 433 = .ok (.invokevirtual 51, 3) := by decide +kernel
theorem dL_law_436 : decode cL_law 436 = .ok (.if_icmp .eq 657, 3) := by decide +kernel
theorem dL_law_439 : decode cL_law 439 = .ok (.iconst 0, 1) := by decide +kernel
theorem dL_law_440 : decode cL_law 440 = .ok (.ireturn, 1) := by decide +kernel
theorem dL_law_441 : decode cL_law 441 = .ok (.aload_n 1, 1) := by decide +kernel
theorem dL_law_442 : decode cL_law 442 = .ok (.aload_n 0, 1) := by decide +kernel
theorem dL_law_443 : decode cL_law 443 = .ok (.iload_n 3, 1) := by decide +kernel
theorem dL_law_444 : decode cL_law 444 = .ok (.iconst 1, 1) := by decide +kernel
theorem dL_law_445 : decode cL_law 445 = .ok (.iadd, 1) := by decide +kernel
theorem dL_law_446 : decode cL_law 446 = .ok (.iaload, 1) := by decide +kernel
theorem dL_law_447 : decode cL_law 447 = .ok (.invokevirtual 52, 3) := by decide +kernel
theorem dL_law_450 : decode cL_law 450 = .ok (.aload_n 2, 1) := by decide +kernel
theorem dL_law_451 : decode cL_law 451 = .ok (.aload_n 0, 1) := by decide +kernel
theorem dL_law_452 : decode cL_law 452 = .ok (.iload_n 3, 1) := by decide +kernel
theorem dL_law_453 : decode cL_law 453 = .ok (.iconst 1, 1) := by decide +kernel
theorem dL_law_454 : decode cL_law 454 = .ok (.iadd, 1) := by decide +kernel
theorem dL_law_455 : decode cL_law 455 = .ok (.iaload, 1) := by decide +kernel
theorem dL_law_456 : decode cL_law 456 = .ok (.invokevirtual 55, 3) := by decide +kernel
theorem dL_law_459 : decode cL_law 459 = .ok (.if_icmp .eq 634, 3) := by decide +kernel
theorem dL_law_462 : decode cL_law 462 = .ok (.iconst 0, 1) := by decide +kernel
theorem dL_law_463 : decode cL_law 463 = .ok (.ireturn, 1) := by decide +kernel
theorem dL_law_464 : decode cL_law 464 = .ok (.aload_n 1, 1) := by decide +kernel
theorem dL_law_465 : decode cL_law 465 = .ok (.aload_n 0, 1) := by decide +kernel
theorem dL_law_466 : decode cL_law 466 = .ok (.iload_n 3, 1) := by decide +kernel
theorem dL_law_467 : decode cL_law 467 = .ok (.iconst 1, 1) := by decide +kernel
theorem dL_law_468 : decode cL_law 468 = .ok (.iadd, 1) := by decide +kernel
theorem dL_law_469 : decode cL_law 469 = .ok (.iaload, 1) := by decide +kernel
theorem dL_law_470 : decode cL_law 470 = .ok (.aload_n 0, 1) := by decide +kernel
theorem dL_law_471 : decode cL_law 471 = .ok (.iload_n 3, 1) := by decide +kernel
theorem dL_law_472 : decode cL_law 472 = .ok (.iconst 2, 1) := by decide +kernel
theorem dL_law_473 : decode cL_law 473 = .ok (.iadd, 1) := by decide +kernel
theorem dL_law_474 : decode cL_law 474 = .ok (.iaload, 1) := by decide +kernel
theorem dL_law_475 : decode cL_law 475 = .ok (.aload_n 0, 1) := by decide +kernel
theorem dL_law_476 : decode cL_law 476 = .ok (.iload_n 3, 1) := by decide +kernel
theorem dL_law_477 : decode cL_law 477 = .ok (.iconst 3, 1) := by decide +kernel
theorem dL_law_478 : decode cL_law 478 = .ok (.iadd, 1) := by decide +kernel
theorem dL_law_479 : decode cL_law 479 = .ok (.iaload, 1) := by decide +kernel
theorem dL_law_480 : decode cL_law 480 = .ok (.aload_n 0, 1) := by decide +kernel
theorem dL_law_481 : decode cL_law 481 = .ok (.iload_n 3, 1) := by decide +kernel
theorem dL_law_482 : decode cL_law 482 = .ok (.iconst 4, 1) := by decide +kernel
theorem dL_law_483 : decode cL_law 483 = .ok (.iadd, 1) := by decide +kernel
theorem dL_law_484 : decode cL_law 484 = .ok (.iaload, 1) := by decide +kernel
theorem dL_law_485 : decode cL_law 485 = .ok (.invokevirtual 56, 3) := by decide +kernel
theorem dL_law_488 : decode cL_law 488 = .ok (.aload_n 2, 1) := by decide +kernel
theorem dL_law_489 : decode cL_law 489 = .ok (.aload_n 0, 1) := by decide +kernel
theorem dL_law_490 : decode cL_law 490 = .ok (.iload_n 3, 1) := by decide +kernel
theorem dL_law_491 : decode cL_law 491 = .ok (.iconst 1, 1) := by decide +kernel
theorem dL_law_492 : decode cL_law 492 = .ok (.iadd, 1) := by decide +kernel
theorem dL_law_493 : decode cL_law 493 = .ok (.iaload, 1) := by decide +kernel
theorem dL_law_494 : decode cL_law 494 = .ok (.aload_n 0, 1) := by decide +kernel
theorem dL_law_495 : decode cL_law 495 = .ok (.iload_n 3, 1) := by decide +kernel
theorem dL_law_496 : decode cL_law 496 = .ok (.iconst 2, 1) := by decide +kernel
theorem dL_law_497 : decode cL_law 497 = .ok (.iadd, 1) := by decide +kernel
theorem dL_law_498 : decode cL_law 498 = .ok (.iaload, 1) := by decide +kernel
theorem dL_law_499 : decode cL_law 499 = .ok (.aload_n 0, 1) := by decide +kernel
theorem dL_law_500 : decode cL_law 500 = .ok (.iload_n 3, 1) := by decide +kernel
theorem dL_law_501 : decode cL_law 501 = .ok (.iconst 3, 1) := by decide +kernel
theorem dL_law_502 : decode cL_law 502 = .ok (.iadd, 1) := by decide +kernel
theorem dL_law_503 : decode cL_law 503 = .ok (.iaload, 1) := by decide +kernel
theorem dL_law_504 : decode cL_law 504 = .ok (.aload_n 0, 1) := by decide +kernel
theorem dL_law_505 : decode cL_law 505 = .ok (.iload_n 3, 1) := by decide +kernel
theorem dL_law_506 : decode cL_law 506 = .ok (.iconst 4, 1) := by decide +kernel
theorem dL_law_507 : decode cL_law 507 = .ok (.iadd, 1) := by decide +kernel
theorem dL_law_508 : decode cL_law 508 = .ok (.iaload, 1) := by decide +kernel
theorem dL_law_509 : decode cL_law 509 = .ok (.invokevirtual 59, 3) := by decide +kernel
theorem dL_law_512 : decode cL_law 512 = .ok (.if_icmp .eq 581, 3) := by decide +kernel
theorem dL_law_515 : decode cL_law 515 = .ok (.iconst 0, 1) := by decide +kernel
theorem dL_law_516 : decode cL_law 516 = .ok (.ireturn, 1) := by decide +kernel
theorem dL_law_517 : decode cL_law 517 = .ok (.aload_n 1, 1) := by decide +kernel
theorem dL_law_518 : decode cL_law 518 = .ok (.aload_n 0, 1) := by decide +kernel
theorem dL_law_519 : decode cL_law 519 = .ok (.iload_n 3, 1) := by decide +kernel
theorem dL_law_520 : decode cL_law 520 = .ok (.iconst 1, 1) := by decide +kernel
theorem dL_law_521 : decode cL_law 521 = .ok (.iadd, 1) := by decide +kernel
theorem dL_law_522 : decode cL_law 522 = .ok (.iaload, 1) := by decide +kernel
theorem dL_law_523 : decode cL_law 523 = .ok (.aload_n 0, 1) := by decide +kernel
theorem dL_law_524 : decode cL_law 524 = .ok (.iload_n 3, 1) := by decide +kernel
theorem dL_law_525 : decode cL_law 525 = .ok (.iconst 2, 1) := by decide +kernel
theorem dL_law_526 : decode cL_law 526 = .ok (.iadd, 1) := by decide +kernel
theorem dL_law_527 : decode cL_law 527 = .ok (.iaload, 1) := by decide +kernel
theorem dL_law_528 : decode cL_law 528 = .ok (.aload_n 0, 1) := by decide +kernel
theorem dL_law_529 : decode cL_law 529 = .ok (.iload_n 3, 1) := by decide +kernel
theorem dL_law_530 : decode cL_law 530 = .ok (.iconst 3, 1) := by decide +kernel
theorem dL_law_531 : decode cL_law 531 = .ok (.iadd, 1) := by decide +kernel
theorem dL_law_532 : decode cL_law 532 = .ok (.iaload, 1) := by decide +kernel
theorem dL_law_533 : decode cL_law 533 = .ok (.aload_n 0, 1) := by decide +kernel
theorem dL_law_534 : decode cL_law 534 = .ok (.iload_n 3, 1) := by decide +kernel
theorem dL_law_535 : decode cL_law 535 = .ok (.iconst 4, 1) := by decide +kernel
theorem dL_law_536 : decode cL_law 536 = .ok (.iadd, 1) := by decide +kernel
theorem dL_law_537 : decode cL_law 537 = .ok (.iaload, 1) := by decide +kernel
theorem dL_law_538 : decode cL_law 538 = .ok (.aload_n 0, 1) := by decide +kernel
theorem dL_law_539 : decode cL_law 539 = .ok (.iload_n 3, 1) := by decide +kernel
theorem dL_law_540 : decode cL_law 540 = .ok (.iconst 5, 1) := by decide +kernel
theorem dL_law_541 : decode cL_law 541 = .ok (.iadd, 1) := by decide +kernel
theorem dL_law_542 : decode cL_law 542 = .ok (.iaload, 1) := by decide +kernel
theorem dL_law_543 : decode cL_law 543 = .ok (.invokevirtual 60, 3) := by decide +kernel
theorem dL_law_546 : decode cL_law 546 = .ok (.aload_n 2, 1) := by decide +kernel
theorem dL_law_547 : decode cL_law 547 = .ok (.aload_n 0, 1) := by decide +kernel
theorem dL_law_548 : decode cL_law 548 = .ok (.iload_n 3, 1) := by decide +kernel
theorem dL_law_549 : decode cL_law 549 = .ok (.iconst 1, 1) := by decide +kernel
theorem dL_law_550 : decode cL_law 550 = .ok (.iadd, 1) := by decide +kernel
theorem dL_law_551 : decode cL_law 551 = .ok (.iaload, 1) := by decide +kernel
theorem dL_law_552 : decode cL_law 552 = .ok (.aload_n 0, 1) := by decide +kernel
theorem dL_law_553 : decode cL_law 553 = .ok (.iload_n 3, 1) := by decide +kernel
theorem dL_law_554 : decode cL_law 554 = .ok (.iconst 2, 1) := by decide +kernel
theorem dL_law_555 : decode cL_law 555 = .ok (.iadd, 1) := by decide +kernel
theorem dL_law_556 : decode cL_law 556 = .ok (.iaload, 1) := by decide +kernel
theorem dL_law_557 : decode cL_law 557 = .ok (.aload_n 0, 1) := by decide +kernel
theorem dL_law_558 : decode cL_law 558 = .ok (.iload_n 3, 1) := by decide +kernel
theorem dL_law_559 : decode cL_law 559 = .ok (.iconst 3, 1) := by decide +kernel
theorem dL_law_560 : decode cL_law 560 = .ok (.iadd, 1) := by decide +kernel
theorem dL_law_561 : decode cL_law 561 = .ok (.iaload, 1) := by decide +kernel
theorem dL_law_562 : decode cL_law 562 = .ok (.aload_n 0, 1) := by decide +kernel
theorem dL_law_563 : decode cL_law 563 = .ok (.iload_n 3, 1) := by decide +kernel
theorem dL_law_564 : decode cL_law 564 = .ok (.iconst 4, 1) := by decide +kernel
theorem dL_law_565 : decode cL_law 565 = .ok (.iadd, 1) := by decide +kernel
theorem dL_law_566 : decode cL_law 566 = .ok (.iaload, 1) := by decide +kernel
theorem dL_law_567 : decode cL_law 567 = .ok (.aload_n 0, 1) := by decide +kernel
theorem dL_law_568 : decode cL_law 568 = .ok (.iload_n 3, 1) := by decide +kernel
theorem dL_law_569 : decode cL_law 569 = .ok (.iconst 5, 1) := by decide +kernel
theorem dL_law_570 : decode cL_law 570 = .ok (.iadd, 1) := by decide +kernel
theorem dL_law_571 : decode cL_law 571 = .ok (.iaload, 1) := by decide +kernel
theorem dL_law_572 : decode cL_law 572 = .ok (.invokevirtual 64, 3) := by decide +kernel
theorem dL_law_575 : decode cL_law 575 = .ok (.if_icmp .eq 518, 3) := by decide +kernel
theorem dL_law_578 : decode cL_law 578 = .ok (.iconst 0, 1) := by decide +kernel
theorem dL_law_579 : decode cL_law 579 = .ok (.ireturn, 1) := by decide +kernel
theorem dL_law_580 : decode cL_law 580 = .ok (.aload_n 1, 1) := by decide +kernel
theorem dL_law_581 : decode cL_law 581 = .ok (.aload_n 0, 1) := by decide +kernel
theorem dL_law_582 : decode cL_law 582 = .ok (.iload_n 3, 1) := by decide +kernel
theorem dL_law_583 : decode cL_law 583 = .ok (.iconst 1, 1) := by decide +kernel
theorem dL_law_584 : decode cL_law 584 = .ok (.iadd, 1) := by decide +kernel
theorem dL_law_585 : decode cL_law 585 = .ok (.iaload, 1) := by decide +kernel
theorem dL_law_586 : decode cL_law 586 = .ok (.aload_n 0, 1) := by decide +kernel
theorem dL_law_587 : decode cL_law 587 = .ok (.iload_n 3, 1) := by decide +kernel
theorem dL_law_588 : decode cL_law 588 = .ok (.iconst 2, 1) := by decide +kernel
theorem dL_law_589 : decode cL_law 589 = .ok (.iadd, 1) := by decide +kernel
theorem dL_law_590 : decode cL_law 590 = .ok (.iaload, 1) := by decide +kernel
theorem dL_law_591 : decode cL_law 591 = .ok (.aload_n 0, 1) := by decide +kernel
theorem dL_law_592 : decode cL_law 592 = .ok (.iload_n 3, 1) := by decide +kernel
theorem dL_law_593 : decode cL_law 593 = .ok (.iconst 3, 1) := by decide +kernel
theorem dL_law_594 : decode cL_law 594 = .ok (.iadd, 1) := by decide +kernel
theorem dL_law_595 : decode cL_law 595 = .ok (.iaload, 1) := by decide +kernel
theorem dL_law_596 : decode cL_law 596 = .ok (.invokevirtual 65, 3) := by decide +kernel
theorem dL_law_599 : decode cL_law 599 = .ok (.aload_n 2, 1) := by decide +kernel
theorem dL_law_600 : decode cL_law 600 = .ok (.aload_n 0, 1) := by decide +kernel
theorem dL_law_601 : decode cL_law 601 = .ok (.iload_n 3, 1) := by decide +kernel
theorem dL_law_602 : decode cL_law 602 = .ok (.iconst 1, 1) := by decide +kernel
theorem dL_law_603 : decode cL_law 603 = .ok (.iadd, 1) := by decide +kernel
theorem dL_law_604 : decode cL_law 604 = .ok (.iaload, 1) := by decide +kernel
theorem dL_law_605 : decode cL_law 605 = .ok (.aload_n 0, 1) := by decide +kernel
theorem dL_law_606 : decode cL_law 606 = .ok (.iload_n 3, 1) := by decide +kernel
theorem dL_law_607 : decode cL_law 607 = .ok (.iconst 2, 1) := by decide +kernel
theorem dL_law_608 : decode cL_law 608 = .ok (.iadd, 1) := by decide +kernel
theorem dL_law_609 : decode cL_law 609 = .ok (.iaload, 1) := by decide +kernel
theorem dL_law_610 : decode cL_law 610 = .ok (.aload_n 0, 1) := by decide +kernel
theorem dL_law_611 : decode cL_law 611 = .ok (.iload_n 3, 1) := by decide +kernel
theorem dL_law_612 : decode cL_law 612 = .ok (.iconst 3, 1) := by decide +kernel
theorem dL_law_613 : decode cL_law 613 = .ok (.iadd, 1) := by decide +kernel
theorem dL_law_614 : decode cL_law 614 = .ok (.iaload, 1) := by decide +kernel
theorem dL_law_615 : decode cL_law 615 = .ok (.invokevirtual 69, 3) := by decide +kernel
theorem dL_law_618 : decode cL_law 618 = .ok (.if_icmp .eq 475, 3) := by decide +kernel
theorem dL_law_621 : decode cL_law 621 = .ok (.iconst 0, 1) := by decide +kernel
theorem dL_law_622 : decode cL_law 622 = .ok (.ireturn, 1) := by decide +kernel
theorem dL_law_623 : decode cL_law 623 = .ok (.aload_n 1, 1) := by decide +kernel
theorem dL_law_624 : decode cL_law 624 = .ok (.aload_n 0, 1) := by decide +kernel
theorem dL_law_625 : decode cL_law 625 = .ok (.iload_n 3, 1) := by decide +kernel
theorem dL_law_626 : decode cL_law 626 = .ok (.iconst 1, 1) := by decide +kernel
theorem dL_law_627 : decode cL_law 627 = .ok (.iadd, 1) := by decide +kernel
theorem dL_law_628 : decode cL_law 628 = .ok (.iaload, 1) := by decide +kernel
theorem dL_law_629 : decode cL_law 629 = .ok (.invokevirtual 70, 3) := by decide +kernel
theorem dL_law_632 : decode cL_law 632 = .ok (.aload_n 2, 1) := by decide +kernel
theorem dL_law_633 : decode cL_law 633 = .ok (.aload_n 0, 1) := by decide +kernel
theorem dL_law_634 : decode cL_law 634 = .ok (.iload_n 3, 1) := by decide +kernel
theorem dL_law_635 : decode cL_law 635 = .ok (.iconst 1, 1) := by decide +kernel
theorem dL_law_636 : decode cL_law 636 = .ok (.iadd, 1) := by decide +kernel
theorem dL_law_637 : decode cL_law 637 = .ok (.iaload, 1) := by decide +kernel
theorem dL_law_638 : decode cL_law 638 = .ok (.invokevirtual 73, 3) := by decide +kernel
theorem dL_law_641 : decode cL_law 641 = .ok (.if_icmp .eq 452, 3) := by decide +kernel
theorem dL_law_644 : decode cL_law 644 = .ok (.iconst 0, 1) := by decide +kernel
theorem dL_law_645 : decode cL_law 645 = .ok (.ireturn, 1) := by decide +kernel
theorem dL_law_646 : decode cL_law 646 = .ok (.aload_n 1, 1) := by decide +kernel
theorem dL_law_647 : decode cL_law 647 = .ok (.aload_n 0, 1) := by decide +kernel
theorem dL_law_648 : decode cL_law 648 = .ok (.iload_n 3, 1) := by decide +kernel
theorem dL_law_649 : decode cL_law 649 = .ok (.iconst 1, 1) := by decide +kernel
theorem dL_law_650 : decode cL_law 650 = .ok (.iadd, 1) := by decide +kernel
theorem dL_law_651 : decode cL_law 651 = .ok (.iaload, 1) := by decide +kernel
theorem dL_law_652 : decode cL_law 652 = .ok (.invokevirtual 74, 3) := by decide +kernel
theorem dL_law_655 : decode cL_law 655 = .ok (.aload_n 2, 1) := by decide +kernel
theorem dL_law_656 : decode cL_law 656 = .ok (.aload_n 0, 1) := by decide +kernel
theorem dL_law_657 : decode cL_law 657 = .ok (.iload_n 3, 1) := by decide +kernel
theorem dL_law_658 : decode cL_law 658 = .ok (.iconst 1, 1) := by decide +kernel
theorem dL_law_659 : decode cL_law 659 = .ok (.iadd, 1) := by decide +kernel
theorem dL_law_660 : decode cL_law 660 = .ok (.iaload, 1) := by decide +kernel
theorem dL_law_661 : decode cL_law 661 = .ok (.invokevirtual 77, 3) := by decide +kernel
theorem dL_law_664 : decode cL_law 664 = .ok (.if_icmp .eq 429, 3) := by decide +kernel
theorem dL_law_667 : decode cL_law 667 = .ok (.iconst 0, 1) := by decide +kernel
theorem dL_law_668 : decode cL_law 668 = .ok (.ireturn, 1) := by decide +kernel
theorem dL_law_669 : decode cL_law 669 = .ok (.aload_n 1, 1) := by decide +kernel
theorem dL_law_670 : decode cL_law 670 = .ok (.aload_n 0, 1) := by decide +kernel
theorem dL_law_671 : decode cL_law 671 = .ok (.iload_n 3, 1) := by decide +kernel
theorem dL_law_672 : decode cL_law 672 = .ok (.iconst 1, 1) := by decide +kernel
theorem dL_law_673 : decode cL_law 673 = .ok (.iadd, 1) := by decide +kernel
theorem dL_law_674 : decode cL_law 674 = .ok (.iaload, 1) := by decide +kernel
theorem dL_law_675 : decode cL_law 675 = .ok (.invokevirtual 78, 3) := by decide +kernel
theorem dL_law_678 : decode cL_law 678 = .ok (.aload_n 2, 1) := by decide +kernel
theorem dL_law_679 : decode cL_law 679 = .ok (.aload_n 0, 1) := by decide +kernel
theorem dL_law_680 : decode cL_law 680 = .ok (.iload_n 3, 1) := by decide +kernel
theorem dL_law_681 : decode cL_law 681 = .ok (.iconst 1, 1) := by decide +kernel
theorem dL_law_682 : decode cL_law 682 = .ok (.iadd, 1) := by decide +kernel
theorem dL_law_683 : decode cL_law 683 = .ok (.iaload, 1) := by decide +kernel
theorem dL_law_684 : decode cL_law 684 = .ok (.invokevirtual 81, 3) := by decide +kernel
theorem dL_law_687 : decode cL_law 687 = .ok (.if_icmp .eq 406, 3) := by decide +kernel
theorem dL_law_690 : decode cL_law 690 = .ok (.iconst 0, 1) := by decide +kernel
theorem dL_law_691 : decode cL_law 691 = .ok (.ireturn, 1) := by decide +kernel
theorem dL_law_692 : decode cL_law 692 = .ok (.aload_n 1, 1) := by decide +kernel
theorem dL_law_693 : decode cL_law 693 = .ok (.invokevirtual 82, 3) := by decide +kernel
theorem dL_law_696 : decode cL_law 696 = .ok (.aload_n 2, 1) := by decide +kernel
theorem dL_law_697 : decode cL_law 697 = .ok (.invokevirtual 86, 3) := by decide +kernel
theorem dL_law_700 : decode cL_law 700 = .ok (.if_icmp .eq 393, 3) := by decide +kernel
theorem dL_law_703 : decode cL_law 703 = .ok (.iconst 0, 1) := by decide +kernel
theorem dL_law_704 : decode cL_law 704 = .ok (.ireturn, 1) := by decide +kernel
theorem dL_law_705 : decode cL_law 705 = .ok (.aload_n 1, 1) := by decide +kernel
theorem dL_law_706 : decode cL_law 706 = .ok (.aload_n 0, 1) := by decide +kernel
theorem dL_law_707 : decode cL_law 707 = .ok (.iload_n 3, 1) := by decide +kernel
theorem dL_law_708 : decode cL_law 708 = .ok (.iconst 1, 1) := by decide +kernel
theorem dL_law_709 : decode cL_law 709 = .ok (.iadd, 1) := by decide +kernel
theorem dL_law_710 : decode cL_law 710 = .ok (.iaload, 1) := by decide +kernel
theorem dL_law_711 : decode cL_law 711 = .ok (.aload_n 0, 1) := by decide +kernel
theorem dL_law_712 : decode cL_law 712 = .ok (.iload_n 3, 1) := by decide +kernel
theorem dL_law_713 : decode cL_law 713 = .ok (.iconst 2, 1) := by decide +kernel
theorem dL_law_714 : decode cL_law 714 = .ok (.iadd, 1) := by decide +kernel
theorem dL_law_715 : decode cL_law 715 = .ok (.iaload, 1) := by decide +kernel
theorem dL_law_716 : decode cL_law 716 = .ok (.aload_n 0, 1) := by decide +kernel
theorem dL_law_717 : decode cL_law 717 = .ok (.iload_n 3, 1) := by decide +kernel
theorem dL_law_718 : decode cL_law 718 = .ok (.iconst 3, 1) := by decide +kernel
theorem dL_law_719 : decode cL_law 719 = .ok (.iadd, 1) := by decide +kernel
theorem dL_law_720 : decode cL_law 720 = .ok (.iaload, 1) := by decide +kernel
theorem dL_law_721 : decode cL_law 721 = .ok (.invokevirtual 87, 3) := by decide +kernel
theorem dL_law_724 : decode cL_law 724 = .ok (.aload_n 2, 1) := by decide +kernel
theorem dL_law_725 : decode cL_law 725 = .ok (.aload_n 0, 1) := by decide +kernel
theorem dL_law_726 : decode cL_law 726 = .ok (.iload_n 3, 1) := by decide +kernel
theorem dL_law_727 : decode cL_law 727 = .ok (.iconst 1, 1) := by decide +kernel
theorem dL_law_728 : decode cL_law 728 = .ok (.iadd, 1) := by decide +kernel
theorem dL_law_729 : decode cL_law 729 = .ok (.iaload, 1) := by decide +kernel
theorem dL_law_730 : decode cL_law 730 = .ok (.aload_n 0, 1) := by decide +kernel
theorem dL_law_731 : decode cL_law 731 = .ok (.iload_n 3, 1) := by decide +kernel
theorem dL_law_732 : decode cL_law 732 = .ok (.iconst 2, 1) := by decide +kernel
theorem dL_law_733 : decode cL_law 733 = .ok (.iadd, 1) := by decide +kernel
theorem dL_law_734 : decode cL_law 734 = .ok (.iaload, 1) := by decide +kernel
theorem dL_law_735 : decode cL_law 735 = .ok (.aload_n 0, 1) := by decide +kernel
theorem dL_law_736 : decode cL_law 736 = .ok (.iload_n 3, 1) := by decide +kernel
theorem dL_law_737 : decode cL_law 737 = .ok (.iconst 3, 1) := by decide +kernel
theorem dL_law_738 : decode cL_law 738 = .ok (.iadd, 1) := by decide +kernel
theorem dL_law_739 : decode cL_law 739 = .ok (.iaload, 1) := by decide +kernel
theorem dL_law_740 : decode cL_law 740 = .ok (.invokevirtual 91, 3) := by decide +kernel
theorem dL_law_743 : decode cL_law 743 = .ok (.lcmp, 1) := by decide +kernel
theorem dL_law_744 : decode cL_law 744 = .ok (.ifCond .eq 349, 3) := by decide +kernel
theorem dL_law_747 : decode cL_law 747 = .ok (.iconst 0, 1) := by decide +kernel
theorem dL_law_748 : decode cL_law 748 = .ok (.ireturn, 1) := by decide +kernel
theorem dL_law_749 : decode cL_law 749 = .ok (.aload_n 1, 1) := by decide +kernel
theorem dL_law_750 : decode cL_law 750 = .ok (.aload_n 0, 1) := by decide +kernel
theorem dL_law_751 : decode cL_law 751 = .ok (.iload_n 3, 1) := by decide +kernel
theorem dL_law_752 : decode cL_law 752 = .ok (.iconst 1, 1) := by decide +kernel
theorem dL_law_753 : decode cL_law 753 = .ok (.iadd, 1) := by decide +kernel
theorem dL_law_754 : decode cL_law 754 = .ok (.iaload, 1) := by decide +kernel
theorem dL_law_755 : decode cL_law 755 = .ok (.aload_n 0, 1) := by decide +kernel
theorem dL_law_756 : decode cL_law 756 = .ok (.iload_n 3, 1) := by decide +kernel
theorem dL_law_757 : decode cL_law 757 = .ok (.iconst 2, 1) := by decide +kernel
theorem dL_law_758 : decode cL_law 758 = .ok (.iadd, 1) := by decide +kernel
theorem dL_law_759 : decode cL_law 759 = .ok (.iaload, 1) := by decide +kernel
theorem dL_law_760 : decode cL_law 760 = .ok (.aload_n 0, 1) := by decide +kernel
theorem dL_law_761 : decode cL_law 761 = .ok (.iload_n 3, 1) := by decide +kernel
theorem dL_law_762 : decode cL_law 762 = .ok (.iconst 3, 1) := by decide +kernel
theorem dL_law_763 : decode cL_law 763 = .ok (.iadd, 1) := by decide +kernel
theorem dL_law_764 : decode cL_law 764 = .ok (.iaload, 1) := by decide +kernel
theorem dL_law_765 : decode cL_law 765 = .ok (.invokevirtual 92, 3) := by decide +kernel
theorem dL_law_768 : decode cL_law 768 = .ok (.aload_n 2, 1) := by decide +kernel
theorem dL_law_769 : decode cL_law 769 = .ok (.aload_n 0, 1) := by decide +kernel
theorem dL_law_770 : decode cL_law 770 = .ok (.iload_n 3, 1) := by decide +kernel
theorem dL_law_771 : decode cL_law 771 = .ok (.iconst 1, 1) := by decide +kernel
theorem dL_law_772 : decode cL_law 772 = .ok (.iadd, 1) := by decide +kernel
theorem dL_law_773 : decode cL_law 773 = .ok (.iaload, 1) := by decide +kernel
theorem dL_law_774 : decode cL_law 774 = .ok (.aload_n 0, 1) := by decide +kernel
theorem dL_law_775 : decode cL_law 775 = .ok (.iload_n 3, 1) := by decide +kernel
theorem dL_law_776 : decode cL_law 776 = .ok (.iconst 2, 1) := by decide +kernel
theorem dL_law_777 : decode cL_law 777 = .ok (.iadd, 1) := by decide +kernel
theorem dL_law_778 : decode cL_law 778 = .ok (.iaload, 1) := by decide +kernel
theorem dL_law_779 : decode cL_law 779 = .ok (.aload_n 0, 1) := by decide +kernel
theorem dL_law_780 : decode cL_law 780 = .ok (.iload_n 3, 1) := by decide +kernel
theorem dL_law_781 : decode cL_law 781 = .ok (.iconst 3, 1) := by decide +kernel
theorem dL_law_782 : decode cL_law 782 = .ok (.iadd, 1) := by decide +kernel
theorem dL_law_783 : decode cL_law 783 = .ok (.iaload, 1) := by decide +kernel
theorem dL_law_784 : decode cL_law 784 = .ok (.invokevirtual 95, 3) := by decide +kernel
theorem dL_law_787 : decode cL_law 787 = .ok (.if_icmp .eq 306, 3) := by decide +kernel
theorem dL_law_790 : decode cL_law 790 = .ok (.iconst 0, 1) := by decide +kernel
theorem dL_law_791 : decode cL_law 791 = .ok (.ireturn, 1) := by decide +kernel
theorem dL_law_792 : decode cL_law 792 = .ok (.aload_n 1, 1) := by decide +kernel
theorem dL_law_793 : decode cL_law 793 = .ok (.aload_n 0, 1) := by decide +kernel
theorem dL_law_794 : decode cL_law 794 = .ok (.iload_n 3, 1) := by decide +kernel
theorem dL_law_795 : decode cL_law 795 = .ok (.iconst 1, 1) := by decide +kernel
theorem dL_law_796 : decode cL_law 796 = .ok (.iadd, 1) := by decide +kernel
theorem dL_law_797 : decode cL_law 797 = .ok (.iaload, 1) := by decide +kernel
theorem dL_law_798 : decode cL_law 798 = .ok (.invokevirtual 96, 3) := by decide +kernel
theorem dL_law_801 : decode cL_law 801 = .ok (.aload_n 2, 1) := by decide +kernel
theorem dL_law_802 : decode cL_law 802 = .ok (.aload_n 0, 1) := by decide +kernel
theorem dL_law_803 : decode cL_law 803 = .ok (.iload_n 3, 1) := by decide +kernel
theorem dL_law_804 : decode cL_law 804 = .ok (.iconst 1, 1) := by decide +kernel
theorem dL_law_805 : decode cL_law 805 = .ok (.iadd, 1) := by decide +kernel
theorem dL_law_806 : decode cL_law 806 = .ok (.iaload, 1) := by decide +kernel
theorem dL_law_807 : decode cL_law 807 = .ok (.invokevirtual 99, 3) := by decide +kernel
theorem dL_law_810 : decode cL_law 810 = .ok (.if_icmp .eq 283, 3) := by decide +kernel
theorem dL_law_813 : decode cL_law 813 = .ok (.iconst 0, 1) := by decide +kernel
theorem dL_law_814 : decode cL_law 814 = .ok (.ireturn, 1) := by decide +kernel
theorem dL_law_815 : decode cL_law 815 = .ok (.aload_n 1, 1) := by decide +kernel
theorem dL_law_816 : decode cL_law 816 = .ok (.aload_n 0, 1) := by decide +kernel
theorem dL_law_817 : decode cL_law 817 = .ok (.iload_n 3, 1) := by decide +kernel
theorem dL_law_818 : decode cL_law 818 = .ok (.iconst 1, 1) := by decide +kernel
theorem dL_law_819 : decode cL_law 819 = .ok (.iadd, 1) := by decide +kernel
theorem dL_law_820 : decode cL_law 820 = .ok (.iaload, 1) := by decide +kernel
theorem dL_law_821 : decode cL_law 821 = .ok (.aload_n 0, 1) := by decide +kernel
theorem dL_law_822 : decode cL_law 822 = .ok (.iload_n 3, 1) := by decide +kernel
theorem dL_law_823 : decode cL_law 823 = .ok (.iconst 2, 1) := by decide +kernel
theorem dL_law_824 : decode cL_law 824 = .ok (.iadd, 1) := by decide +kernel
theorem dL_law_825 : decode cL_law 825 = .ok (.iaload, 1) := by decide +kernel
theorem dL_law_826 : decode cL_law 826 = .ok (.aload_n 0, 1) := by decide +kernel
theorem dL_law_827 : decode cL_law 827 = .ok (.iload_n 3, 1) := by decide +kernel
theorem dL_law_828 : decode cL_law 828 = .ok (.iconst 3, 1) := by decide +kernel
theorem dL_law_829 : decode cL_law 829 = .ok (.iadd, 1) := by decide +kernel
theorem dL_law_830 : decode cL_law 830 = .ok (.iaload, 1) := by decide +kernel
theorem dL_law_831 : decode cL_law 831 = .ok (.invokevirtual 100, 3) := by decide +kernel
theorem dL_law_834 : decode cL_law 834 = .ok (.aload_n 2, 1) := by decide +kernel
theorem dL_law_835 : decode cL_law 835 = .ok (.aload_n 0, 1) := by decide +kernel
theorem dL_law_836 : decode cL_law 836 = .ok (.iload_n 3, 1) := by decide +kernel
theorem dL_law_837 : decode cL_law 837 = .ok (.iconst 1, 1) := by decide +kernel
theorem dL_law_838 : decode cL_law 838 = .ok (.iadd, 1) := by decide +kernel
theorem dL_law_839 : decode cL_law 839 = .ok (.iaload, 1) := by decide +kernel
theorem dL_law_840 : decode cL_law 840 = .ok (.aload_n 0, 1) := by decide +kernel
theorem dL_law_841 : decode cL_law 841 = .ok (.iload_n 3, 1) := by decide +kernel
theorem dL_law_842 : decode cL_law 842 = .ok (.iconst 2, 1) := by decide +kernel
theorem dL_law_843 : decode cL_law 843 = .ok (.iadd, 1) := by decide +kernel
theorem dL_law_844 : decode cL_law 844 = .ok (.iaload, 1) := by decide +kernel
theorem dL_law_845 : decode cL_law 845 = .ok (.aload_n 0, 1) := by decide +kernel
theorem dL_law_846 : decode cL_law 846 = .ok (.iload_n 3, 1) := by decide +kernel
theorem dL_law_847 : decode cL_law 847 = .ok (.iconst 3, 1) := by decide +kernel
theorem dL_law_848 : decode cL_law 848 = .ok (.iadd, 1) := by decide +kernel
theorem dL_law_849 : decode cL_law 849 = .ok (.iaload, 1) := by decide +kernel
theorem dL_law_850 : decode cL_law 850 = .ok (.invokevirtual 103, 3) := by decide +kernel
theorem dL_law_853 : decode cL_law 853 = .ok (.if_icmp .eq 240, 3) := by decide +kernel
theorem dL_law_856 : decode cL_law 856 = .ok (.iconst 0, 1) := by decide +kernel
theorem dL_law_857 : decode cL_law 857 = .ok (.ireturn, 1) := by decide +kernel
theorem dL_law_858 : decode cL_law 858 = .ok (.aload_n 1, 1) := by decide +kernel
theorem dL_law_859 : decode cL_law 859 = .ok (.aload_n 0, 1) := by decide +kernel
theorem dL_law_860 : decode cL_law 860 = .ok (.iload_n 3, 1) := by decide +kernel
theorem dL_law_861 : decode cL_law 861 = .ok (.iconst 1, 1) := by decide +kernel
theorem dL_law_862 : decode cL_law 862 = .ok (.iadd, 1) := by decide +kernel
theorem dL_law_863 : decode cL_law 863 = .ok (.iaload, 1) := by decide +kernel
theorem dL_law_864 : decode cL_law 864 = .ok (.aload_n 0, 1) := by decide +kernel
theorem dL_law_865 : decode cL_law 865 = .ok (.iload_n 3, 1) := by decide +kernel
theorem dL_law_866 : decode cL_law 866 = .ok (.iconst 2, 1) := by decide +kernel
theorem dL_law_867 : decode cL_law 867 = .ok (.iadd, 1) := by decide +kernel
theorem dL_law_868 : decode cL_law 868 = .ok (.iaload, 1) := by decide +kernel
theorem dL_law_869 : decode cL_law 869 = .ok (.aload_n 0, 1) := by decide +kernel
theorem dL_law_870 : decode cL_law 870 = .ok (.iload_n 3, 1) := by decide +kernel
theorem dL_law_871 : decode cL_law 871 = .ok (.iconst 3, 1) := by decide +kernel
theorem dL_law_872 : decode cL_law 872 = .ok (.iadd, 1) := by decide +kernel
theorem dL_law_873 : decode cL_law 873 = .ok (.iaload, 1) := by decide +kernel
theorem dL_law_874 : decode cL_law 874 = .ok (.invokevirtual 104, 3) := by decide +kernel
theorem dL_law_877 : decode cL_law 877 = .ok (.aload_n 2, 1) := by decide +kernel
theorem dL_law_878 : decode cL_law 878 = .ok (.aload_n 0, 1) := by decide +kernel
theorem dL_law_879 : decode cL_law 879 = .ok (.iload_n 3, 1) := by decide +kernel
theorem dL_law_880 : decode cL_law 880 = .ok (.iconst 1, 1) := by decide +kernel
theorem dL_law_881 : decode cL_law 881 = .ok (.iadd, 1) := by decide +kernel
theorem dL_law_882 : decode cL_law 882 = .ok (.iaload, 1) := by decide +kernel
theorem dL_law_883 : decode cL_law 883 = .ok (.aload_n 0, 1) := by decide +kernel
theorem dL_law_884 : decode cL_law 884 = .ok (.iload_n 3, 1) := by decide +kernel
theorem dL_law_885 : decode cL_law 885 = .ok (.iconst 2, 1) := by decide +kernel
theorem dL_law_886 : decode cL_law 886 = .ok (.iadd, 1) := by decide +kernel
theorem dL_law_887 : decode cL_law 887 = .ok (.iaload, 1) := by decide +kernel
theorem dL_law_888 : decode cL_law 888 = .ok (.aload_n 0, 1) := by decide +kernel
theorem dL_law_889 : decode cL_law 889 = .ok (.iload_n 3, 1) := by decide +kernel
theorem dL_law_890 : decode cL_law 890 = .ok (.iconst 3, 1) := by decide +kernel
theorem dL_law_891 : decode cL_law 891 = .ok (.iadd, 1) := by decide +kernel
theorem dL_law_892 : decode cL_law 892 = .ok (.iaload, 1) := by decide +kernel
theorem dL_law_893 : decode cL_law 893 = .ok (.invokevirtual 107, 3) := by decide +kernel
theorem dL_law_896 : decode cL_law 896 = .ok (.lcmp, 1) := by decide +kernel
theorem dL_law_897 : decode cL_law 897 = .ok (.ifCond .eq 196, 3) := by decide +kernel
theorem dL_law_900 : decode cL_law 900 = .ok (.iconst 0, 1) := by decide +kernel
theorem dL_law_901 : decode cL_law 901 = .ok (.ireturn, 1) := by decide +kernel
theorem dL_law_902 : decode cL_law 902 = .ok (.aload_n 1, 1) := by decide +kernel
theorem dL_law_903 : decode cL_law 903 = .ok (.aload_n 0, 1) := by decide +kernel
theorem dL_law_904 : decode cL_law 904 = .ok (.iload_n 3, 1) := by decide +kernel
theorem dL_law_905 : decode cL_law 905 = .ok (.iconst 1, 1) := by decide +kernel
theorem dL_law_906 : decode cL_law 906 = .ok (.iadd, 1) := by decide +kernel
theorem dL_law_907 : decode cL_law 907 = .ok (.iaload, 1) := by decide +kernel
theorem dL_law_908 : decode cL_law 908 = .ok (.aload_n 0, 1) := by decide +kernel
theorem dL_law_909 : decode cL_law 909 = .ok (.iload_n 3, 1) := by decide +kernel
theorem dL_law_910 : decode cL_law 910 = .ok (.iconst 2, 1) := by decide +kernel
theorem dL_law_911 : decode cL_law 911 = .ok (.iadd, 1) := by decide +kernel
theorem dL_law_912 : decode cL_law 912 = .ok (.iaload, 1) := by decide +kernel
theorem dL_law_913 : decode cL_law 913 = .ok (.aload_n 0, 1) := by decide +kernel
theorem dL_law_914 : decode cL_law 914 = .ok (.iload_n 3, 1) := by decide +kernel
theorem dL_law_915 : decode cL_law 915 = .ok (.iconst 3, 1) := by decide +kernel
theorem dL_law_916 : decode cL_law 916 = .ok (.iadd, 1) := by decide +kernel
theorem dL_law_917 : decode cL_law 917 = .ok (.iaload, 1) := by decide +kernel
theorem dL_law_918 : decode cL_law 918 = .ok (.aload_n 0, 1) := by decide +kernel
theorem dL_law_919 : decode cL_law 919 = .ok (.iload_n 3, 1) := by decide +kernel
theorem dL_law_920 : decode cL_law 920 = .ok (.iconst 4, 1) := by decide +kernel
theorem dL_law_921 : decode cL_law 921 = .ok (.iadd, 1) := by decide +kernel
theorem dL_law_922 : decode cL_law 922 = .ok (.iaload, 1) := by decide +kernel
theorem dL_law_923 : decode cL_law 923 = .ok (.aload_n 0, 1) := by decide +kernel
theorem dL_law_924 : decode cL_law 924 = .ok (.iload_n 3, 1) := by decide +kernel
theorem dL_law_925 : decode cL_law 925 = .ok (.iconst 5, 1) := by decide +kernel
theorem dL_law_926 : decode cL_law 926 = .ok (.iadd, 1) := by decide +kernel
theorem dL_law_927 : decode cL_law 927 = .ok (.iaload, 1) := by decide +kernel
theorem dL_law_928 : decode cL_law 928 = .ok (.invokevirtual 108, 3) := by decide +kernel
theorem dL_law_931 : decode cL_law 931 = .ok (.aload_n 2, 1) := by decide +kernel
theorem dL_law_932 : decode cL_law 932 = .ok (.aload_n 0, 1) := by decide +kernel
theorem dL_law_933 : decode cL_law 933 = .ok (.iload_n 3, 1) := by decide +kernel
theorem dL_law_934 : decode cL_law 934 = .ok (.iconst 1, 1) := by decide +kernel
theorem dL_law_935 : decode cL_law 935 = .ok (.iadd, 1) := by decide +kernel
theorem dL_law_936 : decode cL_law 936 = .ok (.iaload, 1) := by decide +kernel
theorem dL_law_937 : decode cL_law 937 = .ok (.aload_n 0, 1) := by decide +kernel
theorem dL_law_938 : decode cL_law 938 = .ok (.iload_n 3, 1) := by decide +kernel
theorem dL_law_939 : decode cL_law 939 = .ok (.iconst 2, 1) := by decide +kernel
theorem dL_law_940 : decode cL_law 940 = .ok (.iadd, 1) := by decide +kernel
theorem dL_law_941 : decode cL_law 941 = .ok (.iaload, 1) := by decide +kernel
theorem dL_law_942 : decode cL_law 942 = .ok (.aload_n 0, 1) := by decide +kernel
theorem dL_law_943 : decode cL_law 943 = .ok (.iload_n 3, 1) := by decide +kernel
theorem dL_law_944 : decode cL_law 944 = .ok (.iconst 3, 1) := by decide +kernel
theorem dL_law_945 : decode cL_law 945 = .ok (.iadd, 1) := by decide +kernel
theorem dL_law_946 : decode cL_law 946 = .ok (.iaload, 1) := by decide +kernel
theorem dL_law_947 : decode cL_law 947 = .ok (.aload_n 0, 1) := by decide +kernel
theorem dL_law_948 : decode cL_law 948 = .ok (.iload_n 3, 1) := by decide +kernel
theorem dL_law_949 : decode cL_law 949 = .ok (.iconst 4, 1) := by decide +kernel
theorem dL_law_950 : decode cL_law 950 = .ok (.iadd, 1) := by decide +kernel
theorem dL_law_951 : decode cL_law 951 = .ok (.iaload, 1) := by decide +kernel
theorem dL_law_952 : decode cL_law 952 = .ok (.aload_n 0, 1) := by decide +kernel
theorem dL_law_953 : decode cL_law 953 = .ok (.iload_n 3, 1) := by decide +kernel
theorem dL_law_954 : decode cL_law 954 = .ok (.iconst 5, 1) := by decide +kernel
theorem dL_law_955 : decode cL_law 955 = .ok (.iadd, 1) := by decide +kernel
theorem dL_law_956 : decode cL_law 956 = .ok (.iaload, 1) := by decide +kernel
theorem dL_law_957 : decode cL_law 957 = .ok (.invokevirtual 111, 3) := by decide +kernel
theorem dL_law_960 : decode cL_law 960 = .ok (.if_icmp .eq 133, 3) := by decide +kernel
theorem dL_law_963 : decode cL_law 963 = .ok (.iconst 0, 1) := by decide +kernel
theorem dL_law_964 : decode cL_law 964 = .ok (.ireturn, 1) := by decide +kernel
theorem dL_law_965 : decode cL_law 965 = .ok (.aload_n 1, 1) := by decide +kernel
theorem dL_law_966 : decode cL_law 966 = .ok (.aload_n 0, 1) := by decide +kernel
theorem dL_law_967 : decode cL_law 967 = .ok (.iload_n 3, 1) := by decide +kernel
theorem dL_law_968 : decode cL_law 968 = .ok (.iconst 1, 1) := by decide +kernel
theorem dL_law_969 : decode cL_law 969 = .ok (.iadd, 1) := by decide +kernel
theorem dL_law_970 : decode cL_law 970 = .ok (.iaload, 1) := by decide +kernel
theorem dL_law_971 : decode cL_law 971 = .ok (.invokevirtual 112, 3) := by decide +kernel
theorem dL_law_974 : decode cL_law 974 = .ok (.aload_n 2, 1) := by decide +kernel
theorem dL_law_975 : decode cL_law 975 = .ok (.aload_n 0, 1) := by decide +kernel
theorem dL_law_976 : decode cL_law 976 = .ok (.iload_n 3, 1) := by decide +kernel
theorem dL_law_977 : decode cL_law 977 = .ok (.iconst 1, 1) := by decide +kernel
theorem dL_law_978 : decode cL_law 978 = .ok (.iadd, 1) := by decide +kernel
theorem dL_law_979 : decode cL_law 979 = .ok (.iaload, 1) := by decide +kernel
theorem dL_law_980 : decode cL_law 980 = .ok (.invokevirtual 115, 3) := by decide +kernel
theorem dL_law_983 : decode cL_law 983 = .ok (.if_icmp .eq 110, 3) := by decide +kernel
theorem dL_law_986 : decode cL_law 986 = .ok (.iconst 0, 1) := by decide +kernel
theorem dL_law_987 : decode cL_law 987 = .ok (.ireturn, 1) := by decide +kernel
theorem dL_law_988 : decode cL_law 988 = .ok (.aload_n 1, 1) := by decide +kernel
theorem dL_law_989 : decode cL_law 989 = .ok (.aload_n 0, 1) := by decide +kernel
theorem dL_law_990 : decode cL_law 990 = .ok (.iload_n 3, 1) := by decide +kernel
theorem dL_law_991 : decode cL_law 991 = .ok (.iconst 1, 1) := by decide +kernel
theorem dL_law_992 : decode cL_law 992 = .ok (.iadd, 1) := by decide +kernel
theorem dL_law_993 : decode cL_law 993 = .ok (.iaload, 1) := by decide +kernel
theorem dL_law_994 : decode cL_law 994 = .ok (.invokevirtual 116, 3) := by decide +kernel
theorem dL_law_997 : decode cL_law 997 = .ok (.aload_n 2, 1) := by decide +kernel
theorem dL_law_998 : decode cL_law 998 = .ok (.aload_n 0, 1) := by decide +kernel
theorem dL_law_999 : decode cL_law 999 = .ok (.iload_n 3, 1) := by decide +kernel
theorem dL_law_1000 : decode cL_law 1000 = .ok (.iconst 1, 1) := by decide +kernel
theorem dL_law_1001 : decode cL_law 1001 = .ok (.iadd, 1) := by decide +kernel
theorem dL_law_1002 : decode cL_law 1002 = .ok (.iaload, 1) := by decide +kernel
theorem dL_law_1003 : decode cL_law 1003 = .ok (.invokevirtual 119, 3) := by decide +kernel
theorem dL_law_1006 : decode cL_law 1006 = .ok (.if_icmp .eq 87, 3) := by decide +kernel
theorem dL_law_1009 : decode cL_law 1009 = .ok (.iconst 0, 1) := by decide +kernel
theorem dL_law_1010 : decode cL_law 1010 = .ok (.ireturn, 1) := by decide +kernel
theorem dL_law_1011 : decode cL_law 1011 = .ok (.aload_n 1, 1) := by decide +kernel
theorem dL_law_1012 : decode cL_law 1012 = .ok (.aload_n 0, 1) := by decide +kernel
theorem dL_law_1013 : decode cL_law 1013 = .ok (.iload_n 3, 1) := by decide +kernel
theorem dL_law_1014 : decode cL_law 1014 = .ok (.iconst 1, 1) := by decide +kernel
theorem dL_law_1015 : decode cL_law 1015 = .ok (.iadd, 1) := by decide +kernel
theorem dL_law_1016 : decode cL_law 1016 = .ok (.iaload, 1) := by decide +kernel
theorem dL_law_1017 : decode cL_law 1017 = .ok (.aload_n 0, 1) := by decide +kernel
theorem dL_law_1018 : decode cL_law 1018 = .ok (.iload_n 3, 1) := by decide +kernel
theorem dL_law_1019 : decode cL_law 1019 = .ok (.iconst 2, 1) := by decide +kernel
theorem dL_law_1020 : decode cL_law 1020 = .ok (.iadd, 1) := by decide +kernel
theorem dL_law_1021 : decode cL_law 1021 = .ok (.iaload, 1) := by decide +kernel
theorem dL_law_1022 : decode cL_law 1022 = .ok (.invokevirtual 120, 3) := by decide +kernel
theorem dL_law_1025 : decode cL_law 1025 = .ok (.aload_n 2, 1) := by decide +kernel
theorem dL_law_1026 : decode cL_law 1026 = .ok (.aload_n 0, 1) := by decide +kernel
theorem dL_law_1027 : decode cL_law 1027 = .ok (.iload_n 3, 1) := by decide +kernel
theorem dL_law_1028 : decode cL_law 1028 = .ok (.iconst 1, 1) := by decide +kernel
theorem dL_law_1029 : decode cL_law 1029 = .ok (.iadd, 1) := by decide +kernel
theorem dL_law_1030 : decode cL_law 1030 = .ok (.iaload, 1) := by decide +kernel
theorem dL_law_1031 : decode cL_law 1031 = .ok (.aload_n 0, 1) := by decide +kernel
theorem dL_law_1032 : decode cL_law 1032 = .ok (.iload_n 3, 1) := by decide +kernel
theorem dL_law_1033 : decode cL_law 1033 = .ok (.iconst 2, 1) := by decide +kernel
theorem dL_law_1034 : decode cL_law 1034 = .ok (.iadd, 1) := by decide +kernel
theorem dL_law_1035 : decode cL_law 1035 = .ok (.iaload, 1) := by decide +kernel
theorem dL_law_1036 : decode cL_law 1036 = .ok (.invokevirtual 123, 3) := by decide +kernel
theorem dL_law_1039 : decode cL_law 1039 = .ok (.if_icmp .eq 54, 3) := by decide +kernel
theorem dL_law_1042 : decode cL_law 1042 = .ok (.iconst 0, 1) := by decide +kernel
theorem dL_law_1043 : decode cL_law 1043 = .ok (.ireturn, 1) := by decide +kernel
theorem dL_law_1044 : decode cL_law 1044 = .ok (.aload_n 1, 1) := by decide +kernel
theorem dL_law_1045 : decode cL_law 1045 = .ok (.invokevirtual 124, 3) := by decide +kernel
theorem dL_law_1048 : decode cL_law 1048 = .ok (.aload_n 2, 1) := by decide +kernel
theorem dL_law_1049 : decode cL_law 1049 = .ok (.invokevirtual 127, 3) := by decide +kernel
theorem dL_law_1052 : decode cL_law 1052 = .ok (.if_icmp .eq 41, 3) := by decide +kernel
theorem dL_law_1055 : decode cL_law 1055 = .ok (.iconst 0, 1) := by decide +kernel
theorem dL_law_1056 : decode cL_law 1056 = .ok (.ireturn, 1) := by decide +kernel
theorem dL_law_1057 : decode cL_law 1057 = .ok (.aload_n 1, 1) := by decide +kernel
theorem dL_law_1058 : decode cL_law 1058 = .ok (.invokevirtual 128, 3) := by decide +kernel
theorem dL_law_1061 : decode cL_law 1061 = .ok (.aload_n 2, 1) := by decide +kernel
theorem dL_law_1062 : decode cL_law 1062 = .ok (.invokevirtual 131, 3) := by decide +kernel
theorem dL_law_1065 : decode cL_law 1065 = .ok (.if_icmp .eq 28, 3) := by decide +kernel
theorem dL_law_1068 : decode cL_law 1068 = .ok (.iconst 0, 1) := by decide +kernel
theorem dL_law_1069 : decode cL_law 1069 = .ok (.ireturn, 1) := by decide +kernel
theorem dL_law_1070 : decode cL_law 1070 = .ok (.aload_n 1, 1) := by decide +kernel
theorem dL_law_1071 : decode cL_law 1071 = .ok (.aload_n 0, 1) := by decide +kernel
theorem dL_law_1072 : decode cL_law 1072 = .ok (.iload_n 3, 1) := by decide +kernel
theorem dL_law_1073 : decode cL_law 1073 = .ok (.iconst 1, 1) := by decide +kernel
theorem dL_law_1074 : decode cL_law 1074 = .ok (.iadd, 1) := by decide +kernel
theorem dL_law_1075 : decode cL_law 1075 = .ok (.iaload, 1) := by decide +kernel
theorem dL_law_1076 : decode cL_law 1076 = .ok (.invokevirtual 132, 3) := by decide +kernel
theorem dL_law_1079 : decode cL_law 1079 = .ok (.aload_n 2, 1) := by decide +kernel
theorem dL_law_1080 : decode cL_law 1080 = .ok (.aload_n 0, 1) := by decide +kernel
theorem dL_law_1081 : decode cL_law 1081 = .ok (.iload_n 3, 1) := by decide +kernel
theorem dL_law_1082 : decode cL_law 1082 = .ok (.iconst 1, 1) := by decide +kernel
theorem dL_law_1083 : decode cL_law 1083 = .ok (.iadd, 1) := by decide +kernel
theorem dL_law_1084 : decode cL_law 1084 = .ok (.iaload, 1) := by decide +kernel
theorem dL_law_1085 : decode cL_law 1085 = .ok (.invokevirtual 135, 3) := by decide +kernel
theorem dL_law_1088 : decode cL_law 1088 = .ok (.if_icmp .eq 5, 3) := by decide +kernel
theorem dL_law_1091 : decode cL_law 1091 = .ok (.iconst 0, 1) := by decide +kernel
theorem dL_law_1092 : decode cL_law 1092 = .ok (.ireturn, 1) := by decide +kernel
theorem dL_law_1093 : decode cL_law 1093 = .ok (.iinc 3 6, 3) := by decide +kernel
theorem dL_law_1096 : decode cL_law 1096 = .ok (.goto (-1078), 3) := by decide +kernel
theorem dL_law_1099 : decode cL_law 1099 = .ok (.iconst 1, 1) := by decide +kernel
theorem dL_law_1100 : decode cL_law 1100 = .ok (.ireturn, 1) := by decide +kernel
end
section
/-! ===== my own words: partial functions, contracts over a fixed world, calls ===== -/
theorem it_t {α : Type} {c : Prop} [Decidable c] {a b x : α} (h : c) (hf : (if c then a else b) = x) : a = x := (if_pos h).symm.trans hf
theorem it_f {α : Type} {c : Prop} [Decidable c] {a b x : α} (h : ¬ c) (hf : (if c then a else b) = x) : b = x := (if_neg h).symm.trans hf
/-- branches whose test is told the other way round -/
theorem it_n {α : Type} {c : Prop} [Decidable c] {a b x : α} (h : ¬ ¬ c) (hf : (if c then a else b) = x) : a = x := it_t (Decidable.of_not_not h) hf
def zq_rd {α β : Type} (a : Nat → α) (n : Nat) (i : Int32) (k : α → Option β) : Option β := if ¬ (i < 0 ∨ n ≤ i.toNatClampNeg) then k (a i.toNatClampNeg) else none
theorem zq_rd_s {α β : Type} {a : Nat → α} {n : Nat} {i : Int32} {k : α → Option β} {x : β} (h : zq_rd a n i k = some x) : ∃ v, v = a i.toNatClampNeg ∧ vp_in i n ∧ k v = some x := by
  unfold zq_rd at h
  by_cases c : ¬ (i < 0 ∨ n ≤ i.toNatClampNeg)
  · rw [if_pos c] at h; exact ⟨_, rfl, c, h⟩
  · rw [if_neg c] at h; cases h
def zq_in {β : Type} (n : Nat) (i : Int32) (k : Option β) : Option β := if ¬ (i < 0 ∨ n ≤ i.toNatClampNeg) then k else none
theorem zq_in_s {β : Type} {n : Nat} {i : Int32} {k : Option β} {x : β} (h : zq_in n i k = some x) : vp_in i n ∧ k = some x := by
  unfold zq_in at h
  by_cases c : ¬ (i < 0 ∨ n ≤ i.toNatClampNeg)
  · rw [if_pos c] at h; exact ⟨c, h⟩
  · rw [if_neg c] at h; cases h
def zq_dv {β : Type} (y : Int32) (k : Option β) : Option β := if ¬ y = 0 then k else none
theorem zq_dv_s {β : Type} {y : Int32} {k : Option β} {x : β} (h : zq_dv y k = some x) : ¬ y = 0 ∧ k = some x := by
  unfold zq_dv at h
  by_cases c : ¬ y = 0
  · rw [if_pos c] at h; exact ⟨c, h⟩
  · rw [if_neg c] at h; cases h
def zq_dl {β : Type} (y : Int64) (k : Option β) : Option β := if ¬ y = 0 then k else none
theorem zq_dl_s {β : Type} {y : Int64} {k : Option β} {x : β} (h : zq_dl y k = some x) : ¬ y = 0 ∧ k = some x := by
  unfold zq_dl at h
  by_cases c : ¬ y = 0
  · rw [if_pos c] at h; exact ⟨c, h⟩
  · rw [if_neg c] at h; cases h
/-- a boolean that is 0 or 1 -/
def zq_z {β : Type} (v : Int32) (k : Option β) : Option β := if v = 0 ∨ v = 1 then k else none
theorem zq_z_s {β : Type} {v : Int32} {k : Option β} {x : β} (h : zq_z v k = some x) : (v = 0 ∨ v = 1) ∧ k = some x := by
  unfold zq_z at h
  by_cases c : v = 0 ∨ v = 1
  · rw [if_pos c] at h; exact ⟨c, h⟩
  · rw [if_neg c] at h; cases h
theorem zq_nz {v : Int32} (h : v = 0 ∨ v = 1) : narrow .boolean (.int v) = .int v := by
  rcases h with rfl | rfl <;> rfl
/-- a state gets a name -/
def zq_lt {α β : Type} (a : α) (k : α → Option β) : Option β := k a
theorem zq_lt_s {α β : Type} {a : α} {k : α → Option β} {x : β} (h : zq_lt a k = some x) : ∃ z, z = a ∧ k z = some x := ⟨a, rfl, h⟩
/-- a copy of n cells: places told, contents that fit -/
def zq_cp {β : Type} (ty : FieldType) (f : Nat → Int32) (n0 n1 : Nat) (sp dp n : Int32) (k : Option β) : Option β :=
  if ((¬ sp < 0) ∧ (¬ dp < 0) ∧ (¬ n < 0)) ∧ (sp.toNatClampNeg + n.toNatClampNeg ≤ n0 ∧ dp.toNatClampNeg + n.toNatClampNeg ≤ n1) ∧ (∀ i, i < n.toNatClampNeg → fits ty (.int (f (sp.toNatClampNeg + i))) = true) then k else none
theorem zq_cp_s {β : Type} {ty : FieldType} {f : Nat → Int32} {n0 n1 : Nat} {sp dp n : Int32} {k : Option β} {x : β} (h : zq_cp ty f n0 n1 sp dp n k = some x) :
    (((¬ sp < 0) ∧ (¬ dp < 0) ∧ (¬ n < 0)) ∧ (sp.toNatClampNeg + n.toNatClampNeg ≤ n0 ∧ dp.toNatClampNeg + n.toNatClampNeg ≤ n1) ∧ (∀ i, i < n.toNatClampNeg → fits ty (.int (f (sp.toNatClampNeg + i))) = true)) ∧ k = some x := by
  unfold zq_cp at h
  split at h
  · exact ⟨by assumption, h⟩
  · cases h
def zq_b1 {A β : Type} (o : Option A) (k : A → Option β) : Option β := match o with | none => none | some a => k a
theorem zq_b1_s {A β : Type} {o : Option A} {k : A → Option β} {x : β} (h : zq_b1 o k = some x) : ∃ a, o = some a ∧ k a = some x := by
  cases o with
  | none => cases h
  | some a => exact ⟨a, rfl, h⟩
/-! the words of all methods: those of the tables that may be taken along -/
def zB : List Cond := lw_tbl.filter goodWord
theorem zB_in {w : Cond} (i : Nat) (h : lw_tbl[i]? = some w) (hg : goodWord w = true) : w ∈ zB := List.mem_filter.mpr ⟨List.mem_of_getElem? h, hg⟩
theorem zB_all {Ts : List Cond} (h : ∀ w ∈ lw_tbl, w ∈ Ts) : ∀ w ∈ zB, w ∈ Ts := fun w hw => h w (List.mem_filter.mp hw).1
theorem zB_good : ∀ w ∈ zB, (w.onTables && w.keeps) = true ∨ ∃ ty, w = .arrayClass ty := fun w hw => good_of_word (List.mem_filter.mp hw).2
theorem zB_ps (ws : List Cond) (ps : List Nat) (hp : ws = ps.filterMap (fun i => lw_tbl[i]?)) (h : ws.all goodWord = true) : ∀ w ∈ ws, w ∈ zB := by
  intro w hw
  have h1 := List.all_eq_true.mp h w hw
  rw [hp] at hw
  obtain ⟨i, -, hi⟩ := List.mem_filterMap.mp hw
  exact List.mem_filter.mpr ⟨List.mem_of_getElem? hi, h1⟩
abbrev zW (y : MethodName) (cc : ByteArray) (maxL : Nat) (ret : Option FieldType) : List Cond := Cond.code y cc maxL ret :: zB
theorem zW_good {y : MethodName} {cc : ByteArray} {maxL : Nat} {ret : Option FieldType} {Ts : List Cond} (hT : ∀ w ∈ zB, w ∈ Ts) (hc : Cond.code y cc maxL ret ∈ zB) : GoodIn Ts (zW y cc maxL ret) := by
  intro w hw
  rcases List.mem_cons.mp hw with rfl | h
  · exact ⟨hT _ hc, zB_good _ hc⟩
  · exact ⟨hT _ h, zB_good _ h⟩
/-! private members of nest mates -/
def zN (U : State) : Prop := va_Nw (.methodLinkNest RX3 19 yX2_init RX3) U ∧ va_Nw (.methodLinkNest RX3 29 yX0_init RX3) U ∧ va_Nw (.methodLinkNest RX3 45 yX1_init RX3) U ∧ va_Nw (.methodLinkNest RX2 75 yX3_isCut RX3) U ∧ va_Nw (.methodLinkNest RX2 86 yX3_isLevel RX3) U ∧ va_Nw (.methodLinkNest RX2 107 yX3_lightBy RX3) U ∧ va_Nw (.methodLinkNest RX2 113 yX3_hasBit RX3) U ∧ va_Nw (.methodLinkNest RX2 130 yX3_darkestStretch RX3) U
theorem zN.same {u U : State} (h : u.vm = U.vm) (z : zN u) : zN U := by
  obtain ⟨h1, h2, h3, h4, h5, h6, h7, h8⟩ := z
  exact ⟨va_Nw.same rfl h h1, va_Nw.same rfl h h2, va_Nw.same rfl h h3, va_Nw.same rfl h h4, va_Nw.same rfl h h5, va_Nw.same rfl h h6, va_Nw.same rfl h h7, va_Nw.same rfl h h8⟩
theorem zN.warm {s U : State} (hW : s.WarmedH U.vm) (z : zN s) : zN U := by
  obtain ⟨h1, h2, h3, h4, h5, h6, h7, h8⟩ := z
  exact ⟨va_Nw.warmM hW h1, va_Nw.warmM hW h2, va_Nw.warmM hW h3, va_Nw.warmM hW h4, va_Nw.warmM hW h5, va_Nw.warmM hW h6, va_Nw.warmM hW h7, va_Nw.warmM hW h8⟩
/-! contracts: from the world w0 the method comes to the world w1, with the answer r0; it makes nothing -/
def zT (cy : Nat → ClassId) : List (ClassId × FieldType) := [(cy 0, .int), (cy 1, .boolean), (cy 2, .long), (cy 3, .object RX1)]
def zPre (D : va_G) (cy : Nat → ClassId) (ws : va_W) (sz : Nat) : State → Prop := fun U => U.heap.size = sz ∧ va_P D vwCl ws U.heap ∧ va_K D vwCl (zT cy) U ∧ va_D (fun _ => True) ws ∧ zN U
def zMI (l : Launch) (y : MethodName) (wy : List Cond) (rm : Room) (D : va_G) (cy : Nat → ClassId) (av : List Value) (w0 : va_W) (r0 : Int32) (w1 : va_W) : Prop :=
  ∀ sz : Nat, Met l y wy rm (va_Pc av (zPre D cy w0 sz)) (va_Qi (S := Unit) (fun r _ => r = r0) (fun _ t => va_P D vwCl w1 t.heap ∧ va_D (va_A w0 sz) w1) (va_A w0 sz)) 0 0 (va_A w0 sz)
def zML (l : Launch) (y : MethodName) (wy : List Cond) (rm : Room) (D : va_G) (cy : Nat → ClassId) (av : List Value) (w0 : va_W) (r0 : Int64) (w1 : va_W) : Prop :=
  ∀ sz : Nat, Met l y wy rm (va_Pc av (zPre D cy w0 sz)) (va_Ql (S := Unit) (fun r _ => r = r0) (fun _ t => va_P D vwCl w1 t.heap ∧ va_D (va_A w0 sz) w1) (va_A w0 sz)) 0 0 (va_A w0 sz)
def zMV (l : Launch) (y : MethodName) (wy : List Cond) (rm : Room) (D : va_G) (cy : Nat → ClassId) (av : List Value) (w0 : va_W) (w1 : va_W) : Prop :=
  ∀ sz : Nat, Met l y wy rm (va_Pc av (zPre D cy w0 sz)) (va_Qv (S := Unit) (fun _ => True) (fun _ t => va_P D vwCl w1 t.heap ∧ va_D (va_A w0 sz) w1) (va_A w0 sz)) 0 0 (va_A w0 sz)
/-- what holds at every place of a method's walk -/
abbrev zCx (p : Program) (s : State) (m : MethodId) (args : Array Value) (c : Code) (cc : ByteArray) (nL : Nat) (own : String) (D : va_G) (cy : Nat → ClassId) (A : Nat → Prop) : Prop :=
  CallFix p m c cc nL s args zB own ∧ va_K D vwCl (zT cy) s ∧ (∀ q, s.heap.size ≤ q → A q) ∧ zN s
section ZE
variable {l : Launch} {y : MethodName} {rm : Room} {D : va_G} {cy : Nat → ClassId} {av : List Value} {w0 w1 : va_W} {cc : ByteArray} {maxL : Nat}
theorem zEI {r0 : Int32} {ty : FieldType} (hy : plainName y.cls = true) (hlen : (lg_sl av).length ≤ maxL)
    (body : ∀ (p : Program) (e : Env) (s : State) (m : MethodId) (below : List Frame) (meth : Method) (c : Code) (A : Nat → Prop) (Q : State → Prop), zCx p s m av.toArray c cc maxL y.cls D cy A →
      (∀ (H : Heap) (locs : List Loc) (ls : Array Slot) (pc : Nat), narrow ty (.int r0) = .int r0 → decode cc pc = .ok (.ireturn, 1) → va_P D vwCl w1 H → va_D A w1 → va_S A s.heap H locs → W p l e rm s m av.toArray below meth c H locs 0 0 Q (F0 m pc ls [.int r0])) →
      ∀ ls, lv_has ls maxL (lv_args 0 av) → va_P D vwCl w0 s.heap → va_D A w0 → W p l e rm s m av.toArray below meth c s.heap [] 0 0 Q (F0 m 0 ls [])) : zMI l y (zW y cc maxL (some ty)) rm D cy av w0 r0 w1 := by
  intro sz
  refine Met.ofW (cc := cc) (maxL := maxL) (ret := some ty) hy rfl ?_
  intro p e s m args below meth c s₁ B hml hv
  obtain ⟨rfl, hsz, hP, hK, hD0, hN⟩ := hv
  subst hsz
  have hts := atoms_spec (ws := zW y cc maxL (some ty)) B.pre
  have hlk := B.notSynchronized
  rw [lg_entry_eq]
  refine body p e s m below meth c (va_A w0 s.heap.size) _ ⟨⟨B.exec, B.bytes, hml, findClass_of_methodNamed B.named, fun w hw => hts w (List.mem_cons_of_mem _ hw)⟩, hK, fun q h => Or.inr h, hN⟩ ?_ _ (lv_entry av hlen) hP (hD0.self (sz := s.heap.size))
  intro H locs ls pc hn hd hP1 hD1 hS
  exact W.zret (ty := ty) B.exec B.bytes B.returns hn (fun t ht hW => ⟨⟨r0, (), rfl, rfl, by rw [ht]; exact hP1, hD1⟩, hS.F ht⟩) hS.2.2 hd hlk
theorem zEL {r0 : Int64} (hy : plainName y.cls = true) (hlen : (lg_sl av).length ≤ maxL)
    (body : ∀ (p : Program) (e : Env) (s : State) (m : MethodId) (below : List Frame) (meth : Method) (c : Code) (A : Nat → Prop) (Q : State → Prop), zCx p s m av.toArray c cc maxL y.cls D cy A →
      (∀ (H : Heap) (locs : List Loc) (ls : Array Slot) (pc : Nat), decode cc pc = .ok (.lreturn, 1) → va_P D vwCl w1 H → va_D A w1 → va_S A s.heap H locs → W p l e rm s m av.toArray below meth c H locs 0 0 Q (F0 m pc ls [.long r0])) →
      ∀ ls, lv_has ls maxL (lv_args 0 av) → va_P D vwCl w0 s.heap → va_D A w0 → W p l e rm s m av.toArray below meth c s.heap [] 0 0 Q (F0 m 0 ls [])) : zML l y (zW y cc maxL (some .long)) rm D cy av w0 r0 w1 := by
  intro sz
  refine Met.ofW (cc := cc) (maxL := maxL) (ret := some .long) hy rfl ?_
  intro p e s m args below meth c s₁ B hml hv
  obtain ⟨rfl, hsz, hP, hK, hD0, hN⟩ := hv
  subst hsz
  have hts := atoms_spec (ws := zW y cc maxL (some .long)) B.pre
  have hlk := B.notSynchronized
  rw [lg_entry_eq]
  refine body p e s m below meth c (va_A w0 s.heap.size) _ ⟨⟨B.exec, B.bytes, hml, findClass_of_methodNamed B.named, fun w hw => hts w (List.mem_cons_of_mem _ hw)⟩, hK, fun q h => Or.inr h, hN⟩ ?_ _ (lv_entry av hlen) hP (hD0.self (sz := s.heap.size))
  intro H locs ls pc hd hP1 hD1 hS
  exact W.lret B.exec B.bytes B.returns (fun t ht hW => ⟨⟨r0, (), rfl, rfl, by rw [ht]; exact hP1, hD1⟩, hS.F ht⟩) hS.2.2 hd hlk
theorem zEV (hy : plainName y.cls = true) (hlen : (lg_sl av).length ≤ maxL)
    (body : ∀ (p : Program) (e : Env) (s : State) (m : MethodId) (below : List Frame) (meth : Method) (c : Code) (A : Nat → Prop) (Q : State → Prop), zCx p s m av.toArray c cc maxL y.cls D cy A →
      (∀ (H : Heap) (locs : List Loc) (ls : Array Slot) (pc : Nat), decode cc pc = .ok (.return_, 1) → va_P D vwCl w1 H → va_D A w1 → va_S A s.heap H locs → W p l e rm s m av.toArray below meth c H locs 0 0 Q (F0 m pc ls [])) →
      ∀ ls, lv_has ls maxL (lv_args 0 av) → va_P D vwCl w0 s.heap → va_D A w0 → W p l e rm s m av.toArray below meth c s.heap [] 0 0 Q (F0 m 0 ls [])) : zMV l y (zW y cc maxL none) rm D cy av w0 w1 := by
  intro sz
  refine Met.ofW (cc := cc) (maxL := maxL) (ret := none) hy rfl ?_
  intro p e s m args below meth c s₁ B hml hv
  obtain ⟨rfl, hsz, hP, hK, hD0, hN⟩ := hv
  subst hsz
  have hts := atoms_spec (ws := zW y cc maxL none) B.pre
  have hlk := B.notSynchronized
  rw [lg_entry_eq]
  refine body p e s m below meth c (va_A w0 s.heap.size) _ ⟨⟨B.exec, B.bytes, hml, findClass_of_methodNamed B.named, fun w hw => hts w (List.mem_cons_of_mem _ hw)⟩, hK, fun q h => Or.inr h, hN⟩ ?_ _ (lv_entry av hlen) hP (hD0.self (sz := s.heap.size))
  intro H locs ls pc hd hP1 hD1 hS
  exact W.vret B.exec B.bytes B.returns (fun t ht hW => ⟨⟨(), rfl, trivial, by rw [ht]; exact hP1, hD1⟩, hS.F ht⟩) hS.2.2 hd hlk
end ZE
/-! a callee's world is a part of the caller's: with the part changed the caller's is another -/
def zF (ws w0 ws' w1 : va_W) : Prop := ∃ (ks rs : List Nat) (wr : va_W) (ps : List Nat), ks.map (fun i => ws[i]?) = w0.map some ∧ rs.map (fun i => ws[i]?) = wr.map some ∧ va_nd rs = true ∧ (∀ i ∈ rs, i ∉ ks) ∧ va_nd ks = true ∧ ps.map (fun i => (wr ++ w1)[i]?) = ws'.map some ∧ va_nd ps = true
theorem zq_fm {ws w0 : va_W} : ∀ {ks : List Nat} {w0 : va_W}, ks.map (fun i => ws[i]?) = w0.map some → ks.filterMap (fun i => ws[i]?) = w0
  | [], [], _ => rfl
  | [], _ :: _, h => by cases h
  | _ :: _, [], h => by cases h
  | k :: ks, q :: w, h => by
    simp only [List.map_cons, List.cons.injEq] at h
    rw [List.filterMap_cons, h.1]
    simp only [zq_fm (w0 := w0) h.2]
theorem zq_rng {ws : va_W} : (List.range ws.length).map (fun i => ws[i]?) = ws.map some := by
  apply List.ext_getElem?
  intro i
  simp only [List.getElem?_map]
  by_cases h : i < ws.length
  · rw [List.getElem?_range h]; simp [h]
  · rw [List.getElem?_eq_none (by simpa using h), List.getElem?_eq_none (by simpa using h)]; rfl
theorem zq_ndP : ∀ (l : List Nat), l.Pairwise (fun a b => a ≠ b) → va_nd l = true
  | [], _ => rfl
  | a :: l, h => by
    rw [List.pairwise_cons] at h
    simp only [va_nd, Bool.and_eq_true, decide_eq_true_eq]
    exact ⟨fun hm => h.1 a hm rfl, zq_ndP l h.2⟩
theorem zq_ndR (n : Nat) : va_nd (List.range n) = true := zq_ndP _ (List.nodup_range (n := n))
theorem zF.id {ws ws' : va_W} : zF ws ws ws' ws' := ⟨List.range ws.length, [], [], List.range ws'.length, zq_rng, rfl, rfl, (fun i h => by cases h), zq_ndR _, (by simpa using zq_rng), zq_ndR _⟩
theorem zF.nil {ws : va_W} : zF ws [] ws [] := ⟨[], List.range ws.length, ws, List.range ws.length, rfl, zq_rng, zq_ndR _, (fun i _ h => by cases h), rfl, (by simpa using zq_rng), zq_ndR _⟩
section ZC
variable {p : Program} {l : Launch} {e : Env} {R : Room} {s : State} {m : MethodId} {args : Array Value} {below : List Frame} {meth : Method} {c : Code} {H : Heap} {locs : List Loc} {cells slots : Nat} {Q : State → Prop}
variable {y : MethodName} {bytes cc : ByteArray} {maxL nL n index pc : Nat} {ret : Option FieldType} {rm : Room} {Ts : List Cond} {own C : String} {b : Addr} {As rest st : List Value} {ls : Array Slot} {a : Array Value}
variable {D : va_G} {cy : Nat → ClassId} {A : Nat → Prop} {w0 w1 ws ws' : va_W}
/-- what a call asks of the tables, out of the words of all methods -/
theorem zcB (hT : ∀ w ∈ Ts, w.before args s = true) (hZ : ∀ w ∈ zB, w ∈ Ts) (n : Nat) (hc : Cond.code y bytes maxL ret ∈ zB) (hini : Cond.initialized y.cls ∈ zB) (hl : Cond.methodLink own index y ∈ zB) (hrm : rm.cells = 0 ∧ rm.slots = 0)
    (hd : y.cls ≠ "java/lang/invoke/MethodHandle" ∧ y.cls ≠ "java/lang/invoke/VarHandle" ∧ (parseMethodDescriptor y.desc).map (fun d => d.parameters.length) = some n) (hR : rm.frames + 1 ≤ R.frames ∧ 8 + (maxL + 11) + rm.locals ≤ R.locals) :
    CallB R s args own index y bytes maxL ret (zW y bytes maxL ret) rm 0 0 n :=
  callB_of n hT (zW_good hZ hc) rfl hrm.1 hrm.2 (hT _ (hZ _ hini)) (hT _ (hZ _ hl)) hd hR
theorem zpre (hN : zN s) (hK : va_K D vwCl (zT cy) s) (hP : va_P D vwCl w0 H) (hD : va_D A w0) (av : List Value) : FrameBlind (va_Pc av (zPre D cy w0 H.size)) ∧ ∀ U : State, U.heap = H → s.WarmedH U.vm → va_Pc av (zPre D cy w0 H.size) av.toArray U :=
  ⟨fun a U g mk q => by
      obtain ⟨q0, q1, qP, qK, qD, qN⟩ := q
      exact ⟨q0, q1, qP, va_K.moved (u := U) (U := U.calling g mk a) (Vm.Alike.refl U.vm) qK, qD, zN.same (u := U) rfl qN⟩,
    fun U hU hW => ⟨rfl, by rw [hU], by rw [hU]; exact hP, va_K.moved hW.alike hK, hD.weaken (fun _ _ _ _ => trivial), zN.warm hW hN⟩⟩
/-- behind the call -/
theorem zcI {r0 : Int32} (F : zF ws w0 ws' w1) (hA : ∀ q, s.heap.size ≤ q → A q) (hP : va_P D vwCl ws H) (hD : va_D A ws) (hS : va_S A s.heap H locs)
    (hr : va_P D vwCl w0 H → va_D A w0 → va_Run p l e R s m args below meth c H locs cells slots 0 0 (F0 m pc ls st) rest (va_Qi (S := Unit) (fun r _ => r = r0) (fun _ t => va_P D vwCl w1 t.heap ∧ va_D (va_A w0 H.size) w1) (va_A w0 H.size) a) (va_A w0 H.size))
    (kk : ∀ (H1 : Heap) (locs1 : List Loc), va_P D vwCl ws' H1 → va_D A ws' → va_S A s.heap H1 locs1 → W p l e R s m args below meth c H1 locs1 cells slots Q (F0 m (pc + 3) ls (.int r0 :: rest))) : W p l e R s m args below meth c H locs cells slots Q (F0 m pc ls st) := by
  obtain ⟨ks, rs, wr, ps, hC, hR, hn, hdis, hnk, hps, hnp⟩ := F
  have hF := va_free (wc := w0) hD hS hA ks hC
  refine va_calli (hr (hP.sub ks (zq_fm (w0 := w0) hC)) (hD.sub ks hnk hC)) hS (fun q _ h => hF q h) hF (fun r u t H1 locs1 ht hvm hw hB hz1 hk1 hS1 => ?_)
  have hw : r = r0 := hw
  subst hw
  obtain ⟨hB1, hB2⟩ := hB
  rw [ht] at hB1
  obtain ⟨hP1, hD1⟩ := va_join hP hD ks rs hC hR hn hdis hk1 hF hB1 hB2
  exact kk H1 locs1 (hP1.sub ps (zq_fm (w0 := w0) hps)) (hD1.sub ps hnp hps) hS1
theorem zcL {r0 : Int64} (F : zF ws w0 ws' w1) (hA : ∀ q, s.heap.size ≤ q → A q) (hP : va_P D vwCl ws H) (hD : va_D A ws) (hS : va_S A s.heap H locs)
    (hr : va_P D vwCl w0 H → va_D A w0 → va_Run p l e R s m args below meth c H locs cells slots 0 0 (F0 m pc ls st) rest (va_Ql (S := Unit) (fun r _ => r = r0) (fun _ t => va_P D vwCl w1 t.heap ∧ va_D (va_A w0 H.size) w1) (va_A w0 H.size) a) (va_A w0 H.size))
    (kk : ∀ (H1 : Heap) (locs1 : List Loc), va_P D vwCl ws' H1 → va_D A ws' → va_S A s.heap H1 locs1 → W p l e R s m args below meth c H1 locs1 cells slots Q (F0 m (pc + 3) ls (.long r0 :: rest))) : W p l e R s m args below meth c H locs cells slots Q (F0 m pc ls st) := by
  obtain ⟨ks, rs, wr, ps, hC, hR, hn, hdis, hnk, hps, hnp⟩ := F
  have hF := va_free (wc := w0) hD hS hA ks hC
  refine va_calll (hr (hP.sub ks (zq_fm (w0 := w0) hC)) (hD.sub ks hnk hC)) hS (fun q _ h => hF q h) hF (fun r u t H1 locs1 ht hvm hw hB hz1 hk1 hS1 => ?_)
  have hw : r = r0 := hw
  subst hw
  obtain ⟨hB1, hB2⟩ := hB
  rw [ht] at hB1
  obtain ⟨hP1, hD1⟩ := va_join hP hD ks rs hC hR hn hdis hk1 hF hB1 hB2
  exact kk H1 locs1 (hP1.sub ps (zq_fm (w0 := w0) hps)) (hD1.sub ps hnp hps) hS1
theorem zcV (F : zF ws w0 ws' w1) (hA : ∀ q, s.heap.size ≤ q → A q) (hP : va_P D vwCl ws H) (hD : va_D A ws) (hS : va_S A s.heap H locs)
    (hr : va_P D vwCl w0 H → va_D A w0 → va_Run p l e R s m args below meth c H locs cells slots 0 0 (F0 m pc ls st) rest (va_Qv (S := Unit) (fun _ => True) (fun _ t => va_P D vwCl w1 t.heap ∧ va_D (va_A w0 H.size) w1) (va_A w0 H.size) a) (va_A w0 H.size))
    (kk : ∀ (H1 : Heap) (locs1 : List Loc), va_P D vwCl ws' H1 → va_D A ws' → va_S A s.heap H1 locs1 → W p l e R s m args below meth c H1 locs1 cells slots Q (F0 m (pc + 3) ls rest)) : W p l e R s m args below meth c H locs cells slots Q (F0 m pc ls st) := by
  obtain ⟨ks, rs, wr, ps, hC, hR, hn, hdis, hnk, hps, hnp⟩ := F
  have hF := va_free (wc := w0) hD hS hA ks hC
  refine va_callv (hr (hP.sub ks (zq_fm (w0 := w0) hC)) (hD.sub ks hnk hC)) hS (fun q _ h => hF q h) hF (fun u t H1 locs1 ht hvm hw hB hz1 hk1 hS1 => ?_)
  obtain ⟨hB1, hB2⟩ := hB
  rw [ht] at hB1
  obtain ⟨hP1, hD1⟩ := va_join hP hD ks rs hC hR hn hdis hk1 hF hB1 hB2
  exact kk H1 locs1 (hP1.sub ps (zq_fm (w0 := w0) hps)) (hD1.sub ps hnp hps) hS1
/-- what is told of a method that is called: by the tables, once for all -/
abbrev zYV (y : MethodName) (bytes : ByteArray) (maxL : Nat) (ret : Option FieldType) (C : String) (n : Nat) : Prop :=
  Cond.code y bytes maxL ret ∈ zB ∧ Cond.initialized y.cls ∈ zB ∧ (y.cls ≠ "java/lang/invoke/MethodHandle" ∧ y.cls ≠ "java/lang/invoke/VarHandle" ∧ (parseMethodDescriptor y.desc).map (fun d => d.parameters.length) = some n) ∧ Cond.instanceMethod y ∈ zB ∧ Cond.selects C y y ∈ zB
abbrev zYS (y : MethodName) (bytes : ByteArray) (maxL : Nat) (ret : Option FieldType) (n : Nat) : Prop :=
  Cond.code y bytes maxL ret ∈ zB ∧ Cond.initialized y.cls ∈ zB ∧ (y.cls ≠ "java/lang/invoke/MethodHandle" ∧ y.cls ≠ "java/lang/invoke/VarHandle" ∧ (parseMethodDescriptor y.desc).map (fun d => d.parameters.length) = some n) ∧ Cond.static y ∈ zB
/-- a caller whose words hold those of all methods -/
abbrev zCy (p : Program) (s : State) (m : MethodId) (args : Array Value) (c : Code) (cc : ByteArray) (nL : Nat) (own : String) (Ts : List Cond) (D : va_G) (cy : Nat → ClassId) (A : Nat → Prop) : Prop :=
  CallFix p m c cc nL s args Ts own ∧ va_K D vwCl (zT cy) s ∧ (∀ q, s.heap.size ≤ q → A q) ∧ zN s
theorem zrV (C0 : zCy p s m args c cc nL own Ts D cy A) (hZ : ∀ w ∈ zB, w ∈ Ts) {Qc : Array Value → State → Outcome → State → Prop} {free : Addr → Prop} {Pc : Array Value → State → Prop}
    (hM : Met l y (zW y bytes maxL ret) rm Pc Qc 0 0 free) (hY : zYV y bytes maxL ret C n) (hl : Cond.methodLink own index y ∈ zB) (hrm : rm.cells = 0 ∧ rm.slots = 0) (hR : rm.frames + 1 ≤ R.frames ∧ 8 + (maxL + 11) + rm.locals ≤ R.locals)
    (hpb : FrameBlind Pc) (hpu : ∀ U : State, U.heap = H → s.WarmedH U.vm → Pc (Value.ref b :: As).toArray U) (hP : va_P D vwCl ws H) {q0 ci N : Nat} {T : u_T} {fs : List Value} (hc : vwCl[ci]? = some (C, T, N)) (he : ws[q0]? = some (b, .inr (ci, fs))) (hn : As.length = n) (hls : ls.size = nL) (hst : st = As.reverse ++ .ref b :: rest) (hW : (rest.map fun v => v.category).sum ≤ 8)
    (hdg : decode cc pc = .ok (.invokevirtual index, 3)) (hcs : cells ≤ R.cells ∧ slots ≤ R.slots) : va_Run p l e R s m args below meth c H locs cells slots 0 0 (F0 m pc ls st) rest (Qc (Value.ref b :: As).toArray) free :=
  va_runV (As := As) (rest := rest) C0.1 hM ⟨zcB C0.1.2.2.2.2 hZ n hY.1 hY.2.1 hl hrm hY.2.2.1 hR, C0.1.2.2.2.2 _ (hZ _ hY.2.2.2.1), C0.1.2.2.2.2 _ (hZ _ hY.2.2.2.2)⟩ ⟨hpb, va_recv C0.2.1 hP hc he, hpu⟩ rfl hn hls hst (lv_room hW) hdg hcs
theorem zrS (C0 : zCy p s m args c cc nL own Ts D cy A) (hZ : ∀ w ∈ zB, w ∈ Ts) {Qc : Array Value → State → Outcome → State → Prop} {free : Addr → Prop} {Pc : Array Value → State → Prop}
    (hM : Met l y (zW y bytes maxL ret) rm Pc Qc 0 0 free) (hY : zYS y bytes maxL ret n) (hl : Cond.methodLink own index y ∈ zB) (hrm : rm.cells = 0 ∧ rm.slots = 0) (hR : rm.frames + 1 ≤ R.frames ∧ 8 + (maxL + 11) + rm.locals ≤ R.locals)
    (hpb : FrameBlind Pc) (hpu : ∀ U : State, U.heap = H → s.WarmedH U.vm → Pc As.toArray U) (hn : As.length = n) (hls : ls.size = nL) (hst : st = As.reverse ++ rest) (hW : (rest.map fun v => v.category).sum ≤ 8)
    (hdg : decode cc pc = .ok (.invokestatic index, 3)) (hcs : cells ≤ R.cells ∧ slots ≤ R.slots) : va_Run p l e R s m args below meth c H locs cells slots 0 0 (F0 m pc ls st) rest (Qc As.toArray) free :=
  va_runS (As := As) (rest := rest) C0.1 hM ⟨zcB C0.1.2.2.2.2 hZ n hY.1 hY.2.1 hl hrm hY.2.2.1 hR, C0.1.2.2.2.2 _ (hZ _ hY.2.2.2)⟩ ⟨hpb, hpu⟩ rfl hn hls hst (lv_room hW) hdg hcs
theorem zrN (C0 : zCy p s m args c cc nL own Ts D cy A) (hZ : ∀ w ∈ zB, w ∈ Ts) {Qc : Array Value → State → Outcome → State → Prop} {free : Addr → Prop} {Pc : Array Value → State → Prop} {host : String}
    (hM : Met l y (zW y bytes maxL ret) rm Pc Qc 0 0 free) (hY : zYS y bytes maxL ret n) (hl : va_Nw (.methodLinkNest own index y host) s) (hrm : rm.cells = 0 ∧ rm.slots = 0) (hR : rm.frames + 1 ≤ R.frames ∧ 8 + (maxL + 11) + rm.locals ≤ R.locals)
    (hpb : FrameBlind Pc) (hpu : ∀ U : State, U.heap = H → s.WarmedH U.vm → Pc As.toArray U) (hn : As.length = n) (hls : ls.size = nL) (hst : st = As.reverse ++ rest) (hW : (rest.map fun v => v.category).sum ≤ 8)
    (hdg : decode cc pc = .ok (.invokestatic index, 3)) (hcs : cells ≤ R.cells ∧ slots ≤ R.slots) : va_Run p l e R s m args below meth c H locs cells slots 0 0 (F0 m pc ls st) rest (Qc As.toArray) free :=
  va_runSN (As := As) (rest := rest) C0.1 hM ⟨va_cnB n C0.1.2.2.2.2 (zW_good hZ hY.1) rfl hrm.1 hrm.2 hl (C0.1.2.2.2.2 _ (hZ _ hY.2.1)) hY.2.2.1 hR, C0.1.2.2.2.2 _ (hZ _ hY.2.2.2), trivial⟩ ⟨hpb, hpu⟩ rfl hn hls hst (lv_room hW) hdg hcs
/-! the rows of calls, in a method's walk -/
theorem zVI {r0 : Int32} (C0 : zCy p s m args c cc nL own Ts D cy A) (hZ : ∀ w ∈ zB, w ∈ Ts) (F : zF ws w0 ws' w1) (hM : zMI l y (zW y bytes maxL ret) rm D cy (.ref b :: As) w0 r0 w1) (hP : va_P D vwCl ws H) (hD : va_D A ws) (hS : va_S A s.heap H locs) (hY : zYV y bytes maxL ret C n) (hl : Cond.methodLink own index y ∈ zB) (hrm : rm.cells = 0 ∧ rm.slots = 0) (hR : rm.frames + 1 ≤ R.frames ∧ 8 + (maxL + 11) + rm.locals ≤ R.locals) {q0 ci N : Nat} {T : u_T} {fs : List Value} (hc : vwCl[ci]? = some (C, T, N)) (he : ws[q0]? = some (b, .inr (ci, fs))) (hn : As.length = n) (hls : ls.size = nL) (hst : st = As.reverse ++ .ref b :: rest) (hW : (rest.map fun v => v.category).sum ≤ 8) (hdg : decode cc pc = .ok (.invokevirtual index, 3)) (hcs : cells ≤ R.cells ∧ slots ≤ R.slots) (kk : ∀ (H1 : Heap) (locs1 : List Loc), va_P D vwCl ws' H1 → va_D A ws' → va_S A s.heap H1 locs1 → W p l e R s m args below meth c H1 locs1 cells slots Q (F0 m (pc + 3) ls (.int r0 :: rest))) : W p l e R s m args below meth c H locs cells slots Q (F0 m pc ls st) :=
  zcI F C0.2.2.1 hP hD hS (fun h0 d0 => zrV C0 hZ (hM H.size) hY hl hrm hR (zpre C0.2.2.2 C0.2.1 h0 d0 _).1 (zpre C0.2.2.2 C0.2.1 h0 d0 _).2 hP hc he hn hls hst hW hdg hcs) kk
theorem zSI {r0 : Int32} (C0 : zCy p s m args c cc nL own Ts D cy A) (hZ : ∀ w ∈ zB, w ∈ Ts) (F : zF ws w0 ws' w1) (hM : zMI l y (zW y bytes maxL ret) rm D cy As w0 r0 w1) (hP : va_P D vwCl ws H) (hD : va_D A ws) (hS : va_S A s.heap H locs) (hY : zYS y bytes maxL ret n) (hl : Cond.methodLink own index y ∈ zB) (hrm : rm.cells = 0 ∧ rm.slots = 0) (hR : rm.frames + 1 ≤ R.frames ∧ 8 + (maxL + 11) + rm.locals ≤ R.locals) (hn : As.length = n) (hls : ls.size = nL) (hst : st = As.reverse ++ rest) (hW : (rest.map fun v => v.category).sum ≤ 8) (hdg : decode cc pc = .ok (.invokestatic index, 3)) (hcs : cells ≤ R.cells ∧ slots ≤ R.slots) (kk : ∀ (H1 : Heap) (locs1 : List Loc), va_P D vwCl ws' H1 → va_D A ws' → va_S A s.heap H1 locs1 → W p l e R s m args below meth c H1 locs1 cells slots Q (F0 m (pc + 3) ls (.int r0 :: rest))) : W p l e R s m args below meth c H locs cells slots Q (F0 m pc ls st) :=
  zcI F C0.2.2.1 hP hD hS (fun h0 d0 => zrS C0 hZ (hM H.size) hY hl hrm hR (zpre C0.2.2.2 C0.2.1 h0 d0 _).1 (zpre C0.2.2.2 C0.2.1 h0 d0 _).2 hn hls hst hW hdg hcs) kk
theorem zNI {r0 : Int32} {host : String} (C0 : zCy p s m args c cc nL own Ts D cy A) (hZ : ∀ w ∈ zB, w ∈ Ts) (F : zF ws w0 ws' w1) (hM : zMI l y (zW y bytes maxL ret) rm D cy As w0 r0 w1) (hP : va_P D vwCl ws H) (hD : va_D A ws) (hS : va_S A s.heap H locs) (hY : zYS y bytes maxL ret n) (hl : va_Nw (.methodLinkNest own index y host) s) (hrm : rm.cells = 0 ∧ rm.slots = 0) (hR : rm.frames + 1 ≤ R.frames ∧ 8 + (maxL + 11) + rm.locals ≤ R.locals) (hn : As.length = n) (hls : ls.size = nL) (hst : st = As.reverse ++ rest) (hW : (rest.map fun v => v.category).sum ≤ 8) (hdg : decode cc pc = .ok (.invokestatic index, 3)) (hcs : cells ≤ R.cells ∧ slots ≤ R.slots) (kk : ∀ (H1 : Heap) (locs1 : List Loc), va_P D vwCl ws' H1 → va_D A ws' → va_S A s.heap H1 locs1 → W p l e R s m args below meth c H1 locs1 cells slots Q (F0 m (pc + 3) ls (.int r0 :: rest))) : W p l e R s m args below meth c H locs cells slots Q (F0 m pc ls st) :=
  zcI F C0.2.2.1 hP hD hS (fun h0 d0 => zrN C0 hZ (hM H.size) hY hl hrm hR (zpre C0.2.2.2 C0.2.1 h0 d0 _).1 (zpre C0.2.2.2 C0.2.1 h0 d0 _).2 hn hls hst hW hdg hcs) kk
theorem zVL {r0 : Int64} (C0 : zCy p s m args c cc nL own Ts D cy A) (hZ : ∀ w ∈ zB, w ∈ Ts) (F : zF ws w0 ws' w1) (hM : zML l y (zW y bytes maxL ret) rm D cy (.ref b :: As) w0 r0 w1) (hP : va_P D vwCl ws H) (hD : va_D A ws) (hS : va_S A s.heap H locs) (hY : zYV y bytes maxL ret C n) (hl : Cond.methodLink own index y ∈ zB) (hrm : rm.cells = 0 ∧ rm.slots = 0) (hR : rm.frames + 1 ≤ R.frames ∧ 8 + (maxL + 11) + rm.locals ≤ R.locals) {q0 ci N : Nat} {T : u_T} {fs : List Value} (hc : vwCl[ci]? = some (C, T, N)) (he : ws[q0]? = some (b, .inr (ci, fs))) (hn : As.length = n) (hls : ls.size = nL) (hst : st = As.reverse ++ .ref b :: rest) (hW : (rest.map fun v => v.category).sum ≤ 8) (hdg : decode cc pc = .ok (.invokevirtual index, 3)) (hcs : cells ≤ R.cells ∧ slots ≤ R.slots) (kk : ∀ (H1 : Heap) (locs1 : List Loc), va_P D vwCl ws' H1 → va_D A ws' → va_S A s.heap H1 locs1 → W p l e R s m args below meth c H1 locs1 cells slots Q (F0 m (pc + 3) ls (.long r0 :: rest))) : W p l e R s m args below meth c H locs cells slots Q (F0 m pc ls st) :=
  zcL F C0.2.2.1 hP hD hS (fun h0 d0 => zrV C0 hZ (hM H.size) hY hl hrm hR (zpre C0.2.2.2 C0.2.1 h0 d0 _).1 (zpre C0.2.2.2 C0.2.1 h0 d0 _).2 hP hc he hn hls hst hW hdg hcs) kk
theorem zSL {r0 : Int64} (C0 : zCy p s m args c cc nL own Ts D cy A) (hZ : ∀ w ∈ zB, w ∈ Ts) (F : zF ws w0 ws' w1) (hM : zML l y (zW y bytes maxL ret) rm D cy As w0 r0 w1) (hP : va_P D vwCl ws H) (hD : va_D A ws) (hS : va_S A s.heap H locs) (hY : zYS y bytes maxL ret n) (hl : Cond.methodLink own index y ∈ zB) (hrm : rm.cells = 0 ∧ rm.slots = 0) (hR : rm.frames + 1 ≤ R.frames ∧ 8 + (maxL + 11) + rm.locals ≤ R.locals) (hn : As.length = n) (hls : ls.size = nL) (hst : st = As.reverse ++ rest) (hW : (rest.map fun v => v.category).sum ≤ 8) (hdg : decode cc pc = .ok (.invokestatic index, 3)) (hcs : cells ≤ R.cells ∧ slots ≤ R.slots) (kk : ∀ (H1 : Heap) (locs1 : List Loc), va_P D vwCl ws' H1 → va_D A ws' → va_S A s.heap H1 locs1 → W p l e R s m args below meth c H1 locs1 cells slots Q (F0 m (pc + 3) ls (.long r0 :: rest))) : W p l e R s m args below meth c H locs cells slots Q (F0 m pc ls st) :=
  zcL F C0.2.2.1 hP hD hS (fun h0 d0 => zrS C0 hZ (hM H.size) hY hl hrm hR (zpre C0.2.2.2 C0.2.1 h0 d0 _).1 (zpre C0.2.2.2 C0.2.1 h0 d0 _).2 hn hls hst hW hdg hcs) kk
theorem zVV  (C0 : zCy p s m args c cc nL own Ts D cy A) (hZ : ∀ w ∈ zB, w ∈ Ts) (F : zF ws w0 ws' w1) (hM : zMV l y (zW y bytes maxL ret) rm D cy (.ref b :: As) w0 w1) (hP : va_P D vwCl ws H) (hD : va_D A ws) (hS : va_S A s.heap H locs) (hY : zYV y bytes maxL ret C n) (hl : Cond.methodLink own index y ∈ zB) (hrm : rm.cells = 0 ∧ rm.slots = 0) (hR : rm.frames + 1 ≤ R.frames ∧ 8 + (maxL + 11) + rm.locals ≤ R.locals) {q0 ci N : Nat} {T : u_T} {fs : List Value} (hc : vwCl[ci]? = some (C, T, N)) (he : ws[q0]? = some (b, .inr (ci, fs))) (hn : As.length = n) (hls : ls.size = nL) (hst : st = As.reverse ++ .ref b :: rest) (hW : (rest.map fun v => v.category).sum ≤ 8) (hdg : decode cc pc = .ok (.invokevirtual index, 3)) (hcs : cells ≤ R.cells ∧ slots ≤ R.slots) (kk : ∀ (H1 : Heap) (locs1 : List Loc), va_P D vwCl ws' H1 → va_D A ws' → va_S A s.heap H1 locs1 → W p l e R s m args below meth c H1 locs1 cells slots Q (F0 m (pc + 3) ls rest)) : W p l e R s m args below meth c H locs cells slots Q (F0 m pc ls st) :=
  zcV F C0.2.2.1 hP hD hS (fun h0 d0 => zrV C0 hZ (hM H.size) hY hl hrm hR (zpre C0.2.2.2 C0.2.1 h0 d0 _).1 (zpre C0.2.2.2 C0.2.1 h0 d0 _).2 hP hc he hn hls hst hW hdg hcs) kk
theorem zSV  (C0 : zCy p s m args c cc nL own Ts D cy A) (hZ : ∀ w ∈ zB, w ∈ Ts) (F : zF ws w0 ws' w1) (hM : zMV l y (zW y bytes maxL ret) rm D cy As w0 w1) (hP : va_P D vwCl ws H) (hD : va_D A ws) (hS : va_S A s.heap H locs) (hY : zYS y bytes maxL ret n) (hl : Cond.methodLink own index y ∈ zB) (hrm : rm.cells = 0 ∧ rm.slots = 0) (hR : rm.frames + 1 ≤ R.frames ∧ 8 + (maxL + 11) + rm.locals ≤ R.locals) (hn : As.length = n) (hls : ls.size = nL) (hst : st = As.reverse ++ rest) (hW : (rest.map fun v => v.category).sum ≤ 8) (hdg : decode cc pc = .ok (.invokestatic index, 3)) (hcs : cells ≤ R.cells ∧ slots ≤ R.slots) (kk : ∀ (H1 : Heap) (locs1 : List Loc), va_P D vwCl ws' H1 → va_D A ws' → va_S A s.heap H1 locs1 → W p l e R s m args below meth c H1 locs1 cells slots Q (F0 m (pc + 3) ls rest)) : W p l e R s m args below meth c H locs cells slots Q (F0 m pc ls st) :=
  zcV F C0.2.2.1 hP hD hS (fun h0 d0 => zrS C0 hZ (hM H.size) hY hl hrm hR (zpre C0.2.2.2 C0.2.1 h0 d0 _).1 (zpre C0.2.2.2 C0.2.1 h0 d0 _).2 hn hls hst hW hdg hcs) kk
end ZC
section ZH
variable {p : Program} {l : Launch} {e : Env} {R : Room} {s : State} {m : MethodId} {args : Array Value} {below : List Frame} {meth : Method} {c : Code} {H : Heap} {locs : List Loc} {cells slots : Nat} {Q : State → Prop}
variable {cc : ByteArray} {nL index pc n : Nat} {own : String} {rest : List Value} {ls : Array Slot} {D : va_G} {cy : Nat → ClassId} {A : Nat → Prop} {a : Nat} {ws ws' : va_W}
theorem vp_lt {i : Int32} {n : Nat} (h : vp_in i n) : i.toNatClampNeg < n := Nat.not_le.mp fun q => h (Or.inr q)
theorem zgf (C0 : zCx p s m args c cc nL own D cy A) {ref C : String} {T : u_T} {N ci : Nat} (hin : ∀ w ∈ u_ws C T N, w ∈ zB) (hc : vwCl[ci]? = some (C, T, N)) (k : Nat) (hk : k < N) (hl : Cond.fieldLink own index ref (T k).2.1 (T k).2.2.1 ∈ zB) (href : (T k).1 = ref) (hP : va_P D vwCl ws H) (q0 : Nat) {fs : List Value} (he : ws[q0]? = some (a, .inr (ci, fs))) {v : Value} (hv : fs[k]? = some v) (hdg : decode cc pc = .ok (.getfield index, 3))
    (kk : W p l e R s m args below meth c H locs cells slots Q (F0 m (pc + 3) ls (v :: rest))) : W p l e R s m args below meth c H locs cells slots Q (F0 m pc ls (.ref a :: rest)) :=
  va_get C0.1.1 C0.1.2.1 C0.1.2.2.2.2 hin C0.1.2.2.2.1 C0.2.1 hP q0 he hc k hk (C0.1.2.2.2.2 _ hl) (fun x h => by rw [← href]; exact h) hv hdg kk
theorem zpf (C0 : zCx p s m args c cc nL own D cy A) {ref C : String} {T : u_T} {N ci : Nat} (hin : ∀ w ∈ u_ws C T N, w ∈ zB) (hc : vwCl[ci]? = some (C, T, N)) (ty0 : Nat → FieldType) (hty : ∀ k, k < N → parseFieldDescriptor (T k).2.2.1 = some (ty0 k)) (hnm : ∀ a, a < N → ∀ b, b < N → a ≠ b → (T a).2.1 ≠ (T b).2.1) (k : Nat) (hk : k < N) (hl : Cond.fieldLink own index ref (T k).2.1 (T k).2.2.1 ∈ zB) (href : (T k).1 = ref) (hfin : (T k).2.2.2 = false) {ty : FieldType} (hd : parseFieldDescriptor (T k).2.2.1 = some ty) (hP : va_P D vwCl ws H) (hD : va_D A ws) (hS : va_S A s.heap H locs) (q0 : Nat) {fs : List Value} (he : ws[q0]? = some (a, .inr (ci, fs))) {v : Value} (hn : narrow ty v = v) (hfit : fits ty v = true) (hlen : k < fs.length)
    (hset : ws.set q0 (a, .inr (ci, fs.set k v)) = ws') (hdg : decode cc pc = .ok (.putfield index, 3)) (kk : ∀ (H1 : Heap) (locs1 : List Loc), va_P D vwCl ws' H1 → va_D A ws' → va_S A s.heap H1 locs1 → W p l e R s m args below meth c H1 locs1 cells slots Q (F0 m (pc + 3) ls rest)) : W p l e R s m args below meth c H locs cells slots Q (F0 m pc ls (v :: .ref a :: rest)) := by
  subst hset
  exact va_put C0.1.1 C0.1.2.1 C0.1.2.2.2.2 hin ty0 hty hnm C0.1.2.2.2.1 C0.2.1 hP hD hS q0 he hc k hk (C0.1.2.2.2.2 _ hl) (fun x h => by rw [← href]; exact h) hfin hd hn hfit hlen hdg kk
theorem zia (C0 : zCx p s m args c cc nL own D cy A) (hP : va_P D vwCl ws H) (q0 : Nat) {f : Nat → Int32} (ha : ws[q0]? = some (a, .inl (cy 0, n, .inl f))) {i v : Int32} (hv : v = f i.toNatClampNeg) (hin : vp_in i n) (hdg : decode cc pc = .ok (.iaload, 1))
    (kk : W p l e R s m args below meth c H locs cells slots Q (F0 m (pc + 1) ls (.int v :: rest))) : W p l e R s m args below meth c H locs cells slots Q (F0 m pc ls (.int i :: .ref a :: rest)) := by
  subst hv
  exact va_iald C0.1.1 C0.1.2.1 C0.2.1 hP q0 0 ha rfl hin hdg kk
theorem zza (C0 : zCx p s m args c cc nL own D cy A) (hP : va_P D vwCl ws H) (q0 : Nat) {f : Nat → Int32} (ha : ws[q0]? = some (a, .inl (cy 1, n, .inl f))) {i v : Int32} (hv : v = f i.toNatClampNeg) (hin : vp_in i n) (hdg : decode cc pc = .ok (.baload, 1))
    (kk : W p l e R s m args below meth c H locs cells slots Q (F0 m (pc + 1) ls (.int v :: rest))) : W p l e R s m args below meth c H locs cells slots Q (F0 m pc ls (.int i :: .ref a :: rest)) := by
  subst hv
  exact va_zald C0.1.1 C0.1.2.1 C0.2.1 hP q0 1 ha rfl hin hdg kk
theorem zla (C0 : zCx p s m args c cc nL own D cy A) (hP : va_P D vwCl ws H) (q0 : Nat) {f : Nat → Int64} (ha : ws[q0]? = some (a, .inl (cy 2, n, .inr (.inl f)))) {i : Int32} {v : Int64} (hv : v = f i.toNatClampNeg) (hin : vp_in i n) (hdg : decode cc pc = .ok (.laload, 1))
    (kk : W p l e R s m args below meth c H locs cells slots Q (F0 m (pc + 1) ls (.long v :: rest))) : W p l e R s m args below meth c H locs cells slots Q (F0 m pc ls (.int i :: .ref a :: rest)) := by
  subst hv
  exact va_lald C0.1.1 C0.1.2.1 C0.2.1 hP q0 2 ha rfl hin hdg kk
theorem zra (C0 : zCx p s m args c cc nL own D cy A) (hP : va_P D vwCl ws H) (q0 : Nat) {f : Nat → Option Nat} (ha : ws[q0]? = some (a, .inl (cy 3, n, .inr (.inr (.inr (.inr f)))))) {i : Int32} {v : Nat} (hv : f i.toNatClampNeg = some v) (hin : vp_in i n) (hdg : decode cc pc = .ok (.aaload, 1))
    (kk : W p l e R s m args below meth c H locs cells slots Q (F0 m (pc + 1) ls (.ref v :: rest))) : W p l e R s m args below meth c H locs cells slots Q (F0 m pc ls (.int i :: .ref a :: rest)) := by
  refine va_aldq C0.1.1 C0.1.2.1 C0.2.1 hP q0 3 ha rfl hin hdg ?_
  rw [hv]
  exact kk
theorem zis (C0 : zCx p s m args c cc nL own D cy A) (hP : va_P D vwCl ws H) (hD : va_D A ws) (hS : va_S A s.heap H locs) (q0 : Nat) {f : Nat → Int32} (ha : ws[q0]? = some (a, .inl (cy 0, n, .inl f))) {i x : Int32} (hin : vp_in i n) (hset : ws.set q0 (a, .inl (cy 0, n, .inl (upd f i.toNatClampNeg x))) = ws') (hdg : decode cc pc = .ok (.iastore, 1))
    (kk : ∀ (H1 : Heap) (locs1 : List Loc), va_P D vwCl ws' H1 → va_D A ws' → va_S A s.heap H1 locs1 → W p l e R s m args below meth c H1 locs1 cells slots Q (F0 m (pc + 1) ls rest)) : W p l e R s m args below meth c H locs cells slots Q (F0 m pc ls (.int x :: .int i :: .ref a :: rest)) := by
  subst hset
  exact va_iast C0.1.1 C0.1.2.1 C0.2.1 hP hD hS q0 0 ha rfl hin hdg kk
theorem zzs (C0 : zCx p s m args c cc nL own D cy A) (hP : va_P D vwCl ws H) (hD : va_D A ws) (hS : va_S A s.heap H locs) (q0 : Nat) {f : Nat → Int32} (ha : ws[q0]? = some (a, .inl (cy 1, n, .inl f))) {i x : Int32} (hin : vp_in i n) (hset : ws.set q0 (a, .inl (cy 1, n, .inl (upd f i.toNatClampNeg (vp_nar .boolean x)))) = ws') (hdg : decode cc pc = .ok (.bastore, 1))
    (kk : ∀ (H1 : Heap) (locs1 : List Loc), va_P D vwCl ws' H1 → va_D A ws' → va_S A s.heap H1 locs1 → W p l e R s m args below meth c H1 locs1 cells slots Q (F0 m (pc + 1) ls rest)) : W p l e R s m args below meth c H locs cells slots Q (F0 m pc ls (.int x :: .int i :: .ref a :: rest)) := by
  subst hset
  exact va_zast C0.1.1 C0.1.2.1 C0.2.1 hP hD hS q0 1 ha rfl hin hdg kk
theorem zls (C0 : zCx p s m args c cc nL own D cy A) (hP : va_P D vwCl ws H) (hD : va_D A ws) (hS : va_S A s.heap H locs) (q0 : Nat) {f : Nat → Int64} (ha : ws[q0]? = some (a, .inl (cy 2, n, .inr (.inl f)))) {i : Int32} {x : Int64} (hin : vp_in i n) (hset : ws.set q0 (a, .inl (cy 2, n, .inr (.inl (vp_updL f i.toNatClampNeg x)))) = ws') (hdg : decode cc pc = .ok (.lastore, 1))
    (kk : ∀ (H1 : Heap) (locs1 : List Loc), va_P D vwCl ws' H1 → va_D A ws' → va_S A s.heap H1 locs1 → W p l e R s m args below meth c H1 locs1 cells slots Q (F0 m (pc + 1) ls rest)) : W p l e R s m args below meth c H locs cells slots Q (F0 m pc ls (.long x :: .int i :: .ref a :: rest)) := by
  subst hset
  exact va_last C0.1.1 C0.1.2.1 C0.2.1 hP hD hS q0 2 ha rfl hin hdg kk
/-- System.arraycopy of ints (t0 0) or booleans (t0 1) -/
theorem zcpy (C0 : zCx p s m args c cc nL own D cy A) (hls : ls.size = nL) (t0 : Nat) {ty : FieldType} (htt : (zT cy)[t0]? = some (cy t0, ty)) (hprim : refKind ty = false) (hl : Cond.methodLink own index arraycopyName ∈ zB) (hnat : Cond.native arraycopyName ∈ zB) (hstat : Cond.static arraycopyName ∈ zB) (hini : Cond.initialized "java/lang/System" ∈ zB)
    (hP : va_P D vwCl ws H) (hD : va_D A ws) (hS : va_S A s.heap H locs) (q0 q1 : Nat) {a0 n0 n1 : Nat} {f g : Nat → Int32} (ha0 : ws[q0]? = some (a0, .inl (cy t0, n0, .inl f))) (ha1 : ws[q1]? = some (a, .inl (cy t0, n1, .inl g))) {sp dp nn : Int32}
    (hh : ((¬ sp < 0) ∧ (¬ dp < 0) ∧ (¬ nn < 0)) ∧ (sp.toNatClampNeg + nn.toNatClampNeg ≤ n0 ∧ dp.toNatClampNeg + nn.toNatClampNeg ≤ n1) ∧ (∀ i, i < nn.toNatClampNeg → fits ty (.int (f (sp.toNatClampNeg + i))) = true))
    (hfr : 1 ≤ R.frames) (hlo : (rest.map fun v => v.category).sum + (nativeFrameWords "java/lang/System" "arraycopy" 5 + 11) ≤ R.locals)
    (hset : ws.set q1 (a, .inl (cy t0, n1, .inl (va_cpy f g sp.toNatClampNeg dp.toNatClampNeg nn.toNatClampNeg))) = ws') (hdg : decode cc pc = .ok (.invokestatic index, 3))
    (kk : ∀ (H1 : Heap) (locs1 : List Loc), va_P D vwCl ws' H1 → va_D A ws' → va_S A s.heap H1 locs1 → W p l e R s m args below meth c H1 locs1 cells slots Q (F0 m (pc + 3) ls rest)) : W p l e R s m args below meth c H locs cells slots Q (F0 m pc ls (.int nn :: .int dp :: .ref a :: .int sp :: .ref a0 :: rest)) := by
  subst hset
  have T := C0.1.2.2.2.2
  exact va_copyi C0.1.1 C0.1.2.1 (C0.1.2.2.1.trans hls.symm) C0.1.2.2.2.1 (T _ hl) (T _ hnat) (T _ hstat) (T _ hini) C0.2.1 hP hD hS q0 q1 t0 t0 ha0 ha1 htt htt hprim hh.1.1 hh.1.2.1 hh.1.2.2 hh.2.1.1 hh.2.1.2 hh.2.2 hfr hlo hdg kk
theorem zmmax (C0 : zCx p s m args c cc nL own D cy A) (hls : ls.size = nL) (hl : Cond.methodLink own index Lib.Math.max.name ∈ zB) (hstat : Cond.static Lib.Math.max.name ∈ zB) (hini : Cond.initialized "java/lang/Math" ∈ zB) (hcode : Cond.code Lib.Math.max.name Lib.Math.max.code 2 (some .int) ∈ zB) (hfr : 1 ≤ R.frames) (hlo : (rest.map fun v => v.category).sum + 13 ≤ R.locals) (hcs : cells ≤ R.cells ∧ slots ≤ R.slots) {x y : Int32} (hdg : decode cc pc = .ok (.invokestatic index, 3))
    (kk : W p l e R s m args below meth c H locs cells slots Q (F0 m (pc + 3) ls (.int (if x < y then y else x) :: rest))) : W p l e R s m args below meth c H locs cells slots Q (F0 m pc ls (.int y :: .int x :: rest)) :=
  va_mmax C0.1.1 C0.1.2.1 (C0.1.2.2.1.trans hls.symm) C0.1.2.2.2.1 (C0.1.2.2.2.2 _ hl) (C0.1.2.2.2.2 _ hstat) (C0.1.2.2.2.2 _ hini) (C0.1.2.2.2.2 _ hcode) hfr hlo hcs.1 hcs.2 hdg kk
theorem zmmin (C0 : zCx p s m args c cc nL own D cy A) (hls : ls.size = nL) (hl : Cond.methodLink own index Lib.Math.min.name ∈ zB) (hstat : Cond.static Lib.Math.min.name ∈ zB) (hini : Cond.initialized "java/lang/Math" ∈ zB) (hcode : Cond.code Lib.Math.min.name Lib.Math.min.code 2 (some .int) ∈ zB) (hfr : 1 ≤ R.frames) (hlo : (rest.map fun v => v.category).sum + 13 ≤ R.locals) (hcs : cells ≤ R.cells ∧ slots ≤ R.slots) {x y : Int32} (hdg : decode cc pc = .ok (.invokestatic index, 3))
    (kk : W p l e R s m args below meth c H locs cells slots Q (F0 m (pc + 3) ls (.int (if y < x then y else x) :: rest))) : W p l e R s m args below meth c H locs cells slots Q (F0 m pc ls (.int y :: .int x :: rest)) :=
  va_mmin C0.1.1 C0.1.2.1 (C0.1.2.2.1.trans hls.symm) C0.1.2.2.2.1 (C0.1.2.2.2.2 _ hl) (C0.1.2.2.2.2 _ hstat) (C0.1.2.2.2.2 _ hini) (C0.1.2.2.2.2 _ hcode) hfr hlo hcs.1 hcs.2 hdg kk
theorem zalen (C0 : zCx p s m args c cc nL own D cy A) (hP : va_P D vwCl ws H) (q0 : Nat) {f : Nat → Int32} (ha : ws[q0]? = some (a, .inl (cy 0, n, .inl f))) (hdg : decode cc pc = .ok (.arraylength, 1))
    (kk : W p l e R s m args below meth c H locs cells slots Q (F0 m (pc + 1) ls (.int (Int32.ofNat n) :: rest))) : W p l e R s m args below meth c H locs cells slots Q (F0 m pc ls (.ref a :: rest)) :=
  va_alen C0.1.1 C0.1.2.1 C0.2.1 hP q0 0 ha rfl rfl hdg kk
theorem zalenL (C0 : zCx p s m args c cc nL own D cy A) (hP : va_P D vwCl ws H) (q0 : Nat) {f : Nat → Int64} (ha : ws[q0]? = some (a, .inl (cy 2, n, .inr (.inl f)))) (hdg : decode cc pc = .ok (.arraylength, 1))
    (kk : W p l e R s m args below meth c H locs cells slots Q (F0 m (pc + 1) ls (.int (Int32.ofNat n) :: rest))) : W p l e R s m args below meth c H locs cells slots Q (F0 m pc ls (.ref a :: rest)) :=
  va_alen C0.1.1 C0.1.2.1 C0.2.1 hP q0 2 ha rfl rfl hdg kk
end ZH
end
section
/-! ===== the words of the tables, by their places; field rows; worlds ===== -/
abbrev zS : Type := Nat → Nat → Int32
abbrev zS4 : Type := Nat → Nat → Nat → Int32
abbrev zJ : Type := Nat → Int64
theorem inB_X0 : ∀ w ∈ wsX00, w ∈ zB := zB_ps _ [130, 132, 134, 136] (by decide +kernel) (by decide +kernel)
theorem inB_X1 : ∀ w ∈ wsX10, w ∈ zB := zB_ps _ [152, 154, 156, 158] (by decide +kernel) (by decide +kernel)
theorem inB_X2 : ∀ w ∈ wsX20, w ∈ zB := zB_ps _ [94, 96, 98, 100, 102, 104, 106, 108, 110, 112, 114] (by decide +kernel) (by decide +kernel)
theorem inB_X3 : ∀ w ∈ wsX30, w ∈ zB := zB_ps _ [169, 171, 173, 175, 177, 179, 181] (by decide +kernel) (by decide +kernel)
theorem inB_X4 : ∀ w ∈ wsX40, w ∈ zB := zB_ps _ [601, 603, 605, 607, 609, 611, 613, 615, 617, 619, 621, 623, 625, 627, 629, 631, 633, 635, 637, 639, 641, 643, 645, 647, 649, 651, 653, 655, 657, 659, 661] (by decide +kernel) (by decide +kernel)
section ZFL
variable {p : Program} {l : Launch} {e : Env} {R : Room} {s : State} {m : MethodId} {args : Array Value} {below : List Frame} {meth : Method} {c : Code} {H : Heap} {locs : List Loc} {cells slots : Nat} {Q : State → Prop}
variable {cc : ByteArray} {nL pc : Nat} {rest : List Value} {ls : Array Slot} {D : va_G} {cy : Nat → ClassId} {A : Nat → Prop} {a : Nat} {ws ws' : va_W}
theorem kf_X3_13 : Cond.fieldLink RX3 13 "LampWall" "rows" "[LLampWall$Sheet;" ∈ zB := zB_in 162 (by decide +kernel) (by decide +kernel)
theorem gf_X3_13 (C0 : zCx p s m args c cc nL RX3 D cy A) (hP : va_P D vwCl ws H) (q0 : Nat) {fs : List Value} (he : ws[q0]? = some (a, .inr (3, fs))) {v : Value} (hv : fs[0]? = some v) (hdg : decode cc pc = .ok (.getfield 13, 3)) (kk : W p l e R s m args below meth c H locs cells slots Q (F0 m (pc + 3) ls (v :: rest))) : W p l e R s m args below meth c H locs cells slots Q (F0 m pc ls (.ref a :: rest)) :=
  zgf (C := RX3) (T := TX3) (N := 7) C0 inB_X3 rfl 0 (by decide) kf_X3_13 rfl hP q0 he hv hdg kk
theorem kf_X3_20 : Cond.fieldLink RX3 20 "LampWall" "now" "LLampWall$Wall;" ∈ zB := zB_in 163 (by decide +kernel) (by decide +kernel)
theorem gf_X3_20 (C0 : zCx p s m args c cc nL RX3 D cy A) (hP : va_P D vwCl ws H) (q0 : Nat) {fs : List Value} (he : ws[q0]? = some (a, .inr (3, fs))) {v : Value} (hv : fs[1]? = some v) (hdg : decode cc pc = .ok (.getfield 20, 3)) (kk : W p l e R s m args below meth c H locs cells slots Q (F0 m (pc + 3) ls (v :: rest))) : W p l e R s m args below meth c H locs cells slots Q (F0 m pc ls (.ref a :: rest)) :=
  zgf (C := RX3) (T := TX3) (N := 7) C0 inB_X3 rfl 1 (by decide) kf_X3_20 rfl hP q0 he hv hdg kk
theorem kf_X3_24 : Cond.fieldLink RX3 24 "LampWall" "tried" "LLampWall$Wall;" ∈ zB := zB_in 164 (by decide +kernel) (by decide +kernel)
theorem gf_X3_24 (C0 : zCx p s m args c cc nL RX3 D cy A) (hP : va_P D vwCl ws H) (q0 : Nat) {fs : List Value} (he : ws[q0]? = some (a, .inr (3, fs))) {v : Value} (hv : fs[2]? = some v) (hdg : decode cc pc = .ok (.getfield 24, 3)) (kk : W p l e R s m args below meth c H locs cells slots Q (F0 m (pc + 3) ls (v :: rest))) : W p l e R s m args below meth c H locs cells slots Q (F0 m pc ls (.ref a :: rest)) :=
  zgf (C := RX3) (T := TX3) (N := 7) C0 inB_X3 rfl 2 (by decide) kf_X3_24 rfl hP q0 he hv hdg kk
theorem kf_X3_30 : Cond.fieldLink RX3 30 "LampWall" "read" "LLampWall$Readings;" ∈ zB := zB_in 165 (by decide +kernel) (by decide +kernel)
theorem gf_X3_30 (C0 : zCx p s m args c cc nL RX3 D cy A) (hP : va_P D vwCl ws H) (q0 : Nat) {fs : List Value} (he : ws[q0]? = some (a, .inr (3, fs))) {v : Value} (hv : fs[3]? = some v) (hdg : decode cc pc = .ok (.getfield 30, 3)) (kk : W p l e R s m args below meth c H locs cells slots Q (F0 m (pc + 3) ls (v :: rest))) : W p l e R s m args below meth c H locs cells slots Q (F0 m pc ls (.ref a :: rest)) :=
  zgf (C := RX3) (T := TX3) (N := 7) C0 inB_X3 rfl 3 (by decide) kf_X3_30 rfl hP q0 he hv hdg kk
theorem kf_X3_34 : Cond.fieldLink RX3 34 "LampWall" "ways" "[J" ∈ zB := zB_in 166 (by decide +kernel) (by decide +kernel)
theorem gf_X3_34 (C0 : zCx p s m args c cc nL RX3 D cy A) (hP : va_P D vwCl ws H) (q0 : Nat) {fs : List Value} (he : ws[q0]? = some (a, .inr (3, fs))) {v : Value} (hv : fs[4]? = some v) (hdg : decode cc pc = .ok (.getfield 34, 3)) (kk : W p l e R s m args below meth c H locs cells slots Q (F0 m (pc + 3) ls (v :: rest))) : W p l e R s m args below meth c H locs cells slots Q (F0 m pc ls (.ref a :: rest)) :=
  zgf (C := RX3) (T := TX3) (N := 7) C0 inB_X3 rfl 4 (by decide) kf_X3_34 rfl hP q0 he hv hdg kk
theorem kf_X3_38 : Cond.fieldLink RX3 38 "LampWall" "traced" "I" ∈ zB := zB_in 167 (by decide +kernel) (by decide +kernel)
theorem gf_X3_38 (C0 : zCx p s m args c cc nL RX3 D cy A) (hP : va_P D vwCl ws H) (q0 : Nat) {fs : List Value} (he : ws[q0]? = some (a, .inr (3, fs))) {v : Value} (hv : fs[5]? = some v) (hdg : decode cc pc = .ok (.getfield 38, 3)) (kk : W p l e R s m args below meth c H locs cells slots Q (F0 m (pc + 3) ls (v :: rest))) : W p l e R s m args below meth c H locs cells slots Q (F0 m pc ls (.ref a :: rest)) :=
  zgf (C := RX3) (T := TX3) (N := 7) C0 inB_X3 rfl 5 (by decide) kf_X3_38 rfl hP q0 he hv hdg kk
theorem pf_X3_38 (C0 : zCx p s m args c cc nL RX3 D cy A) (hP : va_P D vwCl ws H) (hD : va_D A ws) (hS : va_S A s.heap H locs) (q0 : Nat) {fs : List Value} (he : ws[q0]? = some (a, .inr (3, fs))) {x : Int32} (hlen : 5 < fs.length) (hset : ws.set q0 (a, .inr (3, fs.set 5 (.int x))) = ws') (hdg : decode cc pc = .ok (.putfield 38, 3)) (kk : ∀ (H1 : Heap) (locs1 : List Loc), va_P D vwCl ws' H1 → va_D A ws' → va_S A s.heap H1 locs1 → W p l e R s m args below meth c H1 locs1 cells slots Q (F0 m (pc + 3) ls rest)) : W p l e R s m args below meth c H locs cells slots Q (F0 m pc ls (.int x :: .ref a :: rest)) :=
  zpf (C := RX3) (T := TX3) (N := 7) (ty := .int) C0 inB_X3 rfl tyX3 tyX3_ok nmX3 5 (by decide) kf_X3_38 rfl rfl (by decide +kernel) hP hD hS q0 he rfl rfl hlen hset hdg kk
theorem kf_X3_42 : Cond.fieldLink RX3 42 "LampWall" "lastFault" "I" ∈ zB := zB_in 168 (by decide +kernel) (by decide +kernel)
theorem gf_X3_42 (C0 : zCx p s m args c cc nL RX3 D cy A) (hP : va_P D vwCl ws H) (q0 : Nat) {fs : List Value} (he : ws[q0]? = some (a, .inr (3, fs))) {v : Value} (hv : fs[6]? = some v) (hdg : decode cc pc = .ok (.getfield 42, 3)) (kk : W p l e R s m args below meth c H locs cells slots Q (F0 m (pc + 3) ls (v :: rest))) : W p l e R s m args below meth c H locs cells slots Q (F0 m pc ls (.ref a :: rest)) :=
  zgf (C := RX3) (T := TX3) (N := 7) C0 inB_X3 rfl 6 (by decide) kf_X3_42 rfl hP q0 he hv hdg kk
theorem pf_X3_42 (C0 : zCx p s m args c cc nL RX3 D cy A) (hP : va_P D vwCl ws H) (hD : va_D A ws) (hS : va_S A s.heap H locs) (q0 : Nat) {fs : List Value} (he : ws[q0]? = some (a, .inr (3, fs))) {x : Int32} (hlen : 6 < fs.length) (hset : ws.set q0 (a, .inr (3, fs.set 6 (.int x))) = ws') (hdg : decode cc pc = .ok (.putfield 42, 3)) (kk : ∀ (H1 : Heap) (locs1 : List Loc), va_P D vwCl ws' H1 → va_D A ws' → va_S A s.heap H1 locs1 → W p l e R s m args below meth c H1 locs1 cells slots Q (F0 m (pc + 3) ls rest)) : W p l e R s m args below meth c H locs cells slots Q (F0 m pc ls (.int x :: .ref a :: rest)) :=
  zpf (C := RX3) (T := TX3) (N := 7) (ty := .int) C0 inB_X3 rfl tyX3 tyX3_ok nmX3 6 (by decide) kf_X3_42 rfl rfl (by decide +kernel) hP hD hS q0 he rfl rfl hlen hset hdg kk
theorem kf_X3_69 : Cond.fieldLink RX3 69 "LampWall$Readings" "count" "I" ∈ zB := zB_in 129 (by decide +kernel) (by decide +kernel)
theorem gf_X3_69 (C0 : zCx p s m args c cc nL RX3 D cy A) (hP : va_P D vwCl ws H) (q0 : Nat) {fs : List Value} (he : ws[q0]? = some (a, .inr (0, fs))) {v : Value} (hv : fs[3]? = some v) (hdg : decode cc pc = .ok (.getfield 69, 3)) (kk : W p l e R s m args below meth c H locs cells slots Q (F0 m (pc + 3) ls (v :: rest))) : W p l e R s m args below meth c H locs cells slots Q (F0 m pc ls (.ref a :: rest)) :=
  zgf (C := RX0) (T := TX0) (N := 4) C0 inB_X0 rfl 3 (by decide) kf_X3_69 rfl hP q0 he hv hdg kk
theorem pf_X3_69 (C0 : zCx p s m args c cc nL RX3 D cy A) (hP : va_P D vwCl ws H) (hD : va_D A ws) (hS : va_S A s.heap H locs) (q0 : Nat) {fs : List Value} (he : ws[q0]? = some (a, .inr (0, fs))) {x : Int32} (hlen : 3 < fs.length) (hset : ws.set q0 (a, .inr (0, fs.set 3 (.int x))) = ws') (hdg : decode cc pc = .ok (.putfield 69, 3)) (kk : ∀ (H1 : Heap) (locs1 : List Loc), va_P D vwCl ws' H1 → va_D A ws' → va_S A s.heap H1 locs1 → W p l e R s m args below meth c H1 locs1 cells slots Q (F0 m (pc + 3) ls rest)) : W p l e R s m args below meth c H locs cells slots Q (F0 m pc ls (.int x :: .ref a :: rest)) :=
  zpf (C := RX0) (T := TX0) (N := 4) (ty := .int) C0 inB_X0 rfl tyX0 tyX0_ok nmX0 3 (by decide) kf_X3_69 rfl rfl (by decide +kernel) hP hD hS q0 he rfl rfl hlen hset hdg kk
theorem kf_X3_72 : Cond.fieldLink RX3 72 "LampWall$Wall" "modules" "I" ∈ zB := zB_in 89 (by decide +kernel) (by decide +kernel)
theorem gf_X3_72 (C0 : zCx p s m args c cc nL RX3 D cy A) (hP : va_P D vwCl ws H) (q0 : Nat) {fs : List Value} (he : ws[q0]? = some (a, .inr (2, fs))) {v : Value} (hv : fs[8]? = some v) (hdg : decode cc pc = .ok (.getfield 72, 3)) (kk : W p l e R s m args below meth c H locs cells slots Q (F0 m (pc + 3) ls (v :: rest))) : W p l e R s m args below meth c H locs cells slots Q (F0 m pc ls (.ref a :: rest)) :=
  zgf (C := RX2) (T := TX2) (N := 11) C0 inB_X2 rfl 8 (by decide) kf_X3_72 rfl hP q0 he hv hdg kk
theorem kf_X3_78 : Cond.fieldLink RX3 78 "LampWall$Wall" "kind" "[I" ∈ zB := zB_in 73 (by decide +kernel) (by decide +kernel)
theorem gf_X3_78 (C0 : zCx p s m args c cc nL RX3 D cy A) (hP : va_P D vwCl ws H) (q0 : Nat) {fs : List Value} (he : ws[q0]? = some (a, .inr (2, fs))) {v : Value} (hv : fs[0]? = some v) (hdg : decode cc pc = .ok (.getfield 78, 3)) (kk : W p l e R s m args below meth c H locs cells slots Q (F0 m (pc + 3) ls (v :: rest))) : W p l e R s m args below meth c H locs cells slots Q (F0 m pc ls (.ref a :: rest)) :=
  zgf (C := RX2) (T := TX2) (N := 11) C0 inB_X2 rfl 0 (by decide) kf_X3_78 rfl hP q0 he hv hdg kk
theorem kf_X3_82 : Cond.fieldLink RX3 82 "LampWall$Wall" "size" "[I" ∈ zB := zB_in 77 (by decide +kernel) (by decide +kernel)
theorem gf_X3_82 (C0 : zCx p s m args c cc nL RX3 D cy A) (hP : va_P D vwCl ws H) (q0 : Nat) {fs : List Value} (he : ws[q0]? = some (a, .inr (2, fs))) {v : Value} (hv : fs[2]? = some v) (hdg : decode cc pc = .ok (.getfield 82, 3)) (kk : W p l e R s m args below meth c H locs cells slots Q (F0 m (pc + 3) ls (v :: rest))) : W p l e R s m args below meth c H locs cells slots Q (F0 m pc ls (.ref a :: rest)) :=
  zgf (C := RX2) (T := TX2) (N := 11) C0 inB_X2 rfl 2 (by decide) kf_X3_82 rfl hP q0 he hv hdg kk
theorem kf_X3_85 : Cond.fieldLink RX3 85 "LampWall$Wall" "first" "[I" ∈ zB := zB_in 75 (by decide +kernel) (by decide +kernel)
theorem gf_X3_85 (C0 : zCx p s m args c cc nL RX3 D cy A) (hP : va_P D vwCl ws H) (q0 : Nat) {fs : List Value} (he : ws[q0]? = some (a, .inr (2, fs))) {v : Value} (hv : fs[1]? = some v) (hdg : decode cc pc = .ok (.getfield 85, 3)) (kk : W p l e R s m args below meth c H locs cells slots Q (F0 m (pc + 3) ls (v :: rest))) : W p l e R s m args below meth c H locs cells slots Q (F0 m pc ls (.ref a :: rest)) :=
  zgf (C := RX2) (T := TX2) (N := 11) C0 inB_X2 rfl 1 (by decide) kf_X3_85 rfl hP q0 he hv hdg kk
theorem kf_X3_88 : Cond.fieldLink RX3 88 "LampWall$Wall" "dead" "[Z" ∈ zB := zB_in 79 (by decide +kernel) (by decide +kernel)
theorem gf_X3_88 (C0 : zCx p s m args c cc nL RX3 D cy A) (hP : va_P D vwCl ws H) (q0 : Nat) {fs : List Value} (he : ws[q0]? = some (a, .inr (2, fs))) {v : Value} (hv : fs[3]? = some v) (hdg : decode cc pc = .ok (.getfield 88, 3)) (kk : W p l e R s m args below meth c H locs cells slots Q (F0 m (pc + 3) ls (v :: rest))) : W p l e R s m args below meth c H locs cells slots Q (F0 m pc ls (.ref a :: rest)) :=
  zgf (C := RX2) (T := TX2) (N := 11) C0 inB_X2 rfl 3 (by decide) kf_X3_88 rfl hP q0 he hv hdg kk
theorem kf_X3_98 : Cond.fieldLink RX3 98 "LampWall$Wall" "home" "[I" ∈ zB := zB_in 83 (by decide +kernel) (by decide +kernel)
theorem gf_X3_98 (C0 : zCx p s m args c cc nL RX3 D cy A) (hP : va_P D vwCl ws H) (q0 : Nat) {fs : List Value} (he : ws[q0]? = some (a, .inr (2, fs))) {v : Value} (hv : fs[5]? = some v) (hdg : decode cc pc = .ok (.getfield 98, 3)) (kk : W p l e R s m args below meth c H locs cells slots Q (F0 m (pc + 3) ls (v :: rest))) : W p l e R s m args below meth c H locs cells slots Q (F0 m pc ls (.ref a :: rest)) :=
  zgf (C := RX2) (T := TX2) (N := 11) C0 inB_X2 rfl 5 (by decide) kf_X3_98 rfl hP q0 he hv hdg kk
theorem kf_X3_101 : Cond.fieldLink RX3 101 "LampWall$Wall" "level" "[I" ∈ zB := zB_in 81 (by decide +kernel) (by decide +kernel)
theorem gf_X3_101 (C0 : zCx p s m args c cc nL RX3 D cy A) (hP : va_P D vwCl ws H) (q0 : Nat) {fs : List Value} (he : ws[q0]? = some (a, .inr (2, fs))) {v : Value} (hv : fs[4]? = some v) (hdg : decode cc pc = .ok (.getfield 101, 3)) (kk : W p l e R s m args below meth c H locs cells slots Q (F0 m (pc + 3) ls (v :: rest))) : W p l e R s m args below meth c H locs cells slots Q (F0 m pc ls (.ref a :: rest)) :=
  zgf (C := RX2) (T := TX2) (N := 11) C0 inB_X2 rfl 4 (by decide) kf_X3_101 rfl hP q0 he hv hdg kk
theorem kf_X3_129 : Cond.fieldLink RX3 129 "LampWall$Wall" "cutUnits" "I" ∈ zB := zB_in 93 (by decide +kernel) (by decide +kernel)
theorem gf_X3_129 (C0 : zCx p s m args c cc nL RX3 D cy A) (hP : va_P D vwCl ws H) (q0 : Nat) {fs : List Value} (he : ws[q0]? = some (a, .inr (2, fs))) {v : Value} (hv : fs[10]? = some v) (hdg : decode cc pc = .ok (.getfield 129, 3)) (kk : W p l e R s m args below meth c H locs cells slots Q (F0 m (pc + 3) ls (v :: rest))) : W p l e R s m args below meth c H locs cells slots Q (F0 m pc ls (.ref a :: rest)) :=
  zgf (C := RX2) (T := TX2) (N := 11) C0 inB_X2 rfl 10 (by decide) kf_X3_129 rfl hP q0 he hv hdg kk
theorem kf_X3_139 : Cond.fieldLink RX3 139 "LampWall$Wall" "planeOf" "[I" ∈ zB := zB_in 85 (by decide +kernel) (by decide +kernel)
theorem gf_X3_139 (C0 : zCx p s m args c cc nL RX3 D cy A) (hP : va_P D vwCl ws H) (q0 : Nat) {fs : List Value} (he : ws[q0]? = some (a, .inr (2, fs))) {v : Value} (hv : fs[6]? = some v) (hdg : decode cc pc = .ok (.getfield 139, 3)) (kk : W p l e R s m args below meth c H locs cells slots Q (F0 m (pc + 3) ls (v :: rest))) : W p l e R s m args below meth c H locs cells slots Q (F0 m pc ls (.ref a :: rest)) :=
  zgf (C := RX2) (T := TX2) (N := 11) C0 inB_X2 rfl 6 (by decide) kf_X3_139 rfl hP q0 he hv hdg kk
theorem kf_X3_148 : Cond.fieldLink RX3 148 "LampWall$Wall" "sliceOf" "[I" ∈ zB := zB_in 87 (by decide +kernel) (by decide +kernel)
theorem gf_X3_148 (C0 : zCx p s m args c cc nL RX3 D cy A) (hP : va_P D vwCl ws H) (q0 : Nat) {fs : List Value} (he : ws[q0]? = some (a, .inr (2, fs))) {v : Value} (hv : fs[7]? = some v) (hdg : decode cc pc = .ok (.getfield 148, 3)) (kk : W p l e R s m args below meth c H locs cells slots Q (F0 m (pc + 3) ls (v :: rest))) : W p l e R s m args below meth c H locs cells slots Q (F0 m pc ls (.ref a :: rest)) :=
  zgf (C := RX2) (T := TX2) (N := 11) C0 inB_X2 rfl 7 (by decide) kf_X3_148 rfl hP q0 he hv hdg kk
theorem kf_X3_167 : Cond.fieldLink RX3 167 "LampWall$Sheet" "cells" "[I" ∈ zB := zB_in 146 (by decide +kernel) (by decide +kernel)
theorem gf_X3_167 (C0 : zCx p s m args c cc nL RX3 D cy A) (hP : va_P D vwCl ws H) (q0 : Nat) {fs : List Value} (he : ws[q0]? = some (a, .inr (1, fs))) {v : Value} (hv : fs[0]? = some v) (hdg : decode cc pc = .ok (.getfield 167, 3)) (kk : W p l e R s m args below meth c H locs cells slots Q (F0 m (pc + 3) ls (v :: rest))) : W p l e R s m args below meth c H locs cells slots Q (F0 m pc ls (.ref a :: rest)) :=
  zgf (C := RX1) (T := TX1) (N := 4) C0 inB_X1 rfl 0 (by decide) kf_X3_167 rfl hP q0 he hv hdg kk
theorem kf_X3_207 : Cond.fieldLink RX3 207 "LampWall$Sheet" "hasRow" "Z" ∈ zB := zB_in 148 (by decide +kernel) (by decide +kernel)
theorem gf_X3_207 (C0 : zCx p s m args c cc nL RX3 D cy A) (hP : va_P D vwCl ws H) (q0 : Nat) {fs : List Value} (he : ws[q0]? = some (a, .inr (1, fs))) {v : Value} (hv : fs[1]? = some v) (hdg : decode cc pc = .ok (.getfield 207, 3)) (kk : W p l e R s m args below meth c H locs cells slots Q (F0 m (pc + 3) ls (v :: rest))) : W p l e R s m args below meth c H locs cells slots Q (F0 m pc ls (.ref a :: rest)) :=
  zgf (C := RX1) (T := TX1) (N := 4) C0 inB_X1 rfl 1 (by decide) kf_X3_207 rfl hP q0 he hv hdg kk
theorem pf_X3_207 (C0 : zCx p s m args c cc nL RX3 D cy A) (hP : va_P D vwCl ws H) (hD : va_D A ws) (hS : va_S A s.heap H locs) (q0 : Nat) {fs : List Value} (he : ws[q0]? = some (a, .inr (1, fs))) {x : Int32} (hz : x = 0 ∨ x = 1) (hlen : 1 < fs.length) (hset : ws.set q0 (a, .inr (1, fs.set 1 (.int x))) = ws') (hdg : decode cc pc = .ok (.putfield 207, 3)) (kk : ∀ (H1 : Heap) (locs1 : List Loc), va_P D vwCl ws' H1 → va_D A ws' → va_S A s.heap H1 locs1 → W p l e R s m args below meth c H1 locs1 cells slots Q (F0 m (pc + 3) ls rest)) : W p l e R s m args below meth c H locs cells slots Q (F0 m pc ls (.int x :: .ref a :: rest)) :=
  zpf (C := RX1) (T := TX1) (N := 4) (ty := .boolean) C0 inB_X1 rfl tyX1 tyX1_ok nmX1 1 (by decide) kf_X3_207 rfl rfl (by decide +kernel) hP hD hS q0 he (zq_nz hz) (by rcases hz with rfl | rfl <;> rfl) hlen hset hdg kk
theorem kf_X3_211 : Cond.fieldLink RX3 211 "LampWall$Sheet" "lane" "I" ∈ zB := zB_in 150 (by decide +kernel) (by decide +kernel)
theorem gf_X3_211 (C0 : zCx p s m args c cc nL RX3 D cy A) (hP : va_P D vwCl ws H) (q0 : Nat) {fs : List Value} (he : ws[q0]? = some (a, .inr (1, fs))) {v : Value} (hv : fs[2]? = some v) (hdg : decode cc pc = .ok (.getfield 211, 3)) (kk : W p l e R s m args below meth c H locs cells slots Q (F0 m (pc + 3) ls (v :: rest))) : W p l e R s m args below meth c H locs cells slots Q (F0 m pc ls (.ref a :: rest)) :=
  zgf (C := RX1) (T := TX1) (N := 4) C0 inB_X1 rfl 2 (by decide) kf_X3_211 rfl hP q0 he hv hdg kk
theorem kf_X3_241 : Cond.fieldLink RX3 241 "LampWall$Wall" "lamps" "I" ∈ zB := zB_in 91 (by decide +kernel) (by decide +kernel)
theorem gf_X3_241 (C0 : zCx p s m args c cc nL RX3 D cy A) (hP : va_P D vwCl ws H) (q0 : Nat) {fs : List Value} (he : ws[q0]? = some (a, .inr (2, fs))) {v : Value} (hv : fs[9]? = some v) (hdg : decode cc pc = .ok (.getfield 241, 3)) (kk : W p l e R s m args below meth c H locs cells slots Q (F0 m (pc + 3) ls (v :: rest))) : W p l e R s m args below meth c H locs cells slots Q (F0 m pc ls (.ref a :: rest)) :=
  zgf (C := RX2) (T := TX2) (N := 11) C0 inB_X2 rfl 9 (by decide) kf_X3_241 rfl hP q0 he hv hdg kk
theorem kf_X0_9 : Cond.fieldLink RX0 9 "LampWall$Readings" "unit" "[I" ∈ zB := zB_in 125 (by decide +kernel) (by decide +kernel)
theorem gf_X0_9 (C0 : zCx p s m args c cc nL RX0 D cy A) (hP : va_P D vwCl ws H) (q0 : Nat) {fs : List Value} (he : ws[q0]? = some (a, .inr (0, fs))) {v : Value} (hv : fs[0]? = some v) (hdg : decode cc pc = .ok (.getfield 9, 3)) (kk : W p l e R s m args below meth c H locs cells slots Q (F0 m (pc + 3) ls (v :: rest))) : W p l e R s m args below meth c H locs cells slots Q (F0 m pc ls (.ref a :: rest)) :=
  zgf (C := RX0) (T := TX0) (N := 4) C0 inB_X0 rfl 0 (by decide) kf_X0_9 rfl hP q0 he hv hdg kk
theorem kf_X0_15 : Cond.fieldLink RX0 15 "LampWall$Readings" "lamp" "[I" ∈ zB := zB_in 126 (by decide +kernel) (by decide +kernel)
theorem gf_X0_15 (C0 : zCx p s m args c cc nL RX0 D cy A) (hP : va_P D vwCl ws H) (q0 : Nat) {fs : List Value} (he : ws[q0]? = some (a, .inr (0, fs))) {v : Value} (hv : fs[1]? = some v) (hdg : decode cc pc = .ok (.getfield 15, 3)) (kk : W p l e R s m args below meth c H locs cells slots Q (F0 m (pc + 3) ls (v :: rest))) : W p l e R s m args below meth c H locs cells slots Q (F0 m pc ls (.ref a :: rest)) :=
  zgf (C := RX0) (T := TX0) (N := 4) C0 inB_X0 rfl 1 (by decide) kf_X0_15 rfl hP q0 he hv hdg kk
theorem kf_X0_18 : Cond.fieldLink RX0 18 "LampWall$Readings" "lit" "[Z" ∈ zB := zB_in 127 (by decide +kernel) (by decide +kernel)
theorem gf_X0_18 (C0 : zCx p s m args c cc nL RX0 D cy A) (hP : va_P D vwCl ws H) (q0 : Nat) {fs : List Value} (he : ws[q0]? = some (a, .inr (0, fs))) {v : Value} (hv : fs[2]? = some v) (hdg : decode cc pc = .ok (.getfield 18, 3)) (kk : W p l e R s m args below meth c H locs cells slots Q (F0 m (pc + 3) ls (v :: rest))) : W p l e R s m args below meth c H locs cells slots Q (F0 m pc ls (.ref a :: rest)) :=
  zgf (C := RX0) (T := TX0) (N := 4) C0 inB_X0 rfl 2 (by decide) kf_X0_18 rfl hP q0 he hv hdg kk
theorem kf_X0_22 : Cond.fieldLink RX0 22 "LampWall$Readings" "count" "I" ∈ zB := zB_in 128 (by decide +kernel) (by decide +kernel)
theorem gf_X0_22 (C0 : zCx p s m args c cc nL RX0 D cy A) (hP : va_P D vwCl ws H) (q0 : Nat) {fs : List Value} (he : ws[q0]? = some (a, .inr (0, fs))) {v : Value} (hv : fs[3]? = some v) (hdg : decode cc pc = .ok (.getfield 22, 3)) (kk : W p l e R s m args below meth c H locs cells slots Q (F0 m (pc + 3) ls (v :: rest))) : W p l e R s m args below meth c H locs cells slots Q (F0 m pc ls (.ref a :: rest)) :=
  zgf (C := RX0) (T := TX0) (N := 4) C0 inB_X0 rfl 3 (by decide) kf_X0_22 rfl hP q0 he hv hdg kk
theorem pf_X0_22 (C0 : zCx p s m args c cc nL RX0 D cy A) (hP : va_P D vwCl ws H) (hD : va_D A ws) (hS : va_S A s.heap H locs) (q0 : Nat) {fs : List Value} (he : ws[q0]? = some (a, .inr (0, fs))) {x : Int32} (hlen : 3 < fs.length) (hset : ws.set q0 (a, .inr (0, fs.set 3 (.int x))) = ws') (hdg : decode cc pc = .ok (.putfield 22, 3)) (kk : ∀ (H1 : Heap) (locs1 : List Loc), va_P D vwCl ws' H1 → va_D A ws' → va_S A s.heap H1 locs1 → W p l e R s m args below meth c H1 locs1 cells slots Q (F0 m (pc + 3) ls rest)) : W p l e R s m args below meth c H locs cells slots Q (F0 m pc ls (.int x :: .ref a :: rest)) :=
  zpf (C := RX0) (T := TX0) (N := 4) (ty := .int) C0 inB_X0 rfl tyX0 tyX0_ok nmX0 3 (by decide) kf_X0_22 rfl rfl (by decide +kernel) hP hD hS q0 he rfl rfl hlen hset hdg kk
theorem kf_X1_9 : Cond.fieldLink RX1 9 "LampWall$Sheet" "cells" "[I" ∈ zB := zB_in 144 (by decide +kernel) (by decide +kernel)
theorem gf_X1_9 (C0 : zCx p s m args c cc nL RX1 D cy A) (hP : va_P D vwCl ws H) (q0 : Nat) {fs : List Value} (he : ws[q0]? = some (a, .inr (1, fs))) {v : Value} (hv : fs[0]? = some v) (hdg : decode cc pc = .ok (.getfield 9, 3)) (kk : W p l e R s m args below meth c H locs cells slots Q (F0 m (pc + 3) ls (v :: rest))) : W p l e R s m args below meth c H locs cells slots Q (F0 m pc ls (.ref a :: rest)) :=
  zgf (C := RX1) (T := TX1) (N := 4) C0 inB_X1 rfl 0 (by decide) kf_X1_9 rfl hP q0 he hv hdg kk
theorem kf_X1_15 : Cond.fieldLink RX1 15 "LampWall$Sheet" "hasRow" "Z" ∈ zB := zB_in 147 (by decide +kernel) (by decide +kernel)
theorem gf_X1_15 (C0 : zCx p s m args c cc nL RX1 D cy A) (hP : va_P D vwCl ws H) (q0 : Nat) {fs : List Value} (he : ws[q0]? = some (a, .inr (1, fs))) {v : Value} (hv : fs[1]? = some v) (hdg : decode cc pc = .ok (.getfield 15, 3)) (kk : W p l e R s m args below meth c H locs cells slots Q (F0 m (pc + 3) ls (v :: rest))) : W p l e R s m args below meth c H locs cells slots Q (F0 m pc ls (.ref a :: rest)) :=
  zgf (C := RX1) (T := TX1) (N := 4) C0 inB_X1 rfl 1 (by decide) kf_X1_15 rfl hP q0 he hv hdg kk
theorem pf_X1_15 (C0 : zCx p s m args c cc nL RX1 D cy A) (hP : va_P D vwCl ws H) (hD : va_D A ws) (hS : va_S A s.heap H locs) (q0 : Nat) {fs : List Value} (he : ws[q0]? = some (a, .inr (1, fs))) {x : Int32} (hz : x = 0 ∨ x = 1) (hlen : 1 < fs.length) (hset : ws.set q0 (a, .inr (1, fs.set 1 (.int x))) = ws') (hdg : decode cc pc = .ok (.putfield 15, 3)) (kk : ∀ (H1 : Heap) (locs1 : List Loc), va_P D vwCl ws' H1 → va_D A ws' → va_S A s.heap H1 locs1 → W p l e R s m args below meth c H1 locs1 cells slots Q (F0 m (pc + 3) ls rest)) : W p l e R s m args below meth c H locs cells slots Q (F0 m pc ls (.int x :: .ref a :: rest)) :=
  zpf (C := RX1) (T := TX1) (N := 4) (ty := .boolean) C0 inB_X1 rfl tyX1 tyX1_ok nmX1 1 (by decide) kf_X1_15 rfl rfl (by decide +kernel) hP hD hS q0 he (zq_nz hz) (by rcases hz with rfl | rfl <;> rfl) hlen hset hdg kk
theorem kf_X1_19 : Cond.fieldLink RX1 19 "LampWall$Sheet" "lane" "I" ∈ zB := zB_in 149 (by decide +kernel) (by decide +kernel)
theorem gf_X1_19 (C0 : zCx p s m args c cc nL RX1 D cy A) (hP : va_P D vwCl ws H) (q0 : Nat) {fs : List Value} (he : ws[q0]? = some (a, .inr (1, fs))) {v : Value} (hv : fs[2]? = some v) (hdg : decode cc pc = .ok (.getfield 19, 3)) (kk : W p l e R s m args below meth c H locs cells slots Q (F0 m (pc + 3) ls (v :: rest))) : W p l e R s m args below meth c H locs cells slots Q (F0 m pc ls (.ref a :: rest)) :=
  zgf (C := RX1) (T := TX1) (N := 4) C0 inB_X1 rfl 2 (by decide) kf_X1_19 rfl hP q0 he hv hdg kk
theorem pf_X1_19 (C0 : zCx p s m args c cc nL RX1 D cy A) (hP : va_P D vwCl ws H) (hD : va_D A ws) (hS : va_S A s.heap H locs) (q0 : Nat) {fs : List Value} (he : ws[q0]? = some (a, .inr (1, fs))) {x : Int32} (hlen : 2 < fs.length) (hset : ws.set q0 (a, .inr (1, fs.set 2 (.int x))) = ws') (hdg : decode cc pc = .ok (.putfield 19, 3)) (kk : ∀ (H1 : Heap) (locs1 : List Loc), va_P D vwCl ws' H1 → va_D A ws' → va_S A s.heap H1 locs1 → W p l e R s m args below meth c H1 locs1 cells slots Q (F0 m (pc + 3) ls rest)) : W p l e R s m args below meth c H locs cells slots Q (F0 m pc ls (.int x :: .ref a :: rest)) :=
  zpf (C := RX1) (T := TX1) (N := 4) (ty := .int) C0 inB_X1 rfl tyX1 tyX1_ok nmX1 2 (by decide) kf_X1_19 rfl rfl (by decide +kernel) hP hD hS q0 he rfl rfl hlen hset hdg kk
theorem kf_X1_23 : Cond.fieldLink RX1 23 "LampWall$Sheet" "length" "I" ∈ zB := zB_in 151 (by decide +kernel) (by decide +kernel)
theorem gf_X1_23 (C0 : zCx p s m args c cc nL RX1 D cy A) (hP : va_P D vwCl ws H) (q0 : Nat) {fs : List Value} (he : ws[q0]? = some (a, .inr (1, fs))) {v : Value} (hv : fs[3]? = some v) (hdg : decode cc pc = .ok (.getfield 23, 3)) (kk : W p l e R s m args below meth c H locs cells slots Q (F0 m (pc + 3) ls (v :: rest))) : W p l e R s m args below meth c H locs cells slots Q (F0 m pc ls (.ref a :: rest)) :=
  zgf (C := RX1) (T := TX1) (N := 4) C0 inB_X1 rfl 3 (by decide) kf_X1_23 rfl hP q0 he hv hdg kk
theorem pf_X1_23 (C0 : zCx p s m args c cc nL RX1 D cy A) (hP : va_P D vwCl ws H) (hD : va_D A ws) (hS : va_S A s.heap H locs) (q0 : Nat) {fs : List Value} (he : ws[q0]? = some (a, .inr (1, fs))) {x : Int32} (hlen : 3 < fs.length) (hset : ws.set q0 (a, .inr (1, fs.set 3 (.int x))) = ws') (hdg : decode cc pc = .ok (.putfield 23, 3)) (kk : ∀ (H1 : Heap) (locs1 : List Loc), va_P D vwCl ws' H1 → va_D A ws' → va_S A s.heap H1 locs1 → W p l e R s m args below meth c H1 locs1 cells slots Q (F0 m (pc + 3) ls rest)) : W p l e R s m args below meth c H locs cells slots Q (F0 m pc ls (.int x :: .ref a :: rest)) :=
  zpf (C := RX1) (T := TX1) (N := 4) (ty := .int) C0 inB_X1 rfl tyX1 tyX1_ok nmX1 3 (by decide) kf_X1_23 rfl rfl (by decide +kernel) hP hD hS q0 he rfl rfl hlen hset hdg kk
theorem kf_X2_9 : Cond.fieldLink RX2 9 "LampWall$Wall" "kind" "[I" ∈ zB := zB_in 72 (by decide +kernel) (by decide +kernel)
theorem gf_X2_9 (C0 : zCx p s m args c cc nL RX2 D cy A) (hP : va_P D vwCl ws H) (q0 : Nat) {fs : List Value} (he : ws[q0]? = some (a, .inr (2, fs))) {v : Value} (hv : fs[0]? = some v) (hdg : decode cc pc = .ok (.getfield 9, 3)) (kk : W p l e R s m args below meth c H locs cells slots Q (F0 m (pc + 3) ls (v :: rest))) : W p l e R s m args below meth c H locs cells slots Q (F0 m pc ls (.ref a :: rest)) :=
  zgf (C := RX2) (T := TX2) (N := 11) C0 inB_X2 rfl 0 (by decide) kf_X2_9 rfl hP q0 he hv hdg kk
theorem kf_X2_15 : Cond.fieldLink RX2 15 "LampWall$Wall" "first" "[I" ∈ zB := zB_in 74 (by decide +kernel) (by decide +kernel)
theorem gf_X2_15 (C0 : zCx p s m args c cc nL RX2 D cy A) (hP : va_P D vwCl ws H) (q0 : Nat) {fs : List Value} (he : ws[q0]? = some (a, .inr (2, fs))) {v : Value} (hv : fs[1]? = some v) (hdg : decode cc pc = .ok (.getfield 15, 3)) (kk : W p l e R s m args below meth c H locs cells slots Q (F0 m (pc + 3) ls (v :: rest))) : W p l e R s m args below meth c H locs cells slots Q (F0 m pc ls (.ref a :: rest)) :=
  zgf (C := RX2) (T := TX2) (N := 11) C0 inB_X2 rfl 1 (by decide) kf_X2_15 rfl hP q0 he hv hdg kk
theorem kf_X2_18 : Cond.fieldLink RX2 18 "LampWall$Wall" "size" "[I" ∈ zB := zB_in 76 (by decide +kernel) (by decide +kernel)
theorem gf_X2_18 (C0 : zCx p s m args c cc nL RX2 D cy A) (hP : va_P D vwCl ws H) (q0 : Nat) {fs : List Value} (he : ws[q0]? = some (a, .inr (2, fs))) {v : Value} (hv : fs[2]? = some v) (hdg : decode cc pc = .ok (.getfield 18, 3)) (kk : W p l e R s m args below meth c H locs cells slots Q (F0 m (pc + 3) ls (v :: rest))) : W p l e R s m args below meth c H locs cells slots Q (F0 m pc ls (.ref a :: rest)) :=
  zgf (C := RX2) (T := TX2) (N := 11) C0 inB_X2 rfl 2 (by decide) kf_X2_18 rfl hP q0 he hv hdg kk
theorem kf_X2_21 : Cond.fieldLink RX2 21 "LampWall$Wall" "dead" "[Z" ∈ zB := zB_in 78 (by decide +kernel) (by decide +kernel)
theorem gf_X2_21 (C0 : zCx p s m args c cc nL RX2 D cy A) (hP : va_P D vwCl ws H) (q0 : Nat) {fs : List Value} (he : ws[q0]? = some (a, .inr (2, fs))) {v : Value} (hv : fs[3]? = some v) (hdg : decode cc pc = .ok (.getfield 21, 3)) (kk : W p l e R s m args below meth c H locs cells slots Q (F0 m (pc + 3) ls (v :: rest))) : W p l e R s m args below meth c H locs cells slots Q (F0 m pc ls (.ref a :: rest)) :=
  zgf (C := RX2) (T := TX2) (N := 11) C0 inB_X2 rfl 3 (by decide) kf_X2_21 rfl hP q0 he hv hdg kk
theorem kf_X2_25 : Cond.fieldLink RX2 25 "LampWall$Wall" "level" "[I" ∈ zB := zB_in 80 (by decide +kernel) (by decide +kernel)
theorem gf_X2_25 (C0 : zCx p s m args c cc nL RX2 D cy A) (hP : va_P D vwCl ws H) (q0 : Nat) {fs : List Value} (he : ws[q0]? = some (a, .inr (2, fs))) {v : Value} (hv : fs[4]? = some v) (hdg : decode cc pc = .ok (.getfield 25, 3)) (kk : W p l e R s m args below meth c H locs cells slots Q (F0 m (pc + 3) ls (v :: rest))) : W p l e R s m args below meth c H locs cells slots Q (F0 m pc ls (.ref a :: rest)) :=
  zgf (C := RX2) (T := TX2) (N := 11) C0 inB_X2 rfl 4 (by decide) kf_X2_25 rfl hP q0 he hv hdg kk
theorem kf_X2_28 : Cond.fieldLink RX2 28 "LampWall$Wall" "home" "[I" ∈ zB := zB_in 82 (by decide +kernel) (by decide +kernel)
theorem gf_X2_28 (C0 : zCx p s m args c cc nL RX2 D cy A) (hP : va_P D vwCl ws H) (q0 : Nat) {fs : List Value} (he : ws[q0]? = some (a, .inr (2, fs))) {v : Value} (hv : fs[5]? = some v) (hdg : decode cc pc = .ok (.getfield 28, 3)) (kk : W p l e R s m args below meth c H locs cells slots Q (F0 m (pc + 3) ls (v :: rest))) : W p l e R s m args below meth c H locs cells slots Q (F0 m pc ls (.ref a :: rest)) :=
  zgf (C := RX2) (T := TX2) (N := 11) C0 inB_X2 rfl 5 (by decide) kf_X2_28 rfl hP q0 he hv hdg kk
theorem kf_X2_31 : Cond.fieldLink RX2 31 "LampWall$Wall" "planeOf" "[I" ∈ zB := zB_in 84 (by decide +kernel) (by decide +kernel)
theorem gf_X2_31 (C0 : zCx p s m args c cc nL RX2 D cy A) (hP : va_P D vwCl ws H) (q0 : Nat) {fs : List Value} (he : ws[q0]? = some (a, .inr (2, fs))) {v : Value} (hv : fs[6]? = some v) (hdg : decode cc pc = .ok (.getfield 31, 3)) (kk : W p l e R s m args below meth c H locs cells slots Q (F0 m (pc + 3) ls (v :: rest))) : W p l e R s m args below meth c H locs cells slots Q (F0 m pc ls (.ref a :: rest)) :=
  zgf (C := RX2) (T := TX2) (N := 11) C0 inB_X2 rfl 6 (by decide) kf_X2_31 rfl hP q0 he hv hdg kk
theorem kf_X2_34 : Cond.fieldLink RX2 34 "LampWall$Wall" "sliceOf" "[I" ∈ zB := zB_in 86 (by decide +kernel) (by decide +kernel)
theorem gf_X2_34 (C0 : zCx p s m args c cc nL RX2 D cy A) (hP : va_P D vwCl ws H) (q0 : Nat) {fs : List Value} (he : ws[q0]? = some (a, .inr (2, fs))) {v : Value} (hv : fs[7]? = some v) (hdg : decode cc pc = .ok (.getfield 34, 3)) (kk : W p l e R s m args below meth c H locs cells slots Q (F0 m (pc + 3) ls (v :: rest))) : W p l e R s m args below meth c H locs cells slots Q (F0 m pc ls (.ref a :: rest)) :=
  zgf (C := RX2) (T := TX2) (N := 11) C0 inB_X2 rfl 7 (by decide) kf_X2_34 rfl hP q0 he hv hdg kk
theorem kf_X2_37 : Cond.fieldLink RX2 37 "LampWall$Wall" "modules" "I" ∈ zB := zB_in 88 (by decide +kernel) (by decide +kernel)
theorem gf_X2_37 (C0 : zCx p s m args c cc nL RX2 D cy A) (hP : va_P D vwCl ws H) (q0 : Nat) {fs : List Value} (he : ws[q0]? = some (a, .inr (2, fs))) {v : Value} (hv : fs[8]? = some v) (hdg : decode cc pc = .ok (.getfield 37, 3)) (kk : W p l e R s m args below meth c H locs cells slots Q (F0 m (pc + 3) ls (v :: rest))) : W p l e R s m args below meth c H locs cells slots Q (F0 m pc ls (.ref a :: rest)) :=
  zgf (C := RX2) (T := TX2) (N := 11) C0 inB_X2 rfl 8 (by decide) kf_X2_37 rfl hP q0 he hv hdg kk
theorem pf_X2_37 (C0 : zCx p s m args c cc nL RX2 D cy A) (hP : va_P D vwCl ws H) (hD : va_D A ws) (hS : va_S A s.heap H locs) (q0 : Nat) {fs : List Value} (he : ws[q0]? = some (a, .inr (2, fs))) {x : Int32} (hlen : 8 < fs.length) (hset : ws.set q0 (a, .inr (2, fs.set 8 (.int x))) = ws') (hdg : decode cc pc = .ok (.putfield 37, 3)) (kk : ∀ (H1 : Heap) (locs1 : List Loc), va_P D vwCl ws' H1 → va_D A ws' → va_S A s.heap H1 locs1 → W p l e R s m args below meth c H1 locs1 cells slots Q (F0 m (pc + 3) ls rest)) : W p l e R s m args below meth c H locs cells slots Q (F0 m pc ls (.int x :: .ref a :: rest)) :=
  zpf (C := RX2) (T := TX2) (N := 11) (ty := .int) C0 inB_X2 rfl tyX2 tyX2_ok nmX2 8 (by decide) kf_X2_37 rfl rfl (by decide +kernel) hP hD hS q0 he rfl rfl hlen hset hdg kk
theorem kf_X2_41 : Cond.fieldLink RX2 41 "LampWall$Wall" "lamps" "I" ∈ zB := zB_in 90 (by decide +kernel) (by decide +kernel)
theorem gf_X2_41 (C0 : zCx p s m args c cc nL RX2 D cy A) (hP : va_P D vwCl ws H) (q0 : Nat) {fs : List Value} (he : ws[q0]? = some (a, .inr (2, fs))) {v : Value} (hv : fs[9]? = some v) (hdg : decode cc pc = .ok (.getfield 41, 3)) (kk : W p l e R s m args below meth c H locs cells slots Q (F0 m (pc + 3) ls (v :: rest))) : W p l e R s m args below meth c H locs cells slots Q (F0 m pc ls (.ref a :: rest)) :=
  zgf (C := RX2) (T := TX2) (N := 11) C0 inB_X2 rfl 9 (by decide) kf_X2_41 rfl hP q0 he hv hdg kk
theorem pf_X2_41 (C0 : zCx p s m args c cc nL RX2 D cy A) (hP : va_P D vwCl ws H) (hD : va_D A ws) (hS : va_S A s.heap H locs) (q0 : Nat) {fs : List Value} (he : ws[q0]? = some (a, .inr (2, fs))) {x : Int32} (hlen : 9 < fs.length) (hset : ws.set q0 (a, .inr (2, fs.set 9 (.int x))) = ws') (hdg : decode cc pc = .ok (.putfield 41, 3)) (kk : ∀ (H1 : Heap) (locs1 : List Loc), va_P D vwCl ws' H1 → va_D A ws' → va_S A s.heap H1 locs1 → W p l e R s m args below meth c H1 locs1 cells slots Q (F0 m (pc + 3) ls rest)) : W p l e R s m args below meth c H locs cells slots Q (F0 m pc ls (.int x :: .ref a :: rest)) :=
  zpf (C := RX2) (T := TX2) (N := 11) (ty := .int) C0 inB_X2 rfl tyX2 tyX2_ok nmX2 9 (by decide) kf_X2_41 rfl rfl (by decide +kernel) hP hD hS q0 he rfl rfl hlen hset hdg kk
theorem kf_X2_44 : Cond.fieldLink RX2 44 "LampWall$Wall" "cutUnits" "I" ∈ zB := zB_in 92 (by decide +kernel) (by decide +kernel)
theorem gf_X2_44 (C0 : zCx p s m args c cc nL RX2 D cy A) (hP : va_P D vwCl ws H) (q0 : Nat) {fs : List Value} (he : ws[q0]? = some (a, .inr (2, fs))) {v : Value} (hv : fs[10]? = some v) (hdg : decode cc pc = .ok (.getfield 44, 3)) (kk : W p l e R s m args below meth c H locs cells slots Q (F0 m (pc + 3) ls (v :: rest))) : W p l e R s m args below meth c H locs cells slots Q (F0 m pc ls (.ref a :: rest)) :=
  zgf (C := RX2) (T := TX2) (N := 11) C0 inB_X2 rfl 10 (by decide) kf_X2_44 rfl hP q0 he hv hdg kk
theorem pf_X2_44 (C0 : zCx p s m args c cc nL RX2 D cy A) (hP : va_P D vwCl ws H) (hD : va_D A ws) (hS : va_S A s.heap H locs) (q0 : Nat) {fs : List Value} (he : ws[q0]? = some (a, .inr (2, fs))) {x : Int32} (hlen : 10 < fs.length) (hset : ws.set q0 (a, .inr (2, fs.set 10 (.int x))) = ws') (hdg : decode cc pc = .ok (.putfield 44, 3)) (kk : ∀ (H1 : Heap) (locs1 : List Loc), va_P D vwCl ws' H1 → va_D A ws' → va_S A s.heap H1 locs1 → W p l e R s m args below meth c H1 locs1 cells slots Q (F0 m (pc + 3) ls rest)) : W p l e R s m args below meth c H locs cells slots Q (F0 m pc ls (.int x :: .ref a :: rest)) :=
  zpf (C := RX2) (T := TX2) (N := 11) (ty := .int) C0 inB_X2 rfl tyX2 tyX2_ok nmX2 10 (by decide) kf_X2_44 rfl rfl (by decide +kernel) hP hD hS q0 he rfl rfl hlen hset hdg kk
theorem kf_X2_53 : Cond.fieldLink RX2 53 "LampWall$Sheet" "cells" "[I" ∈ zB := zB_in 145 (by decide +kernel) (by decide +kernel)
theorem gf_X2_53 (C0 : zCx p s m args c cc nL RX2 D cy A) (hP : va_P D vwCl ws H) (q0 : Nat) {fs : List Value} (he : ws[q0]? = some (a, .inr (1, fs))) {v : Value} (hv : fs[0]? = some v) (hdg : decode cc pc = .ok (.getfield 53, 3)) (kk : W p l e R s m args below meth c H locs cells slots Q (F0 m (pc + 3) ls (v :: rest))) : W p l e R s m args below meth c H locs cells slots Q (F0 m pc ls (.ref a :: rest)) :=
  zgf (C := RX1) (T := TX1) (N := 4) C0 inB_X1 rfl 0 (by decide) kf_X2_53 rfl hP q0 he hv hdg kk
theorem kf_X4_7 : Cond.fieldLink RX4 7 "LampWallModel" "kindOf" "[I" ∈ zB := zB_in 574 (by decide +kernel) (by decide +kernel)
theorem gf_X4_7 (C0 : zCx p s m args c cc nL RX4 D cy A) (hP : va_P D vwCl ws H) (q0 : Nat) {fs : List Value} (he : ws[q0]? = some (a, .inr (4, fs))) {v : Value} (hv : fs[4]? = some v) (hdg : decode cc pc = .ok (.getfield 7, 3)) (kk : W p l e R s m args below meth c H locs cells slots Q (F0 m (pc + 3) ls (v :: rest))) : W p l e R s m args below meth c H locs cells slots Q (F0 m pc ls (.ref a :: rest)) :=
  zgf (C := RX4) (T := TX4) (N := 31) C0 inB_X4 rfl 4 (by decide) kf_X4_7 rfl hP q0 he hv hdg kk
theorem kf_X4_13 : Cond.fieldLink RX4 13 "LampWallModel" "firstOf" "[I" ∈ zB := zB_in 575 (by decide +kernel) (by decide +kernel)
theorem gf_X4_13 (C0 : zCx p s m args c cc nL RX4 D cy A) (hP : va_P D vwCl ws H) (q0 : Nat) {fs : List Value} (he : ws[q0]? = some (a, .inr (4, fs))) {v : Value} (hv : fs[5]? = some v) (hdg : decode cc pc = .ok (.getfield 13, 3)) (kk : W p l e R s m args below meth c H locs cells slots Q (F0 m (pc + 3) ls (v :: rest))) : W p l e R s m args below meth c H locs cells slots Q (F0 m pc ls (.ref a :: rest)) :=
  zgf (C := RX4) (T := TX4) (N := 31) C0 inB_X4 rfl 5 (by decide) kf_X4_13 rfl hP q0 he hv hdg kk
theorem kf_X4_16 : Cond.fieldLink RX4 16 "LampWallModel" "sizeOf" "[I" ∈ zB := zB_in 576 (by decide +kernel) (by decide +kernel)
theorem gf_X4_16 (C0 : zCx p s m args c cc nL RX4 D cy A) (hP : va_P D vwCl ws H) (q0 : Nat) {fs : List Value} (he : ws[q0]? = some (a, .inr (4, fs))) {v : Value} (hv : fs[6]? = some v) (hdg : decode cc pc = .ok (.getfield 16, 3)) (kk : W p l e R s m args below meth c H locs cells slots Q (F0 m (pc + 3) ls (v :: rest))) : W p l e R s m args below meth c H locs cells slots Q (F0 m pc ls (.ref a :: rest)) :=
  zgf (C := RX4) (T := TX4) (N := 31) C0 inB_X4 rfl 6 (by decide) kf_X4_16 rfl hP q0 he hv hdg kk
theorem kf_X4_19 : Cond.fieldLink RX4 19 "LampWallModel" "deadOf" "[I" ∈ zB := zB_in 577 (by decide +kernel) (by decide +kernel)
theorem gf_X4_19 (C0 : zCx p s m args c cc nL RX4 D cy A) (hP : va_P D vwCl ws H) (q0 : Nat) {fs : List Value} (he : ws[q0]? = some (a, .inr (4, fs))) {v : Value} (hv : fs[7]? = some v) (hdg : decode cc pc = .ok (.getfield 19, 3)) (kk : W p l e R s m args below meth c H locs cells slots Q (F0 m (pc + 3) ls (v :: rest))) : W p l e R s m args below meth c H locs cells slots Q (F0 m pc ls (.ref a :: rest)) :=
  zgf (C := RX4) (T := TX4) (N := 31) C0 inB_X4 rfl 7 (by decide) kf_X4_19 rfl hP q0 he hv hdg kk
theorem kf_X4_22 : Cond.fieldLink RX4 22 "LampWallModel" "levelOf" "[I" ∈ zB := zB_in 578 (by decide +kernel) (by decide +kernel)
theorem gf_X4_22 (C0 : zCx p s m args c cc nL RX4 D cy A) (hP : va_P D vwCl ws H) (q0 : Nat) {fs : List Value} (he : ws[q0]? = some (a, .inr (4, fs))) {v : Value} (hv : fs[8]? = some v) (hdg : decode cc pc = .ok (.getfield 22, 3)) (kk : W p l e R s m args below meth c H locs cells slots Q (F0 m (pc + 3) ls (v :: rest))) : W p l e R s m args below meth c H locs cells slots Q (F0 m pc ls (.ref a :: rest)) :=
  zgf (C := RX4) (T := TX4) (N := 31) C0 inB_X4 rfl 8 (by decide) kf_X4_22 rfl hP q0 he hv hdg kk
theorem kf_X4_25 : Cond.fieldLink RX4 25 "LampWallModel" "moduleOf" "[I" ∈ zB := zB_in 579 (by decide +kernel) (by decide +kernel)
theorem gf_X4_25 (C0 : zCx p s m args c cc nL RX4 D cy A) (hP : va_P D vwCl ws H) (q0 : Nat) {fs : List Value} (he : ws[q0]? = some (a, .inr (4, fs))) {v : Value} (hv : fs[9]? = some v) (hdg : decode cc pc = .ok (.getfield 25, 3)) (kk : W p l e R s m args below meth c H locs cells slots Q (F0 m (pc + 3) ls (v :: rest))) : W p l e R s m args below meth c H locs cells slots Q (F0 m pc ls (.ref a :: rest)) :=
  zgf (C := RX4) (T := TX4) (N := 31) C0 inB_X4 rfl 9 (by decide) kf_X4_25 rfl hP q0 he hv hdg kk
theorem kf_X4_28 : Cond.fieldLink RX4 28 "LampWallModel" "readKind" "[I" ∈ zB := zB_in 584 (by decide +kernel) (by decide +kernel)
theorem gf_X4_28 (C0 : zCx p s m args c cc nL RX4 D cy A) (hP : va_P D vwCl ws H) (q0 : Nat) {fs : List Value} (he : ws[q0]? = some (a, .inr (4, fs))) {v : Value} (hv : fs[14]? = some v) (hdg : decode cc pc = .ok (.getfield 28, 3)) (kk : W p l e R s m args below meth c H locs cells slots Q (F0 m (pc + 3) ls (v :: rest))) : W p l e R s m args below meth c H locs cells slots Q (F0 m pc ls (.ref a :: rest)) :=
  zgf (C := RX4) (T := TX4) (N := 31) C0 inB_X4 rfl 14 (by decide) kf_X4_28 rfl hP q0 he hv hdg kk
theorem kf_X4_31 : Cond.fieldLink RX4 31 "LampWallModel" "readSize" "[I" ∈ zB := zB_in 585 (by decide +kernel) (by decide +kernel)
theorem gf_X4_31 (C0 : zCx p s m args c cc nL RX4 D cy A) (hP : va_P D vwCl ws H) (q0 : Nat) {fs : List Value} (he : ws[q0]? = some (a, .inr (4, fs))) {v : Value} (hv : fs[15]? = some v) (hdg : decode cc pc = .ok (.getfield 31, 3)) (kk : W p l e R s m args below meth c H locs cells slots Q (F0 m (pc + 3) ls (v :: rest))) : W p l e R s m args below meth c H locs cells slots Q (F0 m pc ls (.ref a :: rest)) :=
  zgf (C := RX4) (T := TX4) (N := 31) C0 inB_X4 rfl 15 (by decide) kf_X4_31 rfl hP q0 he hv hdg kk
theorem kf_X4_34 : Cond.fieldLink RX4 34 "LampWallModel" "readLevel" "[I" ∈ zB := zB_in 586 (by decide +kernel) (by decide +kernel)
theorem gf_X4_34 (C0 : zCx p s m args c cc nL RX4 D cy A) (hP : va_P D vwCl ws H) (q0 : Nat) {fs : List Value} (he : ws[q0]? = some (a, .inr (4, fs))) {v : Value} (hv : fs[16]? = some v) (hdg : decode cc pc = .ok (.getfield 34, 3)) (kk : W p l e R s m args below meth c H locs cells slots Q (F0 m (pc + 3) ls (v :: rest))) : W p l e R s m args below meth c H locs cells slots Q (F0 m pc ls (.ref a :: rest)) :=
  zgf (C := RX4) (T := TX4) (N := 31) C0 inB_X4 rfl 16 (by decide) kf_X4_34 rfl hP q0 he hv hdg kk
theorem kf_X4_37 : Cond.fieldLink RX4 37 "LampWallModel" "planeAt" "[I" ∈ zB := zB_in 587 (by decide +kernel) (by decide +kernel)
theorem gf_X4_37 (C0 : zCx p s m args c cc nL RX4 D cy A) (hP : va_P D vwCl ws H) (q0 : Nat) {fs : List Value} (he : ws[q0]? = some (a, .inr (4, fs))) {v : Value} (hv : fs[17]? = some v) (hdg : decode cc pc = .ok (.getfield 37, 3)) (kk : W p l e R s m args below meth c H locs cells slots Q (F0 m (pc + 3) ls (v :: rest))) : W p l e R s m args below meth c H locs cells slots Q (F0 m pc ls (.ref a :: rest)) :=
  zgf (C := RX4) (T := TX4) (N := 31) C0 inB_X4 rfl 17 (by decide) kf_X4_37 rfl hP q0 he hv hdg kk
theorem kf_X4_40 : Cond.fieldLink RX4 40 "LampWallModel" "sliceAt" "[I" ∈ zB := zB_in 588 (by decide +kernel) (by decide +kernel)
theorem gf_X4_40 (C0 : zCx p s m args c cc nL RX4 D cy A) (hP : va_P D vwCl ws H) (q0 : Nat) {fs : List Value} (he : ws[q0]? = some (a, .inr (4, fs))) {v : Value} (hv : fs[18]? = some v) (hdg : decode cc pc = .ok (.getfield 40, 3)) (kk : W p l e R s m args below meth c H locs cells slots Q (F0 m (pc + 3) ls (v :: rest))) : W p l e R s m args below meth c H locs cells slots Q (F0 m pc ls (.ref a :: rest)) :=
  zgf (C := RX4) (T := TX4) (N := 31) C0 inB_X4 rfl 18 (by decide) kf_X4_40 rfl hP q0 he hv hdg kk
theorem kf_X4_43 : Cond.fieldLink RX4 43 "LampWallModel" "hadLevel" "[I" ∈ zB := zB_in 589 (by decide +kernel) (by decide +kernel)
theorem gf_X4_43 (C0 : zCx p s m args c cc nL RX4 D cy A) (hP : va_P D vwCl ws H) (q0 : Nat) {fs : List Value} (he : ws[q0]? = some (a, .inr (4, fs))) {v : Value} (hv : fs[19]? = some v) (hdg : decode cc pc = .ok (.getfield 43, 3)) (kk : W p l e R s m args below meth c H locs cells slots Q (F0 m (pc + 3) ls (v :: rest))) : W p l e R s m args below meth c H locs cells slots Q (F0 m pc ls (.ref a :: rest)) :=
  zgf (C := RX4) (T := TX4) (N := 31) C0 inB_X4 rfl 19 (by decide) kf_X4_43 rfl hP q0 he hv hdg kk
theorem kf_X4_46 : Cond.fieldLink RX4 46 "LampWallModel" "hadDead" "[I" ∈ zB := zB_in 590 (by decide +kernel) (by decide +kernel)
theorem gf_X4_46 (C0 : zCx p s m args c cc nL RX4 D cy A) (hP : va_P D vwCl ws H) (q0 : Nat) {fs : List Value} (he : ws[q0]? = some (a, .inr (4, fs))) {v : Value} (hv : fs[20]? = some v) (hdg : decode cc pc = .ok (.getfield 46, 3)) (kk : W p l e R s m args below meth c H locs cells slots Q (F0 m (pc + 3) ls (v :: rest))) : W p l e R s m args below meth c H locs cells slots Q (F0 m pc ls (.ref a :: rest)) :=
  zgf (C := RX4) (T := TX4) (N := 31) C0 inB_X4 rfl 20 (by decide) kf_X4_46 rfl hP q0 he hv hdg kk
theorem kf_X4_49 : Cond.fieldLink RX4 49 "LampWallModel" "readingAt" "[I" ∈ zB := zB_in 592 (by decide +kernel) (by decide +kernel)
theorem gf_X4_49 (C0 : zCx p s m args c cc nL RX4 D cy A) (hP : va_P D vwCl ws H) (q0 : Nat) {fs : List Value} (he : ws[q0]? = some (a, .inr (4, fs))) {v : Value} (hv : fs[22]? = some v) (hdg : decode cc pc = .ok (.getfield 49, 3)) (kk : W p l e R s m args below meth c H locs cells slots Q (F0 m (pc + 3) ls (v :: rest))) : W p l e R s m args below meth c H locs cells slots Q (F0 m pc ls (.ref a :: rest)) :=
  zgf (C := RX4) (T := TX4) (N := 31) C0 inB_X4 rfl 22 (by decide) kf_X4_49 rfl hP q0 he hv hdg kk
theorem kf_X4_52 : Cond.fieldLink RX4 52 "LampWallModel" "readingOf" "[I" ∈ zB := zB_in 593 (by decide +kernel) (by decide +kernel)
theorem gf_X4_52 (C0 : zCx p s m args c cc nL RX4 D cy A) (hP : va_P D vwCl ws H) (q0 : Nat) {fs : List Value} (he : ws[q0]? = some (a, .inr (4, fs))) {v : Value} (hv : fs[23]? = some v) (hdg : decode cc pc = .ok (.getfield 52, 3)) (kk : W p l e R s m args below meth c H locs cells slots Q (F0 m (pc + 3) ls (v :: rest))) : W p l e R s m args below meth c H locs cells slots Q (F0 m pc ls (.ref a :: rest)) :=
  zgf (C := RX4) (T := TX4) (N := 31) C0 inB_X4 rfl 23 (by decide) kf_X4_52 rfl hP q0 he hv hdg kk
theorem kf_X4_55 : Cond.fieldLink RX4 55 "LampWallModel" "readingIs" "[I" ∈ zB := zB_in 594 (by decide +kernel) (by decide +kernel)
theorem gf_X4_55 (C0 : zCx p s m args c cc nL RX4 D cy A) (hP : va_P D vwCl ws H) (q0 : Nat) {fs : List Value} (he : ws[q0]? = some (a, .inr (4, fs))) {v : Value} (hv : fs[24]? = some v) (hdg : decode cc pc = .ok (.getfield 55, 3)) (kk : W p l e R s m args below meth c H locs cells slots Q (F0 m (pc + 3) ls (v :: rest))) : W p l e R s m args below meth c H locs cells slots Q (F0 m pc ls (.ref a :: rest)) :=
  zgf (C := RX4) (T := TX4) (N := 31) C0 inB_X4 rfl 24 (by decide) kf_X4_55 rfl hP q0 he hv hdg kk
theorem kf_X4_58 : Cond.fieldLink RX4 58 "LampWallModel" "rowsOf" "[J" ∈ zB := zB_in 595 (by decide +kernel) (by decide +kernel)
theorem gf_X4_58 (C0 : zCx p s m args c cc nL RX4 D cy A) (hP : va_P D vwCl ws H) (q0 : Nat) {fs : List Value} (he : ws[q0]? = some (a, .inr (4, fs))) {v : Value} (hv : fs[25]? = some v) (hdg : decode cc pc = .ok (.getfield 58, 3)) (kk : W p l e R s m args below meth c H locs cells slots Q (F0 m (pc + 3) ls (v :: rest))) : W p l e R s m args below meth c H locs cells slots Q (F0 m pc ls (.ref a :: rest)) :=
  zgf (C := RX4) (T := TX4) (N := 31) C0 inB_X4 rfl 25 (by decide) kf_X4_58 rfl hP q0 he hv hdg kk
theorem kf_X4_62 : Cond.fieldLink RX4 62 "LampWallModel" "sheetSize" "[I" ∈ zB := zB_in 596 (by decide +kernel) (by decide +kernel)
theorem gf_X4_62 (C0 : zCx p s m args c cc nL RX4 D cy A) (hP : va_P D vwCl ws H) (q0 : Nat) {fs : List Value} (he : ws[q0]? = some (a, .inr (4, fs))) {v : Value} (hv : fs[26]? = some v) (hdg : decode cc pc = .ok (.getfield 62, 3)) (kk : W p l e R s m args below meth c H locs cells slots Q (F0 m (pc + 3) ls (v :: rest))) : W p l e R s m args below meth c H locs cells slots Q (F0 m pc ls (.ref a :: rest)) :=
  zgf (C := RX4) (T := TX4) (N := 31) C0 inB_X4 rfl 26 (by decide) kf_X4_62 rfl hP q0 he hv hdg kk
theorem kf_X4_65 : Cond.fieldLink RX4 65 "LampWallModel" "sheetLane" "[I" ∈ zB := zB_in 597 (by decide +kernel) (by decide +kernel)
theorem gf_X4_65 (C0 : zCx p s m args c cc nL RX4 D cy A) (hP : va_P D vwCl ws H) (q0 : Nat) {fs : List Value} (he : ws[q0]? = some (a, .inr (4, fs))) {v : Value} (hv : fs[27]? = some v) (hdg : decode cc pc = .ok (.getfield 65, 3)) (kk : W p l e R s m args below meth c H locs cells slots Q (F0 m (pc + 3) ls (v :: rest))) : W p l e R s m args below meth c H locs cells slots Q (F0 m pc ls (.ref a :: rest)) :=
  zgf (C := RX4) (T := TX4) (N := 31) C0 inB_X4 rfl 27 (by decide) kf_X4_65 rfl hP q0 he hv hdg kk
theorem kf_X4_68 : Cond.fieldLink RX4 68 "LampWallModel" "sheet" "[I" ∈ zB := zB_in 598 (by decide +kernel) (by decide +kernel)
theorem gf_X4_68 (C0 : zCx p s m args c cc nL RX4 D cy A) (hP : va_P D vwCl ws H) (q0 : Nat) {fs : List Value} (he : ws[q0]? = some (a, .inr (4, fs))) {v : Value} (hv : fs[28]? = some v) (hdg : decode cc pc = .ok (.getfield 68, 3)) (kk : W p l e R s m args below meth c H locs cells slots Q (F0 m (pc + 3) ls (v :: rest))) : W p l e R s m args below meth c H locs cells slots Q (F0 m pc ls (.ref a :: rest)) :=
  zgf (C := RX4) (T := TX4) (N := 31) C0 inB_X4 rfl 28 (by decide) kf_X4_68 rfl hP q0 he hv hdg kk
theorem kf_X4_71 : Cond.fieldLink RX4 71 "LampWallModel" "hands" "[I" ∈ zB := zB_in 599 (by decide +kernel) (by decide +kernel)
theorem gf_X4_71 (C0 : zCx p s m args c cc nL RX4 D cy A) (hP : va_P D vwCl ws H) (q0 : Nat) {fs : List Value} (he : ws[q0]? = some (a, .inr (4, fs))) {v : Value} (hv : fs[29]? = some v) (hdg : decode cc pc = .ok (.getfield 71, 3)) (kk : W p l e R s m args below meth c H locs cells slots Q (F0 m (pc + 3) ls (v :: rest))) : W p l e R s m args below meth c H locs cells slots Q (F0 m pc ls (.ref a :: rest)) :=
  zgf (C := RX4) (T := TX4) (N := 31) C0 inB_X4 rfl 29 (by decide) kf_X4_71 rfl hP q0 he hv hdg kk
theorem kf_X4_76 : Cond.fieldLink RX4 76 "LampWallModel" "fault" "I" ∈ zB := zB_in 570 (by decide +kernel) (by decide +kernel)
theorem gf_X4_76 (C0 : zCx p s m args c cc nL RX4 D cy A) (hP : va_P D vwCl ws H) (q0 : Nat) {fs : List Value} (he : ws[q0]? = some (a, .inr (4, fs))) {v : Value} (hv : fs[0]? = some v) (hdg : decode cc pc = .ok (.getfield 76, 3)) (kk : W p l e R s m args below meth c H locs cells slots Q (F0 m (pc + 3) ls (v :: rest))) : W p l e R s m args below meth c H locs cells slots Q (F0 m pc ls (.ref a :: rest)) :=
  zgf (C := RX4) (T := TX4) (N := 31) C0 inB_X4 rfl 0 (by decide) kf_X4_76 rfl hP q0 he hv hdg kk
theorem pf_X4_76 (C0 : zCx p s m args c cc nL RX4 D cy A) (hP : va_P D vwCl ws H) (hD : va_D A ws) (hS : va_S A s.heap H locs) (q0 : Nat) {fs : List Value} (he : ws[q0]? = some (a, .inr (4, fs))) {x : Int32} (hlen : 0 < fs.length) (hset : ws.set q0 (a, .inr (4, fs.set 0 (.int x))) = ws') (hdg : decode cc pc = .ok (.putfield 76, 3)) (kk : ∀ (H1 : Heap) (locs1 : List Loc), va_P D vwCl ws' H1 → va_D A ws' → va_S A s.heap H1 locs1 → W p l e R s m args below meth c H1 locs1 cells slots Q (F0 m (pc + 3) ls rest)) : W p l e R s m args below meth c H locs cells slots Q (F0 m pc ls (.int x :: .ref a :: rest)) :=
  zpf (C := RX4) (T := TX4) (N := 31) (ty := .int) C0 inB_X4 rfl tyX4 tyX4_ok nmX4 0 (by decide) kf_X4_76 rfl rfl (by decide +kernel) hP hD hS q0 he rfl rfl hlen hset hdg kk
theorem kf_X4_84 : Cond.fieldLink RX4 84 "LampWallModel" "modules" "I" ∈ zB := zB_in 571 (by decide +kernel) (by decide +kernel)
theorem gf_X4_84 (C0 : zCx p s m args c cc nL RX4 D cy A) (hP : va_P D vwCl ws H) (q0 : Nat) {fs : List Value} (he : ws[q0]? = some (a, .inr (4, fs))) {v : Value} (hv : fs[1]? = some v) (hdg : decode cc pc = .ok (.getfield 84, 3)) (kk : W p l e R s m args below meth c H locs cells slots Q (F0 m (pc + 3) ls (v :: rest))) : W p l e R s m args below meth c H locs cells slots Q (F0 m pc ls (.ref a :: rest)) :=
  zgf (C := RX4) (T := TX4) (N := 31) C0 inB_X4 rfl 1 (by decide) kf_X4_84 rfl hP q0 he hv hdg kk
theorem pf_X4_84 (C0 : zCx p s m args c cc nL RX4 D cy A) (hP : va_P D vwCl ws H) (hD : va_D A ws) (hS : va_S A s.heap H locs) (q0 : Nat) {fs : List Value} (he : ws[q0]? = some (a, .inr (4, fs))) {x : Int32} (hlen : 1 < fs.length) (hset : ws.set q0 (a, .inr (4, fs.set 1 (.int x))) = ws') (hdg : decode cc pc = .ok (.putfield 84, 3)) (kk : ∀ (H1 : Heap) (locs1 : List Loc), va_P D vwCl ws' H1 → va_D A ws' → va_S A s.heap H1 locs1 → W p l e R s m args below meth c H1 locs1 cells slots Q (F0 m (pc + 3) ls rest)) : W p l e R s m args below meth c H locs cells slots Q (F0 m pc ls (.int x :: .ref a :: rest)) :=
  zpf (C := RX4) (T := TX4) (N := 31) (ty := .int) C0 inB_X4 rfl tyX4 tyX4_ok nmX4 1 (by decide) kf_X4_84 rfl rfl (by decide +kernel) hP hD hS q0 he rfl rfl hlen hset hdg kk
theorem kf_X4_91 : Cond.fieldLink RX4 91 "LampWallModel" "lamps" "I" ∈ zB := zB_in 572 (by decide +kernel) (by decide +kernel)
theorem gf_X4_91 (C0 : zCx p s m args c cc nL RX4 D cy A) (hP : va_P D vwCl ws H) (q0 : Nat) {fs : List Value} (he : ws[q0]? = some (a, .inr (4, fs))) {v : Value} (hv : fs[2]? = some v) (hdg : decode cc pc = .ok (.getfield 91, 3)) (kk : W p l e R s m args below meth c H locs cells slots Q (F0 m (pc + 3) ls (v :: rest))) : W p l e R s m args below meth c H locs cells slots Q (F0 m pc ls (.ref a :: rest)) :=
  zgf (C := RX4) (T := TX4) (N := 31) C0 inB_X4 rfl 2 (by decide) kf_X4_91 rfl hP q0 he hv hdg kk
theorem pf_X4_91 (C0 : zCx p s m args c cc nL RX4 D cy A) (hP : va_P D vwCl ws H) (hD : va_D A ws) (hS : va_S A s.heap H locs) (q0 : Nat) {fs : List Value} (he : ws[q0]? = some (a, .inr (4, fs))) {x : Int32} (hlen : 2 < fs.length) (hset : ws.set q0 (a, .inr (4, fs.set 2 (.int x))) = ws') (hdg : decode cc pc = .ok (.putfield 91, 3)) (kk : ∀ (H1 : Heap) (locs1 : List Loc), va_P D vwCl ws' H1 → va_D A ws' → va_S A s.heap H1 locs1 → W p l e R s m args below meth c H1 locs1 cells slots Q (F0 m (pc + 3) ls rest)) : W p l e R s m args below meth c H locs cells slots Q (F0 m pc ls (.int x :: .ref a :: rest)) :=
  zpf (C := RX4) (T := TX4) (N := 31) (ty := .int) C0 inB_X4 rfl tyX4 tyX4_ok nmX4 2 (by decide) kf_X4_91 rfl rfl (by decide +kernel) hP hD hS q0 he rfl rfl hlen hset hdg kk
theorem kf_X4_94 : Cond.fieldLink RX4 94 "LampWallModel" "readAt" "I" ∈ zB := zB_in 580 (by decide +kernel) (by decide +kernel)
theorem gf_X4_94 (C0 : zCx p s m args c cc nL RX4 D cy A) (hP : va_P D vwCl ws H) (q0 : Nat) {fs : List Value} (he : ws[q0]? = some (a, .inr (4, fs))) {v : Value} (hv : fs[10]? = some v) (hdg : decode cc pc = .ok (.getfield 94, 3)) (kk : W p l e R s m args below meth c H locs cells slots Q (F0 m (pc + 3) ls (v :: rest))) : W p l e R s m args below meth c H locs cells slots Q (F0 m pc ls (.ref a :: rest)) :=
  zgf (C := RX4) (T := TX4) (N := 31) C0 inB_X4 rfl 10 (by decide) kf_X4_94 rfl hP q0 he hv hdg kk
theorem pf_X4_94 (C0 : zCx p s m args c cc nL RX4 D cy A) (hP : va_P D vwCl ws H) (hD : va_D A ws) (hS : va_S A s.heap H locs) (q0 : Nat) {fs : List Value} (he : ws[q0]? = some (a, .inr (4, fs))) {x : Int32} (hlen : 10 < fs.length) (hset : ws.set q0 (a, .inr (4, fs.set 10 (.int x))) = ws') (hdg : decode cc pc = .ok (.putfield 94, 3)) (kk : ∀ (H1 : Heap) (locs1 : List Loc), va_P D vwCl ws' H1 → va_D A ws' → va_S A s.heap H1 locs1 → W p l e R s m args below meth c H1 locs1 cells slots Q (F0 m (pc + 3) ls rest)) : W p l e R s m args below meth c H locs cells slots Q (F0 m pc ls (.int x :: .ref a :: rest)) :=
  zpf (C := RX4) (T := TX4) (N := 31) (ty := .int) C0 inB_X4 rfl tyX4 tyX4_ok nmX4 10 (by decide) kf_X4_94 rfl rfl (by decide +kernel) hP hD hS q0 he rfl rfl hlen hset hdg kk
theorem kf_X4_97 : Cond.fieldLink RX4 97 "LampWallModel" "readModules" "I" ∈ zB := zB_in 582 (by decide +kernel) (by decide +kernel)
theorem gf_X4_97 (C0 : zCx p s m args c cc nL RX4 D cy A) (hP : va_P D vwCl ws H) (q0 : Nat) {fs : List Value} (he : ws[q0]? = some (a, .inr (4, fs))) {v : Value} (hv : fs[12]? = some v) (hdg : decode cc pc = .ok (.getfield 97, 3)) (kk : W p l e R s m args below meth c H locs cells slots Q (F0 m (pc + 3) ls (v :: rest))) : W p l e R s m args below meth c H locs cells slots Q (F0 m pc ls (.ref a :: rest)) :=
  zgf (C := RX4) (T := TX4) (N := 31) C0 inB_X4 rfl 12 (by decide) kf_X4_97 rfl hP q0 he hv hdg kk
theorem pf_X4_97 (C0 : zCx p s m args c cc nL RX4 D cy A) (hP : va_P D vwCl ws H) (hD : va_D A ws) (hS : va_S A s.heap H locs) (q0 : Nat) {fs : List Value} (he : ws[q0]? = some (a, .inr (4, fs))) {x : Int32} (hlen : 12 < fs.length) (hset : ws.set q0 (a, .inr (4, fs.set 12 (.int x))) = ws') (hdg : decode cc pc = .ok (.putfield 97, 3)) (kk : ∀ (H1 : Heap) (locs1 : List Loc), va_P D vwCl ws' H1 → va_D A ws' → va_S A s.heap H1 locs1 → W p l e R s m args below meth c H1 locs1 cells slots Q (F0 m (pc + 3) ls rest)) : W p l e R s m args below meth c H locs cells slots Q (F0 m pc ls (.int x :: .ref a :: rest)) :=
  zpf (C := RX4) (T := TX4) (N := 31) (ty := .int) C0 inB_X4 rfl tyX4 tyX4_ok nmX4 12 (by decide) kf_X4_97 rfl rfl (by decide +kernel) hP hD hS q0 he rfl rfl hlen hset hdg kk
theorem kf_X4_108 : Cond.fieldLink RX4 108 "LampWallModel" "readLamps" "I" ∈ zB := zB_in 583 (by decide +kernel) (by decide +kernel)
theorem gf_X4_108 (C0 : zCx p s m args c cc nL RX4 D cy A) (hP : va_P D vwCl ws H) (q0 : Nat) {fs : List Value} (he : ws[q0]? = some (a, .inr (4, fs))) {v : Value} (hv : fs[13]? = some v) (hdg : decode cc pc = .ok (.getfield 108, 3)) (kk : W p l e R s m args below meth c H locs cells slots Q (F0 m (pc + 3) ls (v :: rest))) : W p l e R s m args below meth c H locs cells slots Q (F0 m pc ls (.ref a :: rest)) :=
  zgf (C := RX4) (T := TX4) (N := 31) C0 inB_X4 rfl 13 (by decide) kf_X4_108 rfl hP q0 he hv hdg kk
theorem pf_X4_108 (C0 : zCx p s m args c cc nL RX4 D cy A) (hP : va_P D vwCl ws H) (hD : va_D A ws) (hS : va_S A s.heap H locs) (q0 : Nat) {fs : List Value} (he : ws[q0]? = some (a, .inr (4, fs))) {x : Int32} (hlen : 13 < fs.length) (hset : ws.set q0 (a, .inr (4, fs.set 13 (.int x))) = ws') (hdg : decode cc pc = .ok (.putfield 108, 3)) (kk : ∀ (H1 : Heap) (locs1 : List Loc), va_P D vwCl ws' H1 → va_D A ws' → va_S A s.heap H1 locs1 → W p l e R s m args below meth c H1 locs1 cells slots Q (F0 m (pc + 3) ls rest)) : W p l e R s m args below meth c H locs cells slots Q (F0 m pc ls (.int x :: .ref a :: rest)) :=
  zpf (C := RX4) (T := TX4) (N := 31) (ty := .int) C0 inB_X4 rfl tyX4 tyX4_ok nmX4 13 (by decide) kf_X4_108 rfl rfl (by decide +kernel) hP hD hS q0 he rfl rfl hlen hset hdg kk
theorem kf_X4_111 : Cond.fieldLink RX4 111 "LampWallModel" "readCut" "I" ∈ zB := zB_in 581 (by decide +kernel) (by decide +kernel)
theorem gf_X4_111 (C0 : zCx p s m args c cc nL RX4 D cy A) (hP : va_P D vwCl ws H) (q0 : Nat) {fs : List Value} (he : ws[q0]? = some (a, .inr (4, fs))) {v : Value} (hv : fs[11]? = some v) (hdg : decode cc pc = .ok (.getfield 111, 3)) (kk : W p l e R s m args below meth c H locs cells slots Q (F0 m (pc + 3) ls (v :: rest))) : W p l e R s m args below meth c H locs cells slots Q (F0 m pc ls (.ref a :: rest)) :=
  zgf (C := RX4) (T := TX4) (N := 31) C0 inB_X4 rfl 11 (by decide) kf_X4_111 rfl hP q0 he hv hdg kk
theorem pf_X4_111 (C0 : zCx p s m args c cc nL RX4 D cy A) (hP : va_P D vwCl ws H) (hD : va_D A ws) (hS : va_S A s.heap H locs) (q0 : Nat) {fs : List Value} (he : ws[q0]? = some (a, .inr (4, fs))) {x : Int32} (hlen : 11 < fs.length) (hset : ws.set q0 (a, .inr (4, fs.set 11 (.int x))) = ws') (hdg : decode cc pc = .ok (.putfield 111, 3)) (kk : ∀ (H1 : Heap) (locs1 : List Loc), va_P D vwCl ws' H1 → va_D A ws' → va_S A s.heap H1 locs1 → W p l e R s m args below meth c H1 locs1 cells slots Q (F0 m (pc + 3) ls rest)) : W p l e R s m args below meth c H locs cells slots Q (F0 m pc ls (.int x :: .ref a :: rest)) :=
  zpf (C := RX4) (T := TX4) (N := 31) (ty := .int) C0 inB_X4 rfl tyX4 tyX4_ok nmX4 11 (by decide) kf_X4_111 rfl rfl (by decide +kernel) hP hD hS q0 he rfl rfl hlen hset hdg kk
theorem kf_X4_144 : Cond.fieldLink RX4 144 "LampWallModel" "cutNow" "I" ∈ zB := zB_in 573 (by decide +kernel) (by decide +kernel)
theorem gf_X4_144 (C0 : zCx p s m args c cc nL RX4 D cy A) (hP : va_P D vwCl ws H) (q0 : Nat) {fs : List Value} (he : ws[q0]? = some (a, .inr (4, fs))) {v : Value} (hv : fs[3]? = some v) (hdg : decode cc pc = .ok (.getfield 144, 3)) (kk : W p l e R s m args below meth c H locs cells slots Q (F0 m (pc + 3) ls (v :: rest))) : W p l e R s m args below meth c H locs cells slots Q (F0 m pc ls (.ref a :: rest)) :=
  zgf (C := RX4) (T := TX4) (N := 31) C0 inB_X4 rfl 3 (by decide) kf_X4_144 rfl hP q0 he hv hdg kk
theorem pf_X4_144 (C0 : zCx p s m args c cc nL RX4 D cy A) (hP : va_P D vwCl ws H) (hD : va_D A ws) (hS : va_S A s.heap H locs) (q0 : Nat) {fs : List Value} (he : ws[q0]? = some (a, .inr (4, fs))) {x : Int32} (hlen : 3 < fs.length) (hset : ws.set q0 (a, .inr (4, fs.set 3 (.int x))) = ws') (hdg : decode cc pc = .ok (.putfield 144, 3)) (kk : ∀ (H1 : Heap) (locs1 : List Loc), va_P D vwCl ws' H1 → va_D A ws' → va_S A s.heap H1 locs1 → W p l e R s m args below meth c H1 locs1 cells slots Q (F0 m (pc + 3) ls rest)) : W p l e R s m args below meth c H locs cells slots Q (F0 m pc ls (.int x :: .ref a :: rest)) :=
  zpf (C := RX4) (T := TX4) (N := 31) (ty := .int) C0 inB_X4 rfl tyX4 tyX4_ok nmX4 3 (by decide) kf_X4_144 rfl rfl (by decide +kernel) hP hD hS q0 he rfl rfl hlen hset hdg kk
theorem kf_X4_147 : Cond.fieldLink RX4 147 "LampWallModel" "readings" "I" ∈ zB := zB_in 591 (by decide +kernel) (by decide +kernel)
theorem gf_X4_147 (C0 : zCx p s m args c cc nL RX4 D cy A) (hP : va_P D vwCl ws H) (q0 : Nat) {fs : List Value} (he : ws[q0]? = some (a, .inr (4, fs))) {v : Value} (hv : fs[21]? = some v) (hdg : decode cc pc = .ok (.getfield 147, 3)) (kk : W p l e R s m args below meth c H locs cells slots Q (F0 m (pc + 3) ls (v :: rest))) : W p l e R s m args below meth c H locs cells slots Q (F0 m pc ls (.ref a :: rest)) :=
  zgf (C := RX4) (T := TX4) (N := 31) C0 inB_X4 rfl 21 (by decide) kf_X4_147 rfl hP q0 he hv hdg kk
theorem pf_X4_147 (C0 : zCx p s m args c cc nL RX4 D cy A) (hP : va_P D vwCl ws H) (hD : va_D A ws) (hS : va_S A s.heap H locs) (q0 : Nat) {fs : List Value} (he : ws[q0]? = some (a, .inr (4, fs))) {x : Int32} (hlen : 21 < fs.length) (hset : ws.set q0 (a, .inr (4, fs.set 21 (.int x))) = ws') (hdg : decode cc pc = .ok (.putfield 147, 3)) (kk : ∀ (H1 : Heap) (locs1 : List Loc), va_P D vwCl ws' H1 → va_D A ws' → va_S A s.heap H1 locs1 → W p l e R s m args below meth c H1 locs1 cells slots Q (F0 m (pc + 3) ls rest)) : W p l e R s m args below meth c H locs cells slots Q (F0 m pc ls (.int x :: .ref a :: rest)) :=
  zpf (C := RX4) (T := TX4) (N := 31) (ty := .int) C0 inB_X4 rfl tyX4 tyX4_ok nmX4 21 (by decide) kf_X4_147 rfl rfl (by decide +kernel) hP hD hS q0 he rfl rfl hlen hset hdg kk
theorem kf_X4_276 : Cond.fieldLink RX4 276 "LampWallModel" "traceNow" "I" ∈ zB := zB_in 600 (by decide +kernel) (by decide +kernel)
theorem gf_X4_276 (C0 : zCx p s m args c cc nL RX4 D cy A) (hP : va_P D vwCl ws H) (q0 : Nat) {fs : List Value} (he : ws[q0]? = some (a, .inr (4, fs))) {v : Value} (hv : fs[30]? = some v) (hdg : decode cc pc = .ok (.getfield 276, 3)) (kk : W p l e R s m args below meth c H locs cells slots Q (F0 m (pc + 3) ls (v :: rest))) : W p l e R s m args below meth c H locs cells slots Q (F0 m pc ls (.ref a :: rest)) :=
  zgf (C := RX4) (T := TX4) (N := 31) C0 inB_X4 rfl 30 (by decide) kf_X4_276 rfl hP q0 he hv hdg kk
theorem pf_X4_276 (C0 : zCx p s m args c cc nL RX4 D cy A) (hP : va_P D vwCl ws H) (hD : va_D A ws) (hS : va_S A s.heap H locs) (q0 : Nat) {fs : List Value} (he : ws[q0]? = some (a, .inr (4, fs))) {x : Int32} (hlen : 30 < fs.length) (hset : ws.set q0 (a, .inr (4, fs.set 30 (.int x))) = ws') (hdg : decode cc pc = .ok (.putfield 276, 3)) (kk : ∀ (H1 : Heap) (locs1 : List Loc), va_P D vwCl ws' H1 → va_D A ws' → va_S A s.heap H1 locs1 → W p l e R s m args below meth c H1 locs1 cells slots Q (F0 m (pc + 3) ls rest)) : W p l e R s m args below meth c H locs cells slots Q (F0 m pc ls (.int x :: .ref a :: rest)) :=
  zpf (C := RX4) (T := TX4) (N := 31) (ty := .int) C0 inB_X4 rfl tyX4 tyX4_ok nmX4 30 (by decide) kf_X4_276 rfl rfl (by decide +kernel) hP hD hS q0 he rfl rfl hlen hset hdg kk
end ZFL
theorem kl_X3_46 : Cond.methodLink RX3 46 yX3_isSheet ∈ zB := zB_in 188 (by decide +kernel) (by decide +kernel)
theorem kl_X3_50 : Cond.methodLink RX3 50 yX3_isLane ∈ zB := zB_in 191 (by decide +kernel) (by decide +kernel)
theorem kl_X3_53 : Cond.methodLink RX3 53 yX1_faultOfCells ∈ zB := zB_in 194 (by decide +kernel) (by decide +kernel)
theorem kl_X3_57 : Cond.methodLink RX3 57 yX3_faulted ∈ zB := zB_in 202 (by decide +kernel) (by decide +kernel)
theorem kl_X3_61 : Cond.methodLink RX3 61 yX2_readText ∈ zB := zB_in 206 (by decide +kernel) (by decide +kernel)
theorem kl_X3_65 : Cond.methodLink RX3 65 yX2_becomeLike ∈ zB := zB_in 247 (by decide +kernel) (by decide +kernel)
theorem kl_X3_75 : Cond.methodLink RX3 75 yX2_hasModule ∈ zB := zB_in 258 (by decide +kernel) (by decide +kernel)
theorem kl_X3_92 : Cond.methodLink RX3 92 yX2_placeAmongLiving ∈ zB := zB_in 262 (by decide +kernel) (by decide +kernel)
theorem kl_X3_95 : Cond.methodLink RX3 95 yX2_hasLamp ∈ zB := zB_in 270 (by decide +kernel) (by decide +kernel)
theorem kl_X3_104 : Cond.methodLink RX3 104 yX2_lightOf ∈ zB := zB_in 274 (by decide +kernel) (by decide +kernel)
theorem kl_X3_107 : Cond.methodLink RX3 107 yX2_litUnits ∈ zB := zB_in 281 (by decide +kernel) (by decide +kernel)
theorem kl_X3_110 : Cond.methodLink RX3 110 yX3_darkestStretch ∈ zB := zB_in 293 (by decide +kernel) (by decide +kernel)
theorem kl_X3_113 : Cond.methodLink RX3 113 yX3_turnsOf ∈ zB := zB_in 301 (by decide +kernel) (by decide +kernel)
theorem kl_X3_116 : Cond.methodLink RX3 116 yX2_ghostUnits ∈ zB := zB_in 310 (by decide +kernel) (by decide +kernel)
theorem kl_X3_119 : Cond.methodLink RX3 119 yX3_isLevel ∈ zB := zB_in 319 (by decide +kernel) (by decide +kernel)
theorem kl_X3_122 : Cond.methodLink RX3 122 yX3_isCut ∈ zB := zB_in 328 (by decide +kernel) (by decide +kernel)
theorem kl_X3_125 : Cond.methodLink RX3 125 yX2_stands ∈ zB := zB_in 329 (by decide +kernel) (by decide +kernel)
theorem kl_X3_132 : Cond.methodLink RX3 132 yX2_layFrame ∈ zB := zB_in 333 (by decide +kernel) (by decide +kernel)
theorem kl_X3_136 : Cond.methodLink RX3 136 yX3_isUnit ∈ zB := zB_in 338 (by decide +kernel) (by decide +kernel)
theorem kl_X3_142 : Cond.methodLink RX3 142 yX2_currentOf ∈ zB := zB_in 341 (by decide +kernel) (by decide +kernel)
theorem kl_X3_145 : Cond.methodLink RX3 145 yX2_litLamps ∈ zB := zB_in 350 (by decide +kernel) (by decide +kernel)
theorem kl_X3_151 : Cond.methodLink RX3 151 yX2_ghostsIn ∈ zB := zB_in 351 (by decide +kernel) (by decide +kernel)
theorem kl_X3_154 : Cond.methodLink RX3 154 yX2_slicesOf ∈ zB := zB_in 360 (by decide +kernel) (by decide +kernel)
theorem kl_X3_157 : Cond.methodLink RX3 157 yX2_greatestCurrentDimmed ∈ zB := zB_in 369 (by decide +kernel) (by decide +kernel)
theorem kl_X3_160 : Cond.methodLink RX3 160 yX2_darkTogether ∈ zB := zB_in 377 (by decide +kernel) (by decide +kernel)
theorem kl_X3_170 : Cond.methodLink RX3 170 yX2_takeLevels ∈ zB := zB_in 387 (by decide +kernel) (by decide +kernel)
theorem kl_X3_173 : Cond.methodLink RX3 173 yX3_isOfDay ∈ zB := zB_in 395 (by decide +kernel) (by decide +kernel)
theorem kl_X3_176 : Cond.methodLink RX3 176 yX3_isAct ∈ zB := zB_in 398 (by decide +kernel) (by decide +kernel)
theorem kl_X3_180 : Cond.methodLink RX3 180 yX2_live ∈ zB := zB_in 401 (by decide +kernel) (by decide +kernel)
theorem kl_X3_183 : Cond.methodLink RX3 183 yX3_endOfDay ∈ zB := zB_in 411 (by decide +kernel) (by decide +kernel)
theorem kl_X3_186 : Cond.methodLink RX3 186 yX0_note ∈ zB := zB_in 427 (by decide +kernel) (by decide +kernel)
theorem kl_X3_190 : Cond.methodLink RX3 190 yX0_holdFor ∈ zB := zB_in 439 (by decide +kernel) (by decide +kernel)
theorem kl_X3_196 : Cond.methodLink RX3 196 yX3_countWays ∈ zB := zB_in 457 (by decide +kernel) (by decide +kernel)
theorem kl_X3_199 : Cond.methodLink RX3 199 yX3_greatestDivisor ∈ zB := zB_in 472 (by decide +kernel) (by decide +kernel)
theorem kl_X3_203 : Cond.methodLink RX3 203 yX1_begin ∈ zB := zB_in 479 (by decide +kernel) (by decide +kernel)
theorem kl_X3_214 : Cond.methodLink RX3 214 yX1_cutToLane ∈ zB := zB_in 494 (by decide +kernel) (by decide +kernel)
theorem kl_X3_217 : Cond.methodLink RX3 217 yX1_holds ∈ zB := zB_in 506 (by decide +kernel) (by decide +kernel)
theorem kl_X3_220 : Cond.methodLink RX3 220 arraycopyName ∈ zB := zB_in 507 (by decide +kernel) (by decide +kernel)
theorem kl_X3_226 : Cond.methodLink RX3 226 yX3_tellBright ∈ zB := zB_in 512 (by decide +kernel) (by decide +kernel)
theorem kl_X3_229 : Cond.methodLink RX3 229 yX3_tellHalved ∈ zB := zB_in 520 (by decide +kernel) (by decide +kernel)
theorem kl_X3_232 : Cond.methodLink RX3 232 yX3_tellPlain ∈ zB := zB_in 524 (by decide +kernel) (by decide +kernel)
theorem kl_X3_235 : Cond.methodLink RX3 235 yX3_switchBright ∈ zB := zB_in 532 (by decide +kernel) (by decide +kernel)
theorem kl_X3_238 : Cond.methodLink RX3 238 yX3_switchLent ∈ zB := zB_in 536 (by decide +kernel) (by decide +kernel)
theorem kl_X3_244 : Cond.methodLink RX3 244 yX2_deadModules ∈ zB := zB_in 560 (by decide +kernel) (by decide +kernel)
theorem kl_X3_247 : Cond.methodLink RX3 247 yX2_lightTogether ∈ zB := zB_in 415 (by decide +kernel) (by decide +kernel)
theorem kl_X3_250 : Cond.methodLink RX3 250 yX2_ghostsTogether ∈ zB := zB_in 419 (by decide +kernel) (by decide +kernel)
theorem kl_X3_253 : Cond.methodLink RX3 253 yJ7_fill_d0a16 ∈ zB := zB_in 461 (by decide +kernel) (by decide +kernel)
theorem kl_X3_259 : Cond.methodLink RX3 259 yX3_levelsThatLight ∈ zB := zB_in 464 (by decide +kernel) (by decide +kernel)
theorem kl_X3_263 : Cond.methodLink RX3 263 yX3_addLampToWays ∈ zB := zB_in 468 (by decide +kernel) (by decide +kernel)
theorem kl_X3_266 : Cond.methodLink RX3 266 yX3_lightBy ∈ zB := zB_in 467 (by decide +kernel) (by decide +kernel)
theorem kl_X3_269 : Cond.methodLink RX3 269 yX3_hasBit ∈ zB := zB_in 296 (by decide +kernel) (by decide +kernel)
theorem kl_X3_272 : Cond.methodLink RX3 272 Lib.Math.max.name ∈ zB := zB_in 297 (by decide +kernel) (by decide +kernel)
theorem kl_X3_277 : Cond.methodLink RX3 277 Lib.Math.min.name ∈ zB := zB_in 300 (by decide +kernel) (by decide +kernel)
theorem kl_X3_280 : Cond.methodLink RX3 280 yJ6_bitCount_0f7a4 ∈ zB := zB_in 304 (by decide +kernel) (by decide +kernel)
theorem kl_X3_283 : Cond.methodLink RX3 283 yX3_leaveTrace ∈ zB := zB_in 516 (by decide +kernel) (by decide +kernel)
theorem kl_X3_286 : Cond.methodLink RX3 286 yX2_levelsTogether ∈ zB := zB_in 540 (by decide +kernel) (by decide +kernel)
theorem kl_X0_26 : Cond.methodLink RX0 26 yX2_isLit ∈ zB := zB_in 443 (by decide +kernel) (by decide +kernel)
theorem kl_X1_26 : Cond.methodLink RX1 26 yJ7_fill_53178 ∈ zB := zB_in 483 (by decide +kernel) (by decide +kernel)
theorem kl_X1_32 : Cond.methodLink RX1 32 yX1_holds ∈ zB := zB_in 198 (by decide +kernel) (by decide +kernel)
theorem kl_X2_47 : Cond.methodLink RX2 47 arraycopyName ∈ zB := zB_in 251 (by decide +kernel) (by decide +kernel)
theorem kl_X2_58 : Cond.methodLink RX2 58 yX2_takeCode ∈ zB := zB_in 210 (by decide +kernel) (by decide +kernel)
theorem kl_X2_62 : Cond.methodLink RX2 62 yX2_takeCut ∈ zB := zB_in 214 (by decide +kernel) (by decide +kernel)
theorem kl_X2_66 : Cond.methodLink RX2 66 yX2_takeLetter ∈ zB := zB_in 228 (by decide +kernel) (by decide +kernel)
theorem kl_X2_69 : Cond.methodLink RX2 69 yX2_takeLevel ∈ zB := zB_in 236 (by decide +kernel) (by decide +kernel)
theorem kl_X2_72 : Cond.methodLink RX2 72 yX2_takeMore ∈ zB := zB_in 243 (by decide +kernel) (by decide +kernel)
theorem kl_X2_79 : Cond.methodLink RX2 79 yX2_layFrame ∈ zB := zB_in 221 (by decide +kernel) (by decide +kernel)
theorem kl_X2_83 : Cond.methodLink RX2 83 yX2_addModule ∈ zB := zB_in 232 (by decide +kernel) (by decide +kernel)
theorem kl_X2_89 : Cond.methodLink RX2 89 yX2_canAct ∈ zB := zB_in 405 (by decide +kernel) (by decide +kernel)
theorem kl_X2_93 : Cond.methodLink RX2 93 yX2_hasModule ∈ zB := zB_in 409 (by decide +kernel) (by decide +kernel)
theorem kl_X2_96 : Cond.methodLink RX2 96 yX2_hasLamp ∈ zB := zB_in 410 (by decide +kernel) (by decide +kernel)
theorem kl_X2_99 : Cond.methodLink RX2 99 Lib.Math.min.name ∈ zB := zB_in 225 (by decide +kernel) (by decide +kernel)
theorem kl_X2_104 : Cond.methodLink RX2 104 Lib.Math.max.name ∈ zB := zB_in 364 (by decide +kernel) (by decide +kernel)
theorem kl_X2_110 : Cond.methodLink RX2 110 yX2_lightOf ∈ zB := zB_in 289 (by decide +kernel) (by decide +kernel)
theorem kl_X2_116 : Cond.methodLink RX2 116 yX2_isLit ∈ zB := zB_in 285 (by decide +kernel) (by decide +kernel)
theorem kl_X2_119 : Cond.methodLink RX2 119 yX2_litLamps ∈ zB := zB_in 345 (by decide +kernel) (by decide +kernel)
theorem kl_X2_122 : Cond.methodLink RX2 122 yJ6_bitCount_0f7a4 ∈ zB := zB_in 349 (by decide +kernel) (by decide +kernel)
theorem kl_X2_127 : Cond.methodLink RX2 127 yX2_litUnits ∈ zB := zB_in 314 (by decide +kernel) (by decide +kernel)
theorem kl_X2_133 : Cond.methodLink RX2 133 yX2_ghostUnits ∈ zB := zB_in 355 (by decide +kernel) (by decide +kernel)
theorem kl_L_9 : Cond.methodLink RL 9 yX3_init ∈ zB := zB_in 58 (by decide +kernel) (by decide +kernel)
theorem kl_L_12 : Cond.methodLink RL 12 yX4_init ∈ zB := zB_in 566 (by decide +kernel) (by decide +kernel)
theorem kl_L_13 : Cond.methodLink RL 13 yX3_wall ∈ zB := zB_in 184 (by decide +kernel) (by decide +kernel)
theorem kl_L_17 : Cond.methodLink RL 17 yX4_wall ∈ zB := zB_in 664 (by decide +kernel) (by decide +kernel)
theorem kl_L_18 : Cond.methodLink RL 18 yX3_ofModule ∈ zB := zB_in 254 (by decide +kernel) (by decide +kernel)
theorem kl_L_22 : Cond.methodLink RL 22 yX4_ofModule ∈ zB := zB_in 706 (by decide +kernel) (by decide +kernel)
theorem kl_L_23 : Cond.methodLink RL 23 yX3_ofLamp ∈ zB := zB_in 266 (by decide +kernel) (by decide +kernel)
theorem kl_L_26 : Cond.methodLink RL 26 yX4_ofLamp ∈ zB := zB_in 714 (by decide +kernel) (by decide +kernel)
theorem kl_L_27 : Cond.methodLink RL 27 yX3_level ∈ zB := zB_in 315 (by decide +kernel) (by decide +kernel)
theorem kl_L_30 : Cond.methodLink RL 30 yX4_level ∈ zB := zB_in 753 (by decide +kernel) (by decide +kernel)
theorem kl_L_31 : Cond.methodLink RL 31 yX3_die ∈ zB := zB_in 320 (by decide +kernel) (by decide +kernel)
theorem kl_L_35 : Cond.methodLink RL 35 yX4_die ∈ zB := zB_in 761 (by decide +kernel) (by decide +kernel)
theorem kl_L_36 : Cond.methodLink RL 36 yX3_cut ∈ zB := zB_in 324 (by decide +kernel) (by decide +kernel)
theorem kl_L_39 : Cond.methodLink RL 39 yX4_cut ∈ zB := zB_in 765 (by decide +kernel) (by decide +kernel)
theorem kl_L_40 : Cond.methodLink RL 40 yX3_ofUnit ∈ zB := zB_in 334 (by decide +kernel) (by decide +kernel)
theorem kl_L_43 : Cond.methodLink RL 43 yX4_ofUnit ∈ zB := zB_in 772 (by decide +kernel) (by decide +kernel)
theorem kl_L_44 : Cond.methodLink RL 44 yX3_slices ∈ zB := zB_in 356 (by decide +kernel) (by decide +kernel)
theorem kl_L_47 : Cond.methodLink RL 47 yX4_slices ∈ zB := zB_in 789 (by decide +kernel) (by decide +kernel)
theorem kl_L_48 : Cond.methodLink RL 48 yX3_bears ∈ zB := zB_in 365 (by decide +kernel) (by decide +kernel)
theorem kl_L_51 : Cond.methodLink RL 51 yX4_bears ∈ zB := zB_in 798 (by decide +kernel) (by decide +kernel)
theorem kl_L_52 : Cond.methodLink RL 52 yX3_steadiest ∈ zB := zB_in 373 (by decide +kernel) (by decide +kernel)
theorem kl_L_55 : Cond.methodLink RL 55 yX4_steadiest ∈ zB := zB_in 807 (by decide +kernel) (by decide +kernel)
theorem kl_L_56 : Cond.methodLink RL 56 yX3_send ∈ zB := zB_in 383 (by decide +kernel) (by decide +kernel)
theorem kl_L_59 : Cond.methodLink RL 59 yX4_send ∈ zB := zB_in 819 (by decide +kernel) (by decide +kernel)
theorem kl_L_60 : Cond.methodLink RL 60 yX3_day ∈ zB := zB_in 391 (by decide +kernel) (by decide +kernel)
theorem kl_L_64 : Cond.methodLink RL 64 yX4_day ∈ zB := zB_in 824 (by decide +kernel) (by decide +kernel)
theorem kl_L_65 : Cond.methodLink RL 65 yX3_reading ∈ zB := zB_in 423 (by decide +kernel) (by decide +kernel)
theorem kl_L_69 : Cond.methodLink RL 69 yX4_reading ∈ zB := zB_in 851 (by decide +kernel) (by decide +kernel)
theorem kl_L_70 : Cond.methodLink RL 70 yX3_back ∈ zB := zB_in 431 (by decide +kernel) (by decide +kernel)
theorem kl_L_73 : Cond.methodLink RL 73 yX4_back ∈ zB := zB_in 855 (by decide +kernel) (by decide +kernel)
theorem kl_L_74 : Cond.methodLink RL 74 yX3_kinds ∈ zB := zB_in 435 (by decide +kernel) (by decide +kernel)
theorem kl_L_77 : Cond.methodLink RL 77 yX4_kinds ∈ zB := zB_in 859 (by decide +kernel) (by decide +kernel)
theorem kl_L_78 : Cond.methodLink RL 78 yX3_levels ∈ zB := zB_in 444 (by decide +kernel) (by decide +kernel)
theorem kl_L_81 : Cond.methodLink RL 81 yX4_levels ∈ zB := zB_in 867 (by decide +kernel) (by decide +kernel)
theorem kl_L_82 : Cond.methodLink RL 82 yX3_cuts ∈ zB := zB_in 448 (by decide +kernel) (by decide +kernel)
theorem kl_L_86 : Cond.methodLink RL 86 yX4_cuts ∈ zB := zB_in 871 (by decide +kernel) (by decide +kernel)
theorem kl_L_87 : Cond.methodLink RL 87 yX3_odds ∈ zB := zB_in 452 (by decide +kernel) (by decide +kernel)
theorem kl_L_91 : Cond.methodLink RL 91 yX4_odds ∈ zB := zB_in 875 (by decide +kernel) (by decide +kernel)
theorem kl_L_92 : Cond.methodLink RL 92 yX3_sheet ∈ zB := zB_in 475 (by decide +kernel) (by decide +kernel)
theorem kl_L_95 : Cond.methodLink RL 95 yX4_sheet ∈ zB := zB_in 893 (by decide +kernel) (by decide +kernel)
theorem kl_L_96 : Cond.methodLink RL 96 yX3_lose ∈ zB := zB_in 486 (by decide +kernel) (by decide +kernel)
theorem kl_L_99 : Cond.methodLink RL 99 yX4_lose ∈ zB := zB_in 897 (by decide +kernel) (by decide +kernel)
theorem kl_L_100 : Cond.methodLink RL 100 yX3_put ∈ zB := zB_in 490 (by decide +kernel) (by decide +kernel)
theorem kl_L_103 : Cond.methodLink RL 103 yX4_put ∈ zB := zB_in 901 (by decide +kernel) (by decide +kernel)
theorem kl_L_104 : Cond.methodLink RL 104 yX3_cell ∈ zB := zB_in 498 (by decide +kernel) (by decide +kernel)
theorem kl_L_107 : Cond.methodLink RL 107 yX4_cell ∈ zB := zB_in 909 (by decide +kernel) (by decide +kernel)
theorem kl_L_108 : Cond.methodLink RL 108 yX3_copy ∈ zB := zB_in 502 (by decide +kernel) (by decide +kernel)
theorem kl_L_111 : Cond.methodLink RL 111 yX4_copy ∈ zB := zB_in 917 (by decide +kernel) (by decide +kernel)
theorem kl_L_112 : Cond.methodLink RL 112 yX3_tell ∈ zB := zB_in 508 (by decide +kernel) (by decide +kernel)
theorem kl_L_115 : Cond.methodLink RL 115 yX4_tell ∈ zB := zB_in 921 (by decide +kernel) (by decide +kernel)
theorem kl_L_116 : Cond.methodLink RL 116 yX3_switchOn ∈ zB := zB_in 528 (by decide +kernel) (by decide +kernel)
theorem kl_L_119 : Cond.methodLink RL 119 yX4_switchOn ∈ zB := zB_in 929 (by decide +kernel) (by decide +kernel)
theorem kl_L_120 : Cond.methodLink RL 120 yX3_as ∈ zB := zB_in 544 (by decide +kernel) (by decide +kernel)
theorem kl_L_123 : Cond.methodLink RL 123 yX4_as ∈ zB := zB_in 933 (by decide +kernel) (by decide +kernel)
theorem kl_L_124 : Cond.methodLink RL 124 yX3_trace ∈ zB := zB_in 548 (by decide +kernel) (by decide +kernel)
theorem kl_L_127 : Cond.methodLink RL 127 yX4_trace ∈ zB := zB_in 937 (by decide +kernel) (by decide +kernel)
theorem kl_L_128 : Cond.methodLink RL 128 yX3_fault ∈ zB := zB_in 552 (by decide +kernel) (by decide +kernel)
theorem kl_L_131 : Cond.methodLink RL 131 yX4_fault ∈ zB := zB_in 941 (by decide +kernel) (by decide +kernel)
theorem kl_L_132 : Cond.methodLink RL 132 yX3_many ∈ zB := zB_in 556 (by decide +kernel) (by decide +kernel)
theorem kl_L_135 : Cond.methodLink RL 135 yX4_many ∈ zB := zB_in 945 (by decide +kernel) (by decide +kernel)
theorem kl_X4_80 : Cond.methodLink RX4 80 yX4_lost ∈ zB := zB_in 879 (by decide +kernel) (by decide +kernel)
theorem kl_X4_87 : Cond.methodLink RX4 87 yX4_in ∈ zB := zB_in 672 (by decide +kernel) (by decide +kernel)
theorem kl_X4_100 : Cond.methodLink RX4 100 yX4_codeAt ∈ zB := zB_in 695 (by decide +kernel) (by decide +kernel)
theorem kl_X4_116 : Cond.methodLink RX4 116 yX4_readsModule ∈ zB := zB_in 700 (by decide +kernel) (by decide +kernel)
theorem kl_X4_120 : Cond.methodLink RX4 120 yX4_failed ∈ zB := zB_in 684 (by decide +kernel) (by decide +kernel)
theorem kl_X4_124 : Cond.methodLink RX4 124 yX4_isBeyond ∈ zB := zB_in 688 (by decide +kernel) (by decide +kernel)
theorem kl_X4_128 : Cond.methodLink RX4 128 yX4_noSheet ∈ zB := zB_in 668 (by decide +kernel) (by decide +kernel)
theorem kl_X4_132 : Cond.methodLink RX4 132 yX4_refused ∈ zB := zB_in 675 (by decide +kernel) (by decide +kernel)
theorem kl_X4_137 : Cond.methodLink RX4 137 yX4_cellsBarred ∈ zB := zB_in 680 (by decide +kernel) (by decide +kernel)
theorem kl_X4_141 : Cond.methodLink RX4 141 yX4_readsWall ∈ zB := zB_in 691 (by decide +kernel) (by decide +kernel)
theorem kl_X4_150 : Cond.methodLink RX4 150 yX4_lightBy ∈ zB := zB_in 730 (by decide +kernel) (by decide +kernel)
theorem kl_X4_153 : Cond.methodLink RX4 153 yX4_light ∈ zB := zB_in 726 (by decide +kernel) (by decide +kernel)
theorem kl_X4_156 : Cond.methodLink RX4 156 yX4_litBy ∈ zB := zB_in 741 (by decide +kernel) (by decide +kernel)
theorem kl_X4_159 : Cond.methodLink RX4 159 yX4_litOf ∈ zB := zB_in 737 (by decide +kernel) (by decide +kernel)
theorem kl_X4_162 : Cond.methodLink RX4 162 yX4_frames ∈ zB := zB_in 722 (by decide +kernel) (by decide +kernel)
theorem kl_X4_165 : Cond.methodLink RX4 165 yX4_darkOf ∈ zB := zB_in 733 (by decide +kernel) (by decide +kernel)
theorem kl_X4_168 : Cond.methodLink RX4 168 yX4_noModule ∈ zB := zB_in 710 (by decide +kernel) (by decide +kernel)
theorem kl_X4_171 : Cond.methodLink RX4 171 yX4_noLamp ∈ zB := zB_in 718 (by decide +kernel) (by decide +kernel)
theorem kl_X4_174 : Cond.methodLink RX4 174 yX4_turnsOf ∈ zB := zB_in 745 (by decide +kernel) (by decide +kernel)
theorem kl_X4_177 : Cond.methodLink RX4 177 yX4_ghostsOf ∈ zB := zB_in 749 (by decide +kernel) (by decide +kernel)
theorem kl_X4_182 : Cond.methodLink RX4 182 yX4_isFigure ∈ zB := zB_in 757 (by decide +kernel) (by decide +kernel)
theorem kl_X4_185 : Cond.methodLink RX4 185 yX4_isCut ∈ zB := zB_in 769 (by decide +kernel) (by decide +kernel)
theorem kl_X4_192 : Cond.methodLink RX4 192 yX4_litIn ∈ zB := zB_in 778 (by decide +kernel) (by decide +kernel)
theorem kl_X4_195 : Cond.methodLink RX4 195 yX4_bits ∈ zB := zB_in 782 (by decide +kernel) (by decide +kernel)
theorem kl_X4_198 : Cond.methodLink RX4 198 yX4_ghostsIn ∈ zB := zB_in 785 (by decide +kernel) (by decide +kernel)
theorem kl_X4_205 : Cond.methodLink RX4 205 yX4_slicesOf ∈ zB := zB_in 794 (by decide +kernel) (by decide +kernel)
theorem kl_X4_210 : Cond.methodLink RX4 210 yX4_greatest ∈ zB := zB_in 803 (by decide +kernel) (by decide +kernel)
theorem kl_X4_213 : Cond.methodLink RX4 213 yX4_darkOfAll ∈ zB := zB_in 815 (by decide +kernel) (by decide +kernel)
theorem kl_X4_217 : Cond.methodLink RX4 217 yX4_darkBy ∈ zB := zB_in 811 (by decide +kernel) (by decide +kernel)
theorem kl_X4_228 : Cond.methodLink RX4 228 yX4_level ∈ zB := zB_in 844 (by decide +kernel) (by decide +kernel)
theorem kl_X4_231 : Cond.methodLink RX4 231 yX4_cut ∈ zB := zB_in 845 (by decide +kernel) (by decide +kernel)
theorem kl_X4_234 : Cond.methodLink RX4 234 yX4_die ∈ zB := zB_in 846 (by decide +kernel) (by decide +kernel)
theorem kl_X4_237 : Cond.methodLink RX4 237 yX4_doesPair ∈ zB := zB_in 840 (by decide +kernel) (by decide +kernel)
theorem kl_X4_240 : Cond.methodLink RX4 240 yX4_lightOfAll ∈ zB := zB_in 847 (by decide +kernel) (by decide +kernel)
theorem kl_X4_247 : Cond.methodLink RX4 247 yX4_isAsTold ∈ zB := zB_in 830 (by decide +kernel) (by decide +kernel)
theorem kl_X4_250 : Cond.methodLink RX4 250 yX4_dayOf ∈ zB := zB_in 836 (by decide +kernel) (by decide +kernel)
theorem kl_X4_254 : Cond.methodLink RX4 254 yX4_areSo ∈ zB := zB_in 863 (by decide +kernel) (by decide +kernel)
theorem kl_X4_258 : Cond.methodLink RX4 258 yX4_levelsLit ∈ zB := zB_in 883 (by decide +kernel) (by decide +kernel)
theorem kl_X4_261 : Cond.methodLink RX4 261 yX4_addsLamp ∈ zB := zB_in 886 (by decide +kernel) (by decide +kernel)
theorem kl_X4_265 : Cond.methodLink RX4 265 yX4_share ∈ zB := zB_in 890 (by decide +kernel) (by decide +kernel)
theorem kl_X4_269 : Cond.methodLink RX4 269 yX4_noCell ∈ zB := zB_in 905 (by decide +kernel) (by decide +kernel)
theorem kl_X4_272 : Cond.methodLink RX4 272 yX4_failedLong ∈ zB := zB_in 913 (by decide +kernel) (by decide +kernel)
theorem kl_X4_279 : Cond.methodLink RX4 279 yX4_traced ∈ zB := zB_in 925 (by decide +kernel) (by decide +kernel)
theorem kc_X3_194 : Cond.constantLong RX3 194 (-9223372036854775808) ∈ zB := zB_in 456 (by decide +kernel) (by decide +kernel)
theorem kc_X4_74 : Cond.constantLong RX4 74 (-9223372036854775808) ∈ zB := zB_in 882 (by decide +kernel) (by decide +kernel)
theorem kc_X4_104 : Cond.constantLong RX4 104 (48) ∈ zB := zB_in 704 (by decide +kernel) (by decide +kernel)
theorem kc_X4_106 : Cond.constantLong RX4 106 (57) ∈ zB := zB_in 705 (by decide +kernel) (by decide +kernel)
theorem kc_X4_114 : Cond.constantLong RX4 114 (8) ∈ zB := zB_in 699 (by decide +kernel) (by decide +kernel)
theorem kc_X4_135 : Cond.constantLong RX4 135 (2) ∈ zB := zB_in 679 (by decide +kernel) (by decide +kernel)
theorem kc_X4_180 : Cond.constantLong RX4 180 (9) ∈ zB := zB_in 760 (by decide +kernel) (by decide +kernel)
theorem kc_X4_188 : Cond.constantLong RX4 188 (14) ∈ zB := zB_in 776 (by decide +kernel) (by decide +kernel)
theorem kc_X4_190 : Cond.constantLong RX4 190 (4) ∈ zB := zB_in 777 (by decide +kernel) (by decide +kernel)
theorem kc_X4_201 : Cond.constantLong RX4 201 (-1) ∈ zB := zB_in 793 (by decide +kernel) (by decide +kernel)
theorem kc_X4_203 : Cond.constantLong RX4 203 (3) ∈ zB := zB_in 671 (by decide +kernel) (by decide +kernel)
theorem kc_X4_208 : Cond.constantLong RX4 208 (16) ∈ zB := zB_in 802 (by decide +kernel) (by decide +kernel)
theorem kc_X4_220 : Cond.constantLong RX4 220 (20) ∈ zB := zB_in 823 (by decide +kernel) (by decide +kernel)
theorem kc_X4_222 : Cond.constantLong RX4 222 (15) ∈ zB := zB_in 833 (by decide +kernel) (by decide +kernel)
theorem kc_X4_224 : Cond.constantLong RX4 224 (30) ∈ zB := zB_in 834 (by decide +kernel) (by decide +kernel)
theorem kc_X4_226 : Cond.constantLong RX4 226 (33) ∈ zB := zB_in 835 (by decide +kernel) (by decide +kernel)
theorem kc_X4_243 : Cond.constantLong RX4 243 (10) ∈ zB := zB_in 828 (by decide +kernel) (by decide +kernel)
theorem kc_X4_245 : Cond.constantLong RX4 245 (25) ∈ zB := zB_in 829 (by decide +kernel) (by decide +kernel)
theorem kc_X3_166 : Cond.constant RX3 166 (2147483647) ∈ zB := zB_in 382 (by decide +kernel) (by decide +kernel)
theorem kc_J6_265 : Cond.constant RJ6 265 (1431655765) ∈ zB := zB_in 307 (by decide +kernel) (by decide +kernel)
theorem kc_J6_266 : Cond.constant RJ6 266 (858993459) ∈ zB := zB_in 308 (by decide +kernel) (by decide +kernel)
theorem kc_J6_267 : Cond.constant RJ6 267 (252645135) ∈ zB := zB_in 309 (by decide +kernel) (by decide +kernel)
theorem ki_J9 : Cond.initialized "java/lang/Math" ∈ zB := zB_in 52 (by decide +kernel) (by decide +kernel)
theorem ki_J10 : Cond.initialized "java/lang/System" ∈ zB := zB_in 53 (by decide +kernel) (by decide +kernel)
theorem kn_ac : Cond.native arraycopyName ∈ zB := zB_in 253 (by decide +kernel) (by decide +kernel)
theorem ks_ac : Cond.static arraycopyName ∈ zB := zB_in 252 (by decide +kernel) (by decide +kernel)
theorem ks_max : Cond.static Lib.Math.max.name ∈ zB := zB_in 298 (by decide +kernel) (by decide +kernel)
theorem kd_max : Cond.code Lib.Math.max.name Lib.Math.max.code 2 (some .int) ∈ zB := zB_in 299 (by decide +kernel) (by decide +kernel)
theorem ks_min : Cond.static Lib.Math.min.name ∈ zB := zB_in 226 (by decide +kernel) (by decide +kernel)
theorem kd_min : Cond.code Lib.Math.min.name Lib.Math.min.code 2 (some .int) ∈ zB := zB_in 227 (by decide +kernel) (by decide +kernel)
theorem my_X0_note : zYV yX0_note cX0_note 4 (some .int) RX0 3 := ⟨zB_in 430 (by decide +kernel) (by decide +kernel), zB_in 49 (by decide +kernel) (by decide +kernel), ⟨by decide +kernel, by decide +kernel, by decide +kernel⟩, zB_in 428 (by decide +kernel) (by decide +kernel), zB_in 429 (by decide +kernel) (by decide +kernel)⟩
theorem my_X0_holdFor : zYV yX0_holdFor cX0_holdFor 3 (some .boolean) RX0 1 := ⟨zB_in 442 (by decide +kernel) (by decide +kernel), zB_in 49 (by decide +kernel) (by decide +kernel), ⟨by decide +kernel, by decide +kernel, by decide +kernel⟩, zB_in 440 (by decide +kernel) (by decide +kernel), zB_in 441 (by decide +kernel) (by decide +kernel)⟩
theorem my_X1_begin : zYV yX1_begin cX1_begin 3 none RX1 2 := ⟨zB_in 482 (by decide +kernel) (by decide +kernel), zB_in 50 (by decide +kernel) (by decide +kernel), ⟨by decide +kernel, by decide +kernel, by decide +kernel⟩, zB_in 480 (by decide +kernel) (by decide +kernel), zB_in 481 (by decide +kernel) (by decide +kernel)⟩
theorem my_X1_holds : zYV yX1_holds cX1_holds 3 (some .boolean) RX1 2 := ⟨zB_in 201 (by decide +kernel) (by decide +kernel), zB_in 50 (by decide +kernel) (by decide +kernel), ⟨by decide +kernel, by decide +kernel, by decide +kernel⟩, zB_in 199 (by decide +kernel) (by decide +kernel), zB_in 200 (by decide +kernel) (by decide +kernel)⟩
theorem my_X1_faultOfCells : zYV yX1_faultOfCells cX1_faultOfCells 4 (some .int) RX1 3 := ⟨zB_in 197 (by decide +kernel) (by decide +kernel), zB_in 50 (by decide +kernel) (by decide +kernel), ⟨by decide +kernel, by decide +kernel, by decide +kernel⟩, zB_in 195 (by decide +kernel) (by decide +kernel), zB_in 196 (by decide +kernel) (by decide +kernel)⟩
theorem my_X1_cutToLane : zYV yX1_cutToLane cX1_cutToLane 2 (some .int) RX1 1 := ⟨zB_in 497 (by decide +kernel) (by decide +kernel), zB_in 50 (by decide +kernel) (by decide +kernel), ⟨by decide +kernel, by decide +kernel, by decide +kernel⟩, zB_in 495 (by decide +kernel) (by decide +kernel), zB_in 496 (by decide +kernel) (by decide +kernel)⟩
theorem my_X2_stands : zYV yX2_stands cX2_stands 1 (some .boolean) RX2 0 := ⟨zB_in 332 (by decide +kernel) (by decide +kernel), zB_in 48 (by decide +kernel) (by decide +kernel), ⟨by decide +kernel, by decide +kernel, by decide +kernel⟩, zB_in 330 (by decide +kernel) (by decide +kernel), zB_in 331 (by decide +kernel) (by decide +kernel)⟩
theorem my_X2_hasModule : zYV yX2_hasModule cX2_hasModule 2 (some .boolean) RX2 1 := ⟨zB_in 261 (by decide +kernel) (by decide +kernel), zB_in 48 (by decide +kernel) (by decide +kernel), ⟨by decide +kernel, by decide +kernel, by decide +kernel⟩, zB_in 259 (by decide +kernel) (by decide +kernel), zB_in 260 (by decide +kernel) (by decide +kernel)⟩
theorem my_X2_hasLamp : zYV yX2_hasLamp cX2_hasLamp 2 (some .boolean) RX2 1 := ⟨zB_in 273 (by decide +kernel) (by decide +kernel), zB_in 48 (by decide +kernel) (by decide +kernel), ⟨by decide +kernel, by decide +kernel, by decide +kernel⟩, zB_in 271 (by decide +kernel) (by decide +kernel), zB_in 272 (by decide +kernel) (by decide +kernel)⟩
theorem my_X2_becomeLike : zYV yX2_becomeLike cX2_becomeLike 2 none RX2 1 := ⟨zB_in 250 (by decide +kernel) (by decide +kernel), zB_in 48 (by decide +kernel) (by decide +kernel), ⟨by decide +kernel, by decide +kernel, by decide +kernel⟩, zB_in 248 (by decide +kernel) (by decide +kernel), zB_in 249 (by decide +kernel) (by decide +kernel)⟩
theorem my_X2_readText : zYV yX2_readText cX2_readText 6 (some .int) RX2 3 := ⟨zB_in 209 (by decide +kernel) (by decide +kernel), zB_in 48 (by decide +kernel) (by decide +kernel), ⟨by decide +kernel, by decide +kernel, by decide +kernel⟩, zB_in 207 (by decide +kernel) (by decide +kernel), zB_in 208 (by decide +kernel) (by decide +kernel)⟩
theorem my_X2_takeCode : zYV yX2_takeCode cX2_takeCode 3 (some .int) RX2 2 := ⟨zB_in 213 (by decide +kernel) (by decide +kernel), zB_in 48 (by decide +kernel) (by decide +kernel), ⟨by decide +kernel, by decide +kernel, by decide +kernel⟩, zB_in 212 (by decide +kernel) (by decide +kernel), zB_in 1 (by decide +kernel) (by decide +kernel)⟩
theorem my_X2_takeCut : zYV yX2_takeCut cX2_takeCut 2 (some .int) RX2 1 := ⟨zB_in 217 (by decide +kernel) (by decide +kernel), zB_in 48 (by decide +kernel) (by decide +kernel), ⟨by decide +kernel, by decide +kernel, by decide +kernel⟩, zB_in 216 (by decide +kernel) (by decide +kernel), zB_in 2 (by decide +kernel) (by decide +kernel)⟩
theorem my_X2_takeLetter : zYV yX2_takeLetter cX2_takeLetter 2 (some .int) RX2 1 := ⟨zB_in 231 (by decide +kernel) (by decide +kernel), zB_in 48 (by decide +kernel) (by decide +kernel), ⟨by decide +kernel, by decide +kernel, by decide +kernel⟩, zB_in 230 (by decide +kernel) (by decide +kernel), zB_in 3 (by decide +kernel) (by decide +kernel)⟩
theorem my_X2_addModule : zYV yX2_addModule cX2_addModule 2 (some .int) RX2 1 := ⟨zB_in 235 (by decide +kernel) (by decide +kernel), zB_in 48 (by decide +kernel) (by decide +kernel), ⟨by decide +kernel, by decide +kernel, by decide +kernel⟩, zB_in 234 (by decide +kernel) (by decide +kernel), zB_in 4 (by decide +kernel) (by decide +kernel)⟩
theorem my_X2_takeLevel : zYV yX2_takeLevel cX2_takeLevel 3 (some .int) RX2 1 := ⟨zB_in 239 (by decide +kernel) (by decide +kernel), zB_in 48 (by decide +kernel) (by decide +kernel), ⟨by decide +kernel, by decide +kernel, by decide +kernel⟩, zB_in 238 (by decide +kernel) (by decide +kernel), zB_in 5 (by decide +kernel) (by decide +kernel)⟩
theorem my_X2_takeMore : zYV yX2_takeMore cX2_takeMore 2 (some .int) RX2 1 := ⟨zB_in 246 (by decide +kernel) (by decide +kernel), zB_in 48 (by decide +kernel) (by decide +kernel), ⟨by decide +kernel, by decide +kernel, by decide +kernel⟩, zB_in 245 (by decide +kernel) (by decide +kernel), zB_in 6 (by decide +kernel) (by decide +kernel)⟩
theorem my_X2_placeAmongLiving : zYV yX2_placeAmongLiving cX2_placeAmongLiving 4 (some .int) RX2 1 := ⟨zB_in 265 (by decide +kernel) (by decide +kernel), zB_in 48 (by decide +kernel) (by decide +kernel), ⟨by decide +kernel, by decide +kernel, by decide +kernel⟩, zB_in 263 (by decide +kernel) (by decide +kernel), zB_in 264 (by decide +kernel) (by decide +kernel)⟩
theorem my_X2_deadModules : zYV yX2_deadModules cX2_deadModules 3 (some .int) RX2 0 := ⟨zB_in 563 (by decide +kernel) (by decide +kernel), zB_in 48 (by decide +kernel) (by decide +kernel), ⟨by decide +kernel, by decide +kernel, by decide +kernel⟩, zB_in 561 (by decide +kernel) (by decide +kernel), zB_in 562 (by decide +kernel) (by decide +kernel)⟩
theorem my_X2_levelsTogether : zYV yX2_levelsTogether cX2_levelsTogether 4 (some .int) RX2 1 := ⟨zB_in 543 (by decide +kernel) (by decide +kernel), zB_in 48 (by decide +kernel) (by decide +kernel), ⟨by decide +kernel, by decide +kernel, by decide +kernel⟩, zB_in 541 (by decide +kernel) (by decide +kernel), zB_in 542 (by decide +kernel) (by decide +kernel)⟩
theorem my_X2_takeLevels : zYV yX2_takeLevels cX2_takeLevels 6 (some .int) RX2 3 := ⟨zB_in 390 (by decide +kernel) (by decide +kernel), zB_in 48 (by decide +kernel) (by decide +kernel), ⟨by decide +kernel, by decide +kernel, by decide +kernel⟩, zB_in 388 (by decide +kernel) (by decide +kernel), zB_in 389 (by decide +kernel) (by decide +kernel)⟩
theorem my_X2_live : zYV yX2_live cX2_live 5 (some .int) RX2 3 := ⟨zB_in 404 (by decide +kernel) (by decide +kernel), zB_in 48 (by decide +kernel) (by decide +kernel), ⟨by decide +kernel, by decide +kernel, by decide +kernel⟩, zB_in 402 (by decide +kernel) (by decide +kernel), zB_in 403 (by decide +kernel) (by decide +kernel)⟩
theorem my_X2_canAct : zYV yX2_canAct cX2_canAct 4 (some .boolean) RX2 2 := ⟨zB_in 408 (by decide +kernel) (by decide +kernel), zB_in 48 (by decide +kernel) (by decide +kernel), ⟨by decide +kernel, by decide +kernel, by decide +kernel⟩, zB_in 407 (by decide +kernel) (by decide +kernel), zB_in 7 (by decide +kernel) (by decide +kernel)⟩
theorem my_X2_layFrame : zYV yX2_layFrame cX2_layFrame 8 none RX2 1 := ⟨zB_in 224 (by decide +kernel) (by decide +kernel), zB_in 48 (by decide +kernel) (by decide +kernel), ⟨by decide +kernel, by decide +kernel, by decide +kernel⟩, zB_in 222 (by decide +kernel) (by decide +kernel), zB_in 223 (by decide +kernel) (by decide +kernel)⟩
theorem my_X2_slicesOf : zYV yX2_slicesOf cX2_slicesOf 4 (some .int) RX2 1 := ⟨zB_in 363 (by decide +kernel) (by decide +kernel), zB_in 48 (by decide +kernel) (by decide +kernel), ⟨by decide +kernel, by decide +kernel, by decide +kernel⟩, zB_in 361 (by decide +kernel) (by decide +kernel), zB_in 362 (by decide +kernel) (by decide +kernel)⟩
theorem my_X2_lightOf : zYV yX2_lightOf cX2_lightOf 3 (some .int) RX2 1 := ⟨zB_in 277 (by decide +kernel) (by decide +kernel), zB_in 48 (by decide +kernel) (by decide +kernel), ⟨by decide +kernel, by decide +kernel, by decide +kernel⟩, zB_in 275 (by decide +kernel) (by decide +kernel), zB_in 276 (by decide +kernel) (by decide +kernel)⟩
theorem my_X2_lightTogether : zYV yX2_lightTogether cX2_lightTogether 3 (some .int) RX2 0 := ⟨zB_in 418 (by decide +kernel) (by decide +kernel), zB_in 48 (by decide +kernel) (by decide +kernel), ⟨by decide +kernel, by decide +kernel, by decide +kernel⟩, zB_in 416 (by decide +kernel) (by decide +kernel), zB_in 417 (by decide +kernel) (by decide +kernel)⟩
theorem my_X2_isLit : zYV yX2_isLit cX2_isLit 3 (some .boolean) RX2 2 := ⟨zB_in 288 (by decide +kernel) (by decide +kernel), zB_in 48 (by decide +kernel) (by decide +kernel), ⟨by decide +kernel, by decide +kernel, by decide +kernel⟩, zB_in 286 (by decide +kernel) (by decide +kernel), zB_in 287 (by decide +kernel) (by decide +kernel)⟩
theorem my_X2_litUnits : zYV yX2_litUnits cX2_litUnits 4 (some .int) RX2 1 := ⟨zB_in 284 (by decide +kernel) (by decide +kernel), zB_in 48 (by decide +kernel) (by decide +kernel), ⟨by decide +kernel, by decide +kernel, by decide +kernel⟩, zB_in 282 (by decide +kernel) (by decide +kernel), zB_in 283 (by decide +kernel) (by decide +kernel)⟩
theorem my_X2_litLamps : zYV yX2_litLamps cX2_litLamps 4 (some .int) RX2 1 := ⟨zB_in 348 (by decide +kernel) (by decide +kernel), zB_in 48 (by decide +kernel) (by decide +kernel), ⟨by decide +kernel, by decide +kernel, by decide +kernel⟩, zB_in 346 (by decide +kernel) (by decide +kernel), zB_in 347 (by decide +kernel) (by decide +kernel)⟩
theorem my_X2_currentOf : zYV yX2_currentOf cX2_currentOf 2 (some .int) RX2 1 := ⟨zB_in 344 (by decide +kernel) (by decide +kernel), zB_in 48 (by decide +kernel) (by decide +kernel), ⟨by decide +kernel, by decide +kernel, by decide +kernel⟩, zB_in 342 (by decide +kernel) (by decide +kernel), zB_in 343 (by decide +kernel) (by decide +kernel)⟩
theorem my_X2_greatestCurrentDimmed : zYV yX2_greatestCurrentDimmed cX2_greatestCurrentDimmed 7 (some .int) RX2 1 := ⟨zB_in 372 (by decide +kernel) (by decide +kernel), zB_in 48 (by decide +kernel) (by decide +kernel), ⟨by decide +kernel, by decide +kernel, by decide +kernel⟩, zB_in 370 (by decide +kernel) (by decide +kernel), zB_in 371 (by decide +kernel) (by decide +kernel)⟩
theorem my_X2_darkTogether : zYV yX2_darkTogether cX2_darkTogether 3 (some .int) RX2 0 := ⟨zB_in 380 (by decide +kernel) (by decide +kernel), zB_in 48 (by decide +kernel) (by decide +kernel), ⟨by decide +kernel, by decide +kernel, by decide +kernel⟩, zB_in 378 (by decide +kernel) (by decide +kernel), zB_in 379 (by decide +kernel) (by decide +kernel)⟩
theorem my_X2_ghostUnits : zYV yX2_ghostUnits cX2_ghostUnits 3 (some .int) RX2 1 := ⟨zB_in 313 (by decide +kernel) (by decide +kernel), zB_in 48 (by decide +kernel) (by decide +kernel), ⟨by decide +kernel, by decide +kernel, by decide +kernel⟩, zB_in 311 (by decide +kernel) (by decide +kernel), zB_in 312 (by decide +kernel) (by decide +kernel)⟩
theorem my_X2_ghostsIn : zYV yX2_ghostsIn cX2_ghostsIn 4 (some .int) RX2 1 := ⟨zB_in 354 (by decide +kernel) (by decide +kernel), zB_in 48 (by decide +kernel) (by decide +kernel), ⟨by decide +kernel, by decide +kernel, by decide +kernel⟩, zB_in 352 (by decide +kernel) (by decide +kernel), zB_in 353 (by decide +kernel) (by decide +kernel)⟩
theorem my_X2_ghostsTogether : zYV yX2_ghostsTogether cX2_ghostsTogether 3 (some .int) RX2 0 := ⟨zB_in 422 (by decide +kernel) (by decide +kernel), zB_in 48 (by decide +kernel) (by decide +kernel), ⟨by decide +kernel, by decide +kernel, by decide +kernel⟩, zB_in 420 (by decide +kernel) (by decide +kernel), zB_in 421 (by decide +kernel) (by decide +kernel)⟩
theorem my_X3_wall : zYV yX3_wall cX3_wall 8 (some .int) RX3 4 := ⟨zB_in 187 (by decide +kernel) (by decide +kernel), zB_in 47 (by decide +kernel) (by decide +kernel), ⟨by decide +kernel, by decide +kernel, by decide +kernel⟩, zB_in 185 (by decide +kernel) (by decide +kernel), zB_in 186 (by decide +kernel) (by decide +kernel)⟩
theorem my_X3_ofModule : zYV yX3_ofModule cX3_ofModule 3 (some .int) RX3 2 := ⟨zB_in 257 (by decide +kernel) (by decide +kernel), zB_in 47 (by decide +kernel) (by decide +kernel), ⟨by decide +kernel, by decide +kernel, by decide +kernel⟩, zB_in 255 (by decide +kernel) (by decide +kernel), zB_in 256 (by decide +kernel) (by decide +kernel)⟩
theorem my_X3_ofLamp : zYV yX3_ofLamp cX3_ofLamp 3 (some .int) RX3 2 := ⟨zB_in 269 (by decide +kernel) (by decide +kernel), zB_in 47 (by decide +kernel) (by decide +kernel), ⟨by decide +kernel, by decide +kernel, by decide +kernel⟩, zB_in 267 (by decide +kernel) (by decide +kernel), zB_in 268 (by decide +kernel) (by decide +kernel)⟩
theorem my_X3_level : zYV yX3_level cX3_level 4 (some .int) RX3 2 := ⟨zB_in 318 (by decide +kernel) (by decide +kernel), zB_in 47 (by decide +kernel) (by decide +kernel), ⟨by decide +kernel, by decide +kernel, by decide +kernel⟩, zB_in 316 (by decide +kernel) (by decide +kernel), zB_in 317 (by decide +kernel) (by decide +kernel)⟩
theorem my_X3_die : zYV yX3_die cX3_die 2 (some .int) RX3 1 := ⟨zB_in 323 (by decide +kernel) (by decide +kernel), zB_in 47 (by decide +kernel) (by decide +kernel), ⟨by decide +kernel, by decide +kernel, by decide +kernel⟩, zB_in 321 (by decide +kernel) (by decide +kernel), zB_in 322 (by decide +kernel) (by decide +kernel)⟩
theorem my_X3_cut : zYV yX3_cut cX3_cut 3 (some .int) RX3 1 := ⟨zB_in 327 (by decide +kernel) (by decide +kernel), zB_in 47 (by decide +kernel) (by decide +kernel), ⟨by decide +kernel, by decide +kernel, by decide +kernel⟩, zB_in 325 (by decide +kernel) (by decide +kernel), zB_in 326 (by decide +kernel) (by decide +kernel)⟩
theorem my_X3_ofUnit : zYV yX3_ofUnit cX3_ofUnit 3 (some .int) RX3 2 := ⟨zB_in 337 (by decide +kernel) (by decide +kernel), zB_in 47 (by decide +kernel) (by decide +kernel), ⟨by decide +kernel, by decide +kernel, by decide +kernel⟩, zB_in 335 (by decide +kernel) (by decide +kernel), zB_in 336 (by decide +kernel) (by decide +kernel)⟩
theorem my_X3_slices : zYV yX3_slices cX3_slices 4 (some .int) RX3 1 := ⟨zB_in 359 (by decide +kernel) (by decide +kernel), zB_in 47 (by decide +kernel) (by decide +kernel), ⟨by decide +kernel, by decide +kernel, by decide +kernel⟩, zB_in 357 (by decide +kernel) (by decide +kernel), zB_in 358 (by decide +kernel) (by decide +kernel)⟩
theorem my_X3_bears : zYV yX3_bears cX3_bears 3 (some .int) RX3 1 := ⟨zB_in 368 (by decide +kernel) (by decide +kernel), zB_in 47 (by decide +kernel) (by decide +kernel), ⟨by decide +kernel, by decide +kernel, by decide +kernel⟩, zB_in 366 (by decide +kernel) (by decide +kernel), zB_in 367 (by decide +kernel) (by decide +kernel)⟩
theorem my_X3_steadiest : zYV yX3_steadiest cX3_steadiest 6 (some .int) RX3 1 := ⟨zB_in 376 (by decide +kernel) (by decide +kernel), zB_in 47 (by decide +kernel) (by decide +kernel), ⟨by decide +kernel, by decide +kernel, by decide +kernel⟩, zB_in 374 (by decide +kernel) (by decide +kernel), zB_in 375 (by decide +kernel) (by decide +kernel)⟩
theorem my_X3_send : zYV yX3_send cX3_send 8 (some .int) RX3 4 := ⟨zB_in 386 (by decide +kernel) (by decide +kernel), zB_in 47 (by decide +kernel) (by decide +kernel), ⟨by decide +kernel, by decide +kernel, by decide +kernel⟩, zB_in 384 (by decide +kernel) (by decide +kernel), zB_in 385 (by decide +kernel) (by decide +kernel)⟩
theorem my_X3_day : zYV yX3_day cX3_day 9 (some .int) RX3 5 := ⟨zB_in 394 (by decide +kernel) (by decide +kernel), zB_in 47 (by decide +kernel) (by decide +kernel), ⟨by decide +kernel, by decide +kernel, by decide +kernel⟩, zB_in 392 (by decide +kernel) (by decide +kernel), zB_in 393 (by decide +kernel) (by decide +kernel)⟩
theorem my_X3_reading : zYV yX3_reading cX3_reading 4 (some .int) RX3 3 := ⟨zB_in 426 (by decide +kernel) (by decide +kernel), zB_in 47 (by decide +kernel) (by decide +kernel), ⟨by decide +kernel, by decide +kernel, by decide +kernel⟩, zB_in 424 (by decide +kernel) (by decide +kernel), zB_in 425 (by decide +kernel) (by decide +kernel)⟩
theorem my_X3_back : zYV yX3_back cX3_back 2 (some .int) RX3 1 := ⟨zB_in 434 (by decide +kernel) (by decide +kernel), zB_in 47 (by decide +kernel) (by decide +kernel), ⟨by decide +kernel, by decide +kernel, by decide +kernel⟩, zB_in 432 (by decide +kernel) (by decide +kernel), zB_in 433 (by decide +kernel) (by decide +kernel)⟩
theorem my_X3_kinds : zYV yX3_kinds cX3_kinds 4 (some .int) RX3 1 := ⟨zB_in 438 (by decide +kernel) (by decide +kernel), zB_in 47 (by decide +kernel) (by decide +kernel), ⟨by decide +kernel, by decide +kernel, by decide +kernel⟩, zB_in 436 (by decide +kernel) (by decide +kernel), zB_in 437 (by decide +kernel) (by decide +kernel)⟩
theorem my_X3_levels : zYV yX3_levels cX3_levels 4 (some .int) RX3 1 := ⟨zB_in 447 (by decide +kernel) (by decide +kernel), zB_in 47 (by decide +kernel) (by decide +kernel), ⟨by decide +kernel, by decide +kernel, by decide +kernel⟩, zB_in 445 (by decide +kernel) (by decide +kernel), zB_in 446 (by decide +kernel) (by decide +kernel)⟩
theorem my_X3_cuts : zYV yX3_cuts cX3_cuts 3 (some .int) RX3 0 := ⟨zB_in 451 (by decide +kernel) (by decide +kernel), zB_in 47 (by decide +kernel) (by decide +kernel), ⟨by decide +kernel, by decide +kernel, by decide +kernel⟩, zB_in 449 (by decide +kernel) (by decide +kernel), zB_in 450 (by decide +kernel) (by decide +kernel)⟩
theorem my_X3_odds : zYV yX3_odds cX3_odds 10 (some .long) RX3 3 := ⟨zB_in 455 (by decide +kernel) (by decide +kernel), zB_in 47 (by decide +kernel) (by decide +kernel), ⟨by decide +kernel, by decide +kernel, by decide +kernel⟩, zB_in 453 (by decide +kernel) (by decide +kernel), zB_in 454 (by decide +kernel) (by decide +kernel)⟩
theorem my_X3_sheet : zYV yX3_sheet cX3_sheet 4 (some .int) RX3 3 := ⟨zB_in 478 (by decide +kernel) (by decide +kernel), zB_in 47 (by decide +kernel) (by decide +kernel), ⟨by decide +kernel, by decide +kernel, by decide +kernel⟩, zB_in 476 (by decide +kernel) (by decide +kernel), zB_in 477 (by decide +kernel) (by decide +kernel)⟩
theorem my_X3_lose : zYV yX3_lose cX3_lose 3 (some .int) RX3 1 := ⟨zB_in 489 (by decide +kernel) (by decide +kernel), zB_in 47 (by decide +kernel) (by decide +kernel), ⟨by decide +kernel, by decide +kernel, by decide +kernel⟩, zB_in 487 (by decide +kernel) (by decide +kernel), zB_in 488 (by decide +kernel) (by decide +kernel)⟩
theorem my_X3_put : zYV yX3_put cX3_put 6 (some .int) RX3 3 := ⟨zB_in 493 (by decide +kernel) (by decide +kernel), zB_in 47 (by decide +kernel) (by decide +kernel), ⟨by decide +kernel, by decide +kernel, by decide +kernel⟩, zB_in 491 (by decide +kernel) (by decide +kernel), zB_in 492 (by decide +kernel) (by decide +kernel)⟩
theorem my_X3_cell : zYV yX3_cell cX3_cell 5 (some .long) RX3 3 := ⟨zB_in 501 (by decide +kernel) (by decide +kernel), zB_in 47 (by decide +kernel) (by decide +kernel), ⟨by decide +kernel, by decide +kernel, by decide +kernel⟩, zB_in 499 (by decide +kernel) (by decide +kernel), zB_in 500 (by decide +kernel) (by decide +kernel)⟩
theorem my_X3_copy : zYV yX3_copy cX3_copy 8 (some .int) RX3 5 := ⟨zB_in 505 (by decide +kernel) (by decide +kernel), zB_in 47 (by decide +kernel) (by decide +kernel), ⟨by decide +kernel, by decide +kernel, by decide +kernel⟩, zB_in 503 (by decide +kernel) (by decide +kernel), zB_in 504 (by decide +kernel) (by decide +kernel)⟩
theorem my_X3_tell : zYV yX3_tell cX3_tell 2 (some .int) RX3 1 := ⟨zB_in 511 (by decide +kernel) (by decide +kernel), zB_in 47 (by decide +kernel) (by decide +kernel), ⟨by decide +kernel, by decide +kernel, by decide +kernel⟩, zB_in 509 (by decide +kernel) (by decide +kernel), zB_in 510 (by decide +kernel) (by decide +kernel)⟩
theorem my_X3_switchOn : zYV yX3_switchOn cX3_switchOn 2 (some .int) RX3 1 := ⟨zB_in 531 (by decide +kernel) (by decide +kernel), zB_in 47 (by decide +kernel) (by decide +kernel), ⟨by decide +kernel, by decide +kernel, by decide +kernel⟩, zB_in 529 (by decide +kernel) (by decide +kernel), zB_in 530 (by decide +kernel) (by decide +kernel)⟩
theorem my_X3_as : zYV yX3_as cX3_as 3 (some .int) RX3 2 := ⟨zB_in 547 (by decide +kernel) (by decide +kernel), zB_in 47 (by decide +kernel) (by decide +kernel), ⟨by decide +kernel, by decide +kernel, by decide +kernel⟩, zB_in 545 (by decide +kernel) (by decide +kernel), zB_in 546 (by decide +kernel) (by decide +kernel)⟩
theorem my_X3_trace : zYV yX3_trace cX3_trace 1 (some .int) RX3 0 := ⟨zB_in 551 (by decide +kernel) (by decide +kernel), zB_in 47 (by decide +kernel) (by decide +kernel), ⟨by decide +kernel, by decide +kernel, by decide +kernel⟩, zB_in 549 (by decide +kernel) (by decide +kernel), zB_in 550 (by decide +kernel) (by decide +kernel)⟩
theorem my_X3_fault : zYV yX3_fault cX3_fault 1 (some .int) RX3 0 := ⟨zB_in 555 (by decide +kernel) (by decide +kernel), zB_in 47 (by decide +kernel) (by decide +kernel), ⟨by decide +kernel, by decide +kernel, by decide +kernel⟩, zB_in 553 (by decide +kernel) (by decide +kernel), zB_in 554 (by decide +kernel) (by decide +kernel)⟩
theorem my_X3_many : zYV yX3_many cX3_many 2 (some .int) RX3 1 := ⟨zB_in 559 (by decide +kernel) (by decide +kernel), zB_in 47 (by decide +kernel) (by decide +kernel), ⟨by decide +kernel, by decide +kernel, by decide +kernel⟩, zB_in 557 (by decide +kernel) (by decide +kernel), zB_in 558 (by decide +kernel) (by decide +kernel)⟩
theorem my_X3_faulted : zYV yX3_faulted cX3_faulted 2 (some .int) RX3 1 := ⟨zB_in 205 (by decide +kernel) (by decide +kernel), zB_in 47 (by decide +kernel) (by decide +kernel), ⟨by decide +kernel, by decide +kernel, by decide +kernel⟩, zB_in 204 (by decide +kernel) (by decide +kernel), zB_in 0 (by decide +kernel) (by decide +kernel)⟩
theorem my_X3_isSheet : zYS yX3_isSheet cX3_isSheet 1 (some .boolean) 1 := ⟨zB_in 190 (by decide +kernel) (by decide +kernel), zB_in 47 (by decide +kernel) (by decide +kernel), ⟨by decide +kernel, by decide +kernel, by decide +kernel⟩, zB_in 189 (by decide +kernel) (by decide +kernel)⟩
theorem my_X3_isLane : zYS yX3_isLane cX3_isLane 1 (some .boolean) 1 := ⟨zB_in 193 (by decide +kernel) (by decide +kernel), zB_in 47 (by decide +kernel) (by decide +kernel), ⟨by decide +kernel, by decide +kernel, by decide +kernel⟩, zB_in 192 (by decide +kernel) (by decide +kernel)⟩
theorem my_X3_isUnit : zYS yX3_isUnit cX3_isUnit 1 (some .boolean) 1 := ⟨zB_in 340 (by decide +kernel) (by decide +kernel), zB_in 47 (by decide +kernel) (by decide +kernel), ⟨by decide +kernel, by decide +kernel, by decide +kernel⟩, zB_in 339 (by decide +kernel) (by decide +kernel)⟩
theorem my_X3_isLevel : zYS yX3_isLevel cX3_isLevel 1 (some .boolean) 1 := ⟨zB_in 242 (by decide +kernel) (by decide +kernel), zB_in 47 (by decide +kernel) (by decide +kernel), ⟨by decide +kernel, by decide +kernel, by decide +kernel⟩, zB_in 241 (by decide +kernel) (by decide +kernel)⟩
theorem my_X3_isCut : zYS yX3_isCut cX3_isCut 1 (some .boolean) 1 := ⟨zB_in 220 (by decide +kernel) (by decide +kernel), zB_in 47 (by decide +kernel) (by decide +kernel), ⟨by decide +kernel, by decide +kernel, by decide +kernel⟩, zB_in 219 (by decide +kernel) (by decide +kernel)⟩
theorem my_X3_isOfDay : zYS yX3_isOfDay cX3_isOfDay 1 (some .boolean) 1 := ⟨zB_in 397 (by decide +kernel) (by decide +kernel), zB_in 47 (by decide +kernel) (by decide +kernel), ⟨by decide +kernel, by decide +kernel, by decide +kernel⟩, zB_in 396 (by decide +kernel) (by decide +kernel)⟩
theorem my_X3_isAct : zYS yX3_isAct cX3_isAct 2 (some .boolean) 2 := ⟨zB_in 400 (by decide +kernel) (by decide +kernel), zB_in 47 (by decide +kernel) (by decide +kernel), ⟨by decide +kernel, by decide +kernel, by decide +kernel⟩, zB_in 399 (by decide +kernel) (by decide +kernel)⟩
theorem my_X3_endOfDay : zYV yX3_endOfDay cX3_endOfDay 3 (some .int) RX3 1 := ⟨zB_in 414 (by decide +kernel) (by decide +kernel), zB_in 47 (by decide +kernel) (by decide +kernel), ⟨by decide +kernel, by decide +kernel, by decide +kernel⟩, zB_in 413 (by decide +kernel) (by decide +kernel), zB_in 8 (by decide +kernel) (by decide +kernel)⟩
theorem my_X3_countWays : zYV yX3_countWays cX3_countWays 5 none RX3 1 := ⟨zB_in 460 (by decide +kernel) (by decide +kernel), zB_in 47 (by decide +kernel) (by decide +kernel), ⟨by decide +kernel, by decide +kernel, by decide +kernel⟩, zB_in 459 (by decide +kernel) (by decide +kernel), zB_in 9 (by decide +kernel) (by decide +kernel)⟩
theorem my_X3_addLampToWays : zYV yX3_addLampToWays cX3_addLampToWays 4 none RX3 1 := ⟨zB_in 471 (by decide +kernel) (by decide +kernel), zB_in 47 (by decide +kernel) (by decide +kernel), ⟨by decide +kernel, by decide +kernel, by decide +kernel⟩, zB_in 470 (by decide +kernel) (by decide +kernel), zB_in 10 (by decide +kernel) (by decide +kernel)⟩
theorem my_X3_levelsThatLight : zYS yX3_levelsThatLight cX3_levelsThatLight 4 (some .int) 2 := ⟨zB_in 466 (by decide +kernel) (by decide +kernel), zB_in 47 (by decide +kernel) (by decide +kernel), ⟨by decide +kernel, by decide +kernel, by decide +kernel⟩, zB_in 465 (by decide +kernel) (by decide +kernel)⟩
theorem my_X3_greatestDivisor : zYS yX3_greatestDivisor cX3_greatestDivisor 7 (some .long) 2 := ⟨zB_in 474 (by decide +kernel) (by decide +kernel), zB_in 47 (by decide +kernel) (by decide +kernel), ⟨by decide +kernel, by decide +kernel, by decide +kernel⟩, zB_in 473 (by decide +kernel) (by decide +kernel)⟩
theorem my_X3_hasBit : zYS yX3_hasBit cX3_hasBit 2 (some .boolean) 2 := ⟨zB_in 292 (by decide +kernel) (by decide +kernel), zB_in 47 (by decide +kernel) (by decide +kernel), ⟨by decide +kernel, by decide +kernel, by decide +kernel⟩, zB_in 291 (by decide +kernel) (by decide +kernel)⟩
theorem my_X3_lightBy : zYS yX3_lightBy cX3_lightBy 3 (some .int) 2 := ⟨zB_in 280 (by decide +kernel) (by decide +kernel), zB_in 47 (by decide +kernel) (by decide +kernel), ⟨by decide +kernel, by decide +kernel, by decide +kernel⟩, zB_in 279 (by decide +kernel) (by decide +kernel)⟩
theorem my_X3_darkestStretch : zYS yX3_darkestStretch cX3_darkestStretch 4 (some .int) 1 := ⟨zB_in 295 (by decide +kernel) (by decide +kernel), zB_in 47 (by decide +kernel) (by decide +kernel), ⟨by decide +kernel, by decide +kernel, by decide +kernel⟩, zB_in 294 (by decide +kernel) (by decide +kernel)⟩
theorem my_X3_turnsOf : zYS yX3_turnsOf cX3_turnsOf 2 (some .int) 1 := ⟨zB_in 303 (by decide +kernel) (by decide +kernel), zB_in 47 (by decide +kernel) (by decide +kernel), ⟨by decide +kernel, by decide +kernel, by decide +kernel⟩, zB_in 302 (by decide +kernel) (by decide +kernel)⟩
theorem my_X3_leaveTrace : zYV yX3_leaveTrace cX3_leaveTrace 2 none RX3 1 := ⟨zB_in 519 (by decide +kernel) (by decide +kernel), zB_in 47 (by decide +kernel) (by decide +kernel), ⟨by decide +kernel, by decide +kernel, by decide +kernel⟩, zB_in 518 (by decide +kernel) (by decide +kernel), zB_in 12 (by decide +kernel) (by decide +kernel)⟩
theorem my_X3_tellPlain : zYV yX3_tellPlain cX3_tellPlain 2 (some .int) RX3 1 := ⟨zB_in 527 (by decide +kernel) (by decide +kernel), zB_in 47 (by decide +kernel) (by decide +kernel), ⟨by decide +kernel, by decide +kernel, by decide +kernel⟩, zB_in 526 (by decide +kernel) (by decide +kernel), zB_in 14 (by decide +kernel) (by decide +kernel)⟩
theorem my_X3_tellHalved : zYV yX3_tellHalved cX3_tellHalved 2 (some .int) RX3 1 := ⟨zB_in 523 (by decide +kernel) (by decide +kernel), zB_in 47 (by decide +kernel) (by decide +kernel), ⟨by decide +kernel, by decide +kernel, by decide +kernel⟩, zB_in 522 (by decide +kernel) (by decide +kernel), zB_in 13 (by decide +kernel) (by decide +kernel)⟩
theorem my_X3_tellBright : zYV yX3_tellBright cX3_tellBright 3 (some .int) RX3 1 := ⟨zB_in 515 (by decide +kernel) (by decide +kernel), zB_in 47 (by decide +kernel) (by decide +kernel), ⟨by decide +kernel, by decide +kernel, by decide +kernel⟩, zB_in 514 (by decide +kernel) (by decide +kernel), zB_in 11 (by decide +kernel) (by decide +kernel)⟩
theorem my_X3_switchLent : zYV yX3_switchLent cX3_switchLent 2 (some .int) RX3 1 := ⟨zB_in 539 (by decide +kernel) (by decide +kernel), zB_in 47 (by decide +kernel) (by decide +kernel), ⟨by decide +kernel, by decide +kernel, by decide +kernel⟩, zB_in 538 (by decide +kernel) (by decide +kernel), zB_in 16 (by decide +kernel) (by decide +kernel)⟩
theorem my_X3_switchBright : zYV yX3_switchBright cX3_switchBright 1 (some .int) RX3 0 := ⟨zB_in 535 (by decide +kernel) (by decide +kernel), zB_in 47 (by decide +kernel) (by decide +kernel), ⟨by decide +kernel, by decide +kernel, by decide +kernel⟩, zB_in 534 (by decide +kernel) (by decide +kernel), zB_in 15 (by decide +kernel) (by decide +kernel)⟩
theorem my_X4_in : zYS yX4_in cX4_in 6 (some .boolean) 3 := ⟨zB_in 674 (by decide +kernel) (by decide +kernel), zB_in 51 (by decide +kernel) (by decide +kernel), ⟨by decide +kernel, by decide +kernel, by decide +kernel⟩, zB_in 673 (by decide +kernel) (by decide +kernel)⟩
theorem my_X4_lost : zYS yX4_lost cX4_lost 0 (some .long) 0 := ⟨zB_in 881 (by decide +kernel) (by decide +kernel), zB_in 51 (by decide +kernel) (by decide +kernel), ⟨by decide +kernel, by decide +kernel, by decide +kernel⟩, zB_in 880 (by decide +kernel) (by decide +kernel)⟩
theorem my_X4_bits : zYS yX4_bits cX4_bits 3 (some .int) 1 := ⟨zB_in 784 (by decide +kernel) (by decide +kernel), zB_in 51 (by decide +kernel) (by decide +kernel), ⟨by decide +kernel, by decide +kernel, by decide +kernel⟩, zB_in 783 (by decide +kernel) (by decide +kernel)⟩
theorem my_X4_share : zYS yX4_share cX4_share 11 (some .long) 3 := ⟨zB_in 892 (by decide +kernel) (by decide +kernel), zB_in 51 (by decide +kernel) (by decide +kernel), ⟨by decide +kernel, by decide +kernel, by decide +kernel⟩, zB_in 891 (by decide +kernel) (by decide +kernel)⟩
theorem my_X4_refused : zYV yX4_refused cX4_refused 2 (some .int) RX4 1 := ⟨zB_in 678 (by decide +kernel) (by decide +kernel), zB_in 51 (by decide +kernel) (by decide +kernel), ⟨by decide +kernel, by decide +kernel, by decide +kernel⟩, zB_in 677 (by decide +kernel) (by decide +kernel), zB_in 17 (by decide +kernel) (by decide +kernel)⟩
theorem my_X4_failed : zYV yX4_failed cX4_failed 2 (some .int) RX4 1 := ⟨zB_in 687 (by decide +kernel) (by decide +kernel), zB_in 51 (by decide +kernel) (by decide +kernel), ⟨by decide +kernel, by decide +kernel, by decide +kernel⟩, zB_in 686 (by decide +kernel) (by decide +kernel), zB_in 19 (by decide +kernel) (by decide +kernel)⟩
theorem my_X4_failedLong : zYV yX4_failedLong cX4_failedLong 2 (some .long) RX4 1 := ⟨zB_in 916 (by decide +kernel) (by decide +kernel), zB_in 51 (by decide +kernel) (by decide +kernel), ⟨by decide +kernel, by decide +kernel, by decide +kernel⟩, zB_in 915 (by decide +kernel) (by decide +kernel), zB_in 44 (by decide +kernel) (by decide +kernel)⟩
theorem my_X4_noModule : zYV yX4_noModule cX4_noModule 2 (some .boolean) RX4 1 := ⟨zB_in 713 (by decide +kernel) (by decide +kernel), zB_in 51 (by decide +kernel) (by decide +kernel), ⟨by decide +kernel, by decide +kernel, by decide +kernel⟩, zB_in 712 (by decide +kernel) (by decide +kernel), zB_in 23 (by decide +kernel) (by decide +kernel)⟩
theorem my_X4_noLamp : zYV yX4_noLamp cX4_noLamp 2 (some .boolean) RX4 1 := ⟨zB_in 721 (by decide +kernel) (by decide +kernel), zB_in 51 (by decide +kernel) (by decide +kernel), ⟨by decide +kernel, by decide +kernel, by decide +kernel⟩, zB_in 720 (by decide +kernel) (by decide +kernel), zB_in 24 (by decide +kernel) (by decide +kernel)⟩
theorem my_X4_codeAt : zYV yX4_codeAt cX4_codeAt 3 (some .int) RX4 2 := ⟨zB_in 698 (by decide +kernel) (by decide +kernel), zB_in 51 (by decide +kernel) (by decide +kernel), ⟨by decide +kernel, by decide +kernel, by decide +kernel⟩, zB_in 697 (by decide +kernel) (by decide +kernel), zB_in 21 (by decide +kernel) (by decide +kernel)⟩
theorem my_X4_readsModule : zYV yX4_readsModule cX4_readsModule 5 (some .boolean) RX4 2 := ⟨zB_in 703 (by decide +kernel) (by decide +kernel), zB_in 51 (by decide +kernel) (by decide +kernel), ⟨by decide +kernel, by decide +kernel, by decide +kernel⟩, zB_in 702 (by decide +kernel) (by decide +kernel), zB_in 22 (by decide +kernel) (by decide +kernel)⟩
theorem my_X4_readsWall : zYV yX4_readsWall cX4_readsWall 4 (some .boolean) RX4 2 := ⟨zB_in 694 (by decide +kernel) (by decide +kernel), zB_in 51 (by decide +kernel) (by decide +kernel), ⟨by decide +kernel, by decide +kernel, by decide +kernel⟩, zB_in 693 (by decide +kernel) (by decide +kernel), zB_in 20 (by decide +kernel) (by decide +kernel)⟩
theorem my_X4_cellsBarred : zYV yX4_cellsBarred cX4_cellsBarred 6 (some .int) RX4 4 := ⟨zB_in 683 (by decide +kernel) (by decide +kernel), zB_in 51 (by decide +kernel) (by decide +kernel), ⟨by decide +kernel, by decide +kernel, by decide +kernel⟩, zB_in 682 (by decide +kernel) (by decide +kernel), zB_in 18 (by decide +kernel) (by decide +kernel)⟩
theorem my_X4_wall : zYV yX4_wall cX4_wall 9 (some .int) RX4 4 := ⟨zB_in 667 (by decide +kernel) (by decide +kernel), zB_in 51 (by decide +kernel) (by decide +kernel), ⟨by decide +kernel, by decide +kernel, by decide +kernel⟩, zB_in 665 (by decide +kernel) (by decide +kernel), zB_in 666 (by decide +kernel) (by decide +kernel)⟩
theorem my_X4_lightBy : zYS yX4_lightBy cX4_lightBy 2 (some .int) 2 := ⟨zB_in 732 (by decide +kernel) (by decide +kernel), zB_in 51 (by decide +kernel) (by decide +kernel), ⟨by decide +kernel, by decide +kernel, by decide +kernel⟩, zB_in 731 (by decide +kernel) (by decide +kernel)⟩
theorem my_X4_light : zYV yX4_light cX4_light 3 (some .int) RX4 1 := ⟨zB_in 729 (by decide +kernel) (by decide +kernel), zB_in 51 (by decide +kernel) (by decide +kernel), ⟨by decide +kernel, by decide +kernel, by decide +kernel⟩, zB_in 728 (by decide +kernel) (by decide +kernel), zB_in 26 (by decide +kernel) (by decide +kernel)⟩
theorem my_X4_lightOfAll : zYV yX4_lightOfAll cX4_lightOfAll 3 (some .int) RX4 0 := ⟨zB_in 850 (by decide +kernel) (by decide +kernel), zB_in 51 (by decide +kernel) (by decide +kernel), ⟨by decide +kernel, by decide +kernel, by decide +kernel⟩, zB_in 849 (by decide +kernel) (by decide +kernel), zB_in 40 (by decide +kernel) (by decide +kernel)⟩
theorem my_X4_slicesOf : zYV yX4_slicesOf cX4_slicesOf 2 (some .int) RX4 1 := ⟨zB_in 797 (by decide +kernel) (by decide +kernel), zB_in 51 (by decide +kernel) (by decide +kernel), ⟨by decide +kernel, by decide +kernel, by decide +kernel⟩, zB_in 796 (by decide +kernel) (by decide +kernel), zB_in 34 (by decide +kernel) (by decide +kernel)⟩
theorem my_X4_frames : zYV yX4_frames cX4_frames 6 none RX4 0 := ⟨zB_in 725 (by decide +kernel) (by decide +kernel), zB_in 51 (by decide +kernel) (by decide +kernel), ⟨by decide +kernel, by decide +kernel, by decide +kernel⟩, zB_in 724 (by decide +kernel) (by decide +kernel), zB_in 25 (by decide +kernel) (by decide +kernel)⟩
theorem my_X4_litBy : zYV yX4_litBy cX4_litBy 4 (some .int) RX4 1 := ⟨zB_in 744 (by decide +kernel) (by decide +kernel), zB_in 51 (by decide +kernel) (by decide +kernel), ⟨by decide +kernel, by decide +kernel, by decide +kernel⟩, zB_in 743 (by decide +kernel) (by decide +kernel), zB_in 29 (by decide +kernel) (by decide +kernel)⟩
theorem my_X4_litOf : zYV yX4_litOf cX4_litOf 2 (some .int) RX4 1 := ⟨zB_in 740 (by decide +kernel) (by decide +kernel), zB_in 51 (by decide +kernel) (by decide +kernel), ⟨by decide +kernel, by decide +kernel, by decide +kernel⟩, zB_in 739 (by decide +kernel) (by decide +kernel), zB_in 28 (by decide +kernel) (by decide +kernel)⟩
theorem my_X4_darkOf : zYV yX4_darkOf cX4_darkOf 6 (some .int) RX4 1 := ⟨zB_in 736 (by decide +kernel) (by decide +kernel), zB_in 51 (by decide +kernel) (by decide +kernel), ⟨by decide +kernel, by decide +kernel, by decide +kernel⟩, zB_in 735 (by decide +kernel) (by decide +kernel), zB_in 27 (by decide +kernel) (by decide +kernel)⟩
theorem my_X4_turnsOf : zYV yX4_turnsOf cX4_turnsOf 5 (some .int) RX4 1 := ⟨zB_in 748 (by decide +kernel) (by decide +kernel), zB_in 51 (by decide +kernel) (by decide +kernel), ⟨by decide +kernel, by decide +kernel, by decide +kernel⟩, zB_in 747 (by decide +kernel) (by decide +kernel), zB_in 30 (by decide +kernel) (by decide +kernel)⟩
theorem my_X4_ghostsOf : zYV yX4_ghostsOf cX4_ghostsOf 3 (some .int) RX4 1 := ⟨zB_in 752 (by decide +kernel) (by decide +kernel), zB_in 51 (by decide +kernel) (by decide +kernel), ⟨by decide +kernel, by decide +kernel, by decide +kernel⟩, zB_in 751 (by decide +kernel) (by decide +kernel), zB_in 31 (by decide +kernel) (by decide +kernel)⟩
theorem my_X4_darkOfAll : zYV yX4_darkOfAll cX4_darkOfAll 3 (some .int) RX4 0 := ⟨zB_in 818 (by decide +kernel) (by decide +kernel), zB_in 51 (by decide +kernel) (by decide +kernel), ⟨by decide +kernel, by decide +kernel, by decide +kernel⟩, zB_in 817 (by decide +kernel) (by decide +kernel), zB_in 37 (by decide +kernel) (by decide +kernel)⟩
theorem my_X4_litIn : zYV yX4_litIn cX4_litIn 4 (some .int) RX4 1 := ⟨zB_in 781 (by decide +kernel) (by decide +kernel), zB_in 51 (by decide +kernel) (by decide +kernel), ⟨by decide +kernel, by decide +kernel, by decide +kernel⟩, zB_in 780 (by decide +kernel) (by decide +kernel), zB_in 32 (by decide +kernel) (by decide +kernel)⟩
theorem my_X4_ofModule : zYV yX4_ofModule cX4_ofModule 5 (some .int) RX4 2 := ⟨zB_in 709 (by decide +kernel) (by decide +kernel), zB_in 51 (by decide +kernel) (by decide +kernel), ⟨by decide +kernel, by decide +kernel, by decide +kernel⟩, zB_in 707 (by decide +kernel) (by decide +kernel), zB_in 708 (by decide +kernel) (by decide +kernel)⟩
theorem my_X4_ofLamp : zYV yX4_ofLamp cX4_ofLamp 3 (some .int) RX4 2 := ⟨zB_in 717 (by decide +kernel) (by decide +kernel), zB_in 51 (by decide +kernel) (by decide +kernel), ⟨by decide +kernel, by decide +kernel, by decide +kernel⟩, zB_in 715 (by decide +kernel) (by decide +kernel), zB_in 716 (by decide +kernel) (by decide +kernel)⟩
theorem my_X4_isFigure : zYS yX4_isFigure cX4_isFigure 1 (some .boolean) 1 := ⟨zB_in 759 (by decide +kernel) (by decide +kernel), zB_in 51 (by decide +kernel) (by decide +kernel), ⟨by decide +kernel, by decide +kernel, by decide +kernel⟩, zB_in 758 (by decide +kernel) (by decide +kernel)⟩
theorem my_X4_level : zYV yX4_level cX4_level 4 (some .int) RX4 2 := ⟨zB_in 756 (by decide +kernel) (by decide +kernel), zB_in 51 (by decide +kernel) (by decide +kernel), ⟨by decide +kernel, by decide +kernel, by decide +kernel⟩, zB_in 754 (by decide +kernel) (by decide +kernel), zB_in 755 (by decide +kernel) (by decide +kernel)⟩
theorem my_X4_die : zYV yX4_die cX4_die 2 (some .int) RX4 1 := ⟨zB_in 764 (by decide +kernel) (by decide +kernel), zB_in 51 (by decide +kernel) (by decide +kernel), ⟨by decide +kernel, by decide +kernel, by decide +kernel⟩, zB_in 762 (by decide +kernel) (by decide +kernel), zB_in 763 (by decide +kernel) (by decide +kernel)⟩
theorem my_X4_isCut : zYS yX4_isCut cX4_isCut 1 (some .boolean) 1 := ⟨zB_in 771 (by decide +kernel) (by decide +kernel), zB_in 51 (by decide +kernel) (by decide +kernel), ⟨by decide +kernel, by decide +kernel, by decide +kernel⟩, zB_in 770 (by decide +kernel) (by decide +kernel)⟩
theorem my_X4_cut : zYV yX4_cut cX4_cut 3 (some .int) RX4 1 := ⟨zB_in 768 (by decide +kernel) (by decide +kernel), zB_in 51 (by decide +kernel) (by decide +kernel), ⟨by decide +kernel, by decide +kernel, by decide +kernel⟩, zB_in 766 (by decide +kernel) (by decide +kernel), zB_in 767 (by decide +kernel) (by decide +kernel)⟩
theorem my_X4_ghostsIn : zYV yX4_ghostsIn cX4_ghostsIn 4 (some .int) RX4 1 := ⟨zB_in 788 (by decide +kernel) (by decide +kernel), zB_in 51 (by decide +kernel) (by decide +kernel), ⟨by decide +kernel, by decide +kernel, by decide +kernel⟩, zB_in 787 (by decide +kernel) (by decide +kernel), zB_in 33 (by decide +kernel) (by decide +kernel)⟩
theorem my_X4_ofUnit : zYV yX4_ofUnit cX4_ofUnit 3 (some .int) RX4 2 := ⟨zB_in 775 (by decide +kernel) (by decide +kernel), zB_in 51 (by decide +kernel) (by decide +kernel), ⟨by decide +kernel, by decide +kernel, by decide +kernel⟩, zB_in 773 (by decide +kernel) (by decide +kernel), zB_in 774 (by decide +kernel) (by decide +kernel)⟩
theorem my_X4_slices : zYV yX4_slices cX4_slices 4 (some .int) RX4 1 := ⟨zB_in 792 (by decide +kernel) (by decide +kernel), zB_in 51 (by decide +kernel) (by decide +kernel), ⟨by decide +kernel, by decide +kernel, by decide +kernel⟩, zB_in 790 (by decide +kernel) (by decide +kernel), zB_in 791 (by decide +kernel) (by decide +kernel)⟩
theorem my_X4_greatest : zYV yX4_greatest cX4_greatest 6 (some .int) RX4 1 := ⟨zB_in 806 (by decide +kernel) (by decide +kernel), zB_in 51 (by decide +kernel) (by decide +kernel), ⟨by decide +kernel, by decide +kernel, by decide +kernel⟩, zB_in 805 (by decide +kernel) (by decide +kernel), zB_in 35 (by decide +kernel) (by decide +kernel)⟩
theorem my_X4_bears : zYV yX4_bears cX4_bears 4 (some .int) RX4 1 := ⟨zB_in 801 (by decide +kernel) (by decide +kernel), zB_in 51 (by decide +kernel) (by decide +kernel), ⟨by decide +kernel, by decide +kernel, by decide +kernel⟩, zB_in 799 (by decide +kernel) (by decide +kernel), zB_in 800 (by decide +kernel) (by decide +kernel)⟩
theorem my_X4_darkBy : zYV yX4_darkBy cX4_darkBy 4 (some .int) RX4 1 := ⟨zB_in 814 (by decide +kernel) (by decide +kernel), zB_in 51 (by decide +kernel) (by decide +kernel), ⟨by decide +kernel, by decide +kernel, by decide +kernel⟩, zB_in 813 (by decide +kernel) (by decide +kernel), zB_in 36 (by decide +kernel) (by decide +kernel)⟩
theorem my_X4_steadiest : zYV yX4_steadiest cX4_steadiest 4 (some .int) RX4 1 := ⟨zB_in 810 (by decide +kernel) (by decide +kernel), zB_in 51 (by decide +kernel) (by decide +kernel), ⟨by decide +kernel, by decide +kernel, by decide +kernel⟩, zB_in 808 (by decide +kernel) (by decide +kernel), zB_in 809 (by decide +kernel) (by decide +kernel)⟩
theorem my_X4_send : zYV yX4_send cX4_send 12 (some .int) RX4 4 := ⟨zB_in 822 (by decide +kernel) (by decide +kernel), zB_in 51 (by decide +kernel) (by decide +kernel), ⟨by decide +kernel, by decide +kernel, by decide +kernel⟩, zB_in 820 (by decide +kernel) (by decide +kernel), zB_in 821 (by decide +kernel) (by decide +kernel)⟩
theorem my_X4_isAsTold : zYS yX4_isAsTold cX4_isAsTold 2 (some .boolean) 2 := ⟨zB_in 832 (by decide +kernel) (by decide +kernel), zB_in 51 (by decide +kernel) (by decide +kernel), ⟨by decide +kernel, by decide +kernel, by decide +kernel⟩, zB_in 831 (by decide +kernel) (by decide +kernel)⟩
theorem my_X4_doesPair : zYV yX4_doesPair cX4_doesPair 3 (some .boolean) RX4 2 := ⟨zB_in 843 (by decide +kernel) (by decide +kernel), zB_in 51 (by decide +kernel) (by decide +kernel), ⟨by decide +kernel, by decide +kernel, by decide +kernel⟩, zB_in 842 (by decide +kernel) (by decide +kernel), zB_in 39 (by decide +kernel) (by decide +kernel)⟩
theorem my_X4_dayOf : zYV yX4_dayOf cX4_dayOf 7 (some .int) RX4 3 := ⟨zB_in 839 (by decide +kernel) (by decide +kernel), zB_in 51 (by decide +kernel) (by decide +kernel), ⟨by decide +kernel, by decide +kernel, by decide +kernel⟩, zB_in 838 (by decide +kernel) (by decide +kernel), zB_in 38 (by decide +kernel) (by decide +kernel)⟩
theorem my_X4_day : zYV yX4_day cX4_day 11 (some .int) RX4 5 := ⟨zB_in 827 (by decide +kernel) (by decide +kernel), zB_in 51 (by decide +kernel) (by decide +kernel), ⟨by decide +kernel, by decide +kernel, by decide +kernel⟩, zB_in 825 (by decide +kernel) (by decide +kernel), zB_in 826 (by decide +kernel) (by decide +kernel)⟩
theorem my_X4_reading : zYV yX4_reading cX4_reading 4 (some .int) RX4 3 := ⟨zB_in 854 (by decide +kernel) (by decide +kernel), zB_in 51 (by decide +kernel) (by decide +kernel), ⟨by decide +kernel, by decide +kernel, by decide +kernel⟩, zB_in 852 (by decide +kernel) (by decide +kernel), zB_in 853 (by decide +kernel) (by decide +kernel)⟩
theorem my_X4_back : zYV yX4_back cX4_back 2 (some .int) RX4 1 := ⟨zB_in 858 (by decide +kernel) (by decide +kernel), zB_in 51 (by decide +kernel) (by decide +kernel), ⟨by decide +kernel, by decide +kernel, by decide +kernel⟩, zB_in 856 (by decide +kernel) (by decide +kernel), zB_in 857 (by decide +kernel) (by decide +kernel)⟩
theorem my_X4_areSo : zYV yX4_areSo cX4_areSo 3 (some .boolean) RX4 0 := ⟨zB_in 866 (by decide +kernel) (by decide +kernel), zB_in 51 (by decide +kernel) (by decide +kernel), ⟨by decide +kernel, by decide +kernel, by decide +kernel⟩, zB_in 865 (by decide +kernel) (by decide +kernel), zB_in 41 (by decide +kernel) (by decide +kernel)⟩
theorem my_X4_kinds : zYV yX4_kinds cX4_kinds 5 (some .int) RX4 1 := ⟨zB_in 862 (by decide +kernel) (by decide +kernel), zB_in 51 (by decide +kernel) (by decide +kernel), ⟨by decide +kernel, by decide +kernel, by decide +kernel⟩, zB_in 860 (by decide +kernel) (by decide +kernel), zB_in 861 (by decide +kernel) (by decide +kernel)⟩
theorem my_X4_levels : zYV yX4_levels cX4_levels 5 (some .int) RX4 1 := ⟨zB_in 870 (by decide +kernel) (by decide +kernel), zB_in 51 (by decide +kernel) (by decide +kernel), ⟨by decide +kernel, by decide +kernel, by decide +kernel⟩, zB_in 868 (by decide +kernel) (by decide +kernel), zB_in 869 (by decide +kernel) (by decide +kernel)⟩
theorem my_X4_cuts : zYV yX4_cuts cX4_cuts 4 (some .int) RX4 0 := ⟨zB_in 874 (by decide +kernel) (by decide +kernel), zB_in 51 (by decide +kernel) (by decide +kernel), ⟨by decide +kernel, by decide +kernel, by decide +kernel⟩, zB_in 872 (by decide +kernel) (by decide +kernel), zB_in 873 (by decide +kernel) (by decide +kernel)⟩
theorem my_X4_addsLamp : zYV yX4_addsLamp cX4_addsLamp 5 none RX4 1 := ⟨zB_in 889 (by decide +kernel) (by decide +kernel), zB_in 51 (by decide +kernel) (by decide +kernel), ⟨by decide +kernel, by decide +kernel, by decide +kernel⟩, zB_in 888 (by decide +kernel) (by decide +kernel), zB_in 42 (by decide +kernel) (by decide +kernel)⟩
theorem my_X4_levelsLit : zYS yX4_levelsLit cX4_levelsLit 4 (some .int) 2 := ⟨zB_in 885 (by decide +kernel) (by decide +kernel), zB_in 51 (by decide +kernel) (by decide +kernel), ⟨by decide +kernel, by decide +kernel, by decide +kernel⟩, zB_in 884 (by decide +kernel) (by decide +kernel)⟩
theorem my_X4_odds : zYV yX4_odds cX4_odds 9 (some .long) RX4 3 := ⟨zB_in 878 (by decide +kernel) (by decide +kernel), zB_in 51 (by decide +kernel) (by decide +kernel), ⟨by decide +kernel, by decide +kernel, by decide +kernel⟩, zB_in 876 (by decide +kernel) (by decide +kernel), zB_in 877 (by decide +kernel) (by decide +kernel)⟩
theorem my_X4_noSheet : zYS yX4_noSheet cX4_noSheet 1 (some .boolean) 1 := ⟨zB_in 670 (by decide +kernel) (by decide +kernel), zB_in 51 (by decide +kernel) (by decide +kernel), ⟨by decide +kernel, by decide +kernel, by decide +kernel⟩, zB_in 669 (by decide +kernel) (by decide +kernel)⟩
theorem my_X4_sheet : zYV yX4_sheet cX4_sheet 5 (some .int) RX4 3 := ⟨zB_in 896 (by decide +kernel) (by decide +kernel), zB_in 51 (by decide +kernel) (by decide +kernel), ⟨by decide +kernel, by decide +kernel, by decide +kernel⟩, zB_in 894 (by decide +kernel) (by decide +kernel), zB_in 895 (by decide +kernel) (by decide +kernel)⟩
theorem my_X4_lose : zYV yX4_lose cX4_lose 3 (some .int) RX4 1 := ⟨zB_in 900 (by decide +kernel) (by decide +kernel), zB_in 51 (by decide +kernel) (by decide +kernel), ⟨by decide +kernel, by decide +kernel, by decide +kernel⟩, zB_in 898 (by decide +kernel) (by decide +kernel), zB_in 899 (by decide +kernel) (by decide +kernel)⟩
theorem my_X4_noCell : zYV yX4_noCell cX4_noCell 3 (some .int) RX4 2 := ⟨zB_in 908 (by decide +kernel) (by decide +kernel), zB_in 51 (by decide +kernel) (by decide +kernel), ⟨by decide +kernel, by decide +kernel, by decide +kernel⟩, zB_in 907 (by decide +kernel) (by decide +kernel), zB_in 43 (by decide +kernel) (by decide +kernel)⟩
theorem my_X4_put : zYV yX4_put cX4_put 4 (some .int) RX4 3 := ⟨zB_in 904 (by decide +kernel) (by decide +kernel), zB_in 51 (by decide +kernel) (by decide +kernel), ⟨by decide +kernel, by decide +kernel, by decide +kernel⟩, zB_in 902 (by decide +kernel) (by decide +kernel), zB_in 903 (by decide +kernel) (by decide +kernel)⟩
theorem my_X4_cell : zYV yX4_cell cX4_cell 4 (some .long) RX4 3 := ⟨zB_in 912 (by decide +kernel) (by decide +kernel), zB_in 51 (by decide +kernel) (by decide +kernel), ⟨by decide +kernel, by decide +kernel, by decide +kernel⟩, zB_in 910 (by decide +kernel) (by decide +kernel), zB_in 911 (by decide +kernel) (by decide +kernel)⟩
theorem my_X4_isBeyond : zYS yX4_isBeyond cX4_isBeyond 4 (some .boolean) 3 := ⟨zB_in 690 (by decide +kernel) (by decide +kernel), zB_in 51 (by decide +kernel) (by decide +kernel), ⟨by decide +kernel, by decide +kernel, by decide +kernel⟩, zB_in 689 (by decide +kernel) (by decide +kernel)⟩
theorem my_X4_copy : zYV yX4_copy cX4_copy 7 (some .int) RX4 5 := ⟨zB_in 920 (by decide +kernel) (by decide +kernel), zB_in 51 (by decide +kernel) (by decide +kernel), ⟨by decide +kernel, by decide +kernel, by decide +kernel⟩, zB_in 918 (by decide +kernel) (by decide +kernel), zB_in 919 (by decide +kernel) (by decide +kernel)⟩
theorem my_X4_traced : zYV yX4_traced cX4_traced 2 none RX4 1 := ⟨zB_in 928 (by decide +kernel) (by decide +kernel), zB_in 51 (by decide +kernel) (by decide +kernel), ⟨by decide +kernel, by decide +kernel, by decide +kernel⟩, zB_in 927 (by decide +kernel) (by decide +kernel), zB_in 45 (by decide +kernel) (by decide +kernel)⟩
theorem my_X4_tell : zYV yX4_tell cX4_tell 4 (some .int) RX4 1 := ⟨zB_in 924 (by decide +kernel) (by decide +kernel), zB_in 51 (by decide +kernel) (by decide +kernel), ⟨by decide +kernel, by decide +kernel, by decide +kernel⟩, zB_in 922 (by decide +kernel) (by decide +kernel), zB_in 923 (by decide +kernel) (by decide +kernel)⟩
theorem my_X4_switchOn : zYV yX4_switchOn cX4_switchOn 4 (some .int) RX4 1 := ⟨zB_in 932 (by decide +kernel) (by decide +kernel), zB_in 51 (by decide +kernel) (by decide +kernel), ⟨by decide +kernel, by decide +kernel, by decide +kernel⟩, zB_in 930 (by decide +kernel) (by decide +kernel), zB_in 931 (by decide +kernel) (by decide +kernel)⟩
theorem my_X4_as : zYV yX4_as cX4_as 3 (some .int) RX4 2 := ⟨zB_in 936 (by decide +kernel) (by decide +kernel), zB_in 51 (by decide +kernel) (by decide +kernel), ⟨by decide +kernel, by decide +kernel, by decide +kernel⟩, zB_in 934 (by decide +kernel) (by decide +kernel), zB_in 935 (by decide +kernel) (by decide +kernel)⟩
theorem my_X4_trace : zYV yX4_trace cX4_trace 1 (some .int) RX4 0 := ⟨zB_in 940 (by decide +kernel) (by decide +kernel), zB_in 51 (by decide +kernel) (by decide +kernel), ⟨by decide +kernel, by decide +kernel, by decide +kernel⟩, zB_in 938 (by decide +kernel) (by decide +kernel), zB_in 939 (by decide +kernel) (by decide +kernel)⟩
theorem my_X4_fault : zYV yX4_fault cX4_fault 1 (some .int) RX4 0 := ⟨zB_in 944 (by decide +kernel) (by decide +kernel), zB_in 51 (by decide +kernel) (by decide +kernel), ⟨by decide +kernel, by decide +kernel, by decide +kernel⟩, zB_in 942 (by decide +kernel) (by decide +kernel), zB_in 943 (by decide +kernel) (by decide +kernel)⟩
theorem my_X4_many : zYV yX4_many cX4_many 4 (some .int) RX4 1 := ⟨zB_in 948 (by decide +kernel) (by decide +kernel), zB_in 51 (by decide +kernel) (by decide +kernel), ⟨by decide +kernel, by decide +kernel, by decide +kernel⟩, zB_in 946 (by decide +kernel) (by decide +kernel), zB_in 947 (by decide +kernel) (by decide +kernel)⟩
theorem my_J6_bitCount_0f7a4 : zYS yJ6_bitCount_0f7a4 cJ6_bitCount_0f7a4 1 (some .int) 1 := ⟨zB_in 306 (by decide +kernel) (by decide +kernel), zB_in 54 (by decide +kernel) (by decide +kernel), ⟨by decide +kernel, by decide +kernel, by decide +kernel⟩, zB_in 305 (by decide +kernel) (by decide +kernel)⟩
theorem my_J7_fill_d0a16 : zYS yJ7_fill_d0a16 cJ7_fill_d0a16 5 none 2 := ⟨zB_in 463 (by decide +kernel) (by decide +kernel), zB_in 55 (by decide +kernel) (by decide +kernel), ⟨by decide +kernel, by decide +kernel, by decide +kernel⟩, zB_in 462 (by decide +kernel) (by decide +kernel)⟩
theorem my_J7_fill_53178 : zYS yJ7_fill_53178 cJ7_fill_53178 4 none 2 := ⟨zB_in 485 (by decide +kernel) (by decide +kernel), zB_in 55 (by decide +kernel) (by decide +kernel), ⟨by decide +kernel, by decide +kernel, by decide +kernel⟩, zB_in 484 (by decide +kernel) (by decide +kernel)⟩
def zRw (ad : Nat → Nat) : Nat → Option Nat := va_up (va_up (va_up (va_up (fun _ => none) 0 (some (ad 2))) 1 (some (ad 4))) 2 (some (ad 6))) 3 (some (ad 8))
theorem zRw_at {ad : Nat → Nat} {k : Nat} (h : k < 4) : zRw ad k = some (ad (2 + 2 * k)) := by
  match k, h with
  | 0, _ => rfl
  | 1, _ => rfl
  | 2, _ => rfl
  | 3, _ => rfl
def wdS (ad : Nat → Nat) (cy : Nat → ClassId) (s : zS) : va_W := [((ad 0), .inr (1, [.ref (ad 1), .int (s 1 0), .int (s 2 0), .int (s 3 0)])), ((ad 1), .inl (cy 0, 60, .inl (s 0)))]
theorem wdS_0 {ad : Nat → Nat} {cy : Nat → ClassId} {s : zS} : (wdS ad cy s)[0]? = some ((ad 0), .inr (1, [.ref (ad 1), .int (s 1 0), .int (s 2 0), .int (s 3 0)])) := rfl
theorem wdS_1 {ad : Nat → Nat} {cy : Nat → ClassId} {s : zS} : (wdS ad cy s)[1]? = some ((ad 1), .inl (cy 0, 60, .inl (s 0))) := rfl
def wdR (ad : Nat → Nat) (cy : Nat → ClassId) (r : zS) : va_W := [((ad 0), .inr (0, [.ref (ad 1), .ref (ad 2), .ref (ad 3), .int (r 3 0)])), ((ad 1), .inl (cy 0, 8, .inl (r 0))), ((ad 2), .inl (cy 0, 8, .inl (r 1))), ((ad 3), .inl (cy 1, 8, .inl (r 2)))]
theorem wdR_0 {ad : Nat → Nat} {cy : Nat → ClassId} {r : zS} : (wdR ad cy r)[0]? = some ((ad 0), .inr (0, [.ref (ad 1), .ref (ad 2), .ref (ad 3), .int (r 3 0)])) := rfl
theorem wdR_1 {ad : Nat → Nat} {cy : Nat → ClassId} {r : zS} : (wdR ad cy r)[1]? = some ((ad 1), .inl (cy 0, 8, .inl (r 0))) := rfl
theorem wdR_2 {ad : Nat → Nat} {cy : Nat → ClassId} {r : zS} : (wdR ad cy r)[2]? = some ((ad 2), .inl (cy 0, 8, .inl (r 1))) := rfl
theorem wdR_3 {ad : Nat → Nat} {cy : Nat → ClassId} {r : zS} : (wdR ad cy r)[3]? = some ((ad 3), .inl (cy 1, 8, .inl (r 2))) := rfl
def wdW (ad : Nat → Nat) (cy : Nat → ClassId) (n : zS) : va_W := [((ad 0), .inr (2, [.ref (ad 1), .ref (ad 2), .ref (ad 3), .ref (ad 4), .ref (ad 5), .ref (ad 6), .ref (ad 7), .ref (ad 8), .int (n 8 0), .int (n 9 0), .int (n 10 0)])), ((ad 1), .inl (cy 0, 4, .inl (n 0))), ((ad 2), .inl (cy 0, 4, .inl (n 1))), ((ad 3), .inl (cy 0, 4, .inl (n 2))), ((ad 4), .inl (cy 1, 4, .inl (n 3))), ((ad 5), .inl (cy 0, 16, .inl (n 4))), ((ad 6), .inl (cy 0, 16, .inl (n 5))), ((ad 7), .inl (cy 0, 15, .inl (n 6))), ((ad 8), .inl (cy 0, 15, .inl (n 7)))]
theorem wdW_0 {ad : Nat → Nat} {cy : Nat → ClassId} {n : zS} : (wdW ad cy n)[0]? = some ((ad 0), .inr (2, [.ref (ad 1), .ref (ad 2), .ref (ad 3), .ref (ad 4), .ref (ad 5), .ref (ad 6), .ref (ad 7), .ref (ad 8), .int (n 8 0), .int (n 9 0), .int (n 10 0)])) := rfl
theorem wdW_1 {ad : Nat → Nat} {cy : Nat → ClassId} {n : zS} : (wdW ad cy n)[1]? = some ((ad 1), .inl (cy 0, 4, .inl (n 0))) := rfl
theorem wdW_2 {ad : Nat → Nat} {cy : Nat → ClassId} {n : zS} : (wdW ad cy n)[2]? = some ((ad 2), .inl (cy 0, 4, .inl (n 1))) := rfl
theorem wdW_3 {ad : Nat → Nat} {cy : Nat → ClassId} {n : zS} : (wdW ad cy n)[3]? = some ((ad 3), .inl (cy 0, 4, .inl (n 2))) := rfl
theorem wdW_4 {ad : Nat → Nat} {cy : Nat → ClassId} {n : zS} : (wdW ad cy n)[4]? = some ((ad 4), .inl (cy 1, 4, .inl (n 3))) := rfl
theorem wdW_5 {ad : Nat → Nat} {cy : Nat → ClassId} {n : zS} : (wdW ad cy n)[5]? = some ((ad 5), .inl (cy 0, 16, .inl (n 4))) := rfl
theorem wdW_6 {ad : Nat → Nat} {cy : Nat → ClassId} {n : zS} : (wdW ad cy n)[6]? = some ((ad 6), .inl (cy 0, 16, .inl (n 5))) := rfl
theorem wdW_7 {ad : Nat → Nat} {cy : Nat → ClassId} {n : zS} : (wdW ad cy n)[7]? = some ((ad 7), .inl (cy 0, 15, .inl (n 6))) := rfl
theorem wdW_8 {ad : Nat → Nat} {cy : Nat → ClassId} {n : zS} : (wdW ad cy n)[8]? = some ((ad 8), .inl (cy 0, 15, .inl (n 7))) := rfl
def wdWS (ad : Nat → Nat) (a2 : Nat → Nat) (cy : Nat → ClassId) (n : zS) (s : zS) : va_W := [((ad 0), .inr (2, [.ref (ad 1), .ref (ad 2), .ref (ad 3), .ref (ad 4), .ref (ad 5), .ref (ad 6), .ref (ad 7), .ref (ad 8), .int (n 8 0), .int (n 9 0), .int (n 10 0)])), ((ad 1), .inl (cy 0, 4, .inl (n 0))), ((ad 2), .inl (cy 0, 4, .inl (n 1))), ((ad 3), .inl (cy 0, 4, .inl (n 2))), ((ad 4), .inl (cy 1, 4, .inl (n 3))), ((ad 5), .inl (cy 0, 16, .inl (n 4))), ((ad 6), .inl (cy 0, 16, .inl (n 5))), ((ad 7), .inl (cy 0, 15, .inl (n 6))), ((ad 8), .inl (cy 0, 15, .inl (n 7))), ((a2 0), .inr (1, [.ref (a2 1), .int (s 1 0), .int (s 2 0), .int (s 3 0)])), ((a2 1), .inl (cy 0, 60, .inl (s 0)))]
theorem wdWS_0 {ad : Nat → Nat} {a2 : Nat → Nat} {cy : Nat → ClassId} {n : zS} {s : zS} : (wdWS ad a2 cy n s)[0]? = some ((ad 0), .inr (2, [.ref (ad 1), .ref (ad 2), .ref (ad 3), .ref (ad 4), .ref (ad 5), .ref (ad 6), .ref (ad 7), .ref (ad 8), .int (n 8 0), .int (n 9 0), .int (n 10 0)])) := rfl
theorem wdWS_1 {ad : Nat → Nat} {a2 : Nat → Nat} {cy : Nat → ClassId} {n : zS} {s : zS} : (wdWS ad a2 cy n s)[1]? = some ((ad 1), .inl (cy 0, 4, .inl (n 0))) := rfl
theorem wdWS_2 {ad : Nat → Nat} {a2 : Nat → Nat} {cy : Nat → ClassId} {n : zS} {s : zS} : (wdWS ad a2 cy n s)[2]? = some ((ad 2), .inl (cy 0, 4, .inl (n 1))) := rfl
theorem wdWS_3 {ad : Nat → Nat} {a2 : Nat → Nat} {cy : Nat → ClassId} {n : zS} {s : zS} : (wdWS ad a2 cy n s)[3]? = some ((ad 3), .inl (cy 0, 4, .inl (n 2))) := rfl
theorem wdWS_4 {ad : Nat → Nat} {a2 : Nat → Nat} {cy : Nat → ClassId} {n : zS} {s : zS} : (wdWS ad a2 cy n s)[4]? = some ((ad 4), .inl (cy 1, 4, .inl (n 3))) := rfl
theorem wdWS_5 {ad : Nat → Nat} {a2 : Nat → Nat} {cy : Nat → ClassId} {n : zS} {s : zS} : (wdWS ad a2 cy n s)[5]? = some ((ad 5), .inl (cy 0, 16, .inl (n 4))) := rfl
theorem wdWS_6 {ad : Nat → Nat} {a2 : Nat → Nat} {cy : Nat → ClassId} {n : zS} {s : zS} : (wdWS ad a2 cy n s)[6]? = some ((ad 6), .inl (cy 0, 16, .inl (n 5))) := rfl
theorem wdWS_7 {ad : Nat → Nat} {a2 : Nat → Nat} {cy : Nat → ClassId} {n : zS} {s : zS} : (wdWS ad a2 cy n s)[7]? = some ((ad 7), .inl (cy 0, 15, .inl (n 6))) := rfl
theorem wdWS_8 {ad : Nat → Nat} {a2 : Nat → Nat} {cy : Nat → ClassId} {n : zS} {s : zS} : (wdWS ad a2 cy n s)[8]? = some ((ad 8), .inl (cy 0, 15, .inl (n 7))) := rfl
theorem wdWS_9 {ad : Nat → Nat} {a2 : Nat → Nat} {cy : Nat → ClassId} {n : zS} {s : zS} : (wdWS ad a2 cy n s)[9]? = some ((a2 0), .inr (1, [.ref (a2 1), .int (s 1 0), .int (s 2 0), .int (s 3 0)])) := rfl
theorem wdWS_10 {ad : Nat → Nat} {a2 : Nat → Nat} {cy : Nat → ClassId} {n : zS} {s : zS} : (wdWS ad a2 cy n s)[10]? = some ((a2 1), .inl (cy 0, 60, .inl (s 0))) := rfl
def wdWW (ad : Nat → Nat) (a2 : Nat → Nat) (cy : Nat → ClassId) (n : zS) (t : zS) : va_W := [((ad 0), .inr (2, [.ref (ad 1), .ref (ad 2), .ref (ad 3), .ref (ad 4), .ref (ad 5), .ref (ad 6), .ref (ad 7), .ref (ad 8), .int (n 8 0), .int (n 9 0), .int (n 10 0)])), ((ad 1), .inl (cy 0, 4, .inl (n 0))), ((ad 2), .inl (cy 0, 4, .inl (n 1))), ((ad 3), .inl (cy 0, 4, .inl (n 2))), ((ad 4), .inl (cy 1, 4, .inl (n 3))), ((ad 5), .inl (cy 0, 16, .inl (n 4))), ((ad 6), .inl (cy 0, 16, .inl (n 5))), ((ad 7), .inl (cy 0, 15, .inl (n 6))), ((ad 8), .inl (cy 0, 15, .inl (n 7))), ((a2 0), .inr (2, [.ref (a2 1), .ref (a2 2), .ref (a2 3), .ref (a2 4), .ref (a2 5), .ref (a2 6), .ref (a2 7), .ref (a2 8), .int (t 8 0), .int (t 9 0), .int (t 10 0)])), ((a2 1), .inl (cy 0, 4, .inl (t 0))), ((a2 2), .inl (cy 0, 4, .inl (t 1))), ((a2 3), .inl (cy 0, 4, .inl (t 2))), ((a2 4), .inl (cy 1, 4, .inl (t 3))), ((a2 5), .inl (cy 0, 16, .inl (t 4))), ((a2 6), .inl (cy 0, 16, .inl (t 5))), ((a2 7), .inl (cy 0, 15, .inl (t 6))), ((a2 8), .inl (cy 0, 15, .inl (t 7)))]
theorem wdWW_0 {ad : Nat → Nat} {a2 : Nat → Nat} {cy : Nat → ClassId} {n : zS} {t : zS} : (wdWW ad a2 cy n t)[0]? = some ((ad 0), .inr (2, [.ref (ad 1), .ref (ad 2), .ref (ad 3), .ref (ad 4), .ref (ad 5), .ref (ad 6), .ref (ad 7), .ref (ad 8), .int (n 8 0), .int (n 9 0), .int (n 10 0)])) := rfl
theorem wdWW_1 {ad : Nat → Nat} {a2 : Nat → Nat} {cy : Nat → ClassId} {n : zS} {t : zS} : (wdWW ad a2 cy n t)[1]? = some ((ad 1), .inl (cy 0, 4, .inl (n 0))) := rfl
theorem wdWW_2 {ad : Nat → Nat} {a2 : Nat → Nat} {cy : Nat → ClassId} {n : zS} {t : zS} : (wdWW ad a2 cy n t)[2]? = some ((ad 2), .inl (cy 0, 4, .inl (n 1))) := rfl
theorem wdWW_3 {ad : Nat → Nat} {a2 : Nat → Nat} {cy : Nat → ClassId} {n : zS} {t : zS} : (wdWW ad a2 cy n t)[3]? = some ((ad 3), .inl (cy 0, 4, .inl (n 2))) := rfl
theorem wdWW_4 {ad : Nat → Nat} {a2 : Nat → Nat} {cy : Nat → ClassId} {n : zS} {t : zS} : (wdWW ad a2 cy n t)[4]? = some ((ad 4), .inl (cy 1, 4, .inl (n 3))) := rfl
theorem wdWW_5 {ad : Nat → Nat} {a2 : Nat → Nat} {cy : Nat → ClassId} {n : zS} {t : zS} : (wdWW ad a2 cy n t)[5]? = some ((ad 5), .inl (cy 0, 16, .inl (n 4))) := rfl
theorem wdWW_6 {ad : Nat → Nat} {a2 : Nat → Nat} {cy : Nat → ClassId} {n : zS} {t : zS} : (wdWW ad a2 cy n t)[6]? = some ((ad 6), .inl (cy 0, 16, .inl (n 5))) := rfl
theorem wdWW_7 {ad : Nat → Nat} {a2 : Nat → Nat} {cy : Nat → ClassId} {n : zS} {t : zS} : (wdWW ad a2 cy n t)[7]? = some ((ad 7), .inl (cy 0, 15, .inl (n 6))) := rfl
theorem wdWW_8 {ad : Nat → Nat} {a2 : Nat → Nat} {cy : Nat → ClassId} {n : zS} {t : zS} : (wdWW ad a2 cy n t)[8]? = some ((ad 8), .inl (cy 0, 15, .inl (n 7))) := rfl
theorem wdWW_9 {ad : Nat → Nat} {a2 : Nat → Nat} {cy : Nat → ClassId} {n : zS} {t : zS} : (wdWW ad a2 cy n t)[9]? = some ((a2 0), .inr (2, [.ref (a2 1), .ref (a2 2), .ref (a2 3), .ref (a2 4), .ref (a2 5), .ref (a2 6), .ref (a2 7), .ref (a2 8), .int (t 8 0), .int (t 9 0), .int (t 10 0)])) := rfl
theorem wdWW_10 {ad : Nat → Nat} {a2 : Nat → Nat} {cy : Nat → ClassId} {n : zS} {t : zS} : (wdWW ad a2 cy n t)[10]? = some ((a2 1), .inl (cy 0, 4, .inl (t 0))) := rfl
theorem wdWW_11 {ad : Nat → Nat} {a2 : Nat → Nat} {cy : Nat → ClassId} {n : zS} {t : zS} : (wdWW ad a2 cy n t)[11]? = some ((a2 2), .inl (cy 0, 4, .inl (t 1))) := rfl
theorem wdWW_12 {ad : Nat → Nat} {a2 : Nat → Nat} {cy : Nat → ClassId} {n : zS} {t : zS} : (wdWW ad a2 cy n t)[12]? = some ((a2 3), .inl (cy 0, 4, .inl (t 2))) := rfl
theorem wdWW_13 {ad : Nat → Nat} {a2 : Nat → Nat} {cy : Nat → ClassId} {n : zS} {t : zS} : (wdWW ad a2 cy n t)[13]? = some ((a2 4), .inl (cy 1, 4, .inl (t 3))) := rfl
theorem wdWW_14 {ad : Nat → Nat} {a2 : Nat → Nat} {cy : Nat → ClassId} {n : zS} {t : zS} : (wdWW ad a2 cy n t)[14]? = some ((a2 5), .inl (cy 0, 16, .inl (t 4))) := rfl
theorem wdWW_15 {ad : Nat → Nat} {a2 : Nat → Nat} {cy : Nat → ClassId} {n : zS} {t : zS} : (wdWW ad a2 cy n t)[15]? = some ((a2 6), .inl (cy 0, 16, .inl (t 5))) := rfl
theorem wdWW_16 {ad : Nat → Nat} {a2 : Nat → Nat} {cy : Nat → ClassId} {n : zS} {t : zS} : (wdWW ad a2 cy n t)[16]? = some ((a2 7), .inl (cy 0, 15, .inl (t 6))) := rfl
theorem wdWW_17 {ad : Nat → Nat} {a2 : Nat → Nat} {cy : Nat → ClassId} {n : zS} {t : zS} : (wdWW ad a2 cy n t)[17]? = some ((a2 8), .inl (cy 0, 15, .inl (t 7))) := rfl
def wdRW (ad : Nat → Nat) (a2 : Nat → Nat) (cy : Nat → ClassId) (r : zS) (n : zS) : va_W := [((ad 0), .inr (0, [.ref (ad 1), .ref (ad 2), .ref (ad 3), .int (r 3 0)])), ((ad 1), .inl (cy 0, 8, .inl (r 0))), ((ad 2), .inl (cy 0, 8, .inl (r 1))), ((ad 3), .inl (cy 1, 8, .inl (r 2))), ((a2 0), .inr (2, [.ref (a2 1), .ref (a2 2), .ref (a2 3), .ref (a2 4), .ref (a2 5), .ref (a2 6), .ref (a2 7), .ref (a2 8), .int (n 8 0), .int (n 9 0), .int (n 10 0)])), ((a2 1), .inl (cy 0, 4, .inl (n 0))), ((a2 2), .inl (cy 0, 4, .inl (n 1))), ((a2 3), .inl (cy 0, 4, .inl (n 2))), ((a2 4), .inl (cy 1, 4, .inl (n 3))), ((a2 5), .inl (cy 0, 16, .inl (n 4))), ((a2 6), .inl (cy 0, 16, .inl (n 5))), ((a2 7), .inl (cy 0, 15, .inl (n 6))), ((a2 8), .inl (cy 0, 15, .inl (n 7)))]
theorem wdRW_0 {ad : Nat → Nat} {a2 : Nat → Nat} {cy : Nat → ClassId} {r : zS} {n : zS} : (wdRW ad a2 cy r n)[0]? = some ((ad 0), .inr (0, [.ref (ad 1), .ref (ad 2), .ref (ad 3), .int (r 3 0)])) := rfl
theorem wdRW_1 {ad : Nat → Nat} {a2 : Nat → Nat} {cy : Nat → ClassId} {r : zS} {n : zS} : (wdRW ad a2 cy r n)[1]? = some ((ad 1), .inl (cy 0, 8, .inl (r 0))) := rfl
theorem wdRW_2 {ad : Nat → Nat} {a2 : Nat → Nat} {cy : Nat → ClassId} {r : zS} {n : zS} : (wdRW ad a2 cy r n)[2]? = some ((ad 2), .inl (cy 0, 8, .inl (r 1))) := rfl
theorem wdRW_3 {ad : Nat → Nat} {a2 : Nat → Nat} {cy : Nat → ClassId} {r : zS} {n : zS} : (wdRW ad a2 cy r n)[3]? = some ((ad 3), .inl (cy 1, 8, .inl (r 2))) := rfl
theorem wdRW_4 {ad : Nat → Nat} {a2 : Nat → Nat} {cy : Nat → ClassId} {r : zS} {n : zS} : (wdRW ad a2 cy r n)[4]? = some ((a2 0), .inr (2, [.ref (a2 1), .ref (a2 2), .ref (a2 3), .ref (a2 4), .ref (a2 5), .ref (a2 6), .ref (a2 7), .ref (a2 8), .int (n 8 0), .int (n 9 0), .int (n 10 0)])) := rfl
theorem wdRW_5 {ad : Nat → Nat} {a2 : Nat → Nat} {cy : Nat → ClassId} {r : zS} {n : zS} : (wdRW ad a2 cy r n)[5]? = some ((a2 1), .inl (cy 0, 4, .inl (n 0))) := rfl
theorem wdRW_6 {ad : Nat → Nat} {a2 : Nat → Nat} {cy : Nat → ClassId} {r : zS} {n : zS} : (wdRW ad a2 cy r n)[6]? = some ((a2 2), .inl (cy 0, 4, .inl (n 1))) := rfl
theorem wdRW_7 {ad : Nat → Nat} {a2 : Nat → Nat} {cy : Nat → ClassId} {r : zS} {n : zS} : (wdRW ad a2 cy r n)[7]? = some ((a2 3), .inl (cy 0, 4, .inl (n 2))) := rfl
theorem wdRW_8 {ad : Nat → Nat} {a2 : Nat → Nat} {cy : Nat → ClassId} {r : zS} {n : zS} : (wdRW ad a2 cy r n)[8]? = some ((a2 4), .inl (cy 1, 4, .inl (n 3))) := rfl
theorem wdRW_9 {ad : Nat → Nat} {a2 : Nat → Nat} {cy : Nat → ClassId} {r : zS} {n : zS} : (wdRW ad a2 cy r n)[9]? = some ((a2 5), .inl (cy 0, 16, .inl (n 4))) := rfl
theorem wdRW_10 {ad : Nat → Nat} {a2 : Nat → Nat} {cy : Nat → ClassId} {r : zS} {n : zS} : (wdRW ad a2 cy r n)[10]? = some ((a2 6), .inl (cy 0, 16, .inl (n 5))) := rfl
theorem wdRW_11 {ad : Nat → Nat} {a2 : Nat → Nat} {cy : Nat → ClassId} {r : zS} {n : zS} : (wdRW ad a2 cy r n)[11]? = some ((a2 7), .inl (cy 0, 15, .inl (n 6))) := rfl
theorem wdRW_12 {ad : Nat → Nat} {a2 : Nat → Nat} {cy : Nat → ClassId} {r : zS} {n : zS} : (wdRW ad a2 cy r n)[12]? = some ((a2 8), .inl (cy 0, 15, .inl (n 7))) := rfl
def wdX (ad : Nat → Nat) (cy : Nat → ClassId) (o : zS) (s : zS4) (n : zS) (t : zS) (r : zS) (w : zJ) : va_W := [((ad 0), .inr (3, [.ref (ad 1), .ref (ad 10), .ref (ad 19), .ref (ad 28), .ref (ad 32), .int (o 5 0), .int (o 6 0)])), ((ad 1), .inl (cy 3, 4, .inr (.inr (.inr (.inr (zRw ad)))))), ((ad 2), .inr (1, [.ref (ad 3), .int (s 0 1 0), .int (s 0 2 0), .int (s 0 3 0)])), ((ad 3), .inl (cy 0, 60, .inl (s 0 0))), ((ad 4), .inr (1, [.ref (ad 5), .int (s 1 1 0), .int (s 1 2 0), .int (s 1 3 0)])), ((ad 5), .inl (cy 0, 60, .inl (s 1 0))), ((ad 6), .inr (1, [.ref (ad 7), .int (s 2 1 0), .int (s 2 2 0), .int (s 2 3 0)])), ((ad 7), .inl (cy 0, 60, .inl (s 2 0))), ((ad 8), .inr (1, [.ref (ad 9), .int (s 3 1 0), .int (s 3 2 0), .int (s 3 3 0)])), ((ad 9), .inl (cy 0, 60, .inl (s 3 0))), ((ad 10), .inr (2, [.ref (ad 11), .ref (ad 12), .ref (ad 13), .ref (ad 14), .ref (ad 15), .ref (ad 16), .ref (ad 17), .ref (ad 18), .int (n 8 0), .int (n 9 0), .int (n 10 0)])), ((ad 11), .inl (cy 0, 4, .inl (n 0))), ((ad 12), .inl (cy 0, 4, .inl (n 1))), ((ad 13), .inl (cy 0, 4, .inl (n 2))), ((ad 14), .inl (cy 1, 4, .inl (n 3))), ((ad 15), .inl (cy 0, 16, .inl (n 4))), ((ad 16), .inl (cy 0, 16, .inl (n 5))), ((ad 17), .inl (cy 0, 15, .inl (n 6))), ((ad 18), .inl (cy 0, 15, .inl (n 7))), ((ad 19), .inr (2, [.ref (ad 20), .ref (ad 21), .ref (ad 22), .ref (ad 23), .ref (ad 24), .ref (ad 25), .ref (ad 26), .ref (ad 27), .int (t 8 0), .int (t 9 0), .int (t 10 0)])), ((ad 20), .inl (cy 0, 4, .inl (t 0))), ((ad 21), .inl (cy 0, 4, .inl (t 1))), ((ad 22), .inl (cy 0, 4, .inl (t 2))), ((ad 23), .inl (cy 1, 4, .inl (t 3))), ((ad 24), .inl (cy 0, 16, .inl (t 4))), ((ad 25), .inl (cy 0, 16, .inl (t 5))), ((ad 26), .inl (cy 0, 15, .inl (t 6))), ((ad 27), .inl (cy 0, 15, .inl (t 7))), ((ad 28), .inr (0, [.ref (ad 29), .ref (ad 30), .ref (ad 31), .int (r 3 0)])), ((ad 29), .inl (cy 0, 8, .inl (r 0))), ((ad 30), .inl (cy 0, 8, .inl (r 1))), ((ad 31), .inl (cy 1, 8, .inl (r 2))), ((ad 32), .inl (cy 2, 17, .inr (.inl (w))))]
theorem wdX_0 {ad : Nat → Nat} {cy : Nat → ClassId} {o : zS} {s : zS4} {n : zS} {t : zS} {r : zS} {w : zJ} : (wdX ad cy o s n t r w)[0]? = some ((ad 0), .inr (3, [.ref (ad 1), .ref (ad 10), .ref (ad 19), .ref (ad 28), .ref (ad 32), .int (o 5 0), .int (o 6 0)])) := rfl
theorem wdX_1 {ad : Nat → Nat} {cy : Nat → ClassId} {o : zS} {s : zS4} {n : zS} {t : zS} {r : zS} {w : zJ} : (wdX ad cy o s n t r w)[1]? = some ((ad 1), .inl (cy 3, 4, .inr (.inr (.inr (.inr (zRw ad)))))) := rfl
theorem wdX_2 {ad : Nat → Nat} {cy : Nat → ClassId} {o : zS} {s : zS4} {n : zS} {t : zS} {r : zS} {w : zJ} : (wdX ad cy o s n t r w)[2]? = some ((ad 2), .inr (1, [.ref (ad 3), .int (s 0 1 0), .int (s 0 2 0), .int (s 0 3 0)])) := rfl
theorem wdX_3 {ad : Nat → Nat} {cy : Nat → ClassId} {o : zS} {s : zS4} {n : zS} {t : zS} {r : zS} {w : zJ} : (wdX ad cy o s n t r w)[3]? = some ((ad 3), .inl (cy 0, 60, .inl (s 0 0))) := rfl
theorem wdX_4 {ad : Nat → Nat} {cy : Nat → ClassId} {o : zS} {s : zS4} {n : zS} {t : zS} {r : zS} {w : zJ} : (wdX ad cy o s n t r w)[4]? = some ((ad 4), .inr (1, [.ref (ad 5), .int (s 1 1 0), .int (s 1 2 0), .int (s 1 3 0)])) := rfl
theorem wdX_5 {ad : Nat → Nat} {cy : Nat → ClassId} {o : zS} {s : zS4} {n : zS} {t : zS} {r : zS} {w : zJ} : (wdX ad cy o s n t r w)[5]? = some ((ad 5), .inl (cy 0, 60, .inl (s 1 0))) := rfl
theorem wdX_6 {ad : Nat → Nat} {cy : Nat → ClassId} {o : zS} {s : zS4} {n : zS} {t : zS} {r : zS} {w : zJ} : (wdX ad cy o s n t r w)[6]? = some ((ad 6), .inr (1, [.ref (ad 7), .int (s 2 1 0), .int (s 2 2 0), .int (s 2 3 0)])) := rfl
theorem wdX_7 {ad : Nat → Nat} {cy : Nat → ClassId} {o : zS} {s : zS4} {n : zS} {t : zS} {r : zS} {w : zJ} : (wdX ad cy o s n t r w)[7]? = some ((ad 7), .inl (cy 0, 60, .inl (s 2 0))) := rfl
theorem wdX_8 {ad : Nat → Nat} {cy : Nat → ClassId} {o : zS} {s : zS4} {n : zS} {t : zS} {r : zS} {w : zJ} : (wdX ad cy o s n t r w)[8]? = some ((ad 8), .inr (1, [.ref (ad 9), .int (s 3 1 0), .int (s 3 2 0), .int (s 3 3 0)])) := rfl
theorem wdX_9 {ad : Nat → Nat} {cy : Nat → ClassId} {o : zS} {s : zS4} {n : zS} {t : zS} {r : zS} {w : zJ} : (wdX ad cy o s n t r w)[9]? = some ((ad 9), .inl (cy 0, 60, .inl (s 3 0))) := rfl
theorem wdX_10 {ad : Nat → Nat} {cy : Nat → ClassId} {o : zS} {s : zS4} {n : zS} {t : zS} {r : zS} {w : zJ} : (wdX ad cy o s n t r w)[10]? = some ((ad 10), .inr (2, [.ref (ad 11), .ref (ad 12), .ref (ad 13), .ref (ad 14), .ref (ad 15), .ref (ad 16), .ref (ad 17), .ref (ad 18), .int (n 8 0), .int (n 9 0), .int (n 10 0)])) := rfl
theorem wdX_11 {ad : Nat → Nat} {cy : Nat → ClassId} {o : zS} {s : zS4} {n : zS} {t : zS} {r : zS} {w : zJ} : (wdX ad cy o s n t r w)[11]? = some ((ad 11), .inl (cy 0, 4, .inl (n 0))) := rfl
theorem wdX_12 {ad : Nat → Nat} {cy : Nat → ClassId} {o : zS} {s : zS4} {n : zS} {t : zS} {r : zS} {w : zJ} : (wdX ad cy o s n t r w)[12]? = some ((ad 12), .inl (cy 0, 4, .inl (n 1))) := rfl
theorem wdX_13 {ad : Nat → Nat} {cy : Nat → ClassId} {o : zS} {s : zS4} {n : zS} {t : zS} {r : zS} {w : zJ} : (wdX ad cy o s n t r w)[13]? = some ((ad 13), .inl (cy 0, 4, .inl (n 2))) := rfl
theorem wdX_14 {ad : Nat → Nat} {cy : Nat → ClassId} {o : zS} {s : zS4} {n : zS} {t : zS} {r : zS} {w : zJ} : (wdX ad cy o s n t r w)[14]? = some ((ad 14), .inl (cy 1, 4, .inl (n 3))) := rfl
theorem wdX_15 {ad : Nat → Nat} {cy : Nat → ClassId} {o : zS} {s : zS4} {n : zS} {t : zS} {r : zS} {w : zJ} : (wdX ad cy o s n t r w)[15]? = some ((ad 15), .inl (cy 0, 16, .inl (n 4))) := rfl
theorem wdX_16 {ad : Nat → Nat} {cy : Nat → ClassId} {o : zS} {s : zS4} {n : zS} {t : zS} {r : zS} {w : zJ} : (wdX ad cy o s n t r w)[16]? = some ((ad 16), .inl (cy 0, 16, .inl (n 5))) := rfl
theorem wdX_17 {ad : Nat → Nat} {cy : Nat → ClassId} {o : zS} {s : zS4} {n : zS} {t : zS} {r : zS} {w : zJ} : (wdX ad cy o s n t r w)[17]? = some ((ad 17), .inl (cy 0, 15, .inl (n 6))) := rfl
theorem wdX_18 {ad : Nat → Nat} {cy : Nat → ClassId} {o : zS} {s : zS4} {n : zS} {t : zS} {r : zS} {w : zJ} : (wdX ad cy o s n t r w)[18]? = some ((ad 18), .inl (cy 0, 15, .inl (n 7))) := rfl
theorem wdX_19 {ad : Nat → Nat} {cy : Nat → ClassId} {o : zS} {s : zS4} {n : zS} {t : zS} {r : zS} {w : zJ} : (wdX ad cy o s n t r w)[19]? = some ((ad 19), .inr (2, [.ref (ad 20), .ref (ad 21), .ref (ad 22), .ref (ad 23), .ref (ad 24), .ref (ad 25), .ref (ad 26), .ref (ad 27), .int (t 8 0), .int (t 9 0), .int (t 10 0)])) := rfl
theorem wdX_20 {ad : Nat → Nat} {cy : Nat → ClassId} {o : zS} {s : zS4} {n : zS} {t : zS} {r : zS} {w : zJ} : (wdX ad cy o s n t r w)[20]? = some ((ad 20), .inl (cy 0, 4, .inl (t 0))) := rfl
theorem wdX_21 {ad : Nat → Nat} {cy : Nat → ClassId} {o : zS} {s : zS4} {n : zS} {t : zS} {r : zS} {w : zJ} : (wdX ad cy o s n t r w)[21]? = some ((ad 21), .inl (cy 0, 4, .inl (t 1))) := rfl
theorem wdX_22 {ad : Nat → Nat} {cy : Nat → ClassId} {o : zS} {s : zS4} {n : zS} {t : zS} {r : zS} {w : zJ} : (wdX ad cy o s n t r w)[22]? = some ((ad 22), .inl (cy 0, 4, .inl (t 2))) := rfl
theorem wdX_23 {ad : Nat → Nat} {cy : Nat → ClassId} {o : zS} {s : zS4} {n : zS} {t : zS} {r : zS} {w : zJ} : (wdX ad cy o s n t r w)[23]? = some ((ad 23), .inl (cy 1, 4, .inl (t 3))) := rfl
theorem wdX_24 {ad : Nat → Nat} {cy : Nat → ClassId} {o : zS} {s : zS4} {n : zS} {t : zS} {r : zS} {w : zJ} : (wdX ad cy o s n t r w)[24]? = some ((ad 24), .inl (cy 0, 16, .inl (t 4))) := rfl
theorem wdX_25 {ad : Nat → Nat} {cy : Nat → ClassId} {o : zS} {s : zS4} {n : zS} {t : zS} {r : zS} {w : zJ} : (wdX ad cy o s n t r w)[25]? = some ((ad 25), .inl (cy 0, 16, .inl (t 5))) := rfl
theorem wdX_26 {ad : Nat → Nat} {cy : Nat → ClassId} {o : zS} {s : zS4} {n : zS} {t : zS} {r : zS} {w : zJ} : (wdX ad cy o s n t r w)[26]? = some ((ad 26), .inl (cy 0, 15, .inl (t 6))) := rfl
theorem wdX_27 {ad : Nat → Nat} {cy : Nat → ClassId} {o : zS} {s : zS4} {n : zS} {t : zS} {r : zS} {w : zJ} : (wdX ad cy o s n t r w)[27]? = some ((ad 27), .inl (cy 0, 15, .inl (t 7))) := rfl
theorem wdX_28 {ad : Nat → Nat} {cy : Nat → ClassId} {o : zS} {s : zS4} {n : zS} {t : zS} {r : zS} {w : zJ} : (wdX ad cy o s n t r w)[28]? = some ((ad 28), .inr (0, [.ref (ad 29), .ref (ad 30), .ref (ad 31), .int (r 3 0)])) := rfl
theorem wdX_29 {ad : Nat → Nat} {cy : Nat → ClassId} {o : zS} {s : zS4} {n : zS} {t : zS} {r : zS} {w : zJ} : (wdX ad cy o s n t r w)[29]? = some ((ad 29), .inl (cy 0, 8, .inl (r 0))) := rfl
theorem wdX_30 {ad : Nat → Nat} {cy : Nat → ClassId} {o : zS} {s : zS4} {n : zS} {t : zS} {r : zS} {w : zJ} : (wdX ad cy o s n t r w)[30]? = some ((ad 30), .inl (cy 0, 8, .inl (r 1))) := rfl
theorem wdX_31 {ad : Nat → Nat} {cy : Nat → ClassId} {o : zS} {s : zS4} {n : zS} {t : zS} {r : zS} {w : zJ} : (wdX ad cy o s n t r w)[31]? = some ((ad 31), .inl (cy 1, 8, .inl (r 2))) := rfl
theorem wdX_32 {ad : Nat → Nat} {cy : Nat → ClassId} {o : zS} {s : zS4} {n : zS} {t : zS} {r : zS} {w : zJ} : (wdX ad cy o s n t r w)[32]? = some ((ad 32), .inl (cy 2, 17, .inr (.inl (w)))) := rfl
def wdM (ad : Nat → Nat) (cy : Nat → ClassId) (g : zS) (u : zJ) : va_W := [((ad 0), .inr (4, [.int (g 0 0), .int (g 1 0), .int (g 2 0), .int (g 3 0), .ref (ad 1), .ref (ad 2), .ref (ad 3), .ref (ad 4), .ref (ad 5), .ref (ad 6), .int (g 10 0), .int (g 11 0), .int (g 12 0), .int (g 13 0), .ref (ad 7), .ref (ad 8), .ref (ad 9), .ref (ad 10), .ref (ad 11), .ref (ad 12), .ref (ad 13), .int (g 21 0), .ref (ad 14), .ref (ad 15), .ref (ad 16), .ref (ad 17), .ref (ad 18), .ref (ad 19), .ref (ad 20), .ref (ad 21), .int (g 30 0)])), ((ad 1), .inl (cy 0, 4, .inl (g 4))), ((ad 2), .inl (cy 0, 4, .inl (g 5))), ((ad 3), .inl (cy 0, 4, .inl (g 6))), ((ad 4), .inl (cy 0, 4, .inl (g 7))), ((ad 5), .inl (cy 0, 16, .inl (g 8))), ((ad 6), .inl (cy 0, 16, .inl (g 9))), ((ad 7), .inl (cy 0, 4, .inl (g 14))), ((ad 8), .inl (cy 0, 4, .inl (g 15))), ((ad 9), .inl (cy 0, 16, .inl (g 16))), ((ad 10), .inl (cy 0, 15, .inl (g 17))), ((ad 11), .inl (cy 0, 15, .inl (g 18))), ((ad 12), .inl (cy 0, 16, .inl (g 19))), ((ad 13), .inl (cy 0, 4, .inl (g 20))), ((ad 14), .inl (cy 0, 8, .inl (g 22))), ((ad 15), .inl (cy 0, 8, .inl (g 23))), ((ad 16), .inl (cy 0, 8, .inl (g 24))), ((ad 17), .inl (cy 2, 17, .inr (.inl (u)))), ((ad 18), .inl (cy 0, 4, .inl (g 26))), ((ad 19), .inl (cy 0, 4, .inl (g 27))), ((ad 20), .inl (cy 0, 240, .inl (g 28))), ((ad 21), .inl (cy 0, 60, .inl (g 29)))]
theorem wdM_0 {ad : Nat → Nat} {cy : Nat → ClassId} {g : zS} {u : zJ} : (wdM ad cy g u)[0]? = some ((ad 0), .inr (4, [.int (g 0 0), .int (g 1 0), .int (g 2 0), .int (g 3 0), .ref (ad 1), .ref (ad 2), .ref (ad 3), .ref (ad 4), .ref (ad 5), .ref (ad 6), .int (g 10 0), .int (g 11 0), .int (g 12 0), .int (g 13 0), .ref (ad 7), .ref (ad 8), .ref (ad 9), .ref (ad 10), .ref (ad 11), .ref (ad 12), .ref (ad 13), .int (g 21 0), .ref (ad 14), .ref (ad 15), .ref (ad 16), .ref (ad 17), .ref (ad 18), .ref (ad 19), .ref (ad 20), .ref (ad 21), .int (g 30 0)])) := rfl
theorem wdM_1 {ad : Nat → Nat} {cy : Nat → ClassId} {g : zS} {u : zJ} : (wdM ad cy g u)[1]? = some ((ad 1), .inl (cy 0, 4, .inl (g 4))) := rfl
theorem wdM_2 {ad : Nat → Nat} {cy : Nat → ClassId} {g : zS} {u : zJ} : (wdM ad cy g u)[2]? = some ((ad 2), .inl (cy 0, 4, .inl (g 5))) := rfl
theorem wdM_3 {ad : Nat → Nat} {cy : Nat → ClassId} {g : zS} {u : zJ} : (wdM ad cy g u)[3]? = some ((ad 3), .inl (cy 0, 4, .inl (g 6))) := rfl
theorem wdM_4 {ad : Nat → Nat} {cy : Nat → ClassId} {g : zS} {u : zJ} : (wdM ad cy g u)[4]? = some ((ad 4), .inl (cy 0, 4, .inl (g 7))) := rfl
theorem wdM_5 {ad : Nat → Nat} {cy : Nat → ClassId} {g : zS} {u : zJ} : (wdM ad cy g u)[5]? = some ((ad 5), .inl (cy 0, 16, .inl (g 8))) := rfl
theorem wdM_6 {ad : Nat → Nat} {cy : Nat → ClassId} {g : zS} {u : zJ} : (wdM ad cy g u)[6]? = some ((ad 6), .inl (cy 0, 16, .inl (g 9))) := rfl
theorem wdM_7 {ad : Nat → Nat} {cy : Nat → ClassId} {g : zS} {u : zJ} : (wdM ad cy g u)[7]? = some ((ad 7), .inl (cy 0, 4, .inl (g 14))) := rfl
theorem wdM_8 {ad : Nat → Nat} {cy : Nat → ClassId} {g : zS} {u : zJ} : (wdM ad cy g u)[8]? = some ((ad 8), .inl (cy 0, 4, .inl (g 15))) := rfl
theorem wdM_9 {ad : Nat → Nat} {cy : Nat → ClassId} {g : zS} {u : zJ} : (wdM ad cy g u)[9]? = some ((ad 9), .inl (cy 0, 16, .inl (g 16))) := rfl
theorem wdM_10 {ad : Nat → Nat} {cy : Nat → ClassId} {g : zS} {u : zJ} : (wdM ad cy g u)[10]? = some ((ad 10), .inl (cy 0, 15, .inl (g 17))) := rfl
theorem wdM_11 {ad : Nat → Nat} {cy : Nat → ClassId} {g : zS} {u : zJ} : (wdM ad cy g u)[11]? = some ((ad 11), .inl (cy 0, 15, .inl (g 18))) := rfl
theorem wdM_12 {ad : Nat → Nat} {cy : Nat → ClassId} {g : zS} {u : zJ} : (wdM ad cy g u)[12]? = some ((ad 12), .inl (cy 0, 16, .inl (g 19))) := rfl
theorem wdM_13 {ad : Nat → Nat} {cy : Nat → ClassId} {g : zS} {u : zJ} : (wdM ad cy g u)[13]? = some ((ad 13), .inl (cy 0, 4, .inl (g 20))) := rfl
theorem wdM_14 {ad : Nat → Nat} {cy : Nat → ClassId} {g : zS} {u : zJ} : (wdM ad cy g u)[14]? = some ((ad 14), .inl (cy 0, 8, .inl (g 22))) := rfl
theorem wdM_15 {ad : Nat → Nat} {cy : Nat → ClassId} {g : zS} {u : zJ} : (wdM ad cy g u)[15]? = some ((ad 15), .inl (cy 0, 8, .inl (g 23))) := rfl
theorem wdM_16 {ad : Nat → Nat} {cy : Nat → ClassId} {g : zS} {u : zJ} : (wdM ad cy g u)[16]? = some ((ad 16), .inl (cy 0, 8, .inl (g 24))) := rfl
theorem wdM_17 {ad : Nat → Nat} {cy : Nat → ClassId} {g : zS} {u : zJ} : (wdM ad cy g u)[17]? = some ((ad 17), .inl (cy 2, 17, .inr (.inl (u)))) := rfl
theorem wdM_18 {ad : Nat → Nat} {cy : Nat → ClassId} {g : zS} {u : zJ} : (wdM ad cy g u)[18]? = some ((ad 18), .inl (cy 0, 4, .inl (g 26))) := rfl
theorem wdM_19 {ad : Nat → Nat} {cy : Nat → ClassId} {g : zS} {u : zJ} : (wdM ad cy g u)[19]? = some ((ad 19), .inl (cy 0, 4, .inl (g 27))) := rfl
theorem wdM_20 {ad : Nat → Nat} {cy : Nat → ClassId} {g : zS} {u : zJ} : (wdM ad cy g u)[20]? = some ((ad 20), .inl (cy 0, 240, .inl (g 28))) := rfl
theorem wdM_21 {ad : Nat → Nat} {cy : Nat → ClassId} {g : zS} {u : zJ} : (wdM ad cy g u)[21]? = some ((ad 21), .inl (cy 0, 60, .inl (g 29))) := rfl
def wdAI (q : Nat) (cy : Nat → ClassId) (k : Nat) (f : Nat → Int32) : va_W := [(q, .inl (cy 0, k, .inl f))]
def wdAJ (q : Nat) (cy : Nat → ClassId) (k : Nat) (f : zJ) : va_W := [(q, .inl (cy 2, k, .inr (.inl f)))]
theorem wdAI_0 {q : Nat} {cy : Nat → ClassId} {k : Nat} {f : Nat → Int32} : (wdAI q cy k f)[0]? = some (q, .inl (cy 0, k, .inl f)) := rfl
theorem wdAJ_0 {q : Nat} {cy : Nat → ClassId} {k : Nat} {f : zJ} : (wdAJ q cy k f)[0]? = some (q, .inl (cy 2, k, .inr (.inl f))) := rfl
theorem wdX_sh {ad : Nat → Nat} {cy : Nat → ClassId} {o : zS} {s : zS4} {n t r : zS} {w : zJ} {k : Nat} (h : k < 4) : (wdX ad cy o s n t r w)[2 + 2 * k]? = some (ad (2 + 2 * k), .inr (1, [.ref (ad (2 + 2 * k + 1)), .int (s k 1 0), .int (s k 2 0), .int (s k 3 0)])) := by
  match k, h with
  | 0, _ => rfl
  | 1, _ => rfl
  | 2, _ => rfl
  | 3, _ => rfl
theorem wdX_sc {ad : Nat → Nat} {cy : Nat → ClassId} {o : zS} {s : zS4} {n t r : zS} {w : zJ} {k : Nat} (h : k < 4) : (wdX ad cy o s n t r w)[2 + 2 * k + 1]? = some (ad (2 + 2 * k + 1), .inl (cy 0, 60, .inl (s k 0))) := by
  match k, h with
  | 0, _ => rfl
  | 1, _ => rfl
  | 2, _ => rfl
  | 3, _ => rfl
theorem wdX_sf1 {ad : Nat → Nat} {cy : Nat → ClassId} {o : zS} {s : zS4} {n t r : zS} {w : zJ} {k : Nat} (h : k < 4) (v : Int32) : (wdX ad cy o s n t r w).set (2 + 2 * k) (ad (2 + 2 * k), .inr (1, [.ref (ad (2 + 2 * k + 1)), .int (s k 1 0), .int (s k 2 0), .int (s k 3 0)].set 1 (.int v))) = wdX ad cy o (va_up s k (va_up (s k) 1 (fun _ => v))) n t r w := by
  match k, h with
  | 0, _ => rfl
  | 1, _ => rfl
  | 2, _ => rfl
  | 3, _ => rfl
theorem wdX_sf2 {ad : Nat → Nat} {cy : Nat → ClassId} {o : zS} {s : zS4} {n t r : zS} {w : zJ} {k : Nat} (h : k < 4) (v : Int32) : (wdX ad cy o s n t r w).set (2 + 2 * k) (ad (2 + 2 * k), .inr (1, [.ref (ad (2 + 2 * k + 1)), .int (s k 1 0), .int (s k 2 0), .int (s k 3 0)].set 2 (.int v))) = wdX ad cy o (va_up s k (va_up (s k) 2 (fun _ => v))) n t r w := by
  match k, h with
  | 0, _ => rfl
  | 1, _ => rfl
  | 2, _ => rfl
  | 3, _ => rfl
theorem wdX_sf3 {ad : Nat → Nat} {cy : Nat → ClassId} {o : zS} {s : zS4} {n t r : zS} {w : zJ} {k : Nat} (h : k < 4) (v : Int32) : (wdX ad cy o s n t r w).set (2 + 2 * k) (ad (2 + 2 * k), .inr (1, [.ref (ad (2 + 2 * k + 1)), .int (s k 1 0), .int (s k 2 0), .int (s k 3 0)].set 3 (.int v))) = wdX ad cy o (va_up s k (va_up (s k) 3 (fun _ => v))) n t r w := by
  match k, h with
  | 0, _ => rfl
  | 1, _ => rfl
  | 2, _ => rfl
  | 3, _ => rfl
theorem wdX_ss {ad : Nat → Nat} {cy : Nat → ClassId} {o : zS} {s : zS4} {n t r : zS} {w : zJ} {k : Nat} (h : k < 4) (f : Nat → Int32) : (wdX ad cy o s n t r w).set (2 + 2 * k + 1) (ad (2 + 2 * k + 1), .inl (cy 0, 60, .inl f)) = wdX ad cy o (va_up s k (va_up (s k) 0 f)) n t r w := by
  match k, h with
  | 0, _ => rfl
  | 1, _ => rfl
  | 2, _ => rfl
  | 3, _ => rfl
theorem fX_n {ad : Nat → Nat} {cy : Nat → ClassId} {o : zS} {s : zS4} {n t r : zS} {w : zJ} {n1 : zS} : zF (wdX ad cy o s n t r w) (wdW (fun j => ad (10 + j)) cy n) (wdX ad cy o s n1 t r w) (wdW (fun j => ad (10 + j)) cy n1) := ⟨[10, 11, 12, 13, 14, 15, 16, 17, 18], [0, 1, 2, 3, 4, 5, 6, 7, 8, 9, 19, 20, 21, 22, 23, 24, 25, 26, 27, 28, 29, 30, 31, 32], [0, 1, 2, 3, 4, 5, 6, 7, 8, 9, 19, 20, 21, 22, 23, 24, 25, 26, 27, 28, 29, 30, 31, 32].filterMap (fun i => (wdX ad cy o s n t r w)[i]?), [0, 1, 2, 3, 4, 5, 6, 7, 8, 9, 24, 25, 26, 27, 28, 29, 30, 31, 32, 10, 11, 12, 13, 14, 15, 16, 17, 18, 19, 20, 21, 22, 23], rfl, rfl, by decide, by decide, by decide, rfl, by decide⟩
theorem fX_t {ad : Nat → Nat} {cy : Nat → ClassId} {o : zS} {s : zS4} {n t r : zS} {w : zJ} {t1 : zS} : zF (wdX ad cy o s n t r w) (wdW (fun j => ad (19 + j)) cy t) (wdX ad cy o s n t1 r w) (wdW (fun j => ad (19 + j)) cy t1) := ⟨[19, 20, 21, 22, 23, 24, 25, 26, 27], [0, 1, 2, 3, 4, 5, 6, 7, 8, 9, 10, 11, 12, 13, 14, 15, 16, 17, 18, 28, 29, 30, 31, 32], [0, 1, 2, 3, 4, 5, 6, 7, 8, 9, 10, 11, 12, 13, 14, 15, 16, 17, 18, 28, 29, 30, 31, 32].filterMap (fun i => (wdX ad cy o s n t r w)[i]?), [0, 1, 2, 3, 4, 5, 6, 7, 8, 9, 10, 11, 12, 13, 14, 15, 16, 17, 18, 24, 25, 26, 27, 28, 29, 30, 31, 32, 19, 20, 21, 22, 23], rfl, rfl, by decide, by decide, by decide, rfl, by decide⟩
theorem fX_tn {ad : Nat → Nat} {cy : Nat → ClassId} {o : zS} {s : zS4} {n t r : zS} {w : zJ} {t1 : zS} : zF (wdX ad cy o s n t r w) (wdWW (fun j => ad (19 + j)) (fun j => ad (10 + j)) cy t n) (wdX ad cy o s n t1 r w) (wdWW (fun j => ad (19 + j)) (fun j => ad (10 + j)) cy t1 n) := ⟨[19, 20, 21, 22, 23, 24, 25, 26, 27, 10, 11, 12, 13, 14, 15, 16, 17, 18], [0, 1, 2, 3, 4, 5, 6, 7, 8, 9, 28, 29, 30, 31, 32], [0, 1, 2, 3, 4, 5, 6, 7, 8, 9, 28, 29, 30, 31, 32].filterMap (fun i => (wdX ad cy o s n t r w)[i]?), [0, 1, 2, 3, 4, 5, 6, 7, 8, 9, 24, 25, 26, 27, 28, 29, 30, 31, 32, 15, 16, 17, 18, 19, 20, 21, 22, 23, 10, 11, 12, 13, 14], rfl, rfl, by decide, by decide, by decide, rfl, by decide⟩
theorem fX_nt {ad : Nat → Nat} {cy : Nat → ClassId} {o : zS} {s : zS4} {n t r : zS} {w : zJ} {n1 : zS} : zF (wdX ad cy o s n t r w) (wdWW (fun j => ad (10 + j)) (fun j => ad (19 + j)) cy n t) (wdX ad cy o s n1 t r w) (wdWW (fun j => ad (10 + j)) (fun j => ad (19 + j)) cy n1 t) := ⟨[10, 11, 12, 13, 14, 15, 16, 17, 18, 19, 20, 21, 22, 23, 24, 25, 26, 27], [0, 1, 2, 3, 4, 5, 6, 7, 8, 9, 28, 29, 30, 31, 32], [0, 1, 2, 3, 4, 5, 6, 7, 8, 9, 28, 29, 30, 31, 32].filterMap (fun i => (wdX ad cy o s n t r w)[i]?), [0, 1, 2, 3, 4, 5, 6, 7, 8, 9, 15, 16, 17, 18, 19, 20, 21, 22, 23, 24, 25, 26, 27, 28, 29, 30, 31, 32, 10, 11, 12, 13, 14], rfl, rfl, by decide, by decide, by decide, rfl, by decide⟩
theorem fX_r {ad : Nat → Nat} {cy : Nat → ClassId} {o : zS} {s : zS4} {n t r : zS} {w : zJ} {r1 : zS} : zF (wdX ad cy o s n t r w) (wdR (fun j => ad (28 + j)) cy r) (wdX ad cy o s n t r1 w) (wdR (fun j => ad (28 + j)) cy r1) := ⟨[28, 29, 30, 31], [0, 1, 2, 3, 4, 5, 6, 7, 8, 9, 10, 11, 12, 13, 14, 15, 16, 17, 18, 19, 20, 21, 22, 23, 24, 25, 26, 27, 32], [0, 1, 2, 3, 4, 5, 6, 7, 8, 9, 10, 11, 12, 13, 14, 15, 16, 17, 18, 19, 20, 21, 22, 23, 24, 25, 26, 27, 32].filterMap (fun i => (wdX ad cy o s n t r w)[i]?), [0, 1, 2, 3, 4, 5, 6, 7, 8, 9, 10, 11, 12, 13, 14, 15, 16, 17, 18, 19, 20, 21, 22, 23, 24, 25, 26, 27, 29, 30, 31, 32, 28], rfl, rfl, by decide, by decide, by decide, rfl, by decide⟩
theorem fX_rt {ad : Nat → Nat} {cy : Nat → ClassId} {o : zS} {s : zS4} {n t r : zS} {w : zJ} : zF (wdX ad cy o s n t r w) (wdRW (fun j => ad (28 + j)) (fun j => ad (19 + j)) cy r t) (wdX ad cy o s n t r w) (wdRW (fun j => ad (28 + j)) (fun j => ad (19 + j)) cy r t) := ⟨[28, 29, 30, 31, 19, 20, 21, 22, 23, 24, 25, 26, 27], [0, 1, 2, 3, 4, 5, 6, 7, 8, 9, 10, 11, 12, 13, 14, 15, 16, 17, 18, 32], [0, 1, 2, 3, 4, 5, 6, 7, 8, 9, 10, 11, 12, 13, 14, 15, 16, 17, 18, 32].filterMap (fun i => (wdX ad cy o s n t r w)[i]?), [0, 1, 2, 3, 4, 5, 6, 7, 8, 9, 10, 11, 12, 13, 14, 15, 16, 17, 18, 24, 25, 26, 27, 28, 29, 30, 31, 32, 20, 21, 22, 23, 19], rfl, rfl, by decide, by decide, by decide, rfl, by decide⟩
theorem fX_w {ad : Nat → Nat} {cy : Nat → ClassId} {o : zS} {s : zS4} {n t r : zS} {w : zJ} {w1 : zJ} : zF (wdX ad cy o s n t r w) (wdAJ (ad 32) cy 17 w) (wdX ad cy o s n t r w1) (wdAJ (ad 32) cy 17 w1) := ⟨[32], [0, 1, 2, 3, 4, 5, 6, 7, 8, 9, 10, 11, 12, 13, 14, 15, 16, 17, 18, 19, 20, 21, 22, 23, 24, 25, 26, 27, 28, 29, 30, 31], [0, 1, 2, 3, 4, 5, 6, 7, 8, 9, 10, 11, 12, 13, 14, 15, 16, 17, 18, 19, 20, 21, 22, 23, 24, 25, 26, 27, 28, 29, 30, 31].filterMap (fun i => (wdX ad cy o s n t r w)[i]?), [0, 1, 2, 3, 4, 5, 6, 7, 8, 9, 10, 11, 12, 13, 14, 15, 16, 17, 18, 19, 20, 21, 22, 23, 24, 25, 26, 27, 28, 29, 30, 31, 32], rfl, rfl, by decide, by decide, by decide, rfl, by decide⟩
theorem fX_s {ad : Nat → Nat} {cy : Nat → ClassId} {o : zS} {s : zS4} {n t r : zS} {w : zJ} {k : Nat} {s1 : zS} (h : k < 4) : zF (wdX ad cy o s n t r w) (wdS (fun j => ad (2 + 2 * k + j)) cy (s k)) (wdX ad cy o (va_up s k s1) n t r w) (wdS (fun j => ad (2 + 2 * k + j)) cy s1) := by
  match k, h with
  | 0, _ => exact ⟨[2, 3], [0, 1, 4, 5, 6, 7, 8, 9, 10, 11, 12, 13, 14, 15, 16, 17, 18, 19, 20, 21, 22, 23, 24, 25, 26, 27, 28, 29, 30, 31, 32], [0, 1, 4, 5, 6, 7, 8, 9, 10, 11, 12, 13, 14, 15, 16, 17, 18, 19, 20, 21, 22, 23, 24, 25, 26, 27, 28, 29, 30, 31, 32].filterMap (fun i => (wdX ad cy o s n t r w)[i]?), [0, 1, 31, 32, 2, 3, 4, 5, 6, 7, 8, 9, 10, 11, 12, 13, 14, 15, 16, 17, 18, 19, 20, 21, 22, 23, 24, 25, 26, 27, 28, 29, 30], rfl, rfl, by decide, by decide, by decide, rfl, by decide⟩
  | 1, _ => exact ⟨[4, 5], [0, 1, 2, 3, 6, 7, 8, 9, 10, 11, 12, 13, 14, 15, 16, 17, 18, 19, 20, 21, 22, 23, 24, 25, 26, 27, 28, 29, 30, 31, 32], [0, 1, 2, 3, 6, 7, 8, 9, 10, 11, 12, 13, 14, 15, 16, 17, 18, 19, 20, 21, 22, 23, 24, 25, 26, 27, 28, 29, 30, 31, 32].filterMap (fun i => (wdX ad cy o s n t r w)[i]?), [0, 1, 2, 3, 31, 32, 4, 5, 6, 7, 8, 9, 10, 11, 12, 13, 14, 15, 16, 17, 18, 19, 20, 21, 22, 23, 24, 25, 26, 27, 28, 29, 30], rfl, rfl, by decide, by decide, by decide, rfl, by decide⟩
  | 2, _ => exact ⟨[6, 7], [0, 1, 2, 3, 4, 5, 8, 9, 10, 11, 12, 13, 14, 15, 16, 17, 18, 19, 20, 21, 22, 23, 24, 25, 26, 27, 28, 29, 30, 31, 32], [0, 1, 2, 3, 4, 5, 8, 9, 10, 11, 12, 13, 14, 15, 16, 17, 18, 19, 20, 21, 22, 23, 24, 25, 26, 27, 28, 29, 30, 31, 32].filterMap (fun i => (wdX ad cy o s n t r w)[i]?), [0, 1, 2, 3, 4, 5, 31, 32, 6, 7, 8, 9, 10, 11, 12, 13, 14, 15, 16, 17, 18, 19, 20, 21, 22, 23, 24, 25, 26, 27, 28, 29, 30], rfl, rfl, by decide, by decide, by decide, rfl, by decide⟩
  | 3, _ => exact ⟨[8, 9], [0, 1, 2, 3, 4, 5, 6, 7, 10, 11, 12, 13, 14, 15, 16, 17, 18, 19, 20, 21, 22, 23, 24, 25, 26, 27, 28, 29, 30, 31, 32], [0, 1, 2, 3, 4, 5, 6, 7, 10, 11, 12, 13, 14, 15, 16, 17, 18, 19, 20, 21, 22, 23, 24, 25, 26, 27, 28, 29, 30, 31, 32].filterMap (fun i => (wdX ad cy o s n t r w)[i]?), [0, 1, 2, 3, 4, 5, 6, 7, 31, 32, 8, 9, 10, 11, 12, 13, 14, 15, 16, 17, 18, 19, 20, 21, 22, 23, 24, 25, 26, 27, 28, 29, 30], rfl, rfl, by decide, by decide, by decide, rfl, by decide⟩
theorem fX_s0 {ad : Nat → Nat} {cy : Nat → ClassId} {o : zS} {s : zS4} {n t r : zS} {w : zJ} {k : Nat} (h : k < 4) : zF (wdX ad cy o s n t r w) (wdS (fun j => ad (2 + 2 * k + j)) cy (s k)) (wdX ad cy o s n t r w) (wdS (fun j => ad (2 + 2 * k + j)) cy (s k)) := by
  match k, h with
  | 0, _ => exact ⟨[2, 3], [0, 1, 4, 5, 6, 7, 8, 9, 10, 11, 12, 13, 14, 15, 16, 17, 18, 19, 20, 21, 22, 23, 24, 25, 26, 27, 28, 29, 30, 31, 32], [0, 1, 4, 5, 6, 7, 8, 9, 10, 11, 12, 13, 14, 15, 16, 17, 18, 19, 20, 21, 22, 23, 24, 25, 26, 27, 28, 29, 30, 31, 32].filterMap (fun i => (wdX ad cy o s n t r w)[i]?), [0, 1, 31, 32, 2, 3, 4, 5, 6, 7, 8, 9, 10, 11, 12, 13, 14, 15, 16, 17, 18, 19, 20, 21, 22, 23, 24, 25, 26, 27, 28, 29, 30], rfl, rfl, by decide, by decide, by decide, rfl, by decide⟩
  | 1, _ => exact ⟨[4, 5], [0, 1, 2, 3, 6, 7, 8, 9, 10, 11, 12, 13, 14, 15, 16, 17, 18, 19, 20, 21, 22, 23, 24, 25, 26, 27, 28, 29, 30, 31, 32], [0, 1, 2, 3, 6, 7, 8, 9, 10, 11, 12, 13, 14, 15, 16, 17, 18, 19, 20, 21, 22, 23, 24, 25, 26, 27, 28, 29, 30, 31, 32].filterMap (fun i => (wdX ad cy o s n t r w)[i]?), [0, 1, 2, 3, 31, 32, 4, 5, 6, 7, 8, 9, 10, 11, 12, 13, 14, 15, 16, 17, 18, 19, 20, 21, 22, 23, 24, 25, 26, 27, 28, 29, 30], rfl, rfl, by decide, by decide, by decide, rfl, by decide⟩
  | 2, _ => exact ⟨[6, 7], [0, 1, 2, 3, 4, 5, 8, 9, 10, 11, 12, 13, 14, 15, 16, 17, 18, 19, 20, 21, 22, 23, 24, 25, 26, 27, 28, 29, 30, 31, 32], [0, 1, 2, 3, 4, 5, 8, 9, 10, 11, 12, 13, 14, 15, 16, 17, 18, 19, 20, 21, 22, 23, 24, 25, 26, 27, 28, 29, 30, 31, 32].filterMap (fun i => (wdX ad cy o s n t r w)[i]?), [0, 1, 2, 3, 4, 5, 31, 32, 6, 7, 8, 9, 10, 11, 12, 13, 14, 15, 16, 17, 18, 19, 20, 21, 22, 23, 24, 25, 26, 27, 28, 29, 30], rfl, rfl, by decide, by decide, by decide, rfl, by decide⟩
  | 3, _ => exact ⟨[8, 9], [0, 1, 2, 3, 4, 5, 6, 7, 10, 11, 12, 13, 14, 15, 16, 17, 18, 19, 20, 21, 22, 23, 24, 25, 26, 27, 28, 29, 30, 31, 32], [0, 1, 2, 3, 4, 5, 6, 7, 10, 11, 12, 13, 14, 15, 16, 17, 18, 19, 20, 21, 22, 23, 24, 25, 26, 27, 28, 29, 30, 31, 32].filterMap (fun i => (wdX ad cy o s n t r w)[i]?), [0, 1, 2, 3, 4, 5, 6, 7, 31, 32, 8, 9, 10, 11, 12, 13, 14, 15, 16, 17, 18, 19, 20, 21, 22, 23, 24, 25, 26, 27, 28, 29, 30], rfl, rfl, by decide, by decide, by decide, rfl, by decide⟩
theorem fX_ts {ad : Nat → Nat} {cy : Nat → ClassId} {o : zS} {s : zS4} {n t r : zS} {w : zJ} {k : Nat} {t1 : zS} (h : k < 4) : zF (wdX ad cy o s n t r w) (wdWS (fun j => ad (19 + j)) (fun j => ad (2 + 2 * k + j)) cy t (s k)) (wdX ad cy o s n t1 r w) (wdWS (fun j => ad (19 + j)) (fun j => ad (2 + 2 * k + j)) cy t1 (s k)) := by
  match k, h with
  | 0, _ => exact ⟨[19, 20, 21, 22, 23, 24, 25, 26, 27, 2, 3], [0, 1, 4, 5, 6, 7, 8, 9, 10, 11, 12, 13, 14, 15, 16, 17, 18, 28, 29, 30, 31, 32], [0, 1, 4, 5, 6, 7, 8, 9, 10, 11, 12, 13, 14, 15, 16, 17, 18, 28, 29, 30, 31, 32].filterMap (fun i => (wdX ad cy o s n t r w)[i]?), [0, 1, 31, 32, 2, 3, 4, 5, 6, 7, 8, 9, 10, 11, 12, 13, 14, 15, 16, 22, 23, 24, 25, 26, 27, 28, 29, 30, 17, 18, 19, 20, 21], rfl, rfl, by decide, by decide, by decide, rfl, by decide⟩
  | 1, _ => exact ⟨[19, 20, 21, 22, 23, 24, 25, 26, 27, 4, 5], [0, 1, 2, 3, 6, 7, 8, 9, 10, 11, 12, 13, 14, 15, 16, 17, 18, 28, 29, 30, 31, 32], [0, 1, 2, 3, 6, 7, 8, 9, 10, 11, 12, 13, 14, 15, 16, 17, 18, 28, 29, 30, 31, 32].filterMap (fun i => (wdX ad cy o s n t r w)[i]?), [0, 1, 2, 3, 31, 32, 4, 5, 6, 7, 8, 9, 10, 11, 12, 13, 14, 15, 16, 22, 23, 24, 25, 26, 27, 28, 29, 30, 17, 18, 19, 20, 21], rfl, rfl, by decide, by decide, by decide, rfl, by decide⟩
  | 2, _ => exact ⟨[19, 20, 21, 22, 23, 24, 25, 26, 27, 6, 7], [0, 1, 2, 3, 4, 5, 8, 9, 10, 11, 12, 13, 14, 15, 16, 17, 18, 28, 29, 30, 31, 32], [0, 1, 2, 3, 4, 5, 8, 9, 10, 11, 12, 13, 14, 15, 16, 17, 18, 28, 29, 30, 31, 32].filterMap (fun i => (wdX ad cy o s n t r w)[i]?), [0, 1, 2, 3, 4, 5, 31, 32, 6, 7, 8, 9, 10, 11, 12, 13, 14, 15, 16, 22, 23, 24, 25, 26, 27, 28, 29, 30, 17, 18, 19, 20, 21], rfl, rfl, by decide, by decide, by decide, rfl, by decide⟩
  | 3, _ => exact ⟨[19, 20, 21, 22, 23, 24, 25, 26, 27, 8, 9], [0, 1, 2, 3, 4, 5, 6, 7, 10, 11, 12, 13, 14, 15, 16, 17, 18, 28, 29, 30, 31, 32], [0, 1, 2, 3, 4, 5, 6, 7, 10, 11, 12, 13, 14, 15, 16, 17, 18, 28, 29, 30, 31, 32].filterMap (fun i => (wdX ad cy o s n t r w)[i]?), [0, 1, 2, 3, 4, 5, 6, 7, 31, 32, 8, 9, 10, 11, 12, 13, 14, 15, 16, 22, 23, 24, 25, 26, 27, 28, 29, 30, 17, 18, 19, 20, 21], rfl, rfl, by decide, by decide, by decide, rfl, by decide⟩
theorem fX_ns {ad : Nat → Nat} {cy : Nat → ClassId} {o : zS} {s : zS4} {n t r : zS} {w : zJ} {k : Nat} {n1 : zS} (h : k < 4) : zF (wdX ad cy o s n t r w) (wdWS (fun j => ad (10 + j)) (fun j => ad (2 + 2 * k + j)) cy n (s k)) (wdX ad cy o s n1 t r w) (wdWS (fun j => ad (10 + j)) (fun j => ad (2 + 2 * k + j)) cy n1 (s k)) := by
  match k, h with
  | 0, _ => exact ⟨[10, 11, 12, 13, 14, 15, 16, 17, 18, 2, 3], [0, 1, 4, 5, 6, 7, 8, 9, 19, 20, 21, 22, 23, 24, 25, 26, 27, 28, 29, 30, 31, 32], [0, 1, 4, 5, 6, 7, 8, 9, 19, 20, 21, 22, 23, 24, 25, 26, 27, 28, 29, 30, 31, 32].filterMap (fun i => (wdX ad cy o s n t r w)[i]?), [0, 1, 31, 32, 2, 3, 4, 5, 6, 7, 22, 23, 24, 25, 26, 27, 28, 29, 30, 8, 9, 10, 11, 12, 13, 14, 15, 16, 17, 18, 19, 20, 21], rfl, rfl, by decide, by decide, by decide, rfl, by decide⟩
  | 1, _ => exact ⟨[10, 11, 12, 13, 14, 15, 16, 17, 18, 4, 5], [0, 1, 2, 3, 6, 7, 8, 9, 19, 20, 21, 22, 23, 24, 25, 26, 27, 28, 29, 30, 31, 32], [0, 1, 2, 3, 6, 7, 8, 9, 19, 20, 21, 22, 23, 24, 25, 26, 27, 28, 29, 30, 31, 32].filterMap (fun i => (wdX ad cy o s n t r w)[i]?), [0, 1, 2, 3, 31, 32, 4, 5, 6, 7, 22, 23, 24, 25, 26, 27, 28, 29, 30, 8, 9, 10, 11, 12, 13, 14, 15, 16, 17, 18, 19, 20, 21], rfl, rfl, by decide, by decide, by decide, rfl, by decide⟩
  | 2, _ => exact ⟨[10, 11, 12, 13, 14, 15, 16, 17, 18, 6, 7], [0, 1, 2, 3, 4, 5, 8, 9, 19, 20, 21, 22, 23, 24, 25, 26, 27, 28, 29, 30, 31, 32], [0, 1, 2, 3, 4, 5, 8, 9, 19, 20, 21, 22, 23, 24, 25, 26, 27, 28, 29, 30, 31, 32].filterMap (fun i => (wdX ad cy o s n t r w)[i]?), [0, 1, 2, 3, 4, 5, 31, 32, 6, 7, 22, 23, 24, 25, 26, 27, 28, 29, 30, 8, 9, 10, 11, 12, 13, 14, 15, 16, 17, 18, 19, 20, 21], rfl, rfl, by decide, by decide, by decide, rfl, by decide⟩
  | 3, _ => exact ⟨[10, 11, 12, 13, 14, 15, 16, 17, 18, 8, 9], [0, 1, 2, 3, 4, 5, 6, 7, 19, 20, 21, 22, 23, 24, 25, 26, 27, 28, 29, 30, 31, 32], [0, 1, 2, 3, 4, 5, 6, 7, 19, 20, 21, 22, 23, 24, 25, 26, 27, 28, 29, 30, 31, 32].filterMap (fun i => (wdX ad cy o s n t r w)[i]?), [0, 1, 2, 3, 4, 5, 6, 7, 31, 32, 22, 23, 24, 25, 26, 27, 28, 29, 30, 8, 9, 10, 11, 12, 13, 14, 15, 16, 17, 18, 19, 20, 21], rfl, rfl, by decide, by decide, by decide, rfl, by decide⟩
theorem fWS_n {ad a2 : Nat → Nat} {cy : Nat → ClassId} {n s n1 : zS} : zF (wdWS ad a2 cy n s) (wdW ad cy n) (wdWS ad a2 cy n1 s) (wdW ad cy n1) := ⟨[0, 1, 2, 3, 4, 5, 6, 7, 8], [9, 10], [9, 10].filterMap (fun i => (wdWS ad a2 cy n s)[i]?), [2, 3, 4, 5, 6, 7, 8, 9, 10, 0, 1], rfl, rfl, by decide, by decide, by decide, rfl, by decide⟩
theorem fRW_n {ad a2 : Nat → Nat} {cy : Nat → ClassId} {r n : zS} : zF (wdRW ad a2 cy r n) (wdW a2 cy n) (wdRW ad a2 cy r n) (wdW a2 cy n) := ⟨[4, 5, 6, 7, 8, 9, 10, 11, 12], [0, 1, 2, 3], [0, 1, 2, 3].filterMap (fun i => (wdRW ad a2 cy r n)[i]?), [0, 1, 2, 3, 4, 5, 6, 7, 8, 9, 10, 11, 12], rfl, rfl, by decide, by decide, by decide, rfl, by decide⟩
theorem fS_c {ad : Nat → Nat} {cy : Nat → ClassId} {s : zS} {f : Nat → Int32} : zF (wdS ad cy s) (wdAI (ad 1) cy 60 (s 0)) (wdS ad cy (va_up s 0 f)) (wdAI (ad 1) cy 60 f) := ⟨[1], [0], [0].filterMap (fun i => (wdS ad cy s)[i]?), [0, 1], rfl, rfl, by decide, by decide, by decide, rfl, by decide⟩
end
section
/-! ===== binds by how many things come ===== -/
abbrev zI : Type := Nat → Int32
def zq_b2 {A B β : Type} (o : Option (A × B)) (k : A → B → Option β) : Option β := match o with | none => none | some (a0, a1) => k a0 a1
theorem zq_b2_s {A B β : Type} {o : Option (A × B)} {k : A → B → Option β} {x : β} (h : zq_b2 o k = some x) : ∃ a0 a1, o = some (a0, a1) ∧ k a0 a1 = some x := by
  cases o with
  | none => cases h
  | some z => obtain ⟨a0, a1⟩ := z; exact ⟨a0, a1, rfl, h⟩
def zq_b3 {A B C β : Type} (o : Option (A × B × C)) (k : A → B → C → Option β) : Option β := match o with | none => none | some (a0, a1, a2) => k a0 a1 a2
theorem zq_b3_s {A B C β : Type} {o : Option (A × B × C)} {k : A → B → C → Option β} {x : β} (h : zq_b3 o k = some x) : ∃ a0 a1 a2, o = some (a0, a1, a2) ∧ k a0 a1 a2 = some x := by
  cases o with
  | none => cases h
  | some z => obtain ⟨a0, a1, a2⟩ := z; exact ⟨a0, a1, a2, rfl, h⟩
def zq_b4 {A B C D β : Type} (o : Option (A × B × C × D)) (k : A → B → C → D → Option β) : Option β := match o with | none => none | some (a0, a1, a2, a3) => k a0 a1 a2 a3
theorem zq_b4_s {A B C D β : Type} {o : Option (A × B × C × D)} {k : A → B → C → D → Option β} {x : β} (h : zq_b4 o k = some x) : ∃ a0 a1 a2 a3, o = some (a0, a1, a2, a3) ∧ k a0 a1 a2 a3 = some x := by
  cases o with
  | none => cases h
  | some z => obtain ⟨a0, a1, a2, a3⟩ := z; exact ⟨a0, a1, a2, a3, rfl, h⟩
def zq_b5 {A B C D E β : Type} (o : Option (A × B × C × D × E)) (k : A → B → C → D → E → Option β) : Option β := match o with | none => none | some (a0, a1, a2, a3, a4) => k a0 a1 a2 a3 a4
theorem zq_b5_s {A B C D E β : Type} {o : Option (A × B × C × D × E)} {k : A → B → C → D → E → Option β} {x : β} (h : zq_b5 o k = some x) : ∃ a0 a1 a2 a3 a4, o = some (a0, a1, a2, a3, a4) ∧ k a0 a1 a2 a3 a4 = some x := by
  cases o with
  | none => cases h
  | some z => obtain ⟨a0, a1, a2, a3, a4⟩ := z; exact ⟨a0, a1, a2, a3, a4, rfl, h⟩
def zq_b6 {A B C D E F β : Type} (o : Option (A × B × C × D × E × F)) (k : A → B → C → D → E → F → Option β) : Option β := match o with | none => none | some (a0, a1, a2, a3, a4, a5) => k a0 a1 a2 a3 a4 a5
theorem zq_b6_s {A B C D E F β : Type} {o : Option (A × B × C × D × E × F)} {k : A → B → C → D → E → F → Option β} {x : β} (h : zq_b6 o k = some x) : ∃ a0 a1 a2 a3 a4 a5, o = some (a0, a1, a2, a3, a4, a5) ∧ k a0 a1 a2 a3 a4 a5 = some x := by
  cases o with
  | none => cases h
  | some z => obtain ⟨a0, a1, a2, a3, a4, a5⟩ := z; exact ⟨a0, a1, a2, a3, a4, a5, rfl, h⟩
def zq_b7 {A B C D E F G β : Type} (o : Option (A × B × C × D × E × F × G)) (k : A → B → C → D → E → F → G → Option β) : Option β := match o with | none => none | some (a0, a1, a2, a3, a4, a5, a6) => k a0 a1 a2 a3 a4 a5 a6
theorem zq_b7_s {A B C D E F G β : Type} {o : Option (A × B × C × D × E × F × G)} {k : A → B → C → D → E → F → G → Option β} {x : β} (h : zq_b7 o k = some x) : ∃ a0 a1 a2 a3 a4 a5 a6, o = some (a0, a1, a2, a3, a4, a5, a6) ∧ k a0 a1 a2 a3 a4 a5 a6 = some x := by
  cases o with
  | none => cases h
  | some z => obtain ⟨a0, a1, a2, a3, a4, a5, a6⟩ := z; exact ⟨a0, a1, a2, a3, a4, a5, a6, rfl, h⟩
def zq_b8 {A B C D E F G H β : Type} (o : Option (A × B × C × D × E × F × G × H)) (k : A → B → C → D → E → F → G → H → Option β) : Option β := match o with | none => none | some (a0, a1, a2, a3, a4, a5, a6, a7) => k a0 a1 a2 a3 a4 a5 a6 a7
theorem zq_b8_s {A B C D E F G H β : Type} {o : Option (A × B × C × D × E × F × G × H)} {k : A → B → C → D → E → F → G → H → Option β} {x : β} (h : zq_b8 o k = some x) : ∃ a0 a1 a2 a3 a4 a5 a6 a7, o = some (a0, a1, a2, a3, a4, a5, a6, a7) ∧ k a0 a1 a2 a3 a4 a5 a6 a7 = some x := by
  cases o with
  | none => cases h
  | some z => obtain ⟨a0, a1, a2, a3, a4, a5, a6, a7⟩ := z; exact ⟨a0, a1, a2, a3, a4, a5, a6, a7, rfl, h⟩
def zq_s1_1 {A P β : Type} (o : Option ((A) ⊕ (P))) (k : A → Option β) (j : P → Option β) : Option β := match o with | none => none | some (.inl a0) => k a0 | some (.inr b0) => j b0
theorem zq_s1_1_s {A P β : Type} {o : Option ((A) ⊕ (P))} {k : A → Option β} {j : P → Option β} {x : β} (h : zq_s1_1 o k j = some x) : (∃ a0, o = some (.inl a0) ∧ k a0 = some x) ∨ (∃ b0, o = some (.inr b0) ∧ j b0 = some x) := by
  cases o with
  | none => cases h
  | some z =>
    cases z with
    | inl a0 => exact Or.inl ⟨a0, rfl, h⟩
    | inr b0 => exact Or.inr ⟨b0, rfl, h⟩
def zq_s1_2 {A P Q β : Type} (o : Option ((A) ⊕ (P × Q))) (k : A → Option β) (j : P → Q → Option β) : Option β := match o with | none => none | some (.inl a0) => k a0 | some (.inr (b0, b1)) => j b0 b1
theorem zq_s1_2_s {A P Q β : Type} {o : Option ((A) ⊕ (P × Q))} {k : A → Option β} {j : P → Q → Option β} {x : β} (h : zq_s1_2 o k j = some x) : (∃ a0, o = some (.inl a0) ∧ k a0 = some x) ∨ (∃ b0 b1, o = some (.inr (b0, b1)) ∧ j b0 b1 = some x) := by
  cases o with
  | none => cases h
  | some z =>
    cases z with
    | inl a0 => exact Or.inl ⟨a0, rfl, h⟩
    | inr z => obtain ⟨b0, b1⟩ := z; exact Or.inr ⟨b0, b1, rfl, h⟩
def zq_s1_3 {A P Q R β : Type} (o : Option ((A) ⊕ (P × Q × R))) (k : A → Option β) (j : P → Q → R → Option β) : Option β := match o with | none => none | some (.inl a0) => k a0 | some (.inr (b0, b1, b2)) => j b0 b1 b2
theorem zq_s1_3_s {A P Q R β : Type} {o : Option ((A) ⊕ (P × Q × R))} {k : A → Option β} {j : P → Q → R → Option β} {x : β} (h : zq_s1_3 o k j = some x) : (∃ a0, o = some (.inl a0) ∧ k a0 = some x) ∨ (∃ b0 b1 b2, o = some (.inr (b0, b1, b2)) ∧ j b0 b1 b2 = some x) := by
  cases o with
  | none => cases h
  | some z =>
    cases z with
    | inl a0 => exact Or.inl ⟨a0, rfl, h⟩
    | inr z => obtain ⟨b0, b1, b2⟩ := z; exact Or.inr ⟨b0, b1, b2, rfl, h⟩
def zq_s2_1 {A B P β : Type} (o : Option ((A × B) ⊕ (P))) (k : A → B → Option β) (j : P → Option β) : Option β := match o with | none => none | some (.inl (a0, a1)) => k a0 a1 | some (.inr b0) => j b0
theorem zq_s2_1_s {A B P β : Type} {o : Option ((A × B) ⊕ (P))} {k : A → B → Option β} {j : P → Option β} {x : β} (h : zq_s2_1 o k j = some x) : (∃ a0 a1, o = some (.inl (a0, a1)) ∧ k a0 a1 = some x) ∨ (∃ b0, o = some (.inr b0) ∧ j b0 = some x) := by
  cases o with
  | none => cases h
  | some z =>
    cases z with
    | inl z => obtain ⟨a0, a1⟩ := z; exact Or.inl ⟨a0, a1, rfl, h⟩
    | inr b0 => exact Or.inr ⟨b0, rfl, h⟩
def zq_s2_2 {A B P Q β : Type} (o : Option ((A × B) ⊕ (P × Q))) (k : A → B → Option β) (j : P → Q → Option β) : Option β := match o with | none => none | some (.inl (a0, a1)) => k a0 a1 | some (.inr (b0, b1)) => j b0 b1
theorem zq_s2_2_s {A B P Q β : Type} {o : Option ((A × B) ⊕ (P × Q))} {k : A → B → Option β} {j : P → Q → Option β} {x : β} (h : zq_s2_2 o k j = some x) : (∃ a0 a1, o = some (.inl (a0, a1)) ∧ k a0 a1 = some x) ∨ (∃ b0 b1, o = some (.inr (b0, b1)) ∧ j b0 b1 = some x) := by
  cases o with
  | none => cases h
  | some z =>
    cases z with
    | inl z => obtain ⟨a0, a1⟩ := z; exact Or.inl ⟨a0, a1, rfl, h⟩
    | inr z => obtain ⟨b0, b1⟩ := z; exact Or.inr ⟨b0, b1, rfl, h⟩
def zq_s2_3 {A B P Q R β : Type} (o : Option ((A × B) ⊕ (P × Q × R))) (k : A → B → Option β) (j : P → Q → R → Option β) : Option β := match o with | none => none | some (.inl (a0, a1)) => k a0 a1 | some (.inr (b0, b1, b2)) => j b0 b1 b2
theorem zq_s2_3_s {A B P Q R β : Type} {o : Option ((A × B) ⊕ (P × Q × R))} {k : A → B → Option β} {j : P → Q → R → Option β} {x : β} (h : zq_s2_3 o k j = some x) : (∃ a0 a1, o = some (.inl (a0, a1)) ∧ k a0 a1 = some x) ∨ (∃ b0 b1 b2, o = some (.inr (b0, b1, b2)) ∧ j b0 b1 b2 = some x) := by
  cases o with
  | none => cases h
  | some z =>
    cases z with
    | inl z => obtain ⟨a0, a1⟩ := z; exact Or.inl ⟨a0, a1, rfl, h⟩
    | inr z => obtain ⟨b0, b1, b2⟩ := z; exact Or.inr ⟨b0, b1, b2, rfl, h⟩
def zq_s3_1 {A B C P β : Type} (o : Option ((A × B × C) ⊕ (P))) (k : A → B → C → Option β) (j : P → Option β) : Option β := match o with | none => none | some (.inl (a0, a1, a2)) => k a0 a1 a2 | some (.inr b0) => j b0
theorem zq_s3_1_s {A B C P β : Type} {o : Option ((A × B × C) ⊕ (P))} {k : A → B → C → Option β} {j : P → Option β} {x : β} (h : zq_s3_1 o k j = some x) : (∃ a0 a1 a2, o = some (.inl (a0, a1, a2)) ∧ k a0 a1 a2 = some x) ∨ (∃ b0, o = some (.inr b0) ∧ j b0 = some x) := by
  cases o with
  | none => cases h
  | some z =>
    cases z with
    | inl z => obtain ⟨a0, a1, a2⟩ := z; exact Or.inl ⟨a0, a1, a2, rfl, h⟩
    | inr b0 => exact Or.inr ⟨b0, rfl, h⟩
def zq_s3_2 {A B C P Q β : Type} (o : Option ((A × B × C) ⊕ (P × Q))) (k : A → B → C → Option β) (j : P → Q → Option β) : Option β := match o with | none => none | some (.inl (a0, a1, a2)) => k a0 a1 a2 | some (.inr (b0, b1)) => j b0 b1
theorem zq_s3_2_s {A B C P Q β : Type} {o : Option ((A × B × C) ⊕ (P × Q))} {k : A → B → C → Option β} {j : P → Q → Option β} {x : β} (h : zq_s3_2 o k j = some x) : (∃ a0 a1 a2, o = some (.inl (a0, a1, a2)) ∧ k a0 a1 a2 = some x) ∨ (∃ b0 b1, o = some (.inr (b0, b1)) ∧ j b0 b1 = some x) := by
  cases o with
  | none => cases h
  | some z =>
    cases z with
    | inl z => obtain ⟨a0, a1, a2⟩ := z; exact Or.inl ⟨a0, a1, a2, rfl, h⟩
    | inr z => obtain ⟨b0, b1⟩ := z; exact Or.inr ⟨b0, b1, rfl, h⟩
def zq_s3_3 {A B C P Q R β : Type} (o : Option ((A × B × C) ⊕ (P × Q × R))) (k : A → B → C → Option β) (j : P → Q → R → Option β) : Option β := match o with | none => none | some (.inl (a0, a1, a2)) => k a0 a1 a2 | some (.inr (b0, b1, b2)) => j b0 b1 b2
theorem zq_s3_3_s {A B C P Q R β : Type} {o : Option ((A × B × C) ⊕ (P × Q × R))} {k : A → B → C → Option β} {j : P → Q → R → Option β} {x : β} (h : zq_s3_3 o k j = some x) : (∃ a0 a1 a2, o = some (.inl (a0, a1, a2)) ∧ k a0 a1 a2 = some x) ∨ (∃ b0 b1 b2, o = some (.inr (b0, b1, b2)) ∧ j b0 b1 b2 = some x) := by
  cases o with
  | none => cases h
  | some z =>
    cases z with
    | inl z => obtain ⟨a0, a1, a2⟩ := z; exact Or.inl ⟨a0, a1, a2, rfl, h⟩
    | inr z => obtain ⟨b0, b1, b2⟩ := z; exact Or.inr ⟨b0, b1, b2, rfl, h⟩
theorem zq_el1 {A Z : Type} {a0 : A} {Y : A → Prop} (h : Y a0) : ∀ (c0 : A), (Sum.inl a0 : (A) ⊕ Z) = Sum.inl c0 → Y c0 := by
  intro c0 e
  cases e
  exact h
theorem zq_nl1 {A Z : Type} {z : Z} {Y : A → Prop} : ∀ (c0 : A), (Sum.inr z : (A) ⊕ Z) = Sum.inl c0 → Y c0 := by
  intro c0 e
  cases e
theorem zq_er1 {A Z : Type} {a0 : A} {Y : A → Prop} (h : Y a0) : ∀ (c0 : A), (Sum.inr a0 : Z ⊕ (A)) = Sum.inr c0 → Y c0 := by
  intro c0 e
  cases e
  exact h
theorem zq_nr1 {A Z : Type} {z : Z} {Y : A → Prop} : ∀ (c0 : A), (Sum.inl z : Z ⊕ (A)) = Sum.inr c0 → Y c0 := by
  intro c0 e
  cases e
theorem zq_el2 {A B Z : Type} {a0 : A} {a1 : B} {Y : A → B → Prop} (h : Y a0 a1) : ∀ (c0 : A) (c1 : B), (Sum.inl (a0, a1) : (A × B) ⊕ Z) = Sum.inl (c0, c1) → Y c0 c1 := by
  intro c0 c1 e
  cases e
  exact h
theorem zq_nl2 {A B Z : Type} {z : Z} {Y : A → B → Prop} : ∀ (c0 : A) (c1 : B), (Sum.inr z : (A × B) ⊕ Z) = Sum.inl (c0, c1) → Y c0 c1 := by
  intro c0 c1 e
  cases e
theorem zq_er2 {A B Z : Type} {a0 : A} {a1 : B} {Y : A → B → Prop} (h : Y a0 a1) : ∀ (c0 : A) (c1 : B), (Sum.inr (a0, a1) : Z ⊕ (A × B)) = Sum.inr (c0, c1) → Y c0 c1 := by
  intro c0 c1 e
  cases e
  exact h
theorem zq_nr2 {A B Z : Type} {z : Z} {Y : A → B → Prop} : ∀ (c0 : A) (c1 : B), (Sum.inl z : Z ⊕ (A × B)) = Sum.inr (c0, c1) → Y c0 c1 := by
  intro c0 c1 e
  cases e
theorem zq_el3 {A B C Z : Type} {a0 : A} {a1 : B} {a2 : C} {Y : A → B → C → Prop} (h : Y a0 a1 a2) : ∀ (c0 : A) (c1 : B) (c2 : C), (Sum.inl (a0, a1, a2) : (A × B × C) ⊕ Z) = Sum.inl (c0, c1, c2) → Y c0 c1 c2 := by
  intro c0 c1 c2 e
  cases e
  exact h
theorem zq_nl3 {A B C Z : Type} {z : Z} {Y : A → B → C → Prop} : ∀ (c0 : A) (c1 : B) (c2 : C), (Sum.inr z : (A × B × C) ⊕ Z) = Sum.inl (c0, c1, c2) → Y c0 c1 c2 := by
  intro c0 c1 c2 e
  cases e
theorem zq_er3 {A B C Z : Type} {a0 : A} {a1 : B} {a2 : C} {Y : A → B → C → Prop} (h : Y a0 a1 a2) : ∀ (c0 : A) (c1 : B) (c2 : C), (Sum.inr (a0, a1, a2) : Z ⊕ (A × B × C)) = Sum.inr (c0, c1, c2) → Y c0 c1 c2 := by
  intro c0 c1 c2 e
  cases e
  exact h
theorem zq_nr3 {A B C Z : Type} {z : Z} {Y : A → B → C → Prop} : ∀ (c0 : A) (c1 : B) (c2 : C), (Sum.inl z : Z ⊕ (A × B × C)) = Sum.inr (c0, c1, c2) → Y c0 c1 c2 := by
  intro c0 c1 c2 e
  cases e
end
section
def f_X0_note (r : zS) (x1 : Int32) (x2 : Int32) (x3 : Int32) : Option (Int32 × zS) :=
  zq_in 8 (r 3 0) (zq_lt (va_up r 0 (upd (r 0) (Int32.toNatClampNeg (r 3 0)) x1)) (fun r2 =>
  zq_in 8 (r2 3 0) (zq_lt (va_up r2 1 (upd (r2 1) (Int32.toNatClampNeg (r2 3 0)) x2)) (fun r4 =>
  zq_in 8 (r4 3 0) (zq_lt (va_up r4 2 (upd (r4 2) (Int32.toNatClampNeg (r4 3 0)) (vp_nar .boolean x3))) (fun r6 =>
  zq_lt (va_up r6 3 (fun _ => ((r6 3 0) + 1))) (fun r7 =>
  some (((r7 3 0) - 1), r7))))))))
set_option maxHeartbeats 4000000 in
set_option maxRecDepth 100000 in
theorem c_X0_note {l : Launch} {D : va_G} {ad : Nat → Nat} {cy : Nat → ClassId} {r : zS} {x1 : Int32} {x2 : Int32} {x3 : Int32} {r0 : Int32} {r' : zS} (hf : f_X0_note r x1 x2 x3 = some (r0, r')) : zMI l yX0_note (zW yX0_note cX0_note 4 (some .int)) { frames := 0, cells := 0, slots := 0, locals := 0 } D cy [.ref (ad 0), .int x1, .int x2, .int x3] (wdR ad cy r) r0 (wdR ad cy r') := by
  unfold f_X0_note at hf
  refine zEI (ty := .int) (by decide) (Nat.le_of_ble_eq_true rfl) ?_
  intro p e s9 m9 below meth c A Q C0 hret ls hl hP hD
  have hl : lv_has ls 4 [(0, .ref (ad 0)), (1, .int x1), (2, .int x2), (3, .int x3)] := hl
  have hS : va_S A s9.heap s9.heap [] := va_S.rf
  obtain ⟨hx, hb, hml, hown, hts⟩ := id C0.1
  refine lv_aload_n hx hb dX0_note_0 rfl (lv_at hl 0 rfl) ?_
  refine gf_X0_9 C0 hP 0 wdR_0 rfl dX0_note_1 ?_
  refine lv_aload_n hx hb dX0_note_4 rfl (lv_at hl 0 rfl) ?_
  refine gf_X0_22 C0 hP 0 wdR_0 rfl dX0_note_5 ?_
  refine lv_iload_n hx hb dX0_note_8 rfl (lv_at hl 1 rfl) ?_
  obtain ⟨h1, hf⟩ := zq_in_s hf
  obtain ⟨r2, er2, hf⟩ := zq_lt_s hf
  refine zis (ws' := (wdR ad cy r2)) C0 hP hD hS 1 wdR_1 h1 (by rw [er2]; rfl) dX0_note_9 (fun H locs hP hD hS => ?_)
  refine lv_aload_n hx hb dX0_note_10 rfl (lv_at hl 0 rfl) ?_
  refine gf_X0_15 C0 hP 0 wdR_0 rfl dX0_note_11 ?_
  refine lv_aload_n hx hb dX0_note_14 rfl (lv_at hl 0 rfl) ?_
  refine gf_X0_22 C0 hP 0 wdR_0 rfl dX0_note_15 ?_
  refine lv_iload_n hx hb dX0_note_18 rfl (lv_at hl 2 rfl) ?_
  obtain ⟨h3, hf⟩ := zq_in_s hf
  obtain ⟨r4, er4, hf⟩ := zq_lt_s hf
  refine zis (ws' := (wdR ad cy r4)) C0 hP hD hS 2 wdR_2 h3 (by rw [er4]; rfl) dX0_note_19 (fun H locs hP hD hS => ?_)
  refine lv_aload_n hx hb dX0_note_20 rfl (lv_at hl 0 rfl) ?_
  refine gf_X0_18 C0 hP 0 wdR_0 rfl dX0_note_21 ?_
  refine lv_aload_n hx hb dX0_note_24 rfl (lv_at hl 0 rfl) ?_
  refine gf_X0_22 C0 hP 0 wdR_0 rfl dX0_note_25 ?_
  refine lv_iload_n hx hb dX0_note_28 rfl (lv_at hl 3 rfl) ?_
  obtain ⟨h5, hf⟩ := zq_in_s hf
  obtain ⟨r6, er6, hf⟩ := zq_lt_s hf
  refine zzs (ws' := (wdR ad cy r6)) C0 hP hD hS 3 wdR_3 h5 (by rw [er6]; rfl) dX0_note_29 (fun H locs hP hD hS => ?_)
  refine lv_aload_n hx hb dX0_note_30 rfl (lv_at hl 0 rfl) ?_
  refine lv_dup hx hb dX0_note_31 rfl ?_
  refine gf_X0_22 C0 hP 0 wdR_0 rfl dX0_note_32 ?_
  refine lv_iconst (v := 1) hx hb dX0_note_35 (by decide) ?_
  refine lv_iadd hx hb dX0_note_36 ?_
  obtain ⟨r7, er7, hf⟩ := zq_lt_s hf
  refine pf_X0_22 (ws' := (wdR ad cy r7)) C0 hP hD hS 0 wdR_0 (Nat.le_of_ble_eq_true rfl) (by rw [er7]; rfl) dX0_note_37 (fun H locs hP hD hS => ?_)
  refine lv_aload_n hx hb dX0_note_40 rfl (lv_at hl 0 rfl) ?_
  refine gf_X0_22 C0 hP 0 wdR_0 rfl dX0_note_41 ?_
  refine lv_iconst (v := 1) hx hb dX0_note_44 (by decide) ?_
  refine lv_isub hx hb dX0_note_45 ?_
  cases hf
  exact hret _ _ _ _ rfl dX0_note_46 hP hD hS

def f_X3_lightBy  (x0 : Int32) (x1 : Int32) : Option (Int32) :=
  if x0 = 1 then (
  some (x1 / 2)) else (
  if x0 = 2 then (
  some ((x1 / 2) + x1)) else (
  some x1))
set_option maxHeartbeats 4000000 in
set_option maxRecDepth 100000 in
theorem c_X3_lightBy {l : Launch} {D : va_G} {cy : Nat → ClassId}   {x0 : Int32} {x1 : Int32} {r0 : Int32} (hf : f_X3_lightBy x0 x1 = some r0) : zMI l yX3_lightBy (zW yX3_lightBy cX3_lightBy 3 (some .int)) { frames := 0, cells := 0, slots := 0, locals := 0 } D cy [.int x0, .int x1] [] r0 [] := by
  unfold f_X3_lightBy at hf
  refine zEI (ty := .int) (by decide) (Nat.le_of_ble_eq_true rfl) ?_
  intro p e s9 m9 below meth c A Q C0 hret ls hl hP hD
  have hl : lv_has ls 3 [(0, .int x0), (1, .int x1)] := hl
  have hS : va_S A s9.heap s9.heap [] := va_S.rf
  obtain ⟨hx, hb, hml, hown, hts⟩ := id C0.1
  refine lv_iload_n hx hb dX3_lightBy_0 rfl (lv_at hl 1 rfl) ?_
  refine lv_iconst (v := 2) hx hb dX3_lightBy_1 (by decide) ?_
  refine lv_idiv hx hb dX3_lightBy_2 (by decide) ?_
  refine lv_istore_n (lv' := [(2, .int (x1 / 2)), (0, .int x0), (1, .int x1)]) hx hb dX3_lightBy_3 rfl hl (by decide) rfl (fun ls hl => ?_)
  refine lv_iload_n hx hb dX3_lightBy_4 rfl (lv_at hl 1 rfl) ?_
  by_cases c1 : x0 = 1
  · have hf := it_t c1 hf
    refine lv_lookup (off := 31) (tgt := 36) hx hb dX3_lightBy_5 (by decide) (by rw [c1]; rfl) (by decide) ?_
    refine lv_iload_n hx hb dX3_lightBy_36 rfl (lv_at hl 0 rfl) ?_
    cases hf
    exact hret _ _ _ _ rfl dX3_lightBy_37 hP hD hS
  have hf := it_f c1 hf
  by_cases c2 : x0 = 2
  · have hf := it_t c2 hf
    refine lv_lookup (off := 27) (tgt := 32) hx hb dX3_lightBy_5 (by decide) (by rw [c2]; rfl) (by decide) ?_
    refine lv_iload_n hx hb dX3_lightBy_32 rfl (lv_at hl 0 rfl) ?_
    refine lv_iload_n hx hb dX3_lightBy_33 rfl (lv_at hl 2 rfl) ?_
    refine lv_iadd hx hb dX3_lightBy_34 ?_
    cases hf
    exact hret _ _ _ _ rfl dX3_lightBy_35 hP hD hS
  have hf := it_f c2 hf
  refine lv_lookup (off := 33) (tgt := 38) hx hb dX3_lightBy_5 (by decide) ((lv_osw c1 (by decide)).trans ((lv_osw c2 (by decide)).trans rfl)) (by decide) ?_
  refine lv_iload_n hx hb dX3_lightBy_38 rfl (lv_at hl 2 rfl) ?_
  cases hf
  exact hret _ _ _ _ rfl dX3_lightBy_39 hP hD hS

def f_X2_lightOf (n : zS) (x1 : Int32) : Option (Int32) :=
  zq_rd (n 5) 16 x1 (fun v1 =>
  zq_rd (n 3) 4 v1 (fun v3 =>
  if v3 = 0 then (
  zq_rd (n 0) 4 v1 (fun v6 =>
  zq_rd (n 4) 16 x1 (fun v8 =>
  zq_b1 (f_X3_lightBy v6 v8) (fun r11 =>
  some r11)))) else (
  some 0)))
set_option maxHeartbeats 4000000 in
set_option maxRecDepth 100000 in
theorem c_X2_lightOf {l : Launch} {D : va_G} {ad : Nat → Nat} {cy : Nat → ClassId} {n : zS} {x1 : Int32} {r0 : Int32} (hf : f_X2_lightOf n x1 = some r0) : zMI l yX2_lightOf (zW yX2_lightOf cX2_lightOf 3 (some .int)) { frames := 1, cells := 0, slots := 0, locals := 22 } D cy [.ref (ad 0), .int x1] (wdW ad cy n) r0 (wdW ad cy n) := by
  unfold f_X2_lightOf at hf
  refine zEI (ty := .int) (by decide) (Nat.le_of_ble_eq_true rfl) ?_
  intro p e s9 m9 below meth c A Q C0 hret ls hl hP hD
  have hl : lv_has ls 3 [(0, .ref (ad 0)), (1, .int x1)] := hl
  have hS : va_S A s9.heap s9.heap [] := va_S.rf
  obtain ⟨hx, hb, hml, hown, hts⟩ := id C0.1
  refine lv_aload_n hx hb dX2_lightOf_0 rfl (lv_at hl 0 rfl) ?_
  refine gf_X2_28 C0 hP 0 wdW_0 rfl dX2_lightOf_1 ?_
  refine lv_iload_n hx hb dX2_lightOf_4 rfl (lv_at hl 1 rfl) ?_
  obtain ⟨v1, ev1, h2, hf⟩ := zq_rd_s hf
  refine zia C0 hP 6 wdW_6 ev1 h2 dX2_lightOf_5 ?_
  refine lv_istore_n (lv' := [(2, .int v1), (0, .ref (ad 0)), (1, .int x1)]) hx hb dX2_lightOf_6 rfl hl (by decide) rfl (fun ls hl => ?_)
  refine lv_aload_n hx hb dX2_lightOf_7 rfl (lv_at hl 1 rfl) ?_
  refine gf_X2_21 C0 hP 0 wdW_0 rfl dX2_lightOf_8 ?_
  refine lv_iload_n hx hb dX2_lightOf_11 rfl (lv_at hl 0 rfl) ?_
  obtain ⟨v3, ev3, h4, hf⟩ := zq_rd_s hf
  refine zza C0 hP 4 wdW_4 ev3 h4 dX2_lightOf_12 ?_
  refine lv_if_eq (tgt := 20) hx hb dX2_lightOf_13 (by decide) (fun c5 => ?_) (fun c5 => ?_)
  · have hf := it_t c5 hf
    refine lv_aload_n hx hb dX2_lightOf_20 rfl (lv_at hl 1 rfl) ?_
    refine gf_X2_9 C0 hP 0 wdW_0 rfl dX2_lightOf_21 ?_
    refine lv_iload_n hx hb dX2_lightOf_24 rfl (lv_at hl 0 rfl) ?_
    obtain ⟨v6, ev6, h7, hf⟩ := zq_rd_s hf
    refine zia C0 hP 1 wdW_1 ev6 h7 dX2_lightOf_25 ?_
    refine lv_aload_n hx hb dX2_lightOf_26 rfl (lv_at hl 1 rfl) ?_
    refine gf_X2_25 C0 hP 0 wdW_0 rfl dX2_lightOf_27 ?_
    refine lv_iload_n hx hb dX2_lightOf_30 rfl (lv_at hl 2 rfl) ?_
    obtain ⟨v8, ev8, h9, hf⟩ := zq_rd_s hf
    refine zia C0 hP 5 wdW_5 ev8 h9 dX2_lightOf_31 ?_
    obtain ⟨r11, hc10, hf⟩ := zq_b1_s hf
    refine zNI (ws' := (wdW ad cy n)) (rest := []) C0 (fun _ h => h) zF.nil (c_X3_lightBy hc10) hP hD hS my_X3_lightBy C0.2.2.2.2.2.2.2.2.1 ⟨rfl, rfl⟩ ⟨Nat.le_of_ble_eq_true rfl, Nat.le_of_ble_eq_true rfl⟩ rfl hl.1 rfl (Nat.le_of_ble_eq_true rfl) dX2_lightOf_32 ⟨Nat.zero_le _, Nat.zero_le _⟩ (fun H locs hP hD hS => ?_)
    cases hf
    exact hret _ _ _ _ rfl dX2_lightOf_35 hP hD hS
  · have hf := it_f c5 hf
    refine lv_iconst (v := 0) hx hb dX2_lightOf_16 (by decide) ?_
    refine lv_goto (tgt := 35) hx hb dX2_lightOf_17 (by decide) ?_
    cases hf
    exact hret _ _ _ _ rfl dX2_lightOf_35 hP hD hS

def f_X3_hasBit  (x0 : Int32) (x1 : Int32) : Option (Int32) :=
  if ((x0 >>> (x1 &&& 31)) &&& 1) = 1 then (
  some 1) else (
  some 0)
set_option maxHeartbeats 4000000 in
set_option maxRecDepth 100000 in
theorem c_X3_hasBit {l : Launch} {D : va_G} {cy : Nat → ClassId}   {x0 : Int32} {x1 : Int32} {r0 : Int32} (hf : f_X3_hasBit x0 x1 = some r0) : zMI l yX3_hasBit (zW yX3_hasBit cX3_hasBit 2 (some .boolean)) { frames := 0, cells := 0, slots := 0, locals := 0 } D cy [.int x0, .int x1] [] r0 [] := by
  unfold f_X3_hasBit at hf
  refine zEI (ty := .boolean) (by decide) (Nat.le_of_ble_eq_true rfl) ?_
  intro p e s9 m9 below meth c A Q C0 hret ls hl hP hD
  have hl : lv_has ls 2 [(0, .int x0), (1, .int x1)] := hl
  have hS : va_S A s9.heap s9.heap [] := va_S.rf
  obtain ⟨hx, hb, hml, hown, hts⟩ := id C0.1
  refine lv_iload_n hx hb dX3_hasBit_0 rfl (lv_at hl 0 rfl) ?_
  refine lv_iload_n hx hb dX3_hasBit_1 rfl (lv_at hl 1 rfl) ?_
  refine lv_ishr hx hb dX3_hasBit_2 ?_
  refine lv_iconst (v := 1) hx hb dX3_hasBit_3 (by decide) ?_
  refine lv_iand hx hb dX3_hasBit_4 ?_
  refine lv_iconst (v := 1) hx hb dX3_hasBit_5 (by decide) ?_
  refine lv_icmp_ne (tgt := 13) hx hb dX3_hasBit_6 (by decide) (fun c1 => ?_) (fun c1 => ?_)
  · have hf := it_f c1 hf
    refine lv_iconst (v := 0) hx hb dX3_hasBit_13 (by decide) ?_
    cases hf
    exact hret _ _ _ _ rfl dX3_hasBit_14 hP hD hS
  · have hf := it_t c1 hf
    refine lv_iconst (v := 1) hx hb dX3_hasBit_9 (by decide) ?_
    refine lv_goto (tgt := 14) hx hb dX3_hasBit_10 (by decide) ?_
    cases hf
    exact hret _ _ _ _ rfl dX3_hasBit_14 hP hD hS

def f_X2_isLit (n : zS) (x1 : Int32) (x2 : Int32) : Option (Int32) :=
  zq_b1 (f_X2_lightOf n x1) (fun r2 =>
  zq_rd (n 6) 15 x2 (fun v3 =>
  zq_b1 (f_X3_hasBit r2 v3) (fun r6 =>
  zq_z r6 (some r6))))
set_option maxHeartbeats 4000000 in
set_option maxRecDepth 100000 in
theorem c_X2_isLit {l : Launch} {D : va_G} {ad : Nat → Nat} {cy : Nat → ClassId} {n : zS} {x1 : Int32} {x2 : Int32} {r0 : Int32} (hf : f_X2_isLit n x1 x2 = some r0) : zMI l yX2_isLit (zW yX2_isLit cX2_isLit 3 (some .boolean)) { frames := 2, cells := 0, slots := 0, locals := 44 } D cy [.ref (ad 0), .int x1, .int x2] (wdW ad cy n) r0 (wdW ad cy n) := by
  unfold f_X2_isLit at hf
  refine zEI (ty := .boolean) (by decide) (Nat.le_of_ble_eq_true rfl) ?_
  intro p e s9 m9 below meth c A Q C0 hret ls hl hP hD
  have hl : lv_has ls 3 [(0, .ref (ad 0)), (1, .int x1), (2, .int x2)] := hl
  have hS : va_S A s9.heap s9.heap [] := va_S.rf
  obtain ⟨hx, hb, hml, hown, hts⟩ := id C0.1
  refine lv_aload_n hx hb dX2_isLit_0 rfl (lv_at hl 0 rfl) ?_
  refine lv_iload_n hx hb dX2_isLit_1 rfl (lv_at hl 1 rfl) ?_
  obtain ⟨r2, hc1, hf⟩ := zq_b1_s hf
  refine zVI (ws' := (wdW ad cy n)) (rest := []) C0 (fun _ h => h) zF.id (c_X2_lightOf hc1) hP hD hS my_X2_lightOf kl_X2_110 ⟨rfl, rfl⟩ ⟨Nat.le_of_ble_eq_true rfl, Nat.le_of_ble_eq_true rfl⟩ (q0 := 0) (ci := 2) rfl wdW_0 rfl hl.1 rfl (Nat.le_of_ble_eq_true rfl) dX2_isLit_2 ⟨Nat.zero_le _, Nat.zero_le _⟩ (fun H locs hP hD hS => ?_)
  refine lv_aload_n hx hb dX2_isLit_5 rfl (lv_at hl 0 rfl) ?_
  refine gf_X2_31 C0 hP 0 wdW_0 rfl dX2_isLit_6 ?_
  refine lv_iload_n hx hb dX2_isLit_9 rfl (lv_at hl 2 rfl) ?_
  obtain ⟨v3, ev3, h4, hf⟩ := zq_rd_s hf
  refine zia C0 hP 7 wdW_7 ev3 h4 dX2_isLit_10 ?_
  obtain ⟨r6, hc5, hf⟩ := zq_b1_s hf
  refine zNI (ws' := (wdW ad cy n)) (rest := []) C0 (fun _ h => h) zF.nil (c_X3_hasBit hc5) hP hD hS my_X3_hasBit C0.2.2.2.2.2.2.2.2.2.1 ⟨rfl, rfl⟩ ⟨Nat.le_of_ble_eq_true rfl, Nat.le_of_ble_eq_true rfl⟩ rfl hl.1 rfl (Nat.le_of_ble_eq_true rfl) dX2_isLit_11 ⟨Nat.zero_le _, Nat.zero_le _⟩ (fun H locs hP hD hS => ?_)
  obtain ⟨h7, hf⟩ := zq_z_s hf
  cases hf
  exact hret _ _ _ _ (zq_nz h7) dX2_isLit_14 hP hD hS

def f_X0_holdFor_L2 (r : zS) (n : zS) : Nat → Int32 → Option ((Unit) ⊕ (Unit))
  | 0, _ => none
  | q9 + 1, x2 =>
  if (r 3 0) ≤ x2 then (
  some (Sum.inl ())) else (
  zq_rd (r 1) 8 x2 (fun v2 =>
  zq_rd (r 0) 8 x2 (fun v4 =>
  zq_b1 (f_X2_isLit n v2 v4) (fun r7 =>
  zq_rd (r 2) 8 x2 (fun v8 =>
  if r7 = v8 then (
  f_X0_holdFor_L2 r n q9 (x2 + 1)) else (
  some (Sum.inr ())))))))
def f_X0_holdFor (r : zS) (n : zS)  : Option (Int32) :=
  zq_s1_1 (f_X0_holdFor_L2 r n 100 0) (fun _u =>
  some 1) (fun _u =>
  some 0)
set_option maxHeartbeats 4000000 in
set_option maxRecDepth 100000 in
theorem w_X0_holdFor_L2 {l : Launch} {p : Program} {e : Env} {s9 : State} {m9 : MethodId} {ag : Array Value} {below : List Frame} {meth : Method} {c : Code} {A : Nat → Prop} {Q : State → Prop} {D : va_G} {ad : Nat → Nat} {cy : Nat → ClassId} {a2 : Nat → Nat} {r : zS} {n : zS} (C0 : zCx p s9 m9 ag c cX0_holdFor 3 RX0 D cy A)  {out : (Unit) ⊕ (Unit)} (e0 : ∀ (uu : Unit), out = Sum.inl uu → ∀ (H : Heap) (locs : List Loc) (ls : Array Slot), va_P D vwCl (wdRW ad a2 cy r n) H → va_D A (wdRW ad a2 cy r n) → va_S A s9.heap H locs → lv_has ls 3 [] → W p l e { frames := 3, cells := 0, slots := 0, locals := 66 } s9 m9 ag below meth c H locs 0 0 Q (F0 m9 43 ls [])) (e1 : ∀ (uu : Unit), out = Sum.inr uu → ∀ (H : Heap) (locs : List Loc) (ls : Array Slot), va_P D vwCl (wdRW ad a2 cy r n) H → va_D A (wdRW ad a2 cy r n) → va_S A s9.heap H locs → lv_has ls 3 [] → W p l e { frames := 3, cells := 0, slots := 0, locals := 66 } s9 m9 ag below meth c H locs 0 0 Q (F0 m9 35 ls [])) : ∀ (q9 : Nat) (x2 : Int32), f_X0_holdFor_L2 r n q9 x2 = some out → ∀ (H : Heap) (locs : List Loc) (ls : Array Slot), va_P D vwCl (wdRW ad a2 cy r n) H → va_D A (wdRW ad a2 cy r n) → va_S A s9.heap H locs → lv_has ls 3 [(0, .ref (ad 0)), (1, .ref (a2 0)), (2, .int x2)] → W p l e { frames := 3, cells := 0, slots := 0, locals := 66 } s9 m9 ag below meth c H locs 0 0 Q (F0 m9 2 ls []) := by
  obtain ⟨hx, hb, hml, hown, hts⟩ := id C0.1
  intro q9
  induction q9 with
  | zero =>
    intro x2 hf
    rw [f_X0_holdFor_L2] at hf
    cases hf
  | succ q9 ih =>
    intro x2 hf H locs ls hP hD hS hl
    rw [f_X0_holdFor_L2] at hf
    refine lv_iload_n hx hb dX0_holdFor_2 rfl (lv_at hl 2 rfl) ?_
    refine lv_aload_n hx hb dX0_holdFor_3 rfl (lv_at hl 0 rfl) ?_
    refine gf_X0_22 C0 hP 0 wdRW_0 rfl dX0_holdFor_4 ?_
    refine lv_icmp_ge (tgt := 43) hx hb dX0_holdFor_7 (by decide) (fun c1 => ?_) (fun c1 => ?_)
    · have hf := it_t c1 hf
      exact e0 () (Option.some.inj hf).symm _ _ _ hP hD hS (lv_sub hl [] rfl)
    · have hf := it_f c1 hf
      refine lv_aload_n hx hb dX0_holdFor_10 rfl (lv_at hl 1 rfl) ?_
      refine lv_aload_n hx hb dX0_holdFor_11 rfl (lv_at hl 0 rfl) ?_
      refine gf_X0_15 C0 hP 0 wdRW_0 rfl dX0_holdFor_12 ?_
      refine lv_iload_n hx hb dX0_holdFor_15 rfl (lv_at hl 2 rfl) ?_
      obtain ⟨v2, ev2, h3, hf⟩ := zq_rd_s hf
      refine zia C0 hP 2 wdRW_2 ev2 h3 dX0_holdFor_16 ?_
      refine lv_aload_n hx hb dX0_holdFor_17 rfl (lv_at hl 0 rfl) ?_
      refine gf_X0_9 C0 hP 0 wdRW_0 rfl dX0_holdFor_18 ?_
      refine lv_iload_n hx hb dX0_holdFor_21 rfl (lv_at hl 2 rfl) ?_
      obtain ⟨v4, ev4, h5, hf⟩ := zq_rd_s hf
      refine zia C0 hP 1 wdRW_1 ev4 h5 dX0_holdFor_22 ?_
      obtain ⟨r7, hc6, hf⟩ := zq_b1_s hf
      refine zVI (ws' := (wdRW ad a2 cy r n)) (rest := []) C0 (fun _ h => h) fRW_n (c_X2_isLit (ad := a2) hc6) hP hD hS my_X2_isLit kl_X0_26 ⟨rfl, rfl⟩ ⟨Nat.le_of_ble_eq_true rfl, Nat.le_of_ble_eq_true rfl⟩ (q0 := 4) (ci := 2) rfl wdRW_4 rfl hl.1 rfl (Nat.le_of_ble_eq_true rfl) dX0_holdFor_23 ⟨Nat.zero_le _, Nat.zero_le _⟩ (fun H locs hP hD hS => ?_)
      refine lv_aload_n hx hb dX0_holdFor_26 rfl (lv_at hl 0 rfl) ?_
      refine gf_X0_18 C0 hP 0 wdRW_0 rfl dX0_holdFor_27 ?_
      refine lv_iload_n hx hb dX0_holdFor_30 rfl (lv_at hl 2 rfl) ?_
      obtain ⟨v8, ev8, h9, hf⟩ := zq_rd_s hf
      refine zza C0 hP 3 wdRW_3 ev8 h9 dX0_holdFor_31 ?_
      refine lv_icmp_eq (tgt := 37) hx hb dX0_holdFor_32 (by decide) (fun c10 => ?_) (fun c10 => ?_)
      · have hf := it_t c10 hf
        refine lv_iinc (v := (x2 + 1)) (lv' := [(2, .int (x2 + 1)), (0, .ref (ad 0)), (1, .ref (a2 0))]) hx hb dX0_holdFor_37 hl (k := 2) rfl rfl (by decide) rfl (fun ls hl => ?_)
        refine lv_goto (tgt := 2) hx hb dX0_holdFor_40 (by decide) ?_
        exact ih (x2 + 1) hf _ _ _ hP hD hS (lv_sub hl [1, 2, 0] rfl)
      · have hf := it_f c10 hf
        exact e1 () (Option.some.inj hf).symm _ _ _ hP hD hS (lv_sub hl [] rfl)
set_option maxHeartbeats 4000000 in
set_option maxRecDepth 100000 in
theorem c_X0_holdFor {l : Launch} {D : va_G} {ad : Nat → Nat} {cy : Nat → ClassId} {a2 : Nat → Nat} {r : zS} {n : zS}  {r0 : Int32} (hf : f_X0_holdFor r n = some r0) : zMI l yX0_holdFor (zW yX0_holdFor cX0_holdFor 3 (some .boolean)) { frames := 3, cells := 0, slots := 0, locals := 66 } D cy [.ref (ad 0), .ref (a2 0)] (wdRW ad a2 cy r n) r0 (wdRW ad a2 cy r n) := by
  unfold f_X0_holdFor at hf
  refine zEI (ty := .boolean) (by decide) (Nat.le_of_ble_eq_true rfl) ?_
  intro p e s9 m9 below meth c A Q C0 hret ls hl hP hD
  have hl : lv_has ls 3 [(0, .ref (ad 0)), (1, .ref (a2 0))] := hl
  have hS : va_S A s9.heap s9.heap [] := va_S.rf
  obtain ⟨hx, hb, hml, hown, hts⟩ := id C0.1
  refine lv_iconst (v := 0) hx hb dX0_holdFor_0 (by decide) ?_
  refine lv_istore_n (lv' := [(2, .int 0), (0, .ref (ad 0)), (1, .ref (a2 0))]) hx hb dX0_holdFor_1 rfl hl (by decide) rfl (fun ls hl => ?_)
  rcases zq_s1_1_s hf with ⟨_u, hL11, hf⟩ | ⟨_u, hL11, hf⟩
  · refine w_X0_holdFor_L2 C0 (zq_el1 ?_) (zq_nr1) 100 0 hL11 _ _ _ hP hD hS (lv_sub hl [1, 2, 0] rfl)
    intro H locs ls hP hD hS hl
    refine lv_iconst (v := 1) hx hb dX0_holdFor_43 (by decide) ?_
    cases hf
    exact hret _ _ _ _ rfl dX0_holdFor_44 hP hD hS
  · refine w_X0_holdFor_L2 C0 (zq_nl1) (zq_er1 ?_) 100 0 hL11 _ _ _ hP hD hS (lv_sub hl [1, 2, 0] rfl)
    intro H locs ls hP hD hS hl
    refine lv_iconst (v := 0) hx hb dX0_holdFor_35 (by decide) ?_
    cases hf
    exact hret _ _ _ _ rfl dX0_holdFor_36 hP hD hS

def f_J7_fill_53178_L5 (ln : Nat) (x1 : Int32) (x3 : Int32) : Nat → Int32 → zI → Option (zI)
  | 0, _, _ => none
  | q9 + 1, x2, f =>
  if x3 ≤ x2 then (
  some f) else (
  zq_in ln x2 (zq_lt ((upd (f) (Int32.toNatClampNeg x2) x1)) (fun f3 =>
  f_J7_fill_53178_L5 ln x1 x3 q9 (x2 + 1) f3)))
def f_J7_fill_53178 (ln : Nat) (f : zI) (x1 : Int32) : Option (zI) :=
  zq_b1 (f_J7_fill_53178_L5 ln x1 (Int32.ofNat ln) 100 0 f) (fun f5 =>
  some f5)
set_option maxHeartbeats 4000000 in
set_option maxRecDepth 100000 in
theorem w_J7_fill_53178_L5 {l : Launch} {p : Program} {e : Env} {s9 : State} {m9 : MethodId} {ag : Array Value} {below : List Frame} {meth : Method} {c : Code} {A : Nat → Prop} {Q : State → Prop} {D : va_G} {ad : Nat} {cy : Nat → ClassId} {ln : Nat} {x1 : Int32} {x3 : Int32} (C0 : zCx p s9 m9 ag c cJ7_fill_53178 4 RJ7 D cy A)  {fo : zI} (e0 : ∀ (H : Heap) (locs : List Loc) (ls : Array Slot), va_P D vwCl (wdAI ad cy ln fo) H → va_D A (wdAI ad cy ln fo) → va_S A s9.heap H locs → lv_has ls 4 [] → W p l e { frames := 0, cells := 0, slots := 0, locals := 0 } s9 m9 ag below meth c H locs 0 0 Q (F0 m9 20 ls [])) : ∀ (q9 : Nat) (x2 : Int32) (f : zI), f_J7_fill_53178_L5 ln x1 x3 q9 x2 f = some fo → ∀ (H : Heap) (locs : List Loc) (ls : Array Slot), va_P D vwCl (wdAI ad cy ln f) H → va_D A (wdAI ad cy ln f) → va_S A s9.heap H locs → lv_has ls 4 [(0, .ref ad), (1, .int x1), (2, .int x2), (3, .int x3)] → W p l e { frames := 0, cells := 0, slots := 0, locals := 0 } s9 m9 ag below meth c H locs 0 0 Q (F0 m9 5 ls []) := by
  obtain ⟨hx, hb, hml, hown, hts⟩ := id C0.1
  intro q9
  induction q9 with
  | zero =>
    intro x2 f hf
    rw [f_J7_fill_53178_L5] at hf
    cases hf
  | succ q9 ih =>
    intro x2 f hf H locs ls hP hD hS hl
    rw [f_J7_fill_53178_L5] at hf
    refine lv_iload_n hx hb dJ7_fill_53178_5 rfl (lv_at hl 2 rfl) ?_
    refine lv_iload_n hx hb dJ7_fill_53178_6 rfl (lv_at hl 3 rfl) ?_
    refine lv_icmp_ge (tgt := 20) hx hb dJ7_fill_53178_7 (by decide) (fun c1 => ?_) (fun c1 => ?_)
    · have hf := it_t c1 hf
      cases hf
      exact e0 _ _ _ hP hD hS (lv_sub hl [] rfl)
    · have hf := it_f c1 hf
      refine lv_aload_n hx hb dJ7_fill_53178_10 rfl (lv_at hl 0 rfl) ?_
      refine lv_iload_n hx hb dJ7_fill_53178_11 rfl (lv_at hl 2 rfl) ?_
      refine lv_iload_n hx hb dJ7_fill_53178_12 rfl (lv_at hl 1 rfl) ?_
      obtain ⟨h2, hf⟩ := zq_in_s hf
      obtain ⟨f3, ef3, hf⟩ := zq_lt_s hf
      refine zis (ws' := (wdAI ad cy ln f3)) C0 hP hD hS 0 wdAI_0 h2 (by rw [ef3]; rfl) dJ7_fill_53178_13 (fun H locs hP hD hS => ?_)
      refine lv_iinc (v := (x2 + 1)) (lv' := [(2, .int (x2 + 1)), (0, .ref ad), (1, .int x1), (3, .int x3)]) hx hb dJ7_fill_53178_14 hl (k := 2) rfl rfl (by decide) rfl (fun ls hl => ?_)
      refine lv_goto (tgt := 5) hx hb dJ7_fill_53178_17 (by decide) ?_
      exact ih (x2 + 1) f3 hf _ _ _ hP hD hS (lv_sub hl [1, 2, 0, 3] rfl)
set_option maxHeartbeats 4000000 in
set_option maxRecDepth 100000 in
theorem c_J7_fill_53178 {l : Launch} {D : va_G} {ad : Nat} {cy : Nat → ClassId} {ln : Nat} {f : zI} {x1 : Int32} {f' : zI} (hf : f_J7_fill_53178 ln f x1 = some f') : zMV l yJ7_fill_53178 (zW yJ7_fill_53178 cJ7_fill_53178 4 none) { frames := 0, cells := 0, slots := 0, locals := 0 } D cy [.ref ad, .int x1] (wdAI ad cy ln f) (wdAI ad cy ln f') := by
  unfold f_J7_fill_53178 at hf
  refine zEV (by decide) (Nat.le_of_ble_eq_true rfl) ?_
  intro p e s9 m9 below meth c A Q C0 hret ls hl hP hD
  have hl : lv_has ls 4 [(0, .ref ad), (1, .int x1)] := hl
  have hS : va_S A s9.heap s9.heap [] := va_S.rf
  obtain ⟨hx, hb, hml, hown, hts⟩ := id C0.1
  refine lv_iconst (v := 0) hx hb dJ7_fill_53178_0 (by decide) ?_
  refine lv_istore_n (lv' := [(2, .int 0), (0, .ref ad), (1, .int x1)]) hx hb dJ7_fill_53178_1 rfl hl (by decide) rfl (fun ls hl => ?_)
  refine lv_aload_n hx hb dJ7_fill_53178_2 rfl (lv_at hl 1 rfl) ?_
  refine zalen C0 hP 0 wdAI_0 dJ7_fill_53178_3 ?_
  refine lv_istore_n (lv' := [(3, .int (Int32.ofNat ln)), (2, .int 0), (0, .ref ad), (1, .int x1)]) hx hb dJ7_fill_53178_4 rfl hl (by decide) rfl (fun ls hl => ?_)
  obtain ⟨f5, hL4, hf⟩ := zq_b1_s hf
  refine w_J7_fill_53178_L5 C0 (fun H locs ls hP hD hS hl => ?_) 100 0 f hL4 _ _ _ hP hD hS (lv_sub hl [2, 3, 1, 0] rfl)
  cases hf
  exact hret _ _ _ _ dJ7_fill_53178_20 hP hD hS

def f_X1_begin (s : zS) (x1 : Int32) (x2 : Int32) : Option (zS) :=
  zq_b1 (f_J7_fill_53178 60 (s 0) 0) (fun m2 =>
  zq_lt (va_up s 0 m2) (fun s3 =>
  zq_lt (va_up s3 1 (fun _ => 1)) (fun s4 =>
  zq_lt (va_up s4 2 (fun _ => x1)) (fun s5 =>
  zq_lt (va_up s5 3 (fun _ => x2)) (fun s6 =>
  some s6)))))
set_option maxHeartbeats 4000000 in
set_option maxRecDepth 100000 in
theorem c_X1_begin {l : Launch} {D : va_G} {ad : Nat → Nat} {cy : Nat → ClassId} {s : zS} {x1 : Int32} {x2 : Int32} {s' : zS} (hf : f_X1_begin s x1 x2 = some s') : zMV l yX1_begin (zW yX1_begin cX1_begin 3 none) { frames := 1, cells := 0, slots := 0, locals := 23 } D cy [.ref (ad 0), .int x1, .int x2] (wdS ad cy s) (wdS ad cy s') := by
  unfold f_X1_begin at hf
  refine zEV (by decide) (Nat.le_of_ble_eq_true rfl) ?_
  intro p e s9 m9 below meth c A Q C0 hret ls hl hP hD
  have hl : lv_has ls 3 [(0, .ref (ad 0)), (1, .int x1), (2, .int x2)] := hl
  have hS : va_S A s9.heap s9.heap [] := va_S.rf
  obtain ⟨hx, hb, hml, hown, hts⟩ := id C0.1
  refine lv_aload_n hx hb dX1_begin_0 rfl (lv_at hl 0 rfl) ?_
  refine gf_X1_9 C0 hP 0 wdS_0 rfl dX1_begin_1 ?_
  refine lv_iconst (v := 0) hx hb dX1_begin_4 (by decide) ?_
  obtain ⟨m2, hc1, hf⟩ := zq_b1_s hf
  obtain ⟨s3, es3, hf⟩ := zq_lt_s hf
  refine zSV (ws' := (wdS ad cy s3)) (rest := []) C0 (fun _ h => h) (by rw [es3]; exact fS_c) (c_J7_fill_53178 (ad := ad 1) (ln := 60) hc1) hP hD hS my_J7_fill_53178 kl_X1_26 ⟨rfl, rfl⟩ ⟨Nat.le_of_ble_eq_true rfl, Nat.le_of_ble_eq_true rfl⟩ rfl hl.1 rfl (Nat.le_of_ble_eq_true rfl) dX1_begin_5 ⟨Nat.zero_le _, Nat.zero_le _⟩ (fun H locs hP hD hS => ?_)
  refine lv_aload_n hx hb dX1_begin_8 rfl (lv_at hl 0 rfl) ?_
  refine lv_iconst (v := 1) hx hb dX1_begin_9 (by decide) ?_
  obtain ⟨s4, es4, hf⟩ := zq_lt_s hf
  refine pf_X1_15 (ws' := (wdS ad cy s4)) C0 hP hD hS 0 wdS_0 (by decide) (Nat.le_of_ble_eq_true rfl) (by rw [es4]; rfl) dX1_begin_10 (fun H locs hP hD hS => ?_)
  refine lv_aload_n hx hb dX1_begin_13 rfl (lv_at hl 0 rfl) ?_
  refine lv_iload_n hx hb dX1_begin_14 rfl (lv_at hl 1 rfl) ?_
  obtain ⟨s5, es5, hf⟩ := zq_lt_s hf
  refine pf_X1_19 (ws' := (wdS ad cy s5)) C0 hP hD hS 0 wdS_0 (Nat.le_of_ble_eq_true rfl) (by rw [es5]; rfl) dX1_begin_15 (fun H locs hP hD hS => ?_)
  refine lv_aload_n hx hb dX1_begin_18 rfl (lv_at hl 0 rfl) ?_
  refine lv_iload_n hx hb dX1_begin_19 rfl (lv_at hl 2 rfl) ?_
  obtain ⟨s6, es6, hf⟩ := zq_lt_s hf
  refine pf_X1_23 (ws' := (wdS ad cy s6)) C0 hP hD hS 0 wdS_0 (Nat.le_of_ble_eq_true rfl) (by rw [es6]; rfl) dX1_begin_20 (fun H locs hP hD hS => ?_)
  cases hf
  exact hret _ _ _ _ dX1_begin_23 hP hD hS

def f_X1_holds (s : zS) (x1 : Int32) (x2 : Int32) : Option (Int32) :=
  if x1 < 0 then (
  some 0) else (
  if (s 3 0) < x1 then (
  some 0) else (
  if ((s 3 0) - x1) < x2 then (
  some 0) else (
  some 1)))
set_option maxHeartbeats 4000000 in
set_option maxRecDepth 100000 in
theorem c_X1_holds {l : Launch} {D : va_G} {ad : Nat → Nat} {cy : Nat → ClassId} {s : zS} {x1 : Int32} {x2 : Int32} {r0 : Int32} (hf : f_X1_holds s x1 x2 = some r0) : zMI l yX1_holds (zW yX1_holds cX1_holds 3 (some .boolean)) { frames := 0, cells := 0, slots := 0, locals := 0 } D cy [.ref (ad 0), .int x1, .int x2] (wdS ad cy s) r0 (wdS ad cy s) := by
  unfold f_X1_holds at hf
  refine zEI (ty := .boolean) (by decide) (Nat.le_of_ble_eq_true rfl) ?_
  intro p e s9 m9 below meth c A Q C0 hret ls hl hP hD
  have hl : lv_has ls 3 [(0, .ref (ad 0)), (1, .int x1), (2, .int x2)] := hl
  have hS : va_S A s9.heap s9.heap [] := va_S.rf
  obtain ⟨hx, hb, hml, hown, hts⟩ := id C0.1
  refine lv_iload_n hx hb dX1_holds_0 rfl (lv_at hl 1 rfl) ?_
  refine lv_if_lt (tgt := 26) hx hb dX1_holds_1 (by decide) (fun c1 => ?_) (fun c1 => ?_)
  · have hf := it_t c1 hf
    refine lv_iconst (v := 0) hx hb dX1_holds_26 (by decide) ?_
    cases hf
    exact hret _ _ _ _ rfl dX1_holds_27 hP hD hS
  · have hf := it_f c1 hf
    refine lv_iload_n hx hb dX1_holds_4 rfl (lv_at hl 1 rfl) ?_
    refine lv_aload_n hx hb dX1_holds_5 rfl (lv_at hl 0 rfl) ?_
    refine gf_X1_23 C0 hP 0 wdS_0 rfl dX1_holds_6 ?_
    refine lv_icmp_gt (tgt := 26) hx hb dX1_holds_9 (by decide) (fun c2 => ?_) (fun c2 => ?_)
    · have hf := it_t c2 hf
      refine lv_iconst (v := 0) hx hb dX1_holds_26 (by decide) ?_
      cases hf
      exact hret _ _ _ _ rfl dX1_holds_27 hP hD hS
    · have hf := it_f c2 hf
      refine lv_iload_n hx hb dX1_holds_12 rfl (lv_at hl 2 rfl) ?_
      refine lv_aload_n hx hb dX1_holds_13 rfl (lv_at hl 0 rfl) ?_
      refine gf_X1_23 C0 hP 0 wdS_0 rfl dX1_holds_14 ?_
      refine lv_iload_n hx hb dX1_holds_17 rfl (lv_at hl 1 rfl) ?_
      refine lv_isub hx hb dX1_holds_18 ?_
      refine lv_icmp_gt (tgt := 26) hx hb dX1_holds_19 (by decide) (fun c3 => ?_) (fun c3 => ?_)
      · have hf := it_t c3 hf
        refine lv_iconst (v := 0) hx hb dX1_holds_26 (by decide) ?_
        cases hf
        exact hret _ _ _ _ rfl dX1_holds_27 hP hD hS
      · have hf := it_f c3 hf
        refine lv_iconst (v := 1) hx hb dX1_holds_22 (by decide) ?_
        refine lv_goto (tgt := 27) hx hb dX1_holds_23 (by decide) ?_
        cases hf
        exact hret _ _ _ _ rfl dX1_holds_27 hP hD hS

def f_X1_faultOfCells (s : zS) (x1 : Int32) (x2 : Int32) (x3 : Int32) : Option (Int32) :=
  if (s 1 0) = 0 then (
  if (s 1 0) = 0 then (
  some 1) else (
  if 0 ≤ x3 then (
  zq_b1 (f_X1_holds s x2 x3) (fun r5 =>
  if r5 = 0 then (
  some 3) else (
  some 0))) else (
  some 4))) else (
  if (s 2 0) = x1 then (
  if (s 1 0) = 0 then (
  some 1) else (
  if 0 ≤ x3 then (
  zq_b1 (f_X1_holds s x2 x3) (fun r11 =>
  if r11 = 0 then (
  some 3) else (
  some 0))) else (
  some 4))) else (
  some 2))
set_option maxHeartbeats 4000000 in
set_option maxRecDepth 100000 in
theorem c_X1_faultOfCells {l : Launch} {D : va_G} {ad : Nat → Nat} {cy : Nat → ClassId} {s : zS} {x1 : Int32} {x2 : Int32} {x3 : Int32} {r0 : Int32} (hf : f_X1_faultOfCells s x1 x2 x3 = some r0) : zMI l yX1_faultOfCells (zW yX1_faultOfCells cX1_faultOfCells 4 (some .int)) { frames := 1, cells := 0, slots := 0, locals := 22 } D cy [.ref (ad 0), .int x1, .int x2, .int x3] (wdS ad cy s) r0 (wdS ad cy s) := by
  unfold f_X1_faultOfCells at hf
  refine zEI (ty := .int) (by decide) (Nat.le_of_ble_eq_true rfl) ?_
  intro p e s9 m9 below meth c A Q C0 hret ls hl hP hD
  have hl : lv_has ls 4 [(0, .ref (ad 0)), (1, .int x1), (2, .int x2), (3, .int x3)] := hl
  have hS : va_S A s9.heap s9.heap [] := va_S.rf
  obtain ⟨hx, hb, hml, hown, hts⟩ := id C0.1
  refine lv_aload_n hx hb dX1_faultOfCells_0 rfl (lv_at hl 0 rfl) ?_
  refine gf_X1_15 C0 hP 0 wdS_0 rfl dX1_faultOfCells_1 ?_
  refine lv_if_eq (tgt := 17) hx hb dX1_faultOfCells_4 (by decide) (fun c1 => ?_) (fun c1 => ?_)
  · have hf := it_t c1 hf
    refine lv_aload_n hx hb dX1_faultOfCells_17 rfl (lv_at hl 0 rfl) ?_
    refine gf_X1_15 C0 hP 0 wdS_0 rfl dX1_faultOfCells_18 ?_
    refine lv_if_ne (tgt := 26) hx hb dX1_faultOfCells_21 (by decide) (fun c2 => ?_) (fun c2 => ?_)
    · have hf := it_f c2 hf
      refine lv_iload_n hx hb dX1_faultOfCells_26 rfl (lv_at hl 3 rfl) ?_
      refine lv_if_ge (tgt := 32) hx hb dX1_faultOfCells_27 (by decide) (fun c3 => ?_) (fun c3 => ?_)
      · have hf := it_t c3 hf
        refine lv_aload_n hx hb dX1_faultOfCells_32 rfl (lv_at hl 0 rfl) ?_
        refine lv_iload_n hx hb dX1_faultOfCells_33 rfl (lv_at hl 2 rfl) ?_
        refine lv_iload_n hx hb dX1_faultOfCells_34 rfl (lv_at hl 3 rfl) ?_
        obtain ⟨r5, hc4, hf⟩ := zq_b1_s hf
        refine zVI (ws' := (wdS ad cy s)) (rest := []) C0 (fun _ h => h) zF.id (c_X1_holds hc4) hP hD hS my_X1_holds kl_X1_32 ⟨rfl, rfl⟩ ⟨Nat.le_of_ble_eq_true rfl, Nat.le_of_ble_eq_true rfl⟩ (q0 := 0) (ci := 1) rfl wdS_0 rfl hl.1 rfl (Nat.le_of_ble_eq_true rfl) dX1_faultOfCells_35 ⟨Nat.zero_le _, Nat.zero_le _⟩ (fun H locs hP hD hS => ?_)
        refine lv_if_eq (tgt := 45) hx hb dX1_faultOfCells_38 (by decide) (fun c6 => ?_) (fun c6 => ?_)
        · have hf := it_t c6 hf
          refine lv_iconst (v := 3) hx hb dX1_faultOfCells_45 (by decide) ?_
          cases hf
          exact hret _ _ _ _ rfl dX1_faultOfCells_46 hP hD hS
        · have hf := it_f c6 hf
          refine lv_iconst (v := 0) hx hb dX1_faultOfCells_41 (by decide) ?_
          refine lv_goto (tgt := 46) hx hb dX1_faultOfCells_42 (by decide) ?_
          cases hf
          exact hret _ _ _ _ rfl dX1_faultOfCells_46 hP hD hS
      · have hf := it_f c3 hf
        refine lv_iconst (v := 4) hx hb dX1_faultOfCells_30 (by decide) ?_
        cases hf
        exact hret _ _ _ _ rfl dX1_faultOfCells_31 hP hD hS
    · have hf := it_t c2 hf
      refine lv_iconst (v := 1) hx hb dX1_faultOfCells_24 (by decide) ?_
      cases hf
      exact hret _ _ _ _ rfl dX1_faultOfCells_25 hP hD hS
  · have hf := it_f c1 hf
    refine lv_aload_n hx hb dX1_faultOfCells_7 rfl (lv_at hl 0 rfl) ?_
    refine gf_X1_19 C0 hP 0 wdS_0 rfl dX1_faultOfCells_8 ?_
    refine lv_iload_n hx hb dX1_faultOfCells_11 rfl (lv_at hl 1 rfl) ?_
    refine lv_icmp_eq (tgt := 17) hx hb dX1_faultOfCells_12 (by decide) (fun c7 => ?_) (fun c7 => ?_)
    · have hf := it_t c7 hf
      refine lv_aload_n hx hb dX1_faultOfCells_17 rfl (lv_at hl 0 rfl) ?_
      refine gf_X1_15 C0 hP 0 wdS_0 rfl dX1_faultOfCells_18 ?_
      refine lv_if_ne (tgt := 26) hx hb dX1_faultOfCells_21 (by decide) (fun c8 => ?_) (fun c8 => ?_)
      · have hf := it_f c8 hf
        refine lv_iload_n hx hb dX1_faultOfCells_26 rfl (lv_at hl 3 rfl) ?_
        refine lv_if_ge (tgt := 32) hx hb dX1_faultOfCells_27 (by decide) (fun c9 => ?_) (fun c9 => ?_)
        · have hf := it_t c9 hf
          refine lv_aload_n hx hb dX1_faultOfCells_32 rfl (lv_at hl 0 rfl) ?_
          refine lv_iload_n hx hb dX1_faultOfCells_33 rfl (lv_at hl 2 rfl) ?_
          refine lv_iload_n hx hb dX1_faultOfCells_34 rfl (lv_at hl 3 rfl) ?_
          obtain ⟨r11, hc10, hf⟩ := zq_b1_s hf
          refine zVI (ws' := (wdS ad cy s)) (rest := []) C0 (fun _ h => h) zF.id (c_X1_holds hc10) hP hD hS my_X1_holds kl_X1_32 ⟨rfl, rfl⟩ ⟨Nat.le_of_ble_eq_true rfl, Nat.le_of_ble_eq_true rfl⟩ (q0 := 0) (ci := 1) rfl wdS_0 rfl hl.1 rfl (Nat.le_of_ble_eq_true rfl) dX1_faultOfCells_35 ⟨Nat.zero_le _, Nat.zero_le _⟩ (fun H locs hP hD hS => ?_)
          refine lv_if_eq (tgt := 45) hx hb dX1_faultOfCells_38 (by decide) (fun c12 => ?_) (fun c12 => ?_)
          · have hf := it_t c12 hf
            refine lv_iconst (v := 3) hx hb dX1_faultOfCells_45 (by decide) ?_
            cases hf
            exact hret _ _ _ _ rfl dX1_faultOfCells_46 hP hD hS
          · have hf := it_f c12 hf
            refine lv_iconst (v := 0) hx hb dX1_faultOfCells_41 (by decide) ?_
            refine lv_goto (tgt := 46) hx hb dX1_faultOfCells_42 (by decide) ?_
            cases hf
            exact hret _ _ _ _ rfl dX1_faultOfCells_46 hP hD hS
        · have hf := it_f c9 hf
          refine lv_iconst (v := 4) hx hb dX1_faultOfCells_30 (by decide) ?_
          cases hf
          exact hret _ _ _ _ rfl dX1_faultOfCells_31 hP hD hS
      · have hf := it_t c8 hf
        refine lv_iconst (v := 1) hx hb dX1_faultOfCells_24 (by decide) ?_
        cases hf
        exact hret _ _ _ _ rfl dX1_faultOfCells_25 hP hD hS
    · have hf := it_f c7 hf
      refine lv_iconst (v := 2) hx hb dX1_faultOfCells_15 (by decide) ?_
      cases hf
      exact hret _ _ _ _ rfl dX1_faultOfCells_16 hP hD hS

def f_X1_cutToLane (s : zS) (x1 : Int32) : Option (Int32) :=
  if (s 2 0) = 0 then (
  some ((Int32.toInt8 x1).toInt32)) else (
  if (s 2 0) = 1 then (
  some ((Int32.toInt16 x1).toInt32)) else (
  some x1))
set_option maxHeartbeats 4000000 in
set_option maxRecDepth 100000 in
theorem c_X1_cutToLane {l : Launch} {D : va_G} {ad : Nat → Nat} {cy : Nat → ClassId} {s : zS} {x1 : Int32} {r0 : Int32} (hf : f_X1_cutToLane s x1 = some r0) : zMI l yX1_cutToLane (zW yX1_cutToLane cX1_cutToLane 2 (some .int)) { frames := 0, cells := 0, slots := 0, locals := 0 } D cy [.ref (ad 0), .int x1] (wdS ad cy s) r0 (wdS ad cy s) := by
  unfold f_X1_cutToLane at hf
  refine zEI (ty := .int) (by decide) (Nat.le_of_ble_eq_true rfl) ?_
  intro p e s9 m9 below meth c A Q C0 hret ls hl hP hD
  have hl : lv_has ls 2 [(0, .ref (ad 0)), (1, .int x1)] := hl
  have hS : va_S A s9.heap s9.heap [] := va_S.rf
  obtain ⟨hx, hb, hml, hown, hts⟩ := id C0.1
  refine lv_aload_n hx hb dX1_cutToLane_0 rfl (lv_at hl 0 rfl) ?_
  refine gf_X1_19 C0 hP 0 wdS_0 rfl dX1_cutToLane_1 ?_
  refine lv_if_ne (tgt := 10) hx hb dX1_cutToLane_4 (by decide) (fun c1 => ?_) (fun c1 => ?_)
  · have hf := it_f c1 hf
    refine lv_aload_n hx hb dX1_cutToLane_10 rfl (lv_at hl 0 rfl) ?_
    refine gf_X1_19 C0 hP 0 wdS_0 rfl dX1_cutToLane_11 ?_
    refine lv_iconst (v := 1) hx hb dX1_cutToLane_14 (by decide) ?_
    refine lv_icmp_ne (tgt := 23) hx hb dX1_cutToLane_15 (by decide) (fun c2 => ?_) (fun c2 => ?_)
    · have hf := it_f c2 hf
      refine lv_iload_n hx hb dX1_cutToLane_23 rfl (lv_at hl 1 rfl) ?_
      cases hf
      exact hret _ _ _ _ rfl dX1_cutToLane_24 hP hD hS
    · have hf := it_t c2 hf
      refine lv_iload_n hx hb dX1_cutToLane_18 rfl (lv_at hl 1 rfl) ?_
      refine lv_i2s hx hb dX1_cutToLane_19 rfl ?_
      refine lv_goto (tgt := 24) hx hb dX1_cutToLane_20 (by decide) ?_
      cases hf
      exact hret _ _ _ _ rfl dX1_cutToLane_24 hP hD hS
  · have hf := it_t c1 hf
    refine lv_iload_n hx hb dX1_cutToLane_7 rfl (lv_at hl 1 rfl) ?_
    refine lv_i2b hx hb dX1_cutToLane_8 rfl ?_
    cases hf
    exact hret _ _ _ _ rfl dX1_cutToLane_9 hP hD hS

def f_X2_stands (n : zS)  : Option (Int32) :=
  if (n 8 0) ≤ 0 then (
  some 0) else (
  some 1)
set_option maxHeartbeats 4000000 in
set_option maxRecDepth 100000 in
theorem c_X2_stands {l : Launch} {D : va_G} {ad : Nat → Nat} {cy : Nat → ClassId} {n : zS}  {r0 : Int32} (hf : f_X2_stands n = some r0) : zMI l yX2_stands (zW yX2_stands cX2_stands 1 (some .boolean)) { frames := 0, cells := 0, slots := 0, locals := 0 } D cy [.ref (ad 0)] (wdW ad cy n) r0 (wdW ad cy n) := by
  unfold f_X2_stands at hf
  refine zEI (ty := .boolean) (by decide) (Nat.le_of_ble_eq_true rfl) ?_
  intro p e s9 m9 below meth c A Q C0 hret ls hl hP hD
  have hl : lv_has ls 1 [(0, .ref (ad 0))] := hl
  have hS : va_S A s9.heap s9.heap [] := va_S.rf
  obtain ⟨hx, hb, hml, hown, hts⟩ := id C0.1
  refine lv_aload_n hx hb dX2_stands_0 rfl (lv_at hl 0 rfl) ?_
  refine gf_X2_37 C0 hP 0 wdW_0 rfl dX2_stands_1 ?_
  refine lv_if_le (tgt := 11) hx hb dX2_stands_4 (by decide) (fun c1 => ?_) (fun c1 => ?_)
  · have hf := it_t c1 hf
    refine lv_iconst (v := 0) hx hb dX2_stands_11 (by decide) ?_
    cases hf
    exact hret _ _ _ _ rfl dX2_stands_12 hP hD hS
  · have hf := it_f c1 hf
    refine lv_iconst (v := 1) hx hb dX2_stands_7 (by decide) ?_
    refine lv_goto (tgt := 12) hx hb dX2_stands_8 (by decide) ?_
    cases hf
    exact hret _ _ _ _ rfl dX2_stands_12 hP hD hS

def f_X2_hasModule (n : zS) (x1 : Int32) : Option (Int32) :=
  if x1 < 0 then (
  some 0) else (
  if (n 8 0) ≤ x1 then (
  some 0) else (
  some 1))
set_option maxHeartbeats 4000000 in
set_option maxRecDepth 100000 in
theorem c_X2_hasModule {l : Launch} {D : va_G} {ad : Nat → Nat} {cy : Nat → ClassId} {n : zS} {x1 : Int32} {r0 : Int32} (hf : f_X2_hasModule n x1 = some r0) : zMI l yX2_hasModule (zW yX2_hasModule cX2_hasModule 2 (some .boolean)) { frames := 0, cells := 0, slots := 0, locals := 0 } D cy [.ref (ad 0), .int x1] (wdW ad cy n) r0 (wdW ad cy n) := by
  unfold f_X2_hasModule at hf
  refine zEI (ty := .boolean) (by decide) (Nat.le_of_ble_eq_true rfl) ?_
  intro p e s9 m9 below meth c A Q C0 hret ls hl hP hD
  have hl : lv_has ls 2 [(0, .ref (ad 0)), (1, .int x1)] := hl
  have hS : va_S A s9.heap s9.heap [] := va_S.rf
  obtain ⟨hx, hb, hml, hown, hts⟩ := id C0.1
  refine lv_iload_n hx hb dX2_hasModule_0 rfl (lv_at hl 1 rfl) ?_
  refine lv_if_lt (tgt := 16) hx hb dX2_hasModule_1 (by decide) (fun c1 => ?_) (fun c1 => ?_)
  · have hf := it_t c1 hf
    refine lv_iconst (v := 0) hx hb dX2_hasModule_16 (by decide) ?_
    cases hf
    exact hret _ _ _ _ rfl dX2_hasModule_17 hP hD hS
  · have hf := it_f c1 hf
    refine lv_iload_n hx hb dX2_hasModule_4 rfl (lv_at hl 1 rfl) ?_
    refine lv_aload_n hx hb dX2_hasModule_5 rfl (lv_at hl 0 rfl) ?_
    refine gf_X2_37 C0 hP 0 wdW_0 rfl dX2_hasModule_6 ?_
    refine lv_icmp_ge (tgt := 16) hx hb dX2_hasModule_9 (by decide) (fun c2 => ?_) (fun c2 => ?_)
    · have hf := it_t c2 hf
      refine lv_iconst (v := 0) hx hb dX2_hasModule_16 (by decide) ?_
      cases hf
      exact hret _ _ _ _ rfl dX2_hasModule_17 hP hD hS
    · have hf := it_f c2 hf
      refine lv_iconst (v := 1) hx hb dX2_hasModule_12 (by decide) ?_
      refine lv_goto (tgt := 17) hx hb dX2_hasModule_13 (by decide) ?_
      cases hf
      exact hret _ _ _ _ rfl dX2_hasModule_17 hP hD hS

def f_X2_hasLamp (n : zS) (x1 : Int32) : Option (Int32) :=
  if x1 < 0 then (
  some 0) else (
  if (n 9 0) ≤ x1 then (
  some 0) else (
  some 1))
set_option maxHeartbeats 4000000 in
set_option maxRecDepth 100000 in
theorem c_X2_hasLamp {l : Launch} {D : va_G} {ad : Nat → Nat} {cy : Nat → ClassId} {n : zS} {x1 : Int32} {r0 : Int32} (hf : f_X2_hasLamp n x1 = some r0) : zMI l yX2_hasLamp (zW yX2_hasLamp cX2_hasLamp 2 (some .boolean)) { frames := 0, cells := 0, slots := 0, locals := 0 } D cy [.ref (ad 0), .int x1] (wdW ad cy n) r0 (wdW ad cy n) := by
  unfold f_X2_hasLamp at hf
  refine zEI (ty := .boolean) (by decide) (Nat.le_of_ble_eq_true rfl) ?_
  intro p e s9 m9 below meth c A Q C0 hret ls hl hP hD
  have hl : lv_has ls 2 [(0, .ref (ad 0)), (1, .int x1)] := hl
  have hS : va_S A s9.heap s9.heap [] := va_S.rf
  obtain ⟨hx, hb, hml, hown, hts⟩ := id C0.1
  refine lv_iload_n hx hb dX2_hasLamp_0 rfl (lv_at hl 1 rfl) ?_
  refine lv_if_lt (tgt := 16) hx hb dX2_hasLamp_1 (by decide) (fun c1 => ?_) (fun c1 => ?_)
  · have hf := it_t c1 hf
    refine lv_iconst (v := 0) hx hb dX2_hasLamp_16 (by decide) ?_
    cases hf
    exact hret _ _ _ _ rfl dX2_hasLamp_17 hP hD hS
  · have hf := it_f c1 hf
    refine lv_iload_n hx hb dX2_hasLamp_4 rfl (lv_at hl 1 rfl) ?_
    refine lv_aload_n hx hb dX2_hasLamp_5 rfl (lv_at hl 0 rfl) ?_
    refine gf_X2_41 C0 hP 0 wdW_0 rfl dX2_hasLamp_6 ?_
    refine lv_icmp_ge (tgt := 16) hx hb dX2_hasLamp_9 (by decide) (fun c2 => ?_) (fun c2 => ?_)
    · have hf := it_t c2 hf
      refine lv_iconst (v := 0) hx hb dX2_hasLamp_16 (by decide) ?_
      cases hf
      exact hret _ _ _ _ rfl dX2_hasLamp_17 hP hD hS
    · have hf := it_f c2 hf
      refine lv_iconst (v := 1) hx hb dX2_hasLamp_12 (by decide) ?_
      refine lv_goto (tgt := 17) hx hb dX2_hasLamp_13 (by decide) ?_
      cases hf
      exact hret _ _ _ _ rfl dX2_hasLamp_17 hP hD hS

def f_X2_becomeLike (n : zS) (t : zS)  : Option (zS) :=
  zq_cp .int (t 0) 4 4 0 0 4 (zq_lt (va_up n 0 (va_cpy (t 0) (n 0) (Int32.toNatClampNeg 0) (Int32.toNatClampNeg 0) (Int32.toNatClampNeg 4))) (fun n2 =>
  zq_cp .int (t 1) 4 4 0 0 4 (zq_lt (va_up n2 1 (va_cpy (t 1) (n2 1) (Int32.toNatClampNeg 0) (Int32.toNatClampNeg 0) (Int32.toNatClampNeg 4))) (fun n4 =>
  zq_cp .int (t 2) 4 4 0 0 4 (zq_lt (va_up n4 2 (va_cpy (t 2) (n4 2) (Int32.toNatClampNeg 0) (Int32.toNatClampNeg 0) (Int32.toNatClampNeg 4))) (fun n6 =>
  zq_cp .boolean (t 3) 4 4 0 0 4 (zq_lt (va_up n6 3 (va_cpy (t 3) (n6 3) (Int32.toNatClampNeg 0) (Int32.toNatClampNeg 0) (Int32.toNatClampNeg 4))) (fun n8 =>
  zq_cp .int (t 4) 16 16 0 0 16 (zq_lt (va_up n8 4 (va_cpy (t 4) (n8 4) (Int32.toNatClampNeg 0) (Int32.toNatClampNeg 0) (Int32.toNatClampNeg 16))) (fun n10 =>
  zq_cp .int (t 5) 16 16 0 0 16 (zq_lt (va_up n10 5 (va_cpy (t 5) (n10 5) (Int32.toNatClampNeg 0) (Int32.toNatClampNeg 0) (Int32.toNatClampNeg 16))) (fun n12 =>
  zq_cp .int (t 6) 15 15 0 0 15 (zq_lt (va_up n12 6 (va_cpy (t 6) (n12 6) (Int32.toNatClampNeg 0) (Int32.toNatClampNeg 0) (Int32.toNatClampNeg 15))) (fun n14 =>
  zq_cp .int (t 7) 15 15 0 0 15 (zq_lt (va_up n14 7 (va_cpy (t 7) (n14 7) (Int32.toNatClampNeg 0) (Int32.toNatClampNeg 0) (Int32.toNatClampNeg 15))) (fun n16 =>
  zq_lt (va_up n16 8 (fun _ => (t 8 0))) (fun n17 =>
  zq_lt (va_up n17 9 (fun _ => (t 9 0))) (fun n18 =>
  zq_lt (va_up n18 10 (fun _ => (t 10 0))) (fun n19 =>
  some n19)))))))))))))))))))
set_option maxHeartbeats 4000000 in
set_option maxRecDepth 100000 in
theorem c_X2_becomeLike {l : Launch} {D : va_G} {ad : Nat → Nat} {cy : Nat → ClassId} {a2 : Nat → Nat} {n : zS} {t : zS}  {n' : zS} (hf : f_X2_becomeLike n t = some n') : zMV l yX2_becomeLike (zW yX2_becomeLike cX2_becomeLike 2 none) { frames := 1, cells := 0, slots := 0, locals := 48 } D cy [.ref (ad 0), .ref (a2 0)] (wdWW ad a2 cy n t) (wdWW ad a2 cy n' t) := by
  unfold f_X2_becomeLike at hf
  refine zEV (by decide) (Nat.le_of_ble_eq_true rfl) ?_
  intro p e s9 m9 below meth c A Q C0 hret ls hl hP hD
  have hl : lv_has ls 2 [(0, .ref (ad 0)), (1, .ref (a2 0))] := hl
  have hS : va_S A s9.heap s9.heap [] := va_S.rf
  obtain ⟨hx, hb, hml, hown, hts⟩ := id C0.1
  refine lv_aload_n hx hb dX2_becomeLike_0 rfl (lv_at hl 1 rfl) ?_
  refine gf_X2_9 C0 hP 9 wdWW_9 rfl dX2_becomeLike_1 ?_
  refine lv_iconst (v := 0) hx hb dX2_becomeLike_4 (by decide) ?_
  refine lv_aload_n hx hb dX2_becomeLike_5 rfl (lv_at hl 0 rfl) ?_
  refine gf_X2_9 C0 hP 0 wdWW_0 rfl dX2_becomeLike_6 ?_
  refine lv_iconst (v := 0) hx hb dX2_becomeLike_9 (by decide) ?_
  refine lv_iconst (v := 4) hx hb dX2_becomeLike_10 (by decide) ?_
  obtain ⟨h1, hf⟩ := zq_cp_s hf
  obtain ⟨n2, en2, hf⟩ := zq_lt_s hf
  refine zcpy (ws' := (wdWW ad a2 cy n2 t)) C0 hl.1 0 rfl rfl kl_X2_47 kn_ac ks_ac ki_J10 hP hD hS 10 1 wdWW_10 wdWW_1 h1 (Nat.le_of_ble_eq_true rfl) (Nat.le_of_ble_eq_true rfl) (by rw [en2]; rfl) dX2_becomeLike_11 (fun H locs hP hD hS => ?_)
  refine lv_aload_n hx hb dX2_becomeLike_14 rfl (lv_at hl 1 rfl) ?_
  refine gf_X2_15 C0 hP 9 wdWW_9 rfl dX2_becomeLike_15 ?_
  refine lv_iconst (v := 0) hx hb dX2_becomeLike_18 (by decide) ?_
  refine lv_aload_n hx hb dX2_becomeLike_19 rfl (lv_at hl 0 rfl) ?_
  refine gf_X2_15 C0 hP 0 wdWW_0 rfl dX2_becomeLike_20 ?_
  refine lv_iconst (v := 0) hx hb dX2_becomeLike_23 (by decide) ?_
  refine lv_iconst (v := 4) hx hb dX2_becomeLike_24 (by decide) ?_
  obtain ⟨h3, hf⟩ := zq_cp_s hf
  obtain ⟨n4, en4, hf⟩ := zq_lt_s hf
  refine zcpy (ws' := (wdWW ad a2 cy n4 t)) C0 hl.1 0 rfl rfl kl_X2_47 kn_ac ks_ac ki_J10 hP hD hS 11 2 wdWW_11 wdWW_2 h3 (Nat.le_of_ble_eq_true rfl) (Nat.le_of_ble_eq_true rfl) (by rw [en4]; rfl) dX2_becomeLike_25 (fun H locs hP hD hS => ?_)
  refine lv_aload_n hx hb dX2_becomeLike_28 rfl (lv_at hl 1 rfl) ?_
  refine gf_X2_18 C0 hP 9 wdWW_9 rfl dX2_becomeLike_29 ?_
  refine lv_iconst (v := 0) hx hb dX2_becomeLike_32 (by decide) ?_
  refine lv_aload_n hx hb dX2_becomeLike_33 rfl (lv_at hl 0 rfl) ?_
  refine gf_X2_18 C0 hP 0 wdWW_0 rfl dX2_becomeLike_34 ?_
  refine lv_iconst (v := 0) hx hb dX2_becomeLike_37 (by decide) ?_
  refine lv_iconst (v := 4) hx hb dX2_becomeLike_38 (by decide) ?_
  obtain ⟨h5, hf⟩ := zq_cp_s hf
  obtain ⟨n6, en6, hf⟩ := zq_lt_s hf
  refine zcpy (ws' := (wdWW ad a2 cy n6 t)) C0 hl.1 0 rfl rfl kl_X2_47 kn_ac ks_ac ki_J10 hP hD hS 12 3 wdWW_12 wdWW_3 h5 (Nat.le_of_ble_eq_true rfl) (Nat.le_of_ble_eq_true rfl) (by rw [en6]; rfl) dX2_becomeLike_39 (fun H locs hP hD hS => ?_)
  refine lv_aload_n hx hb dX2_becomeLike_42 rfl (lv_at hl 1 rfl) ?_
  refine gf_X2_21 C0 hP 9 wdWW_9 rfl dX2_becomeLike_43 ?_
  refine lv_iconst (v := 0) hx hb dX2_becomeLike_46 (by decide) ?_
  refine lv_aload_n hx hb dX2_becomeLike_47 rfl (lv_at hl 0 rfl) ?_
  refine gf_X2_21 C0 hP 0 wdWW_0 rfl dX2_becomeLike_48 ?_
  refine lv_iconst (v := 0) hx hb dX2_becomeLike_51 (by decide) ?_
  refine lv_iconst (v := 4) hx hb dX2_becomeLike_52 (by decide) ?_
  obtain ⟨h7, hf⟩ := zq_cp_s hf
  obtain ⟨n8, en8, hf⟩ := zq_lt_s hf
  refine zcpy (ws' := (wdWW ad a2 cy n8 t)) C0 hl.1 1 rfl rfl kl_X2_47 kn_ac ks_ac ki_J10 hP hD hS 13 4 wdWW_13 wdWW_4 h7 (Nat.le_of_ble_eq_true rfl) (Nat.le_of_ble_eq_true rfl) (by rw [en8]; rfl) dX2_becomeLike_53 (fun H locs hP hD hS => ?_)
  refine lv_aload_n hx hb dX2_becomeLike_56 rfl (lv_at hl 1 rfl) ?_
  refine gf_X2_25 C0 hP 9 wdWW_9 rfl dX2_becomeLike_57 ?_
  refine lv_iconst (v := 0) hx hb dX2_becomeLike_60 (by decide) ?_
  refine lv_aload_n hx hb dX2_becomeLike_61 rfl (lv_at hl 0 rfl) ?_
  refine gf_X2_25 C0 hP 0 wdWW_0 rfl dX2_becomeLike_62 ?_
  refine lv_iconst (v := 0) hx hb dX2_becomeLike_65 (by decide) ?_
  refine lv_bipush (v := 16) hx hb dX2_becomeLike_66 (by decide) ?_
  obtain ⟨h9, hf⟩ := zq_cp_s hf
  obtain ⟨n10, en10, hf⟩ := zq_lt_s hf
  refine zcpy (ws' := (wdWW ad a2 cy n10 t)) C0 hl.1 0 rfl rfl kl_X2_47 kn_ac ks_ac ki_J10 hP hD hS 14 5 wdWW_14 wdWW_5 h9 (Nat.le_of_ble_eq_true rfl) (Nat.le_of_ble_eq_true rfl) (by rw [en10]; rfl) dX2_becomeLike_68 (fun H locs hP hD hS => ?_)
  refine lv_aload_n hx hb dX2_becomeLike_71 rfl (lv_at hl 1 rfl) ?_
  refine gf_X2_28 C0 hP 9 wdWW_9 rfl dX2_becomeLike_72 ?_
  refine lv_iconst (v := 0) hx hb dX2_becomeLike_75 (by decide) ?_
  refine lv_aload_n hx hb dX2_becomeLike_76 rfl (lv_at hl 0 rfl) ?_
  refine gf_X2_28 C0 hP 0 wdWW_0 rfl dX2_becomeLike_77 ?_
  refine lv_iconst (v := 0) hx hb dX2_becomeLike_80 (by decide) ?_
  refine lv_bipush (v := 16) hx hb dX2_becomeLike_81 (by decide) ?_
  obtain ⟨h11, hf⟩ := zq_cp_s hf
  obtain ⟨n12, en12, hf⟩ := zq_lt_s hf
  refine zcpy (ws' := (wdWW ad a2 cy n12 t)) C0 hl.1 0 rfl rfl kl_X2_47 kn_ac ks_ac ki_J10 hP hD hS 15 6 wdWW_15 wdWW_6 h11 (Nat.le_of_ble_eq_true rfl) (Nat.le_of_ble_eq_true rfl) (by rw [en12]; rfl) dX2_becomeLike_83 (fun H locs hP hD hS => ?_)
  refine lv_aload_n hx hb dX2_becomeLike_86 rfl (lv_at hl 1 rfl) ?_
  refine gf_X2_31 C0 hP 9 wdWW_9 rfl dX2_becomeLike_87 ?_
  refine lv_iconst (v := 0) hx hb dX2_becomeLike_90 (by decide) ?_
  refine lv_aload_n hx hb dX2_becomeLike_91 rfl (lv_at hl 0 rfl) ?_
  refine gf_X2_31 C0 hP 0 wdWW_0 rfl dX2_becomeLike_92 ?_
  refine lv_iconst (v := 0) hx hb dX2_becomeLike_95 (by decide) ?_
  refine lv_bipush (v := 15) hx hb dX2_becomeLike_96 (by decide) ?_
  obtain ⟨h13, hf⟩ := zq_cp_s hf
  obtain ⟨n14, en14, hf⟩ := zq_lt_s hf
  refine zcpy (ws' := (wdWW ad a2 cy n14 t)) C0 hl.1 0 rfl rfl kl_X2_47 kn_ac ks_ac ki_J10 hP hD hS 16 7 wdWW_16 wdWW_7 h13 (Nat.le_of_ble_eq_true rfl) (Nat.le_of_ble_eq_true rfl) (by rw [en14]; rfl) dX2_becomeLike_98 (fun H locs hP hD hS => ?_)
  refine lv_aload_n hx hb dX2_becomeLike_101 rfl (lv_at hl 1 rfl) ?_
  refine gf_X2_34 C0 hP 9 wdWW_9 rfl dX2_becomeLike_102 ?_
  refine lv_iconst (v := 0) hx hb dX2_becomeLike_105 (by decide) ?_
  refine lv_aload_n hx hb dX2_becomeLike_106 rfl (lv_at hl 0 rfl) ?_
  refine gf_X2_34 C0 hP 0 wdWW_0 rfl dX2_becomeLike_107 ?_
  refine lv_iconst (v := 0) hx hb dX2_becomeLike_110 (by decide) ?_
  refine lv_bipush (v := 15) hx hb dX2_becomeLike_111 (by decide) ?_
  obtain ⟨h15, hf⟩ := zq_cp_s hf
  obtain ⟨n16, en16, hf⟩ := zq_lt_s hf
  refine zcpy (ws' := (wdWW ad a2 cy n16 t)) C0 hl.1 0 rfl rfl kl_X2_47 kn_ac ks_ac ki_J10 hP hD hS 17 8 wdWW_17 wdWW_8 h15 (Nat.le_of_ble_eq_true rfl) (Nat.le_of_ble_eq_true rfl) (by rw [en16]; rfl) dX2_becomeLike_113 (fun H locs hP hD hS => ?_)
  refine lv_aload_n hx hb dX2_becomeLike_116 rfl (lv_at hl 0 rfl) ?_
  refine lv_aload_n hx hb dX2_becomeLike_117 rfl (lv_at hl 1 rfl) ?_
  refine gf_X2_37 C0 hP 9 wdWW_9 rfl dX2_becomeLike_118 ?_
  obtain ⟨n17, en17, hf⟩ := zq_lt_s hf
  refine pf_X2_37 (ws' := (wdWW ad a2 cy n17 t)) C0 hP hD hS 0 wdWW_0 (Nat.le_of_ble_eq_true rfl) (by rw [en17]; rfl) dX2_becomeLike_121 (fun H locs hP hD hS => ?_)
  refine lv_aload_n hx hb dX2_becomeLike_124 rfl (lv_at hl 0 rfl) ?_
  refine lv_aload_n hx hb dX2_becomeLike_125 rfl (lv_at hl 1 rfl) ?_
  refine gf_X2_41 C0 hP 9 wdWW_9 rfl dX2_becomeLike_126 ?_
  obtain ⟨n18, en18, hf⟩ := zq_lt_s hf
  refine pf_X2_41 (ws' := (wdWW ad a2 cy n18 t)) C0 hP hD hS 0 wdWW_0 (Nat.le_of_ble_eq_true rfl) (by rw [en18]; rfl) dX2_becomeLike_129 (fun H locs hP hD hS => ?_)
  refine lv_aload_n hx hb dX2_becomeLike_132 rfl (lv_at hl 0 rfl) ?_
  refine lv_aload_n hx hb dX2_becomeLike_133 rfl (lv_at hl 1 rfl) ?_
  refine gf_X2_44 C0 hP 9 wdWW_9 rfl dX2_becomeLike_134 ?_
  obtain ⟨n19, en19, hf⟩ := zq_lt_s hf
  refine pf_X2_44 (ws' := (wdWW ad a2 cy n19 t)) C0 hP hD hS 0 wdWW_0 (Nat.le_of_ble_eq_true rfl) (by rw [en19]; rfl) dX2_becomeLike_137 (fun H locs hP hD hS => ?_)
  cases hf
  exact hret _ _ _ _ dX2_becomeLike_140 hP hD hS

def f_X3_isCut  (x0 : Int32) : Option (Int32) :=
  if x0 < 1 then (
  some 0) else (
  if 8 < x0 then (
  some 0) else (
  some 1))
set_option maxHeartbeats 4000000 in
set_option maxRecDepth 100000 in
theorem c_X3_isCut {l : Launch} {D : va_G} {cy : Nat → ClassId}   {x0 : Int32} {r0 : Int32} (hf : f_X3_isCut x0 = some r0) : zMI l yX3_isCut (zW yX3_isCut cX3_isCut 1 (some .boolean)) { frames := 0, cells := 0, slots := 0, locals := 0 } D cy [.int x0] [] r0 [] := by
  unfold f_X3_isCut at hf
  refine zEI (ty := .boolean) (by decide) (Nat.le_of_ble_eq_true rfl) ?_
  intro p e s9 m9 below meth c A Q C0 hret ls hl hP hD
  have hl : lv_has ls 1 [(0, .int x0)] := hl
  have hS : va_S A s9.heap s9.heap [] := va_S.rf
  obtain ⟨hx, hb, hml, hown, hts⟩ := id C0.1
  refine lv_iload_n hx hb dX3_isCut_0 rfl (lv_at hl 0 rfl) ?_
  refine lv_iconst (v := 1) hx hb dX3_isCut_1 (by decide) ?_
  refine lv_icmp_lt (tgt := 15) hx hb dX3_isCut_2 (by decide) (fun c1 => ?_) (fun c1 => ?_)
  · have hf := it_t c1 hf
    refine lv_iconst (v := 0) hx hb dX3_isCut_15 (by decide) ?_
    cases hf
    exact hret _ _ _ _ rfl dX3_isCut_16 hP hD hS
  · have hf := it_f c1 hf
    refine lv_iload_n hx hb dX3_isCut_5 rfl (lv_at hl 0 rfl) ?_
    refine lv_bipush (v := 8) hx hb dX3_isCut_6 (by decide) ?_
    refine lv_icmp_gt (tgt := 15) hx hb dX3_isCut_8 (by decide) (fun c2 => ?_) (fun c2 => ?_)
    · have hf := it_t c2 hf
      refine lv_iconst (v := 0) hx hb dX3_isCut_15 (by decide) ?_
      cases hf
      exact hret _ _ _ _ rfl dX3_isCut_16 hP hD hS
    · have hf := it_f c2 hf
      refine lv_iconst (v := 1) hx hb dX3_isCut_11 (by decide) ?_
      refine lv_goto (tgt := 16) hx hb dX3_isCut_12 (by decide) ?_
      cases hf
      exact hret _ _ _ _ rfl dX3_isCut_16 hP hD hS
end
