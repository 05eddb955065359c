section
-- ===== PART A: goes FIRST, ahead of the names: the tables' words, and 'selects' of the private methods out of them =====
/-- a private method of a class that the tables say can be made, by its rows of tables_1 -/
def lw_okq (q : MethodName × Nat) : Prop := (q.1.cls ≠ "java/lang/invoke/MethodHandle" ∧ q.1.cls ≠ "java/lang/invoke/VarHandle") ∧ Cond.instantiable q.1.cls q.2 ∈ tables_1 ∧ Cond.privateMethod q.1 ∈ tables_1 ∧ Cond.instanceMethod q.1 ∈ tables_1
theorem lw_p0 : lw_okq (⟨"HilbertHutch$Tree", "setWidth", "(II)V"⟩, 3) := ⟨⟨by decide +kernel, by decide +kernel⟩, List.mem_of_getElem? (i := 50) (by decide +kernel), List.mem_of_getElem? (i := 88) (by decide +kernel), List.mem_of_getElem? (i := 89) (by decide +kernel)⟩
theorem lw_p1 : lw_okq (⟨"HilbertHutch$Tree", "setLoad", "(III)V"⟩, 3) := ⟨⟨by decide +kernel, by decide +kernel⟩, List.mem_of_getElem? (i := 50) (by decide +kernel), List.mem_of_getElem? (i := 95) (by decide +kernel), List.mem_of_getElem? (i := 96) (by decide +kernel)⟩
theorem lw_p2 : lw_okq (⟨"java/lang/Throwable", "fillInStackTrace", "(I)Ljava/lang/Throwable;"⟩, 6) := ⟨⟨by decide +kernel, by decide +kernel⟩, List.mem_of_getElem? (i := 198) (by decide +kernel), List.mem_of_getElem? (i := 196) (by decide +kernel), List.mem_of_getElem? (i := 197) (by decide +kernel)⟩
theorem lw_p3 : lw_okq (⟨"HilbertHutch$Stock", "putInOrder", "(I)V"⟩, 6) := ⟨⟨by decide +kernel, by decide +kernel⟩, List.mem_of_getElem? (i := 23) (by decide +kernel), List.mem_of_getElem? (i := 264) (by decide +kernel), List.mem_of_getElem? (i := 265) (by decide +kernel)⟩
theorem lw_p4 : lw_okq (⟨"HilbertHutch$Stock", "setOrder", "(II)V"⟩, 6) := ⟨⟨by decide +kernel, by decide +kernel⟩, List.mem_of_getElem? (i := 23) (by decide +kernel), List.mem_of_getElem? (i := 276) (by decide +kernel), List.mem_of_getElem? (i := 277) (by decide +kernel)⟩
theorem lw_p5 : lw_okq (⟨"HilbertHutch$Tree", "addRoot", "(I)V"⟩, 3) := ⟨⟨by decide +kernel, by decide +kernel⟩, List.mem_of_getElem? (i := 50) (by decide +kernel), List.mem_of_getElem? (i := 288) (by decide +kernel), List.mem_of_getElem? (i := 289) (by decide +kernel)⟩
theorem lw_p6 : lw_okq (⟨"HilbertHutch$Tree", "parent", "(II)I"⟩, 3) := ⟨⟨by decide +kernel, by decide +kernel⟩, List.mem_of_getElem? (i := 50) (by decide +kernel), List.mem_of_getElem? (i := 301) (by decide +kernel), List.mem_of_getElem? (i := 302) (by decide +kernel)⟩
theorem lw_p7 : lw_okq (⟨"HilbertHutch$Tree", "relieve", "(III)Z"⟩, 3) := ⟨⟨by decide +kernel, by decide +kernel⟩, List.mem_of_getElem? (i := 50) (by decide +kernel), List.mem_of_getElem? (i := 309) (by decide +kernel), List.mem_of_getElem? (i := 310) (by decide +kernel)⟩
theorem lw_p8 : lw_okq (⟨"HilbertHutch$Tree", "partner", "(III)I"⟩, 3) := ⟨⟨by decide +kernel, by decide +kernel⟩, List.mem_of_getElem? (i := 50) (by decide +kernel), List.mem_of_getElem? (i := 313) (by decide +kernel), List.mem_of_getElem? (i := 314) (by decide +kernel)⟩
theorem lw_p9 : lw_okq (⟨"HilbertHutch$Tree", "entriesBefore", "(II)I"⟩, 3) := ⟨⟨by decide +kernel, by decide +kernel⟩, List.mem_of_getElem? (i := 50) (by decide +kernel), List.mem_of_getElem? (i := 317) (by decide +kernel), List.mem_of_getElem? (i := 318) (by decide +kernel)⟩
theorem lw_p10 : lw_okq (⟨"HilbertHutch$Tree", "insertNode", "(III)V"⟩, 3) := ⟨⟨by decide +kernel, by decide +kernel⟩, List.mem_of_getElem? (i := 50) (by decide +kernel), List.mem_of_getElem? (i := 321) (by decide +kernel), List.mem_of_getElem? (i := 322) (by decide +kernel)⟩
theorem lw_p11 : lw_okq (⟨"HilbertHutch$Tree", "halve", "(II)V"⟩, 3) := ⟨⟨by decide +kernel, by decide +kernel⟩, List.mem_of_getElem? (i := 50) (by decide +kernel), List.mem_of_getElem? (i := 325) (by decide +kernel), List.mem_of_getElem? (i := 326) (by decide +kernel)⟩
theorem lw_p12 : lw_okq (⟨"HilbertHutch$Tree", "gainEntry", "(II)V"⟩, 3) := ⟨⟨by decide +kernel, by decide +kernel⟩, List.mem_of_getElem? (i := 50) (by decide +kernel), List.mem_of_getElem? (i := 329) (by decide +kernel), List.mem_of_getElem? (i := 330) (by decide +kernel)⟩
theorem lw_p13 : lw_okq (⟨"HilbertHutch", "checkBox", "(I)V"⟩, 3) := ⟨⟨by decide +kernel, by decide +kernel⟩, List.mem_of_getElem? (i := 15) (by decide +kernel), List.mem_of_getElem? (i := 341) (by decide +kernel), List.mem_of_getElem? (i := 342) (by decide +kernel)⟩
theorem lw_p14 : lw_okq (⟨"HilbertHutch$Tree", "unite", "(III)Z"⟩, 3) := ⟨⟨by decide +kernel, by decide +kernel⟩, List.mem_of_getElem? (i := 50) (by decide +kernel), List.mem_of_getElem? (i := 366) (by decide +kernel), List.mem_of_getElem? (i := 367) (by decide +kernel)⟩
theorem lw_p15 : lw_okq (⟨"HilbertHutch$Tree", "deleteNode", "(II)V"⟩, 3) := ⟨⟨by decide +kernel, by decide +kernel⟩, List.mem_of_getElem? (i := 50) (by decide +kernel), List.mem_of_getElem? (i := 370) (by decide +kernel), List.mem_of_getElem? (i := 371) (by decide +kernel)⟩
def lw_privs_1 : List (MethodName × Nat) := [(⟨"HilbertHutch$Tree", "setWidth", "(II)V"⟩, 3), (⟨"HilbertHutch$Tree", "setLoad", "(III)V"⟩, 3), (⟨"java/lang/Throwable", "fillInStackTrace", "(I)Ljava/lang/Throwable;"⟩, 6), (⟨"HilbertHutch$Stock", "putInOrder", "(I)V"⟩, 6), (⟨"HilbertHutch$Stock", "setOrder", "(II)V"⟩, 6), (⟨"HilbertHutch$Tree", "addRoot", "(I)V"⟩, 3), (⟨"HilbertHutch$Tree", "parent", "(II)I"⟩, 3), (⟨"HilbertHutch$Tree", "relieve", "(III)Z"⟩, 3), (⟨"HilbertHutch$Tree", "partner", "(III)I"⟩, 3), (⟨"HilbertHutch$Tree", "entriesBefore", "(II)I"⟩, 3), (⟨"HilbertHutch$Tree", "insertNode", "(III)V"⟩, 3), (⟨"HilbertHutch$Tree", "halve", "(II)V"⟩, 3), (⟨"HilbertHutch$Tree", "gainEntry", "(II)V"⟩, 3), (⟨"HilbertHutch", "checkBox", "(I)V"⟩, 3), (⟨"HilbertHutch$Tree", "unite", "(III)Z"⟩, 3), (⟨"HilbertHutch$Tree", "deleteNode", "(II)V"⟩, 3)]
theorem lw_r1 : ∀ q ∈ lw_privs_1, lw_okq q := List.forall_mem_cons.mpr ⟨lw_p0, List.forall_mem_cons.mpr ⟨lw_p1, List.forall_mem_cons.mpr ⟨lw_p2, List.forall_mem_cons.mpr ⟨lw_p3, List.forall_mem_cons.mpr ⟨lw_p4, List.forall_mem_cons.mpr ⟨lw_p5, List.forall_mem_cons.mpr ⟨lw_p6, List.forall_mem_cons.mpr ⟨lw_p7, List.forall_mem_cons.mpr ⟨lw_p8, List.forall_mem_cons.mpr ⟨lw_p9, List.forall_mem_cons.mpr ⟨lw_p10, List.forall_mem_cons.mpr ⟨lw_p11, List.forall_mem_cons.mpr ⟨lw_p12, List.forall_mem_cons.mpr ⟨lw_p13, List.forall_mem_cons.mpr ⟨lw_p14, List.forall_mem_cons.mpr ⟨lw_p15, fun _ h => absurd h List.not_mem_nil⟩⟩⟩⟩⟩⟩⟩⟩⟩⟩⟩⟩⟩⟩⟩⟩
theorem lw_p16 : lw_okq (⟨"HilbertHutch$Tree", "lowerRoot", "()V"⟩, 3) := ⟨⟨by decide +kernel, by decide +kernel⟩, List.mem_of_getElem? (i := 50) (by decide +kernel), List.mem_of_getElem? (i := 377) (by decide +kernel), List.mem_of_getElem? (i := 378) (by decide +kernel)⟩
theorem lw_p17 : lw_okq (⟨"HilbertHutch", "checkNode", "(II)V"⟩, 3) := ⟨⟨by decide +kernel, by decide +kernel⟩, List.mem_of_getElem? (i := 15) (by decide +kernel), List.mem_of_getElem? (i := 435) (by decide +kernel), List.mem_of_getElem? (i := 436) (by decide +kernel)⟩
theorem lw_p18 : lw_okq (⟨"HilbertHutch", "coverOf", "(II)I"⟩, 3) := ⟨⟨by decide +kernel, by decide +kernel⟩, List.mem_of_getElem? (i := 15) (by decide +kernel), List.mem_of_getElem? (i := 449) (by decide +kernel), List.mem_of_getElem? (i := 450) (by decide +kernel)⟩
theorem lw_p19 : lw_okq (⟨"HilbertHutch", "rankByDistance", "(II)V"⟩, 3) := ⟨⟨by decide +kernel, by decide +kernel⟩, List.mem_of_getElem? (i := 15) (by decide +kernel), List.mem_of_getElem? (i := 524) (by decide +kernel), List.mem_of_getElem? (i := 525) (by decide +kernel)⟩
theorem lw_p20 : lw_okq (⟨"HilbertHutch", "ranksBefore", "(I)I"⟩, 3) := ⟨⟨by decide +kernel, by decide +kernel⟩, List.mem_of_getElem? (i := 15) (by decide +kernel), List.mem_of_getElem? (i := 534) (by decide +kernel), List.mem_of_getElem? (i := 535) (by decide +kernel)⟩
theorem lw_p21 : lw_okq (⟨"HilbertHutchModel", "fails", "(I)Z"⟩, 16) := ⟨⟨by decide +kernel, by decide +kernel⟩, List.mem_of_getElem? (i := 552) (by decide +kernel), List.mem_of_getElem? (i := 618) (by decide +kernel), List.mem_of_getElem? (i := 619) (by decide +kernel)⟩
theorem lw_p22 : lw_okq (⟨"HilbertHutchModel", "leafFor", "(I)I"⟩, 16) := ⟨⟨by decide +kernel, by decide +kernel⟩, List.mem_of_getElem? (i := 552) (by decide +kernel), List.mem_of_getElem? (i := 625) (by decide +kernel), List.mem_of_getElem? (i := 626) (by decide +kernel)⟩
theorem lw_p23 : lw_okq (⟨"HilbertHutchModel", "ahead", "(II)I"⟩, 16) := ⟨⟨by decide +kernel, by decide +kernel⟩, List.mem_of_getElem? (i := 552) (by decide +kernel), List.mem_of_getElem? (i := 629) (by decide +kernel), List.mem_of_getElem? (i := 630) (by decide +kernel)⟩
theorem lw_p24 : lw_okq (⟨"HilbertHutchModel", "many", "(II)I"⟩, 16) := ⟨⟨by decide +kernel, by decide +kernel⟩, List.mem_of_getElem? (i := 552) (by decide +kernel), List.mem_of_getElem? (i := 633) (by decide +kernel), List.mem_of_getElem? (i := 634) (by decide +kernel)⟩
theorem lw_p25 : lw_okq (⟨"HilbertHutchModel", "grows", "(II)V"⟩, 16) := ⟨⟨by decide +kernel, by decide +kernel⟩, List.mem_of_getElem? (i := 552) (by decide +kernel), List.mem_of_getElem? (i := 637) (by decide +kernel), List.mem_of_getElem? (i := 638) (by decide +kernel)⟩
theorem lw_p26 : lw_okq (⟨"HilbertHutchModel", "partner", "(II)I"⟩, 16) := ⟨⟨by decide +kernel, by decide +kernel⟩, List.mem_of_getElem? (i := 552) (by decide +kernel), List.mem_of_getElem? (i := 641) (by decide +kernel), List.mem_of_getElem? (i := 642) (by decide +kernel)⟩
theorem lw_p27 : lw_okq (⟨"HilbertHutchModel", "above", "(II)I"⟩, 16) := ⟨⟨by decide +kernel, by decide +kernel⟩, List.mem_of_getElem? (i := 552) (by decide +kernel), List.mem_of_getElem? (i := 645) (by decide +kernel), List.mem_of_getElem? (i := 646) (by decide +kernel)⟩
theorem lw_p28 : lw_okq (⟨"HilbertHutchModel", "enters", "(III)V"⟩, 16) := ⟨⟨by decide +kernel, by decide +kernel⟩, List.mem_of_getElem? (i := 552) (by decide +kernel), List.mem_of_getElem? (i := 649) (by decide +kernel), List.mem_of_getElem? (i := 650) (by decide +kernel)⟩
theorem lw_p29 : lw_okq (⟨"HilbertHutchModel", "shares", "(II)V"⟩, 16) := ⟨⟨by decide +kernel, by decide +kernel⟩, List.mem_of_getElem? (i := 552) (by decide +kernel), List.mem_of_getElem? (i := 653) (by decide +kernel), List.mem_of_getElem? (i := 654) (by decide +kernel)⟩
theorem lw_p30 : lw_okq (⟨"HilbertHutchModel", "is", "(I)Z"⟩, 16) := ⟨⟨by decide +kernel, by decide +kernel⟩, List.mem_of_getElem? (i := 552) (by decide +kernel), List.mem_of_getElem? (i := 661) (by decide +kernel), List.mem_of_getElem? (i := 662) (by decide +kernel)⟩
theorem lw_p31 : lw_okq (⟨"HilbertHutchModel", "placeOf", "(I)I"⟩, 16) := ⟨⟨by decide +kernel, by decide +kernel⟩, List.mem_of_getElem? (i := 552) (by decide +kernel), List.mem_of_getElem? (i := 665) (by decide +kernel), List.mem_of_getElem? (i := 666) (by decide +kernel)⟩
def lw_privs_2 : List (MethodName × Nat) := [(⟨"HilbertHutch$Tree", "lowerRoot", "()V"⟩, 3), (⟨"HilbertHutch", "checkNode", "(II)V"⟩, 3), (⟨"HilbertHutch", "coverOf", "(II)I"⟩, 3), (⟨"HilbertHutch", "rankByDistance", "(II)V"⟩, 3), (⟨"HilbertHutch", "ranksBefore", "(I)I"⟩, 3), (⟨"HilbertHutchModel", "fails", "(I)Z"⟩, 16), (⟨"HilbertHutchModel", "leafFor", "(I)I"⟩, 16), (⟨"HilbertHutchModel", "ahead", "(II)I"⟩, 16), (⟨"HilbertHutchModel", "many", "(II)I"⟩, 16), (⟨"HilbertHutchModel", "grows", "(II)V"⟩, 16), (⟨"HilbertHutchModel", "partner", "(II)I"⟩, 16), (⟨"HilbertHutchModel", "above", "(II)I"⟩, 16), (⟨"HilbertHutchModel", "enters", "(III)V"⟩, 16), (⟨"HilbertHutchModel", "shares", "(II)V"⟩, 16), (⟨"HilbertHutchModel", "is", "(I)Z"⟩, 16), (⟨"HilbertHutchModel", "placeOf", "(I)I"⟩, 16)]
theorem lw_r2 : ∀ q ∈ lw_privs_2, lw_okq q := List.forall_mem_cons.mpr ⟨lw_p16, List.forall_mem_cons.mpr ⟨lw_p17, List.forall_mem_cons.mpr ⟨lw_p18, List.forall_mem_cons.mpr ⟨lw_p19, List.forall_mem_cons.mpr ⟨lw_p20, List.forall_mem_cons.mpr ⟨lw_p21, List.forall_mem_cons.mpr ⟨lw_p22, List.forall_mem_cons.mpr ⟨lw_p23, List.forall_mem_cons.mpr ⟨lw_p24, List.forall_mem_cons.mpr ⟨lw_p25, List.forall_mem_cons.mpr ⟨lw_p26, List.forall_mem_cons.mpr ⟨lw_p27, List.forall_mem_cons.mpr ⟨lw_p28, List.forall_mem_cons.mpr ⟨lw_p29, List.forall_mem_cons.mpr ⟨lw_p30, List.forall_mem_cons.mpr ⟨lw_p31, fun _ h => absurd h List.not_mem_nil⟩⟩⟩⟩⟩⟩⟩⟩⟩⟩⟩⟩⟩⟩⟩⟩
theorem lw_p32 : lw_okq (⟨"HilbertHutchModel", "shrinks", "(I)V"⟩, 16) := ⟨⟨by decide +kernel, by decide +kernel⟩, List.mem_of_getElem? (i := 552) (by decide +kernel), List.mem_of_getElem? (i := 669) (by decide +kernel), List.mem_of_getElem? (i := 670) (by decide +kernel)⟩
theorem lw_p33 : lw_okq (⟨"HilbertHutchModel", "goes", "(II)V"⟩, 16) := ⟨⟨by decide +kernel, by decide +kernel⟩, List.mem_of_getElem? (i := 552) (by decide +kernel), List.mem_of_getElem? (i := 673) (by decide +kernel), List.mem_of_getElem? (i := 674) (by decide +kernel)⟩
theorem lw_p34 : lw_okq (⟨"HilbertHutchModel", "tells", "(I)I"⟩, 16) := ⟨⟨by decide +kernel, by decide +kernel⟩, List.mem_of_getElem? (i := 552) (by decide +kernel), List.mem_of_getElem? (i := 685) (by decide +kernel), List.mem_of_getElem? (i := 686) (by decide +kernel)⟩
theorem lw_p35 : lw_okq (⟨"HilbertHutchModel", "isLevel", "(I)Z"⟩, 16) := ⟨⟨by decide +kernel, by decide +kernel⟩, List.mem_of_getElem? (i := 552) (by decide +kernel), List.mem_of_getElem? (i := 715) (by decide +kernel), List.mem_of_getElem? (i := 716) (by decide +kernel)⟩
theorem lw_p36 : lw_okq (⟨"HilbertHutchModel", "isNode", "(II)Z"⟩, 16) := ⟨⟨by decide +kernel, by decide +kernel⟩, List.mem_of_getElem? (i := 552) (by decide +kernel), List.mem_of_getElem? (i := 723) (by decide +kernel), List.mem_of_getElem? (i := 724) (by decide +kernel)⟩
theorem lw_p37 : lw_okq (⟨"HilbertHutchModel", "covers", "(II)V"⟩, 16) := ⟨⟨by decide +kernel, by decide +kernel⟩, List.mem_of_getElem? (i := 552) (by decide +kernel), List.mem_of_getElem? (i := 731) (by decide +kernel), List.mem_of_getElem? (i := 732) (by decide +kernel)⟩
theorem lw_p38 : lw_okq (⟨"HilbertHutchModel", "met", "(IIII)I"⟩, 16) := ⟨⟨by decide +kernel, by decide +kernel⟩, List.mem_of_getElem? (i := 552) (by decide +kernel), List.mem_of_getElem? (i := 751) (by decide +kernel), List.mem_of_getElem? (i := 752) (by decide +kernel)⟩
theorem lw_p39 : lw_okq (⟨"HilbertHutchModel", "doesMeet", "(IIIII)Z"⟩, 16) := ⟨⟨by decide +kernel, by decide +kernel⟩, List.mem_of_getElem? (i := 552) (by decide +kernel), List.mem_of_getElem? (i := 755) (by decide +kernel), List.mem_of_getElem? (i := 756) (by decide +kernel)⟩
theorem lw_p40 : lw_okq (⟨"HilbertHutchModel", "nearer", "(III)I"⟩, 16) := ⟨⟨by decide +kernel, by decide +kernel⟩, List.mem_of_getElem? (i := 552) (by decide +kernel), List.mem_of_getElem? (i := 771) (by decide +kernel), List.mem_of_getElem? (i := 772) (by decide +kernel)⟩
theorem lw_p41 : lw_okq (⟨"HilbertHutchModel", "far", "(III)I"⟩, 16) := ⟨⟨by decide +kernel, by decide +kernel⟩, List.mem_of_getElem? (i := 552) (by decide +kernel), List.mem_of_getElem? (i := 775) (by decide +kernel), List.mem_of_getElem? (i := 776) (by decide +kernel)⟩
theorem lw_p42 : lw_okq (⟨"HilbertHutchModel", "goesThrough", "(I)I"⟩, 16) := ⟨⟨by decide +kernel, by decide +kernel⟩, List.mem_of_getElem? (i := 552) (by decide +kernel), List.mem_of_getElem? (i := 787) (by decide +kernel), List.mem_of_getElem? (i := 788) (by decide +kernel)⟩
theorem lw_p43 : lw_okq (⟨"HilbertHutchModel", "arePair", "(II)Z"⟩, 16) := ⟨⟨by decide +kernel, by decide +kernel⟩, List.mem_of_getElem? (i := 552) (by decide +kernel), List.mem_of_getElem? (i := 791) (by decide +kernel), List.mem_of_getElem? (i := 792) (by decide +kernel)⟩
def lw_privs_3 : List (MethodName × Nat) := [(⟨"HilbertHutchModel", "shrinks", "(I)V"⟩, 16), (⟨"HilbertHutchModel", "goes", "(II)V"⟩, 16), (⟨"HilbertHutchModel", "tells", "(I)I"⟩, 16), (⟨"HilbertHutchModel", "isLevel", "(I)Z"⟩, 16), (⟨"HilbertHutchModel", "isNode", "(II)Z"⟩, 16), (⟨"HilbertHutchModel", "covers", "(II)V"⟩, 16), (⟨"HilbertHutchModel", "met", "(IIII)I"⟩, 16), (⟨"HilbertHutchModel", "doesMeet", "(IIIII)Z"⟩, 16), (⟨"HilbertHutchModel", "nearer", "(III)I"⟩, 16), (⟨"HilbertHutchModel", "far", "(III)I"⟩, 16), (⟨"HilbertHutchModel", "goesThrough", "(I)I"⟩, 16), (⟨"HilbertHutchModel", "arePair", "(II)Z"⟩, 16)]
theorem lw_r3 : ∀ q ∈ lw_privs_3, lw_okq q := List.forall_mem_cons.mpr ⟨lw_p32, List.forall_mem_cons.mpr ⟨lw_p33, List.forall_mem_cons.mpr ⟨lw_p34, List.forall_mem_cons.mpr ⟨lw_p35, List.forall_mem_cons.mpr ⟨lw_p36, List.forall_mem_cons.mpr ⟨lw_p37, List.forall_mem_cons.mpr ⟨lw_p38, List.forall_mem_cons.mpr ⟨lw_p39, List.forall_mem_cons.mpr ⟨lw_p40, List.forall_mem_cons.mpr ⟨lw_p41, List.forall_mem_cons.mpr ⟨lw_p42, List.forall_mem_cons.mpr ⟨lw_p43, fun _ h => absurd h List.not_mem_nil⟩⟩⟩⟩⟩⟩⟩⟩⟩⟩⟩⟩
def lw_privs : List (MethodName × Nat) := lw_privs_1 ++ (lw_privs_2 ++ (lw_privs_3))
def lw_tbl : List Cond := k2_sels lw_privs ++ tables_1
theorem lw_privs_ok : ∀ q ∈ lw_privs, lw_okq q := by
  show ∀ q ∈ lw_privs_1 ++ (lw_privs_2 ++ (lw_privs_3)), lw_okq q
  exact List.forall_mem_append.mpr ⟨lw_r1, List.forall_mem_append.mpr ⟨lw_r2, lw_r3⟩⟩
/-- the streams that the claim lets the run draw from -/
abbrev lw_cs : List Choice := [Jvm.Choice.named "NaN.bits"]
theorem lw_bits : nanBits ∈ lw_cs := by first | decide | exact List.mem_cons_self | simp [lw_cs, nanBits]
-- ===== end of PART A; then your names; then what follows =====
end
section
/-! ===== BEGIN words of one list among another's, by their places ===== -/
theorem goodIn_r {big : List Cond} (ws : List Cond) (ps : List Nat) (hp : ws = ps.filterMap (fun i => big[i]?)) (h : ws.all goodWord = true) : GoodIn big ws := by
  intro w hw
  have h1 := List.all_eq_true.mp h w hw
  rw [hp] at hw
  obtain ⟨i, -, hi⟩ := List.mem_filterMap.mp hw
  have hm : w ∈ big := by first | exact List.mem_of_getElem? hi | exact List.getElem?_mem hi
  exact ⟨hm, good_of_word h1⟩
theorem goodIn_app {big a b : List Cond} (ha : GoodIn big a) (hb : GoodIn big b) : GoodIn big (a ++ b) := fun w h => (List.mem_append.mp h).elim (ha w) (hb w)
theorem goodIn_ca {big a b : List Cond} {c : Cond} (ha : GoodIn big (c :: a)) (hb : GoodIn big b) : GoodIn big (c :: (a ++ b)) := fun w h => (List.mem_cons.mp h).elim (fun e => ha w (List.mem_cons.mpr (Or.inl e))) (fun h => (List.mem_append.mp h).elim (fun h => ha w (List.mem_cons.mpr (Or.inr h))) (hb w))
theorem goodIn_sub {big ws : List Cond} (hm : ∀ w ∈ ws, w ∈ big) (h : ws.all goodWord = true) : GoodIn big ws := fun w hw => ⟨hm w hw, good_of_word (List.all_eq_true.mp h w hw)⟩
/-! ===== END ===== -/

/-! ===== BEGIN exceptions that leave a method, and their catching by the caller (launches without stack traces) ===== -/
section VXA
/-! The laws vx_back, vx_callV, vx_callS, vx_callSW, vx_throw0, vx_throwS follow proofs of the library, with one case more: JvmDerived/Free/Laws.lean (Back.of_free), Shelf42/LK1.lean (callV, callS), Shelf/KitTraced.lean (throwNew0V, throwNewS). -/
/-- where a method has thrown q: the class by its name, the cell, what was written, the world -/
def vx_T (XC : String → State → State → Prop) (st : State) (q : Addr) (t : State) (mc ms : Nat) (free : Addr → Prop) : Prop :=
  ∃ (E : String) (ce : Cell) (L : List Loc), XC E st t ∧ t.heap[q]? = some ce ∧ ce.vm = .none ∧ st.vm.findClass E = some ce.cls ∧ st.WarmedH t.vm ∧ st.sameButNew ({ t with vm := st.vm } : State) L mc ms ∧ ∀ z ∈ L, free z.base
def vx_Q (Qc : Array Value → State → Outcome → State → Prop) (XC : String → State → State → Prop) (mc ms : Nat) (free : Addr → Prop) : Array Value → State → Outcome → State → Prop := fun a st o t =>
  (Qc a st o t ∧ ∃ L, FrameEnd st o t L mc ms ∧ ∀ q ∈ L, free q.base) ∨ ∃ q, o = .threw q ∧ vx_T XC st q t mc ms free
/-- a callee that returns or throws -/
def vx_Met (l : Launch) (y : MethodName) (ws : List Cond) (rm : Room) (Pc : Array Value → State → Prop) (Qc : Array Value → State → Outcome → State → Prop) (XC : String → State → State → Prop) (mc ms : Nat) (free : Addr → Prop) : Prop :=
  MetFree l y (headSpec ws rm) Pc (fun _ _ _ _ _ => True) (vx_Q Qc XC mc ms free)
def vx_Post (XC : String → State → State → Prop) (mc ms : Nat) (free : Addr → Prop) : Pt → Array Value → Addr → Pt → Prop := fun A a q B =>
  ∃ (g : JFrame) (mk : MethodId) (t : State) (L : List Loc) (E : String) (ce : Cell), B.U.heap = t.heap ∧ B.U.vm = t.vm ∧ XC E (A.U.calling g mk a) t ∧ t.heap[q]? = some ce ∧ ce.vm = .none ∧ A.U.vm.findClass E = some ce.cls ∧ B.locs = A.locs ++ L ∧ (∀ z ∈ L, free z.base) ∧ B.cells = A.cells + mc ∧ B.slots = A.slots + ms
def vx_Back (l : Launch) (R : Room) (p : Program) (e : Env) (below : List Frame) (s : State) (sargs : Array Value) (y : MethodName) (len W9 : Nat)
    (Pre : Pt → Array Value → Prop) (Post : Pt → Array Value → Option Value → Pt → Prop) (PostX : Pt → Array Value → Addr → Pt → Prop) : Prop :=
  ∀ (m : MethodId) (meth : Method) (c : Code) (A : Pt) (g : JFrame) (ig : Instr) (mk : MethodId) (a : Array Value),
    Stand p l e R s m sargs below meth c A.U A.locs A.cells A.slots → g.method = m → g.locals.size = c.maxLocals → decode c.code g.pc = .ok (ig, len) →
    2 * g.monitorRoom + (g.stack.map fun v => v.category).sum ≤ W9 → A.U.methodNamed? y = some mk → Pre A a →
    (∃ (v : Option Value) (B : Pt), Stand p l e R s m sargs below meth c B.U B.locs B.cells B.slots ∧ Post A a v B ∧
      Steps p.tables e below (doInvoke e (A.U.setTop g) [] mk a).1 (B.U.setTop { g with pc := g.pc + len, stack := v.toList ++ g.stack })) ∨
    (∃ (q : Addr) (B : Pt), Stand p l e R s m sargs below meth c B.U B.locs B.cells B.slots ∧ PostX A a q B ∧
      Steps p.tables e below (doInvoke e (A.U.setTop g) [] mk a).1 ((B.U.setTop g).pushFrame (.throwing q)))
section Payer
variable {l : Launch} {R : Room} {p : Program} {e : Env} {below : List Frame} {s : State} {sargs : Array Value} {y : MethodName} {len W9 : Nat}
theorem vx_back {ws : List Cond} {rm : Room} {Pc : Array Value → State → Prop} {Qc : Array Value → State → Outcome → State → Prop} {XC : String → State → State → Prop} {mc ms : Nat} {free : Addr → Prop} {bytes : ByteArray} {maxL : Nat} {ret : Option FieldType}
    (hM : vx_Met l y ws rm Pc Qc XC mc ms free) (hblind : FrameBlind Pc) (hrc : rm.cells = mc) (hrs : rm.slots = ms)
    (hframes : rm.frames + 1 ≤ R.frames) (hlocals : W9 + (maxL + 11) + rm.locals ≤ R.locals)
    (hws : ∀ w ∈ ws, ∀ a' U, s.WarmedH U.vm → w.before a' U = true) (hcode : Cond.code y bytes maxL ret ∈ ws) (hinit : ∀ a' U, s.WarmedH U.vm → (Cond.initialized y.cls).before a' U = true) :
    vx_Back l R p e below s sargs y len W9 (PreOf R mc ms Pc) (PostOf Qc mc ms free) (vx_Post XC mc ms free) := by
  intro m meth c A g ig mk a X hg hsize hdg hW hn hp
  have h1 : (headSpec ws rm).pre.before a A.U = true := atoms_intro fun w hw => hws w hw _ _ X.warmed
  have h2 : (Cond.code y bytes maxL ret).before a A.U = true := hws _ hcode _ _ X.warmed
  have h3 : (Cond.initialized y.cls).before a A.U = true := hinit _ _ X.warmed
  have h4 : A.cells + (headSpec ws rm).room.cells ≤ R.cells := by rw [show (headSpec ws rm).room.cells = mc from hrc]; exact hp.1
  have h5 : A.slots + (headSpec ws rm).room.slots ≤ R.slots := by rw [show (headSpec ws rm).room.slots = ms from hrs]; exact hp.2.1
  have hPc : Pc a (A.U.calling g mk a) := hblind _ _ _ _ hp.2.2
  obtain ⟨U, Ls, c0, s0⟩ := A
  dsimp only [Pt.U, Pt.locs, Pt.cells, Pt.slots] at h1 h2 h3 h4 h5 X hn hPc ⊢
  obtain ⟨methY, cY, hmY, hcY, -, hlY, -, -, -, -⟩ := Cond.code_spec hn h2
  obtain ⟨kY, hkY, -⟩ := className_of_methodNamed hn
  have hinitY : kY.init = .initialized := Cond.initialized_spec (findClass_of_methodNamed hn) hkY h3
  have h : At U g.method c below := by rw [hg]; exact X.here
  have hlocals9 : W9 + (maxL + 11) + (headSpec ws rm).room.locals ≤ R.locals := hlocals
  have happ : (headSpec ws rm).appliesLoose y e.platform (U.calling g mk a) = true :=
    Spec.appliesLoose_calling (g := g) h hdg hn hkY hinitY
      (X.room_calling (g := g) (R' := (headSpec ws rm).room) hsize hmY hcY hframes (by rw [hlY]; omega) h4 h5) h1
  obtain ⟨mid, hmid⟩ := h.above
  have hfr : (U.setTop g).frames = (.java g :: mid) ++ below := by rw [State.frames_setTop' g h.top, hmid]; rfl
  obtain ⟨o, s₂, hsteps, -, hend, hq⟩ := Steps.callFree hM p X.admits X.cas X.clock (acts := []) hfr happ hPc trivial
  have hq' : vx_Q Qc XC mc ms free a (U.calling g mk a) o s₂ := hq
  rw [State.frames_setTop' g h.top] at hend
  obtain ⟨g₀, hg0⟩ := Option.isSome_iff_exists.mp h.top
  obtain ⟨r, hr⟩ := State.topJava?_eq_some.mp hg0
  have hr' : (({ U with heap := s₂.heap, slotsUsed := s₂.slotsUsed } : State).setVm s₂.vm).frames = .java g₀ :: r := hr
  rcases hq' with ⟨hqc, L, hfe, hL⟩ | ⟨q, rfl, E, ce, L, hx, hce, hcv, hcl, hW₂, hsm, hL⟩
  · obtain ⟨⟨v, rfl⟩, hW₂, e2, q2, q3, q4, q5, q6⟩ := id hfe
    have e3 : s₂ = ({ (U.calling g mk a).setFrames s₂.frames with heap := s₂.heap, slotsUsed := s₂.slotsUsed } : State).setVm s₂.vm := by
      have : s₂ = ({ s₂ with vm := (U.calling g mk a).vm } : State).setVm s₂.vm := rfl
      rw [e2] at this
      exact this
    obtain ⟨c₂, i₂, len₂, hc₂, hd₂, hf₂⟩ := hend
    have hW' : U.WarmedH s₂.vm := hW₂
    have hcc : c₂ = c := by
      have h1 : s₂.code? g.method = U.code? g.method := by
        rw [State.code?_eq, State.code?_eq, hW'.alike.method?]
      exact Option.some.inj (hc₂.symm.trans (h1.trans h.code))
    subst hcc
    have hlen : len₂ = len := by rw [hdg] at hd₂; cases hd₂; rfl
    subst hlen
    have hs₂ : s₂ = (({ U with heap := s₂.heap, slotsUsed := s₂.slotsUsed } : State).setVm s₂.vm).setTop { g with pc := g.pc + len₂, stack := v.toList ++ g.stack } := by
      refine e3.trans ?_
      rw [hf₂, State.calling_eq h.top, State.setFrames_setFrames, State.setTop_of_frames _ hr', hr]
      rfl
    have hsame : U.sameButNew ({ U with heap := s₂.heap, slotsUsed := s₂.slotsUsed } : State) L mc ms := by
      refine ⟨?_, q2, q3, q4, q5, q6⟩
      obtain ⟨t, ht, -⟩ := State.frames_cons hr
      show ({ U with heap := s₂.heap, slotsUsed := s₂.slotsUsed } : State) = { U.setFrames U.frames with heap := s₂.heap, slotsUsed := s₂.slotsUsed }
      rw [State.setFrames_self ht]
    subst hg
    refine Or.inl ⟨v, ⟨(({ U with heap := s₂.heap, slotsUsed := s₂.slotsUsed } : State).setVm s₂.vm), Ls ++ L, c0 + mc, s0 + ms⟩,
      ⟨X.admits, X.cas, X.clock, X.frames, X.room, X.hears, X.method, X.code, (X.here.setHeapUsed s₂.heap s₂.slotsUsed).setVm hW'.alike, X.tail, State.WarmedH.trans X.warmed hW', X.limits, X.bytes, X.same.trans (hsame.setVm s.vm)⟩,
      ⟨g, mk, s₂, L, rfl, rfl, hqc, rfl, hL, rfl, rfl⟩, ?_⟩
    show Steps p.tables e below _ ((({ U with heap := s₂.heap, slotsUsed := s₂.slotsUsed } : State).setVm s₂.vm).setTop { g with pc := g.pc + len₂, stack := v.toList ++ g.stack })
    rw [← hs₂]
    exact hsteps
  · obtain ⟨e2, q2, q3, q4, q5, q6⟩ := id hsm
    have e3 : s₂ = ({ (U.calling g mk a).setFrames s₂.frames with heap := s₂.heap, slotsUsed := s₂.slotsUsed } : State).setVm s₂.vm := by
      have : s₂ = ({ s₂ with vm := (U.calling g mk a).vm } : State).setVm s₂.vm := rfl
      rw [e2] at this
      exact this
    have hf₂ : s₂.frames = .throwing q :: .java g :: U.frames.tail := hend
    have hW' : U.WarmedH s₂.vm := hW₂
    have hs₂ : s₂ = ((({ U with heap := s₂.heap, slotsUsed := s₂.slotsUsed } : State).setVm s₂.vm).setTop g).pushFrame (.throwing q) := by
      refine e3.trans ?_
      rw [hf₂, State.calling_eq h.top, State.setFrames_setFrames, State.pushFrame, State.frames_setTop _ hr', State.setTop_of_frames _ hr', State.setFrames_setFrames, hr]
      rfl
    have hsame : U.sameButNew ({ U with heap := s₂.heap, slotsUsed := s₂.slotsUsed } : State) L mc ms := by
      refine ⟨?_, q2, q3, q4, q5, q6⟩
      obtain ⟨t, ht, -⟩ := State.frames_cons hr
      show ({ U with heap := s₂.heap, slotsUsed := s₂.slotsUsed } : State) = { U.setFrames U.frames with heap := s₂.heap, slotsUsed := s₂.slotsUsed }
      rw [State.setFrames_self ht]
    subst hg
    refine Or.inr ⟨q, ⟨(({ U with heap := s₂.heap, slotsUsed := s₂.slotsUsed } : State).setVm s₂.vm), Ls ++ L, c0 + mc, s0 + ms⟩,
      ⟨X.admits, X.cas, X.clock, X.frames, X.room, X.hears, X.method, X.code, (X.here.setHeapUsed s₂.heap s₂.slotsUsed).setVm hW'.alike, X.tail, State.WarmedH.trans X.warmed hW', X.limits, X.bytes, X.same.trans (hsame.setVm s.vm)⟩,
      ⟨g, mk, s₂, L, E, ce, rfl, rfl, hx, hce, hcv, hcl, rfl, hL, rfl, rfl⟩, ?_⟩
    show Steps p.tables e below _ (((({ U with heap := s₂.heap, slotsUsed := s₂.slotsUsed } : State).setVm s₂.vm).setTop g).pushFrame (.throwing q))
    rw [← hs₂]
    exact hsteps
end Payer
section Calls
variable {p : Program} {l : Launch} {e : Env} {R : Room} {s : State} {m : MethodId} {args : Array Value} {below : List Frame} {meth : Method} {c : Code} {T : State} {locs : List Loc} {cells slots : Nat}
theorem vx_callV (X : Stand p l e R s m args below meth c T locs cells slots) (hexec : p.tables.exec = Jvm.exec) {own C : String} {index : Nat} {y : MethodName} {bytes : ByteArray} {maxL : Nat} {ret : Option FieldType}
    (hown : s.vm.findClass own = some m.cls) (hlink : (Cond.methodLink own index y).before args s = true) (hinst : (Cond.instanceMethod y).before args s = true) (hsel : (Cond.selects C y y).before args s = true)
    (hcode : (Cond.code y bytes maxL ret).before args s = true) (hy : y.cls ≠ "java/lang/invoke/MethodHandle" ∧ y.cls ≠ "java/lang/invoke/VarHandle")
    {W9 : Nat} {Pre : Pt → Array Value → Prop} {Post : Pt → Array Value → Option Value → Pt → Prop} {PostX : Pt → Array Value → Addr → Pt → Prop} (hK : vx_Back l R p e below s args y 3 W9 Pre Post PostX)
    {b : Addr} {cellB : Cell} (hcell : T.heap[b]? = some cellB) (hobj : cellB.vm.isStatics = false) (hcls : s.vm.findClass C = some cellB.cls)
    {g : JFrame} (hg : g.method = m) (hsize : g.locals.size = c.maxLocals) {argsL rest : List Value} (hlen : ∀ sig, parseMethodDescriptor y.desc = some sig → argsL.length = sig.parameters.length)
    (hstack : g.stack = argsL.reverse ++ .ref b :: rest) (hW : 2 * g.monitorRoom + (rest.map fun v => v.category).sum ≤ W9) (hdg : decode c.code g.pc = .ok (.invokevirtual index, 3))
    (hpre : ∀ vm₁, s.WarmedH vm₁ → Pre ⟨T.setVm vm₁, locs, cells, slots⟩ (Value.ref b :: argsL).toArray) :
    (∃ (v : Option Value) (vm₁ : Vm) (B : Pt), s.WarmedH vm₁ ∧ Stand p l e R s m args below meth c B.U B.locs B.cells B.slots ∧ Post ⟨T.setVm vm₁, locs, cells, slots⟩ (Value.ref b :: argsL).toArray v B ∧
      ∀ target, Steps p.tables e below (B.U.setTop { g with pc := g.pc + 3, stack := v.toList ++ rest }) target → Steps p.tables e below (T.setTop g) target) ∨
    (∃ (q : Addr) (vm₁ : Vm) (B : Pt), s.WarmedH vm₁ ∧ Stand p l e R s m args below meth c B.U B.locs B.cells B.slots ∧ PostX ⟨T.setVm vm₁, locs, cells, slots⟩ (Value.ref b :: argsL).toArray q B ∧
      Steps p.tables e below (T.setTop g) ((B.U.setTop { g with stack := rest }).pushFrame (.throwing q))) := by
  obtain ⟨mk, methM, hnamed, hmethM, hstM, habM⟩ := Cond.instanceMethod_spec hinst
  obtain ⟨methM', cM, hmethM', -, -, -, -, -, -, hsigM⟩ := Cond.code_spec hnamed hcode
  cases hmethM.symm.trans hmethM'
  obtain ⟨c2, r2, m2, q1, q2, q3, q4, kP, hkP, hkPi⟩ := Cond.selects_spec hsel
  cases hcls.symm.trans q1
  cases (State.methodFound?_of_named hnamed hy).symm.trans q2
  cases hnamed.symm.trans q3
  have hselP : selectMethod e.platform s.vm cellB.cls mk = .method mk := by rw [Launch.admits_selectMethod X.admits]; exact q4
  obtain ⟨vm₁, X₁, hstep₁⟩ := X.invokevirtual hexec hown hlink hnamed hmethM hstM hkP hkPi hy (a := b) (cell := cellB) hcell
    (fun z h => by rw [h] at hobj; cases hobj) hselP hmethM habM hkP hkPi (g := g) hg (argsL := argsL) (rest := rest) (hlen _ hsigM) hstack hdg
  rcases hK m meth c ⟨T.setVm vm₁, locs, cells, slots⟩ { g with stack := rest } (.invokevirtual index) mk (Value.ref b :: argsL).toArray X₁ hg hsize hdg hW (X₁.named hnamed) (hpre vm₁ X₁.warmed) with ⟨v, B, X', hpost, hsteps⟩ | ⟨q, B, X', hpost, hsteps⟩
  · exact Or.inl ⟨v, vm₁, B, X₁.warmed, X', hpost, fun target h => hstep₁ _ fun acts => by rw [doInvoke_state]; exact hsteps.trans h⟩
  · exact Or.inr ⟨q, vm₁, B, X₁.warmed, X', hpost, hstep₁ _ fun acts => by rw [doInvoke_state]; exact hsteps⟩
theorem vx_callS (X : Stand p l e R s m args below meth c T locs cells slots) (hexec : p.tables.exec = Jvm.exec) {own : String} {index : Nat} {y : MethodName} {bytes : ByteArray} {maxL : Nat} {ret : Option FieldType}
    (hown : s.vm.findClass own = some m.cls) (hlink : (Cond.methodLink own index y).before args s = true) (hstat : (Cond.static y).before args s = true) (hinit : (Cond.initialized y.cls).before args s = true)
    (hcode : (Cond.code y bytes maxL ret).before args s = true) (hy : y.cls ≠ "java/lang/invoke/MethodHandle" ∧ y.cls ≠ "java/lang/invoke/VarHandle")
    {W9 : Nat} {Pre : Pt → Array Value → Prop} {Post : Pt → Array Value → Option Value → Pt → Prop} {PostX : Pt → Array Value → Addr → Pt → Prop} (hK : vx_Back l R p e below s args y 3 W9 Pre Post PostX)
    {g : JFrame} (hg : g.method = m) (hsize : g.locals.size = c.maxLocals) {argsL rest : List Value} (hlen : ∀ sig, parseMethodDescriptor y.desc = some sig → argsL.length = sig.parameters.length)
    (hstack : g.stack = argsL.reverse ++ rest) (hW : 2 * g.monitorRoom + (rest.map fun v => v.category).sum ≤ W9) (hdg : decode c.code g.pc = .ok (.invokestatic index, 3))
    (hpre : ∀ vm₁, s.WarmedH vm₁ → Pre ⟨T.setVm vm₁, locs, cells, slots⟩ argsL.toArray) :
    (∃ (v : Option Value) (vm₁ : Vm) (B : Pt), s.WarmedH vm₁ ∧ Stand p l e R s m args below meth c B.U B.locs B.cells B.slots ∧ Post ⟨T.setVm vm₁, locs, cells, slots⟩ argsL.toArray v B ∧
      ∀ target, Steps p.tables e below (B.U.setTop { g with pc := g.pc + 3, stack := v.toList ++ rest }) target → Steps p.tables e below (T.setTop g) target) ∨
    (∃ (q : Addr) (vm₁ : Vm) (B : Pt), s.WarmedH vm₁ ∧ Stand p l e R s m args below meth c B.U B.locs B.cells B.slots ∧ PostX ⟨T.setVm vm₁, locs, cells, slots⟩ argsL.toArray q B ∧
      Steps p.tables e below (T.setTop g) ((B.U.setTop { g with stack := rest }).pushFrame (.throwing q))) := by
  obtain ⟨mk, hnamed⟩ := Cond.code_named hcode
  obtain ⟨methM, cM, hmethM, -, -, -, -, -, -, hsigM⟩ := Cond.code_spec hnamed hcode
  have hstatic : methM.isStatic = true := Cond.static_spec hnamed hmethM hstat
  obtain ⟨kP, hkP, -⟩ := className_of_methodNamed hnamed
  have hinitP : kP.init = .initialized := Cond.initialized_spec (findClass_of_methodNamed hnamed) hkP hinit
  obtain ⟨vm₁, X₁, hstep₁⟩ := X.invokestatic hexec hown hlink hnamed hmethM hstatic hkP hinitP hy (g := g) hg (argsL := argsL) (rest := rest) (hlen _ hsigM) hstack hdg
  rcases hK m meth c ⟨T.setVm vm₁, locs, cells, slots⟩ { g with stack := rest } (.invokestatic index) mk argsL.toArray X₁ hg hsize hdg hW (X₁.named hnamed) (hpre vm₁ X₁.warmed) with ⟨v, B, X', hpost, hsteps⟩ | ⟨q, B, X', hpost, hsteps⟩
  · exact Or.inl ⟨v, vm₁, B, X₁.warmed, X', hpost, fun target h => hstep₁ _ fun acts => by rw [doInvoke_state]; exact hsteps.trans h⟩
  · exact Or.inr ⟨q, vm₁, B, X₁.warmed, X', hpost, hstep₁ _ fun acts => by rw [doInvoke_state]; exact hsteps⟩
end Calls
theorem vx_cls {s : State} {T : State} {vm₁ : Vm} {E : String} {k : ClassId} (hW : s.WarmedH vm₁) (h : (T.setVm vm₁).vm.findClass E = some k) : s.vm.findClass E = some k := by
  have h1 : vm₁.findClass E = some k := h
  rw [hW.alike.findClass] at h1
  exact h1
/-- the method's frame g, with q thrown over it -/
def vx_W (p : Program) (l : Launch) (e : Env) (R : Room) (s : State) (m : MethodId) (args : Array Value) (below : List Frame) (meth : Method) (c : Code) (H : Heap) (locs : List Loc) (cells slots : Nat) (Q : State → Prop) (g : JFrame) (q : Addr) : Prop :=
  ∀ T : State, T.heap = H → Stand p l e R s m args below meth c T locs cells slots → ∃ t, Steps p.tables e below ((T.setTop g).pushFrame (.throwing q)) t ∧ Q t
def vx_Run (p : Program) (l : Launch) (e : Env) (R : Room) (s : State) (m : MethodId) (args : Array Value) (below : List Frame) (meth : Method) (c : Code) (H : Heap) (locs : List Loc) (cells slots mc ms : Nat) (g : JFrame) (rest : List Value) (Qa : State → Outcome → State → Prop) (XC : String → State → State → Prop) (free : Addr → Prop) : Prop :=
  ∀ T : State, T.heap = H → Stand p l e R s m args below meth c T locs cells slots →
    (∃ (v : Option Value) (st₀ t T' : State) (L : List Loc), st₀.heap = H ∧ Stand p l e R s m args below meth c T' (locs ++ L) (cells + mc) (slots + ms) ∧ (∀ q ∈ L, free q.base) ∧ T'.heap = t.heap ∧ T'.vm = t.vm ∧ Qa st₀ (.returned v) t ∧
      Goes p e below T g T' { g with pc := g.pc + 3, stack := v.toList ++ rest }) ∨
    (∃ (q : Addr) (st₀ t T' : State) (L : List Loc) (E : String) (ce : Cell), st₀.heap = H ∧ Stand p l e R s m args below meth c T' (locs ++ L) (cells + mc) (slots + ms) ∧ (∀ z ∈ L, free z.base) ∧ T'.heap = t.heap ∧ T'.vm = t.vm ∧ XC E st₀ t ∧ t.heap[q]? = some ce ∧ ce.vm = .none ∧ s.vm.findClass E = some ce.cls ∧
      Steps p.tables e below (T.setTop g) ((T'.setTop { g with stack := rest }).pushFrame (.throwing q)))
def vx_X {S : Type} (px : S → Prop) (B : String → S → State → Prop) (A : Nat → Prop) : String → State → State → Prop := fun E st t => ∃ u : S, px u ∧ B E u t ∧ va_F A st t
section Runs
variable {p : Program} {l : Launch} {e : Env} {R : Room} {s : State} {m : MethodId} {args : Array Value} {below : List Frame} {meth : Method} {c : Code} {H : Heap} {locs : List Loc} {cells slots : Nat}
variable {y : MethodName} {bytes cc : ByteArray} {maxL nL mc ms n index : Nat} {ret : Option FieldType} {ws : List Cond} {rm : Room} {Pc : Array Value → State → Prop} {Qc : Array Value → State → Outcome → State → Prop} {XC : String → State → State → Prop} {free : Addr → Prop} {Ts : List Cond} {own C : String} {b : Addr} {As rest : List Value} {g : JFrame}
theorem vx_callBack (cb : CallB R s args own index y bytes maxL ret ws rm mc ms n) (hM : vx_Met l y ws rm Pc Qc XC mc ms free) (hbl : FrameBlind Pc) : vx_Back l R p e below s args y 3 8 (PreOf R mc ms Pc) (PostOf Qc mc ms free) (vx_Post XC mc ms free) := by
  obtain ⟨hrc, hrs, hfr, hlo, hws, hcw, -, hini, -⟩ := cb
  exact vx_back (bytes := bytes) (maxL := maxL) (ret := ret) hM hbl hrc hrs hfr hlo hws hcw (fun a' U hW => word_at hW (Or.inl (by first | rfl | simp [Cond.onTables, Cond.keeps, Cond.steady])) hini)
theorem vx_runV (S : CallFix p m c cc nL s args Ts own) (hM : vx_Met l y ws rm Pc Qc XC mc ms free) (cw : CallW R s args own C index y bytes maxL ret ws rm mc ms n) (hp : PreV s H C b Pc As)
    (hg : g.method = m) (hn : As.length = n) (hsize : g.locals.size = nL) (hstack : g.stack = As.reverse ++ .ref b :: rest) (hW : 2 * g.monitorRoom + (rest.map fun v => v.category).sum ≤ 8) (hdg : decode cc g.pc = .ok (.invokevirtual index, 3)) (hf : cells + mc ≤ R.cells ∧ slots + ms ≤ R.slots) :
    vx_Run p l e R s m args below meth c H locs cells slots mc ms g rest (Qc (Value.ref b :: As).toArray) XC free := by
  have hK : vx_Back l R p e below s args y 3 8 (PreOf R mc ms Pc) (PostOf Qc mc ms free) (vx_Post XC mc ms free) := vx_callBack cw.1 hM hp.1
  obtain ⟨⟨-, -, -, -, -, -, hcode, -, hy, hlen, hl⟩, hin, hse⟩ := cw
  obtain ⟨hx, hb, hml, ho, -⟩ := S
  obtain ⟨-, ⟨cellB, hcB, hoB, hclB⟩, hPc⟩ := hp
  intro T hT X
  rcases vx_callV X hx (C := C) (bytes := bytes) (maxL := maxL) (ret := ret) ho hl hin hse hcode hy hK (by rw [hT]; exact hcB) hoB hclB hg (hsize.trans hml.symm) (argsL := As) (rest := rest) (fun sig h => hn.trans (hlen sig h)) hstack hW (by rw [hb]; exact hdg)
    (fun vm₁ hW₁ => ⟨hf.1, hf.2, hPc (T.setVm vm₁) hT hW₁⟩) with ⟨v, vm₁, ⟨U', l2, c2, s2⟩, hW₁, X', ⟨g', mk, t, L, e1, e2, hq, h1, hL, h2, h3⟩, st⟩ | ⟨q, vm₁, ⟨U', l2, c2, s2⟩, hW₁, X', ⟨g', mk, t, L, E, ce, e1, e2, hq, hce, hcv, hcl, h1, hL, h2, h3⟩, st⟩
  · dsimp only [Pt.U, Pt.locs, Pt.cells, Pt.slots] at X' e1 e2 h1 h2 h3 st
    subst h1; subst h2; subst h3
    exact Or.inl ⟨v, (T.setVm vm₁).calling g' mk (Value.ref b :: As).toArray, t, U', L, hT, X', hL, e1, e2, hq, st⟩
  · dsimp only [Pt.U, Pt.locs, Pt.cells, Pt.slots] at X' e1 e2 h1 h2 h3 st hcl
    subst h1; subst h2; subst h3
    exact Or.inr ⟨q, (T.setVm vm₁).calling g' mk (Value.ref b :: As).toArray, t, U', L, E, ce, hT, X', hL, e1, e2, hq, hce, hcv, vx_cls hW₁ hcl, st⟩
theorem vx_runS (S : CallFix p m c cc nL s args Ts own) (hM : vx_Met l y ws rm Pc Qc XC mc ms free) (cw : CallB R s args own index y bytes maxL ret ws rm mc ms n ∧ (Cond.static y).before args s = true) (hp : PreS s H Pc As)
    (hg : g.method = m) (hn : As.length = n) (hsize : g.locals.size = nL) (hstack : g.stack = As.reverse ++ rest) (hW : 2 * g.monitorRoom + (rest.map fun v => v.category).sum ≤ 8) (hdg : decode cc g.pc = .ok (.invokestatic index, 3)) (hf : cells + mc ≤ R.cells ∧ slots + ms ≤ R.slots) :
    vx_Run p l e R s m args below meth c H locs cells slots mc ms g rest (Qc As.toArray) XC free := by
  have hK : vx_Back l R p e below s args y 3 8 (PreOf R mc ms Pc) (PostOf Qc mc ms free) (vx_Post XC mc ms free) := vx_callBack cw.1 hM hp.1
  obtain ⟨⟨-, -, -, -, -, -, hcode, hini, hy, hlen, hl⟩, hstt⟩ := cw
  obtain ⟨hx, hb, hml, ho, -⟩ := S
  intro T hT X
  rcases vx_callS X hx (bytes := bytes) (maxL := maxL) (ret := ret) ho hl hstt hini hcode hy hK hg (hsize.trans hml.symm) (argsL := As) (rest := rest) (fun sig h => hn.trans (hlen sig h)) hstack hW (by rw [hb]; exact hdg)
    (fun vm₁ hW₁ => ⟨hf.1, hf.2, hp.2 (T.setVm vm₁) hT hW₁⟩) with ⟨v, vm₁, ⟨U', l2, c2, s2⟩, hW₁, X', ⟨g', mk, t, L, e1, e2, hq, h1, hL, h2, h3⟩, st⟩ | ⟨q, vm₁, ⟨U', l2, c2, s2⟩, hW₁, X', ⟨g', mk, t, L, E, ce, e1, e2, hq, hce, hcv, hcl, h1, hL, h2, h3⟩, st⟩
  · dsimp only [Pt.U, Pt.locs, Pt.cells, Pt.slots] at X' e1 e2 h1 h2 h3 st
    subst h1; subst h2; subst h3
    exact Or.inl ⟨v, (T.setVm vm₁).calling g' mk As.toArray, t, U', L, hT, X', hL, e1, e2, hq, st⟩
  · dsimp only [Pt.U, Pt.locs, Pt.cells, Pt.slots] at X' e1 e2 h1 h2 h3 st hcl
    subst h1; subst h2; subst h3
    exact Or.inr ⟨q, (T.setVm vm₁).calling g' mk As.toArray, t, U', L, E, ce, hT, X', hL, e1, e2, hq, hce, hcv, vx_cls hW₁ hcl, st⟩
end Runs
section Rows
variable {p : Program} {l : Launch} {e : Env} {R : Room} {s : State} {m : MethodId} {args : Array Value} {below : List Frame} {meth : Method} {c : Code} {H : Heap} {locs : List Loc} {cells slots : Nat} {Q : State → Prop}
variable {mc ms : Nat} {free : Addr → Prop} {A0 A1 : Nat → Prop} {H0 : Heap} {a : Array Value} {pc : Nat} {ls : Array Slot} {st0 rest : List Value}
theorem vx_keep {st₀ t T' : State} {L : List Loc} (h0 : st₀.heap = H) (e1 : T'.heap = t.heap) (hS : va_S A0 H0 H locs) (hA : ∀ q, q < H.size → A1 q → A0 q) (hf : ∀ q, free q → A0 q) (hL : ∀ q ∈ L, free q.base) (hF : va_F A1 st₀ t) :
    H.size ≤ T'.heap.size ∧ (∀ q : Nat, q < H.size → ¬ A1 q → T'.heap[q]? = H[q]?) ∧ va_S A0 H0 T'.heap (locs ++ L) := by
  obtain ⟨hz, hk⟩ := hF
  rw [h0] at hz hk
  exact ⟨by rw [e1]; exact hz, fun q h1 h2 => by rw [e1]; exact hk q h1 h2,
    ⟨Nat.le_trans hS.1 (by rw [e1]; exact hz), fun q h1 h2 => by rw [e1, hk q (Nat.lt_of_lt_of_le h1 hS.1) (fun z => h2 (hA q (Nat.lt_of_lt_of_le h1 hS.1) z))]; exact hS.2.1 q h1 h2, fun q hq => by
      rcases List.mem_append.mp hq with h | h
      · exact hS.2.2 q h
      · exact hf _ (hL q h)⟩⟩
theorem vx_calli {S SX : Type} {post : Int32 → S → Prop} {px : SX → Prop} {B : S → State → Prop} {BX : String → SX → State → Prop} {AX : Nat → Prop} (hr : vx_Run p l e R s m args below meth c H locs cells slots mc ms (F0 m pc ls st0) rest (va_Qi post B A1 a) (vx_X px BX AX) free) (hS : va_S A0 H0 H locs) (hA : ∀ q, q < H.size → A1 q → A0 q) (hf : ∀ q, free q → A0 q) (hAX : ∀ q, q < H.size → AX q → A0 q)
    (kx : ∀ (E : String) (ce : Cell) (q9 : Addr) (u : SX) (t : State) (H1 : Heap) (locs1 : List Loc), t.heap = H1 → s.vm.Alike t.vm → px u → BX E u t → H.size ≤ H1.size → (∀ q : Nat, q < H.size → ¬ AX q → H1[q]? = H[q]?) → va_S A0 H0 H1 locs1 → H1[q9]? = some ce → ce.vm = .none → s.vm.findClass E = some ce.cls → vx_W p l e R s m args below meth c H1 locs1 (cells + mc) (slots + ms) Q (F0 m pc ls rest) q9)
    (kk : ∀ (r : Int32) (u : S) (t : State) (H1 : Heap) (locs1 : List Loc), t.heap = H1 → s.vm.Alike t.vm → post r u → B u t → H.size ≤ H1.size → (∀ q : Nat, q < H.size → ¬ A1 q → H1[q]? = H[q]?) → va_S A0 H0 H1 locs1 → W p l e R s m args below meth c H1 locs1 (cells + mc) (slots + ms) Q (F0 m (pc + 3) ls (.int r :: rest))) : W p l e R s m args below meth c H locs cells slots Q (F0 m pc ls st0) := by
  intro T hT X
  rcases hr T hT X with ⟨v, st₀, t, T', L, h0, X', hL, e1, e2, ⟨⟨r, u, hv, hp, hb⟩, hF⟩, st⟩ | ⟨q, st₀, t, T', L, E, ce, h0, X', hL, e1, e2, ⟨u, hp, hb, hF⟩, hce, hcv, hcl, st⟩
  · cases hv
    obtain ⟨k1, k2, k3⟩ := vx_keep h0 e1 hS hA hf hL hF
    obtain ⟨t2, a1, b1⟩ := kk r u t T'.heap (locs ++ L) e1.symm (by rw [← e2]; exact X'.warmed.alike) hp hb k1 k2 k3 T' rfl X'
    exact ⟨t2, st t2 a1, b1⟩
  · obtain ⟨k1, k2, k3⟩ := vx_keep h0 e1 hS hAX hf hL hF
    obtain ⟨t2, a1, b1⟩ := kx E ce q u t T'.heap (locs ++ L) e1.symm (by rw [← e2]; exact X'.warmed.alike) hp hb k1 k2 k3 (by rw [e1]; exact hce) hcv hcl T' rfl X'
    exact ⟨t2, st.trans a1, b1⟩
theorem vx_calll {S SX : Type} {post : Int64 → S → Prop} {px : SX → Prop} {B : S → State → Prop} {BX : String → SX → State → Prop} {AX : Nat → Prop} (hr : vx_Run p l e R s m args below meth c H locs cells slots mc ms (F0 m pc ls st0) rest (va_Ql post B A1 a) (vx_X px BX AX) free) (hS : va_S A0 H0 H locs) (hA : ∀ q, q < H.size → A1 q → A0 q) (hf : ∀ q, free q → A0 q) (hAX : ∀ q, q < H.size → AX q → A0 q)
    (kx : ∀ (E : String) (ce : Cell) (q9 : Addr) (u : SX) (t : State) (H1 : Heap) (locs1 : List Loc), t.heap = H1 → s.vm.Alike t.vm → px u → BX E u t → H.size ≤ H1.size → (∀ q : Nat, q < H.size → ¬ AX q → H1[q]? = H[q]?) → va_S A0 H0 H1 locs1 → H1[q9]? = some ce → ce.vm = .none → s.vm.findClass E = some ce.cls → vx_W p l e R s m args below meth c H1 locs1 (cells + mc) (slots + ms) Q (F0 m pc ls rest) q9)
    (kk : ∀ (r : Int64) (u : S) (t : State) (H1 : Heap) (locs1 : List Loc), t.heap = H1 → s.vm.Alike t.vm → post r u → B u t → H.size ≤ H1.size → (∀ q : Nat, q < H.size → ¬ A1 q → H1[q]? = H[q]?) → va_S A0 H0 H1 locs1 → W p l e R s m args below meth c H1 locs1 (cells + mc) (slots + ms) Q (F0 m (pc + 3) ls (.long r :: rest))) : W p l e R s m args below meth c H locs cells slots Q (F0 m pc ls st0) := by
  intro T hT X
  rcases hr T hT X with ⟨v, st₀, t, T', L, h0, X', hL, e1, e2, ⟨⟨r, u, hv, hp, hb⟩, hF⟩, st⟩ | ⟨q, st₀, t, T', L, E, ce, h0, X', hL, e1, e2, ⟨u, hp, hb, hF⟩, hce, hcv, hcl, st⟩
  · cases hv
    obtain ⟨k1, k2, k3⟩ := vx_keep h0 e1 hS hA hf hL hF
    obtain ⟨t2, a1, b1⟩ := kk r u t T'.heap (locs ++ L) e1.symm (by rw [← e2]; exact X'.warmed.alike) hp hb k1 k2 k3 T' rfl X'
    exact ⟨t2, st t2 a1, b1⟩
  · obtain ⟨k1, k2, k3⟩ := vx_keep h0 e1 hS hAX hf hL hF
    obtain ⟨t2, a1, b1⟩ := kx E ce q u t T'.heap (locs ++ L) e1.symm (by rw [← e2]; exact X'.warmed.alike) hp hb k1 k2 k3 (by rw [e1]; exact hce) hcv hcl T' rfl X'
    exact ⟨t2, st.trans a1, b1⟩
theorem vx_callf {S SX : Type} {post : UInt32 → S → Prop} {px : SX → Prop} {B : S → State → Prop} {BX : String → SX → State → Prop} {AX : Nat → Prop} (hr : vx_Run p l e R s m args below meth c H locs cells slots mc ms (F0 m pc ls st0) rest (va_Qf post B A1 a) (vx_X px BX AX) free) (hS : va_S A0 H0 H locs) (hA : ∀ q, q < H.size → A1 q → A0 q) (hf : ∀ q, free q → A0 q) (hAX : ∀ q, q < H.size → AX q → A0 q)
    (kx : ∀ (E : String) (ce : Cell) (q9 : Addr) (u : SX) (t : State) (H1 : Heap) (locs1 : List Loc), t.heap = H1 → s.vm.Alike t.vm → px u → BX E u t → H.size ≤ H1.size → (∀ q : Nat, q < H.size → ¬ AX q → H1[q]? = H[q]?) → va_S A0 H0 H1 locs1 → H1[q9]? = some ce → ce.vm = .none → s.vm.findClass E = some ce.cls → vx_W p l e R s m args below meth c H1 locs1 (cells + mc) (slots + ms) Q (F0 m pc ls rest) q9)
    (kk : ∀ (r : UInt32) (u : S) (t : State) (H1 : Heap) (locs1 : List Loc), t.heap = H1 → s.vm.Alike t.vm → post r u → B u t → H.size ≤ H1.size → (∀ q : Nat, q < H.size → ¬ A1 q → H1[q]? = H[q]?) → va_S A0 H0 H1 locs1 → W p l e R s m args below meth c H1 locs1 (cells + mc) (slots + ms) Q (F0 m (pc + 3) ls (.float r :: rest))) : W p l e R s m args below meth c H locs cells slots Q (F0 m pc ls st0) := by
  intro T hT X
  rcases hr T hT X with ⟨v, st₀, t, T', L, h0, X', hL, e1, e2, ⟨⟨r, u, hv, hp, hb⟩, hF⟩, st⟩ | ⟨q, st₀, t, T', L, E, ce, h0, X', hL, e1, e2, ⟨u, hp, hb, hF⟩, hce, hcv, hcl, st⟩
  · cases hv
    obtain ⟨k1, k2, k3⟩ := vx_keep h0 e1 hS hA hf hL hF
    obtain ⟨t2, a1, b1⟩ := kk r u t T'.heap (locs ++ L) e1.symm (by rw [← e2]; exact X'.warmed.alike) hp hb k1 k2 k3 T' rfl X'
    exact ⟨t2, st t2 a1, b1⟩
  · obtain ⟨k1, k2, k3⟩ := vx_keep h0 e1 hS hAX hf hL hF
    obtain ⟨t2, a1, b1⟩ := kx E ce q u t T'.heap (locs ++ L) e1.symm (by rw [← e2]; exact X'.warmed.alike) hp hb k1 k2 k3 (by rw [e1]; exact hce) hcv hcl T' rfl X'
    exact ⟨t2, st.trans a1, b1⟩
theorem vx_calld {S SX : Type} {post : UInt64 → S → Prop} {px : SX → Prop} {B : S → State → Prop} {BX : String → SX → State → Prop} {AX : Nat → Prop} (hr : vx_Run p l e R s m args below meth c H locs cells slots mc ms (F0 m pc ls st0) rest (va_Qd post B A1 a) (vx_X px BX AX) free) (hS : va_S A0 H0 H locs) (hA : ∀ q, q < H.size → A1 q → A0 q) (hf : ∀ q, free q → A0 q) (hAX : ∀ q, q < H.size → AX q → A0 q)
    (kx : ∀ (E : String) (ce : Cell) (q9 : Addr) (u : SX) (t : State) (H1 : Heap) (locs1 : List Loc), t.heap = H1 → s.vm.Alike t.vm → px u → BX E u t → H.size ≤ H1.size → (∀ q : Nat, q < H.size → ¬ AX q → H1[q]? = H[q]?) → va_S A0 H0 H1 locs1 → H1[q9]? = some ce → ce.vm = .none → s.vm.findClass E = some ce.cls → vx_W p l e R s m args below meth c H1 locs1 (cells + mc) (slots + ms) Q (F0 m pc ls rest) q9)
    (kk : ∀ (r : UInt64) (u : S) (t : State) (H1 : Heap) (locs1 : List Loc), t.heap = H1 → s.vm.Alike t.vm → post r u → B u t → H.size ≤ H1.size → (∀ q : Nat, q < H.size → ¬ A1 q → H1[q]? = H[q]?) → va_S A0 H0 H1 locs1 → W p l e R s m args below meth c H1 locs1 (cells + mc) (slots + ms) Q (F0 m (pc + 3) ls (.double r :: rest))) : W p l e R s m args below meth c H locs cells slots Q (F0 m pc ls st0) := by
  intro T hT X
  rcases hr T hT X with ⟨v, st₀, t, T', L, h0, X', hL, e1, e2, ⟨⟨r, u, hv, hp, hb⟩, hF⟩, st⟩ | ⟨q, st₀, t, T', L, E, ce, h0, X', hL, e1, e2, ⟨u, hp, hb, hF⟩, hce, hcv, hcl, st⟩
  · cases hv
    obtain ⟨k1, k2, k3⟩ := vx_keep h0 e1 hS hA hf hL hF
    obtain ⟨t2, a1, b1⟩ := kk r u t T'.heap (locs ++ L) e1.symm (by rw [← e2]; exact X'.warmed.alike) hp hb k1 k2 k3 T' rfl X'
    exact ⟨t2, st t2 a1, b1⟩
  · obtain ⟨k1, k2, k3⟩ := vx_keep h0 e1 hS hAX hf hL hF
    obtain ⟨t2, a1, b1⟩ := kx E ce q u t T'.heap (locs ++ L) e1.symm (by rw [← e2]; exact X'.warmed.alike) hp hb k1 k2 k3 (by rw [e1]; exact hce) hcv hcl T' rfl X'
    exact ⟨t2, st.trans a1, b1⟩
theorem vx_callv {S SX : Type} {post : S → Prop} {px : SX → Prop} {B : S → State → Prop} {BX : String → SX → State → Prop} {AX : Nat → Prop} (hr : vx_Run p l e R s m args below meth c H locs cells slots mc ms (F0 m pc ls st0) rest (va_Qv post B A1 a) (vx_X px BX AX) free) (hS : va_S A0 H0 H locs) (hA : ∀ q, q < H.size → A1 q → A0 q) (hf : ∀ q, free q → A0 q) (hAX : ∀ q, q < H.size → AX q → A0 q)
    (kx : ∀ (E : String) (ce : Cell) (q9 : Addr) (u : SX) (t : State) (H1 : Heap) (locs1 : List Loc), t.heap = H1 → s.vm.Alike t.vm → px u → BX E u t → H.size ≤ H1.size → (∀ q : Nat, q < H.size → ¬ AX q → H1[q]? = H[q]?) → va_S A0 H0 H1 locs1 → H1[q9]? = some ce → ce.vm = .none → s.vm.findClass E = some ce.cls → vx_W p l e R s m args below meth c H1 locs1 (cells + mc) (slots + ms) Q (F0 m pc ls rest) q9)
    (kk : ∀ (u : S) (t : State) (H1 : Heap) (locs1 : List Loc), t.heap = H1 → s.vm.Alike t.vm → post u → B u t → H.size ≤ H1.size → (∀ q : Nat, q < H.size → ¬ A1 q → H1[q]? = H[q]?) → va_S A0 H0 H1 locs1 → W p l e R s m args below meth c H1 locs1 (cells + mc) (slots + ms) Q (F0 m (pc + 3) ls (rest))) : W p l e R s m args below meth c H locs cells slots Q (F0 m pc ls st0) := by
  intro T hT X
  rcases hr T hT X with ⟨v, st₀, t, T', L, h0, X', hL, e1, e2, ⟨⟨u, hv, hp, hb⟩, hF⟩, st⟩ | ⟨q, st₀, t, T', L, E, ce, h0, X', hL, e1, e2, ⟨u, hp, hb, hF⟩, hce, hcv, hcl, st⟩
  · cases hv
    obtain ⟨k1, k2, k3⟩ := vx_keep h0 e1 hS hA hf hL hF
    obtain ⟨t2, a1, b1⟩ := kk u t T'.heap (locs ++ L) e1.symm (by rw [← e2]; exact X'.warmed.alike) hp hb k1 k2 k3 T' rfl X'
    exact ⟨t2, st t2 a1, b1⟩
  · obtain ⟨k1, k2, k3⟩ := vx_keep h0 e1 hS hAX hf hL hF
    obtain ⟨t2, a1, b1⟩ := kx E ce q u t T'.heap (locs ++ L) e1.symm (by rw [← e2]; exact X'.warmed.alike) hp hb k1 k2 k3 (by rw [e1]; exact hce) hcv hcl T' rfl X'
    exact ⟨t2, st.trans a1, b1⟩
/-- caught by the row x of this method's table; the rows ahead don't take it -/
theorem vx_catch {own name : String} {E : String} {ce : Cell} {q : Addr} (hown : s.vm.findClass own = some m.cls) (pre : List ExceptionTableEntry) (x : ExceptionTableEntry) (suf : List ExceptionTableEntry) (hsplit : c.exceptionTable.toList = pre ++ x :: suf)
    (hpass : ∀ z ∈ pre, covers z pc = false ∨ (z.catchType ≠ 0 ∧ ∃ nm : String, (Cond.classLink own z.catchType nm).before args s = true ∧ va_Nc E nm s)) (hx : covers x pc = true) (h0 : x.catchType ≠ 0)
    (hlink : (Cond.classLink own x.catchType name).before args s = true) (hcast : (Cond.castable E name).before args s = true) (hcell : H[q]? = some ce) (hv : ce.vm = .none) (hcl : s.vm.findClass E = some ce.cls)
    (kk : W p l e R s m args below meth c H locs cells slots Q (F0 m x.handlerPc ls [.ref q])) : vx_W p l e R s m args below meth c H locs cells slots Q (F0 m pc ls rest) q := by
  intro T hT X
  have hpl : e.platform.magicAccessors = ({} : Platform).magicAccessors := by rw [X.admits.platform]
  obtain ⟨c3, c4, hc3, hc4, hasg⟩ := Cond.castable_spec hcast
  cases Option.some.inj (hc3.symm.trans hcl)
  obtain ⟨c5, hc5, hcl5⟩ := Cond.classLink_spec hown hlink e.platform hpl
  cases Option.some.inj (hc4.symm.trans hc5)
  obtain ⟨vm', X', st⟩ := X.thenCaughtThrough q (g := F0 m pc ls rest) rfl (Steps.refl _) (by rw [hT]; exact hcell) (by rw [hv]; rfl) (by obtain ⟨k9, h9, -⟩ := Vm.findClass_spec hcl; exact ⟨k9, h9⟩) pre x suf hsplit
    (fun z hz => by
      rcases hpass z hz with h | ⟨hz0, nm, hl1, hn1⟩
      · exact Or.inl h
      · obtain ⟨c6, hc6, hcl6⟩ := Cond.classLink_spec hown hl1 e.platform hpl
        obtain ⟨a8, b8, h1, h2, h3⟩ := hn1
        cases Option.some.inj (h1.symm.trans hcl)
        cases Option.some.inj (h2.symm.trans hc6)
        exact Or.inr ⟨hz0, _, hcl6, h3⟩) hx (Or.inr ⟨h0, c4, hcl5, hasg⟩)
  obtain ⟨t, a1, b1⟩ := kk (T.setVm vm') hT X'
  exact ⟨t, st.trans a1, b1⟩
end Rows
section Ends
variable {p : Program} {l : Launch} {e : Env} {R : Room} {s : State} {m : MethodId} {args : Array Value} {below : List Frame} {meth : Method} {c : Code} {H : Heap} {locs : List Loc} {cells slots : Nat} {Q : State → Prop}
variable {mc ms : Nat} {free : Addr → Prop} {A0 A1 : Nat → Prop} {H0 : Heap} {a : Array Value} {ls : Array Slot} {st0 rest : List Value}
variable {Qc : Array Value → State → Outcome → State → Prop} {XC : String → State → State → Prop}
/-- what a body that may throw owes at its end -/
def vx_MQ (below : List Frame) (Qc : Array Value → State → Outcome → State → Prop) (XC : String → State → State → Prop) (a : Array Value) (s : State) (mc ms : Nat) (free : Addr → Prop) : State → Prop := fun t =>
  ∃ o, t.status = .running ∧ Ended t below o ∧ vx_Q Qc XC mc ms free a s o t
theorem vx_ret {g : JFrame} {mc ms : Nat} (k : W p l e R s m args below meth c H locs cells slots (MQ below Qc args s mc ms free) g) : W p l e R s m args below meth c H locs cells slots (vx_MQ below Qc XC args s mc ms free) g := by
  intro T hT X
  obtain ⟨t, a1, o, b1, b2, b3, b4⟩ := k T hT X
  exact ⟨t, a1, o, b1, b2, Or.inl ⟨b3, b4⟩⟩
/-- not caught here: it goes on to the caller -/
theorem vx_widen {g : JFrame} {q : Addr} {k n : Nat} (h1 : cells ≤ k) (h2 : slots ≤ n) (kk : vx_W p l e R s m args below meth c H locs k n Q g q) : vx_W p l e R s m args below meth c H locs cells slots Q g q := fun T hT X => kk T hT (stand_widen X h1 h2)
theorem vx_out {pc : Nat} {E : String} {ce : Cell} {q : Addr} {mc ms : Nat} (hout : ∀ x ∈ c.exceptionTable.toList, covers x pc = false) (hlocks : meth.locks = false) (hcell : H[q]? = some ce) (hv : ce.vm = .none) (hcl : s.vm.findClass E = some ce.cls)
    (hx : ∀ t : State, t.heap = H → s.vm.Alike t.vm → XC E s t) (hf : ∀ z ∈ locs, free z.base) (hc : cells ≤ mc) (hs : slots ≤ ms) :
    vx_W p l e R s m args below meth c H locs cells slots (vx_MQ below Qc XC args s mc ms free) (F0 m pc ls rest) q := by
  intro T hT X
  obtain ⟨st1, hrun, hend, hW, hsm⟩ := X.leaveThrown q (g := F0 m pc ls rest) rfl rfl rfl hout hlocks
  have hcell9 : (T.setFrames (.throwing q :: below)).heap[q]? = some ce := by
    show T.heap[q]? = some ce
    rw [hT]; exact hcell
  exact ⟨_, st1, .threw q, hrun, hend, Or.inr ⟨q, rfl, E, ce, locs, hx _ hT hW.alike, hcell9, hv, hcl, hW, hsm.mono hc hs, hf⟩⟩
theorem vx_frame {U : State} {k n : Nat} (h : s.sameButNew ({ U with vm := s.vm } : State) locs k n) : s.heap.size ≤ U.heap.size ∧ ∀ q : Nat, q < s.heap.size → (∀ z ∈ locs, z.base ≠ q) → U.heap[q]? = s.heap[q]? := by
  obtain ⟨-, h2, -, -, -, h6⟩ := h
  refine ⟨h2, fun q hq hz => ?_⟩
  obtain ⟨c9, e1, e2, e3, e4⟩ := h6 q _ (Array.getElem?_eq_getElem hq)
  have hs : c9.slots = (s.heap[q]).slots := Array.ext_getElem? fun i => e4 i fun hm => hz _ hm rfl
  have h9 : c9 = s.heap[q] := by
    rw [hs] at e2
    exact e2
  have e5 : U.heap[q]? = some c9 := e1
  rw [e5, h9, Array.getElem?_eq_getElem hq]
/-- the words of a throw but the four that speak of the heap -/
def vx_no (w : Cond) : Bool := decide (w ≠ .isRef (.static Bundle.tN "UNASSIGNED_STACK" Bundle.steD)) && decide (w ≠ .isRef (.static Bundle.tN "SUPPRESSED_SENTINEL" Bundle.listD)) && decide (w ≠ .laysStatic Bundle.tN "UNASSIGNED_STACK" Bundle.steD) && decide (w ≠ .laysStatic Bundle.tN "SUPPRESSED_SENTINEL" Bundle.listD)
def vx_at0 (own : String) (ic : Nat) (X : String) (names : List String) : List Cond := (Bundle.ownAtoms0 own ic X names).filter vx_no
def vx_atS (own : String) (ic : Nat) (X : String) (names : List String) : List Cond := (Bundle.ownAtoms own ic X names).filter vx_no
/-- a word that the tables alone decide, or a good one -/
def vx_ot (w : Cond) : Bool := w.onTables || goodWord w
theorem vx_ot_at {args a' : Array Value} {s U : State} {w : Cond} (hW : s.WarmedH U.vm) (hvm : s.vm = U.vm) (hg : vx_ot w = true) (h : w.before args s = true) : w.before a' U = true := by
  simp only [vx_ot, Bool.or_eq_true] at hg
  rcases hg with hg | hg
  · exact va_tabs hg hvm h
  · exact word_at hW (good_of_word hg) h
/-- a list's words: the good ones out of the method's own list, the others by premises of their own -/
theorem vx_hat {args : Array Value} {s : State} {L B : List Cond} (h1 : ∀ w ∈ L.filter goodWord, w.before args s = true) (h2 : ∀ w ∈ L.filter (fun w => !goodWord w), w ∈ B) (h3 : ∀ w ∈ B, w.before args s = true) : ∀ w ∈ L, w.before args s = true := by
  intro w hw
  by_cases g : goodWord w = true
  · exact h1 w (List.mem_filter.mpr ⟨hw, g⟩)
  · refine h3 w (h2 w (List.mem_filter.mpr ⟨hw, ?_⟩))
    show (!goodWord w) = true
    cases hgw : goodWord w
    · rfl
    · exact absurd hgw g
theorem vx_c {args : Array Value} {s : State} {w : Cond} {B : List Cond} (h : w.before args s = true) (t : ∀ w ∈ B, w.before args s = true) : ∀ w' ∈ w :: B, w'.before args s = true := fun w' h' => (List.mem_cons.mp h').elim (fun e => by rw [e]; exact h) (t w')
theorem vx_n {args : Array Value} {s : State} : ∀ w ∈ ([] : List Cond), w.before args s = true := fun _ h => nomatch h
theorem vx_own {args : Array Value} {s : State} {L : List Cond} (h1 : ∀ w ∈ L.filter vx_no, w.before args s = true)
    (hU : (Cond.isRef (.static Bundle.tN "UNASSIGNED_STACK" Bundle.steD)).before args s = true) (hN : (Cond.isRef (.static Bundle.tN "SUPPRESSED_SENTINEL" Bundle.listD)).before args s = true)
    (lU : (Cond.laysStatic Bundle.tN "UNASSIGNED_STACK" Bundle.steD).before args s = true) (lN : (Cond.laysStatic Bundle.tN "SUPPRESSED_SENTINEL" Bundle.listD).before args s = true) : ∀ w ∈ L, w.before args s = true := by
  intro w hw
  by_cases e1 : w = .isRef (.static Bundle.tN "UNASSIGNED_STACK" Bundle.steD)
  · rw [e1]; exact hU
  · by_cases e2 : w = .isRef (.static Bundle.tN "SUPPRESSED_SENTINEL" Bundle.listD)
    · rw [e2]; exact hN
    · by_cases e3 : w = .laysStatic Bundle.tN "UNASSIGNED_STACK" Bundle.steD
      · rw [e3]; exact lU
      · by_cases e4 : w = .laysStatic Bundle.tN "SUPPRESSED_SENTINEL" Bundle.listD
        · rw [e4]; exact lN
        · exact h1 w (List.mem_filter.mpr ⟨hw, by unfold vx_no; rw [decide_eq_true e1, decide_eq_true e2, decide_eq_true e3, decide_eq_true e4]; rfl⟩)
/-- where a static field lies, its class's statics cell in H -/
def vx_L (C n d : String) (A : Nat → Prop) (U : State) (H : Heap) : Prop := ∃ (c : ClassId) (k : Class) (i : Nat) (f : Field) (a : Nat) (cell : Cell), U.vm.findClass C = some c ∧ U.fieldFound? C n d = some (c, k, i, f) ∧ f.isStatic = true ∧ k.statics = some a ∧ H[a]? = some cell ∧ cell.vm.isStatics = true ∧ cell.cls = c ∧ f.slot < cell.slots.size ∧ k.staticTypes[f.slot]? = some f.type ∧ ¬ A a
theorem vx_L.moved {C n d : String} {A : Nat → Prop} {u U : State} {H : Heap} (hvm : u.vm.Alike U.vm) (h : vx_L C n d A u H) : vx_L C n d A U H := by
  obtain ⟨c, k, i, f, a, cell, h1, h2, h3, h4, h5, h6, h7, h8, h9, h10⟩ := h
  obtain ⟨k', hi', he⟩ := State.fieldFound?_setVm hvm h2
  exact ⟨c, k', i, f, a, cell, by rw [hvm.findClass]; exact h1, hi', h3, by rw [he]; exact h4, h5, h6, h7, h8, by rw [he]; exact h9, h10⟩
theorem vx_L.kept {C n d : String} {A : Nat → Prop} {U : State} {H H1 : Heap} (h : vx_L C n d A U H) (hq : ∀ a : Nat, a < H.size → ¬ A a → H1[a]? = H[a]?) : vx_L C n d A U H1 := by
  obtain ⟨c, k, i, f, a, cell, h1, h2, h3, h4, h5, h6, h7, h8, h9, h10⟩ := h
  exact ⟨c, k, i, f, a, cell, h1, h2, h3, h4, by rw [hq a (Array.getElem?_eq_some_iff.mp h5).1 h10]; exact h5, h6, h7, h8, h9, h10⟩
theorem vx_L.narrow {C n d : String} {A B : Nat → Prop} {U : State} {H : Heap} (h : vx_L C n d A U H) (hAB : ∀ q, B q → A q) : vx_L C n d B U H := by
  obtain ⟨c, k, i, f, a, cell, h1, h2, h3, h4, h5, h6, h7, h8, h9, h10⟩ := h
  exact ⟨c, k, i, f, a, cell, h1, h2, h3, h4, h5, h6, h7, h8, h9, fun z => h10 (hAB _ z)⟩
theorem vx_L.word {C n d : String} {A : Nat → Prop} {s : State} {args : Array Value} (h : vx_L C n d A s s.heap) : (Cond.laysStatic C n d).before args s = true := by
  obtain ⟨c, k, i, f, a, cell, h1, h2, h3, h4, h5, h6, h7, h8, h9, -⟩ := h
  show (Cond.laysStatic C n d).holds args s none s [] = true
  exact Cond.laysStatic_of h1 h2 h3 h4 h5 h6 h7 h8 h9
/-- .. and what it holds: null or some reference -/
def vx_Zq (C n d : String) (A : Nat → Prop) (U : State) (H : Heap) : Prop := va_Zq C n d A U H ∧ vx_L C n d A U H
theorem vx_Zq.moved {C n d : String} {A : Nat → Prop} {u U : State} {H : Heap} (hvm : u.vm.Alike U.vm) (h : vx_Zq C n d A u H) : vx_Zq C n d A U H := ⟨va_Zq.moved hvm h.1, vx_L.moved hvm h.2⟩
theorem vx_Zq.kept {C n d : String} {A : Nat → Prop} {U : State} {H H1 : Heap} (h : vx_Zq C n d A U H) (hq : ∀ a : Nat, a < H.size → ¬ A a → H1[a]? = H[a]?) : vx_Zq C n d A U H1 := ⟨va_Zq.kept h.1 hq, vx_L.kept h.2 hq⟩
theorem vx_Zq.narrow {C n d : String} {A B : Nat → Prop} {U : State} {H : Heap} (h : vx_Zq C n d A U H) (hAB : ∀ q, B q → A q) : vx_Zq C n d B U H := ⟨va_Zq.narrow h.1 hAB, vx_L.narrow h.2 hAB⟩
theorem vx_Zqof {args : Array Value} {s : State} {C n d : String} {A : Nat → Prop} (hl : (Cond.laysStatic C n d).before args s = true) (hini : (Cond.initialized C).before args s = true) (h : (Cond.isRef (.static C n d)).before args s = true) (hA : ∀ a : Nat, a < s.heap.size → ¬ A a) : vx_Zq C n d A s s.heap := by
  refine ⟨va_Zqof hl hini h hA, ?_⟩
  obtain ⟨c, k, i, f, a, cell, h1, h2, h3, h4, h5, h6, h7, h8, h9⟩ := Cond.laysStatic_spec hl
  exact ⟨c, k, i, f, a, cell, h1, h2, h3, h4, h5, h6, h7, h8, h9, hA a (Array.getElem?_eq_some_iff.mp h5).1⟩
theorem vx_isRef {C n d : String} {v : Value} {A : Nat → Prop} {s : State} {args : Array Value} (h : va_Z C n d v A s s.heap) (hv : v.isRef = true) : (Cond.isRef (.static C n d)).before args s = true := by
  obtain ⟨cf, kf, fi, f, a, cell, h1, h2, h3, h4, h5, h6, h7, -⟩ := h
  have he : (Term.static C n d).eval args s none [] s = some v := by
    simp [Term.eval, State.fieldNamed?, h1, h2, h4, h5, h6, h7]
  simp only [Cond.before, Cond.holds, Cond.value, he]
  cases v <;> simp_all [Value.isRef]
theorem vx_isRefq {C n d : String} {A : Nat → Prop} {s : State} {args : Array Value} (h : va_Zq C n d A s s.heap) : (Cond.isRef (.static C n d)).before args s = true := by
  rcases h with h | ⟨t, h⟩
  · exact vx_isRef h rfl
  · exact vx_isRef h rfl
/-- the same frame, seen from here: as if the method were called anew in this heap -/
theorem vx_rebase {T : State} (X : Stand p l e R s m args below meth c T locs cells slots) {R' : Room} (hf : R'.frames ≤ R.frames) (hl : R'.locals ≤ R.locals) (hc : cells + R'.cells ≤ R.cells) (hs : slots + R'.slots ≤ R.slots) :
    Stand p l e R' ((T.setVm s.vm).setFrames (.invoking m args :: below)) m args below meth c T [] 0 0 := by
  have htop : (T.setVm s.vm).topJava?.isSome := X.here.top
  have hF : ((T.setVm s.vm).setFrames (.invoking m args :: below)).frames = .invoking m args :: below := State.frames_setFrames _ (State.cur_lt_of_top htop)
  obtain ⟨g₀, hg0⟩ := Option.isSome_iff_exists.mp htop
  obtain ⟨r, hr⟩ := State.topJava?_eq_some.mp hg0
  have hl9 : e.platform.stackLimits (T.setVm s.vm).me = e.platform.stackLimits s.me := X.limits
  have hb9 : (T.setVm s.vm).me.stackBytes = s.me.stackBytes := X.bytes
  refine ⟨X.admits, X.cas, X.clock, hF, ?_, X.hears, X.method, X.code, X.here, X.tail, X.warmed, ?_, ?_, ?_⟩
  · have h := X.room
    have hU : ((T.setVm s.vm).setFrames (.invoking m args :: below)).localsInUse = s.localsInUse := by
      rw [State.localsInUse_invoking hF (meth := meth) (c := c) X.method X.code, State.localsInUse_invoking X.frames X.method X.code]
    simp only [State.hasRoom, Bool.and_eq_true, decide_eq_true_eq] at h ⊢
    obtain ⟨⟨⟨⟨h1, h2, h3, h4, h5, h6⟩, h7⟩, h8⟩, h9⟩ := h
    rw [X.frames, List.length_cons] at h2 h3
    have q1 := X.heapSize
    have q2 := X.used
    simp only [hF, hU, List.length_cons, State.stackLimits_setFrames, State.stackBytes_setFrames, hl9, hb9]
    refine ⟨⟨⟨⟨by omega, by omega, by omega, by omega, by omega, h6⟩, ?_⟩, ?_⟩, X.book⟩
    · show T.heap.size + R'.cells ≤ e.platform.maxCells
      omega
    · show T.slotsUsed + R'.slots ≤ e.platform.maxSlots
      omega
  · rw [State.stackLimits_setFrames]; rfl
  · rw [State.stackBytes_setFrames]; rfl
  · refine ⟨?_, Nat.le_refl _, Nat.le_refl _, ?_, ?_, fun a c9 h9 => ⟨c9, h9, rfl, rfl, fun _ _ => rfl⟩⟩
    · obtain ⟨t, ht, -⟩ := State.frames_cons hr
      show T.setVm s.vm = { ((T.setVm s.vm).setFrames (.invoking m args :: below)).setFrames (T.setVm s.vm).frames with heap := T.heap, slotsUsed := T.slotsUsed }
      rw [State.setFrames_setFrames, State.setFrames_self ht]
      rfl
    · show T.slotsUsed = T.slotsUsed + ((T.heap.toList.drop T.heap.size).map (·.slots.size)).sum
      rw [List.drop_eq_nil_of_le (Nat.le_of_eq Array.length_toList)]
      rfl
    · show ((T.heap.toList.drop T.heap.size).map (·.slots.size)).sum ≤ 0
      rw [List.drop_eq_nil_of_le (Nat.le_of_eq Array.length_toList)]
      exact Nat.le_refl _
/-- 'throw new E()': new; dup; invokespecial; athrow -/
theorem vx_throw0 {cc : ByteArray} {pc : Nat} (hexec : p.tables.exec = Jvm.exec) (hb : c.code = cc) (hl : l.stackTraces = false) {own cls : String} {names : List String} {ik ic mc ms : Nat} {A : Nat → Prop}
    (hown : s.vm.findClass own = some m.cls) (hcls : Bundle.fit cls = true) (hnames : ∀ n ∈ names, Bundle.fit n = true)
    (hk : (Cond.classLink own ik cls).before args s = true) (hini : (Cond.initialized cls).before args s = true) (hat : ∀ w ∈ vx_at0 own ic cls names, w.before args s = true)
    (hgood : ∀ w ∈ Cond.classLink own ik cls :: Cond.initialized cls :: vx_at0 own ic cls names, vx_ot w = true)
    (hU : vx_Zq Bundle.tN "UNASSIGNED_STACK" Bundle.steD A s s.heap) (hN : vx_Zq Bundle.tN "SUPPRESSED_SENTINEL" Bundle.listD A s s.heap) (hS : va_S A s.heap H locs) (hsize : ls.size = c.maxLocals)
    (d0 : decode cc pc = .ok (.new ik, 3)) (d3 : decode cc (pc + 3) = .ok (.dup, 1)) (d4 : decode cc (pc + 4) = .ok (.invokespecial ic, 3)) (d7 : decode cc (pc + 7) = .ok (.athrow, 1))
    (hout : ∀ x ∈ c.exceptionTable.toList, covers x (pc + 7) = false)
    (hRframes : names.length + 3 < R.frames) (hRlocals : (rest.map fun v => v.category).sum + (13 * (names.length + 1) + 42) ≤ R.locals) (hRcells : cells + 1 ≤ R.cells) (hRslots : slots + 6 ≤ R.slots) (hlocks : meth.locks = false)
    (hx : ∀ t : State, s.vm.Alike t.vm → H.size ≤ t.heap.size → (∀ q : Nat, q < H.size → t.heap[q]? = H[q]?) → XC cls s t)
    (hf : ∀ z ∈ locs, free z.base) (hc : cells + 1 ≤ mc) (hs : slots + 6 ≤ ms) :
    W p l e R s m args below meth c H locs cells slots (vx_MQ below Qc XC args s mc ms free) (F0 m pc ls rest) := by
  intro T hT X
  have htr : e.platform.stackTraces = false := (show e.platform.stackTraces = l.stackTraces by rw [X.admits.platform]).trans hl
  have Y := vx_rebase X (R' := { frames := R.frames, locals := R.locals, cells := 1, slots := 6 }) (Nat.le_refl _) (Nat.le_refl _) hRcells hRslots
  obtain ⟨s', hA⟩ : ∃ z, z = (T.setVm s.vm).setFrames (.invoking m args :: below) := ⟨_, rfl⟩
  rw [← hA] at Y
  have hvm : s'.vm = s.vm := by rw [hA]; rfl
  have hhp : s'.heap = H := by rw [hA]; exact hT
  have hW0 : s.WarmedH s'.vm := by rw [hvm]; exact State.WarmedH.refl s
  have hat' : ∀ w ∈ vx_at0 own ic cls names, w.before args s' = true := fun w hw => vx_ot_at hW0 hvm.symm (hgood w (List.mem_cons_of_mem _ (List.mem_cons_of_mem _ hw))) (hat w hw)
  have hk' : (Cond.classLink own ik cls).before args s' = true := vx_ot_at hW0 hvm.symm (hgood _ List.mem_cons_self) hk
  have hini' : (Cond.initialized cls).before args s' = true := vx_ot_at hW0 hvm.symm (hgood _ (List.mem_cons_of_mem _ List.mem_cons_self)) hini
  have hU' : vx_Zq Bundle.tN "UNASSIGNED_STACK" Bundle.steD A s' s'.heap := by rw [hhp]; exact vx_Zq.moved hW0.alike (hU.kept hS.2.1)
  have hN' : vx_Zq Bundle.tN "SUPPRESSED_SENTINEL" Bundle.listD A s' s'.heap := by rw [hhp]; exact vx_Zq.moved hW0.alike (hN.kept hS.2.1)
  have h : ∀ w ∈ Bundle.ownAtoms0 own ic cls names, w.before args s' = true := vx_own hat' (vx_isRefq hU'.1) (vx_isRefq hN'.1) hU'.2.word hN'.2.word
  have hown' : s'.vm.findClass own = some m.cls := by rw [hvm]; exact hown
  have hins : (Cond.instantiable cls 6).before args s' = true := h _ (by simp [Bundle.ownAtoms0])
  obtain ⟨vm₁, cX, kX, hfX, hkX, -, -, X₁, st1⟩ := Y.newCold hexec (own := own) (C := cls) (index := ik) (n := 6) hown' hk' hins hini'
    (g := F0 m pc ls rest) rfl (by rw [hb]; exact d0) (Nat.le_refl _) (Nat.le_refl _)
  generalize hT1 : (T.setVm vm₁).pushCell { cls := cX, slots := kX.instanceTypes.map defaultValue, vm := .none } = T1 at X₁ st1
  have hcat : (Value.ref T.heap.size).category = 1 := rfl
  have hcellA : T1.heap[T.heap.size]? = some (freshCell cX kX) := by rw [← hT1]; exact State.heap_pushCell_size _ _
  have d3' : decode c.code (pc + 3) = .ok (.dup, 1) := by rw [hb]; exact d3
  obtain ⟨U, hsteps, hrun, hend, hW, hsame, ce, hce, hO⟩ := X₁.ctorThrow0 hexec htr (own := own) (cls := cls) (names := names) (ic := ic) hown' hcls hnames h (fun x hx => nomatch hx) hfX hkX hcellA (by rw [hhp, hT]; exact Nat.le_refl _)
    (g := { method := m, pc := pc + 4, locals := ls, stack := .ref T.heap.size :: .ref T.heap.size :: rest, locked := none }) rfl hsize rfl rfl (rest := rest) rfl
    (by rw [hb]; exact d4) (by rw [hb]; exact d7) hout hRframes (by simp only [List.map_cons, List.sum_cons, hcat]; omega) hlocks
  obtain ⟨f1, f2⟩ := vx_frame hsame
  rw [hhp] at f1 f2
  have hWs : s.WarmedH U.vm := State.WarmedH.trans hW0 hW
  have hcl : s.vm.findClass cls = some ce.cls := by
    have h9 := hO.cls
    rw [hvm] at h9
    exact h9
  have hall : s.sameButNew ({ U with vm := s.vm } : State) locs mc ms := by
    subst hA
    obtain ⟨e1, e2⟩ := hsame
    rw [State.setFrames_setFrames] at e1
    have h2 : (T.setVm s.vm).sameButNew ({ U with vm := s.vm } : State) [] (0 + 1) (0 + 6) := ⟨e1, e2⟩
    have h3 := X.same.trans h2
    rw [List.append_nil] at h3
    exact h3.mono hc hs
  refine ⟨U, ?_, .threw T.heap.size, hrun, hend, Or.inr ⟨T.heap.size, rfl, cls, ce, locs, hx U hWs.alike f1 (fun q hq => f2 q hq (fun z hz => nomatch hz)), hce, hO.vm, hcl, hWs, hall, hf⟩⟩
  refine st1 _ ?_
  show Steps p.tables e below (T1.setTop { method := m, pc := pc + 3, locals := ls, stack := .ref T.heap.size :: rest, locked := none }) _
  jvm_step X₁.here [X₁.here.top, hexec, d3', Value.category]
  exact hsteps
/-- 'throw new E("text")': new; dup; ldc; invokespecial; athrow -/
theorem vx_throwS {cc : ByteArray} {pc : Nat} (hexec : p.tables.exec = Jvm.exec) (hb : c.code = cc) (hl : l.stackTraces = false) {own cls text : String} {names : List String} {ik is ic mc ms sa : Nat} {A : Nat → Prop}
    (hown : s.vm.findClass own = some m.cls) (hcls : Bundle.fit cls = true) (hnames : ∀ n ∈ names, Bundle.fit n = true)
    (hk : (Cond.classLink own ik cls).before args s = true) (hini : (Cond.initialized cls).before args s = true) (hstr : vk_R own is text sa s) (hat : ∀ w ∈ vx_atS own ic cls names, w.before args s = true)
    (hgood : ∀ w ∈ Cond.classLink own ik cls :: Cond.initialized cls :: vx_atS own ic cls names, vx_ot w = true)
    (hU : vx_Zq Bundle.tN "UNASSIGNED_STACK" Bundle.steD A s s.heap) (hN : vx_Zq Bundle.tN "SUPPRESSED_SENTINEL" Bundle.listD A s s.heap) (hS : va_S A s.heap H locs) (hsize : ls.size = c.maxLocals)
    (d0 : decode cc pc = .ok (.new ik, 3)) (d3 : decode cc (pc + 3) = .ok (.dup, 1)) (d4 : decode cc (pc + 4) = .ok (.ldc is, 2)) (d6 : decode cc (pc + 6) = .ok (.invokespecial ic, 3)) (d9 : decode cc (pc + 9) = .ok (.athrow, 1))
    (hout : ∀ x ∈ c.exceptionTable.toList, covers x (pc + 9) = false)
    (hRframes : names.length + 3 < R.frames) (hRlocals : (rest.map fun v => v.category).sum + (13 * (names.length + 1) + 43) ≤ R.locals) (hRcells : cells + 1 ≤ R.cells) (hRslots : slots + 6 ≤ R.slots) (hlocks : meth.locks = false)
    (hx : ∀ t : State, s.vm.Alike t.vm → H.size ≤ t.heap.size → (∀ q : Nat, q < H.size → t.heap[q]? = H[q]?) → XC cls s t)
    (hf : ∀ z ∈ locs, free z.base) (hc : cells + 1 ≤ mc) (hs : slots + 6 ≤ ms) :
    W p l e R s m args below meth c H locs cells slots (vx_MQ below Qc XC args s mc ms free) (F0 m pc ls rest) := by
  intro T hT X
  have htr : e.platform.stackTraces = false := (show e.platform.stackTraces = l.stackTraces by rw [X.admits.platform]).trans hl
  have Y := vx_rebase X (R' := { frames := R.frames, locals := R.locals, cells := 1, slots := 6 }) (Nat.le_refl _) (Nat.le_refl _) hRcells hRslots
  obtain ⟨s', hA⟩ : ∃ z, z = (T.setVm s.vm).setFrames (.invoking m args :: below) := ⟨_, rfl⟩
  rw [← hA] at Y
  have hvm : s'.vm = s.vm := by rw [hA]; rfl
  have hhp : s'.heap = H := by rw [hA]; exact hT
  have hW0 : s.WarmedH s'.vm := by rw [hvm]; exact State.WarmedH.refl s
  have hat' : ∀ w ∈ vx_atS own ic cls names, w.before args s' = true := fun w hw => vx_ot_at hW0 hvm.symm (hgood w (List.mem_cons_of_mem _ (List.mem_cons_of_mem _ hw))) (hat w hw)
  have hk' : (Cond.classLink own ik cls).before args s' = true := vx_ot_at hW0 hvm.symm (hgood _ List.mem_cons_self) hk
  have hini' : (Cond.initialized cls).before args s' = true := vx_ot_at hW0 hvm.symm (hgood _ (List.mem_cons_of_mem _ List.mem_cons_self)) hini
  have hU' : vx_Zq Bundle.tN "UNASSIGNED_STACK" Bundle.steD A s' s'.heap := by rw [hhp]; exact vx_Zq.moved hW0.alike (hU.kept hS.2.1)
  have hN' : vx_Zq Bundle.tN "SUPPRESSED_SENTINEL" Bundle.listD A s' s'.heap := by rw [hhp]; exact vx_Zq.moved hW0.alike (hN.kept hS.2.1)
  have h : ∀ w ∈ Bundle.ownAtoms own ic cls names, w.before args s' = true := vx_own hat' (vx_isRefq hU'.1) (vx_isRefq hN'.1) hU'.2.word hN'.2.word
  have hown' : s'.vm.findClass own = some m.cls := by rw [hvm]; exact hown
  have hins : (Cond.instantiable cls 6).before args s' = true := h _ (by simp [Bundle.ownAtoms])
  obtain ⟨vm₁, cX, kX, hfX, hkX, -, -, X₁, st1⟩ := Y.newCold hexec (own := own) (C := cls) (index := ik) (n := 6) hown' hk' hins hini'
    (g := F0 m pc ls rest) rfl (by rw [hb]; exact d0) (Nat.le_refl _) (Nat.le_refl _)
  generalize hT1 : (T.setVm vm₁).pushCell { cls := cX, slots := kX.instanceTypes.map defaultValue, vm := .none } = T1 at X₁ st1
  have hcat : (Value.ref T.heap.size).category = 1 := rfl
  have hcellA : T1.heap[T.heap.size]? = some (freshCell cX kX) := by rw [← hT1]; exact State.heap_pushCell_size _ _
  have d3' : decode c.code (pc + 3) = .ok (.dup, 1) := by rw [hb]; exact d3
  have d4' : decode c.code (pc + 4) = .ok (.ldc is, 2) := by rw [hb]; exact d4
  have hstr' : vk_R own is text sa s' := vk_R.warm hW0 hstr
  obtain ⟨U, hsteps, hrun, hend, hW, hsame, ce, hce, hO⟩ := X₁.ctorThrowS hexec htr (own := own) (cls := cls) (names := names) (ic := ic) hown' hcls hnames h (fun x hx => nomatch hx) hfX hkX hcellA (by rw [hhp, hT]; exact Nat.le_refl _) (msg := .ref sa) rfl
    (g := { method := m, pc := pc + 6, locals := ls, stack := .ref sa :: .ref T.heap.size :: .ref T.heap.size :: rest, locked := none }) rfl hsize rfl rfl (rest := rest) rfl
    (by rw [hb]; exact d6) (by rw [hb]; exact d9) hout hRframes (by simp only [List.map_cons, List.sum_cons, hcat]; omega) hlocks
  obtain ⟨f1, f2⟩ := vx_frame hsame
  rw [hhp] at f1 f2
  have hWs : s.WarmedH U.vm := State.WarmedH.trans hW0 hW
  have hcl : s.vm.findClass cls = some ce.cls := by
    have h9 := hO.cls
    rw [hvm] at h9
    exact h9
  have hall : s.sameButNew ({ U with vm := s.vm } : State) locs mc ms := by
    subst hA
    obtain ⟨e1, e2⟩ := hsame
    rw [State.setFrames_setFrames] at e1
    have h2 : (T.setVm s.vm).sameButNew ({ U with vm := s.vm } : State) [] (0 + 1) (0 + 6) := ⟨e1, e2⟩
    have h3 := X.same.trans h2
    rw [List.append_nil] at h3
    exact h3.mono hc hs
  refine ⟨U, ?_, .threw T.heap.size, hrun, hend, Or.inr ⟨T.heap.size, rfl, cls, ce, locs, hx U hWs.alike f1 (fun q hq => f2 q hq (fun z hz => nomatch hz)), hce, hO.vm, hcl, hWs, hall, hf⟩⟩
  refine st1 _ ?_
  show Steps p.tables e below (T1.setTop { method := m, pc := pc + 3, locals := ls, stack := .ref T.heap.size :: rest, locked := none }) _
  jvm_step X₁.here [X₁.here.top, hexec, d3', Value.category]
  exact X₁.ldcString hexec (own := own) (text := text) (index := is) (a := sa) hown' hstr'.1 hstr'.2
    (g := { method := m, pc := pc + 4, locals := ls, stack := .ref T.heap.size :: .ref T.heap.size :: rest, locked := none }) rfl d4' _ hsteps
/-- 'throw new E("text")', the text by a wide index -/
theorem vx_throwSW {cc : ByteArray} {pc : Nat} (hexec : p.tables.exec = Jvm.exec) (hb : c.code = cc) (hl : l.stackTraces = false) {own cls text : String} {names : List String} {ik is ic mc ms sa : Nat} {A : Nat → Prop}
    (hown : s.vm.findClass own = some m.cls) (hcls : Bundle.fit cls = true) (hnames : ∀ n ∈ names, Bundle.fit n = true)
    (hk : (Cond.classLink own ik cls).before args s = true) (hini : (Cond.initialized cls).before args s = true) (hstr : vk_R own is text sa s) (hat : ∀ w ∈ vx_atS own ic cls names, w.before args s = true)
    (hgood : ∀ w ∈ Cond.classLink own ik cls :: Cond.initialized cls :: vx_atS own ic cls names, vx_ot w = true)
    (hU : vx_Zq Bundle.tN "UNASSIGNED_STACK" Bundle.steD A s s.heap) (hN : vx_Zq Bundle.tN "SUPPRESSED_SENTINEL" Bundle.listD A s s.heap) (hS : va_S A s.heap H locs) (hsize : ls.size = c.maxLocals)
    (d0 : decode cc pc = .ok (.new ik, 3)) (d3 : decode cc (pc + 3) = .ok (.dup, 1)) (d4 : decode cc (pc + 4) = .ok (.ldc_w is, 3)) (d7 : decode cc (pc + 7) = .ok (.invokespecial ic, 3)) (d10 : decode cc (pc + 10) = .ok (.athrow, 1))
    (hout : ∀ x ∈ c.exceptionTable.toList, covers x (pc + 10) = false)
    (hRframes : names.length + 3 < R.frames) (hRlocals : (rest.map fun v => v.category).sum + (13 * (names.length + 1) + 43) ≤ R.locals) (hRcells : cells + 1 ≤ R.cells) (hRslots : slots + 6 ≤ R.slots) (hlocks : meth.locks = false)
    (hx : ∀ t : State, s.vm.Alike t.vm → H.size ≤ t.heap.size → (∀ q : Nat, q < H.size → t.heap[q]? = H[q]?) → XC cls s t)
    (hf : ∀ z ∈ locs, free z.base) (hc : cells + 1 ≤ mc) (hs : slots + 6 ≤ ms) :
    W p l e R s m args below meth c H locs cells slots (vx_MQ below Qc XC args s mc ms free) (F0 m pc ls rest) := by
  intro T hT X
  have htr : e.platform.stackTraces = false := (show e.platform.stackTraces = l.stackTraces by rw [X.admits.platform]).trans hl
  have Y := vx_rebase X (R' := { frames := R.frames, locals := R.locals, cells := 1, slots := 6 }) (Nat.le_refl _) (Nat.le_refl _) hRcells hRslots
  obtain ⟨s', hA⟩ : ∃ z, z = (T.setVm s.vm).setFrames (.invoking m args :: below) := ⟨_, rfl⟩
  rw [← hA] at Y
  have hvm : s'.vm = s.vm := by rw [hA]; rfl
  have hhp : s'.heap = H := by rw [hA]; exact hT
  have hW0 : s.WarmedH s'.vm := by rw [hvm]; exact State.WarmedH.refl s
  have hat' : ∀ w ∈ vx_atS own ic cls names, w.before args s' = true := fun w hw => vx_ot_at hW0 hvm.symm (hgood w (List.mem_cons_of_mem _ (List.mem_cons_of_mem _ hw))) (hat w hw)
  have hk' : (Cond.classLink own ik cls).before args s' = true := vx_ot_at hW0 hvm.symm (hgood _ List.mem_cons_self) hk
  have hini' : (Cond.initialized cls).before args s' = true := vx_ot_at hW0 hvm.symm (hgood _ (List.mem_cons_of_mem _ List.mem_cons_self)) hini
  have hU' : vx_Zq Bundle.tN "UNASSIGNED_STACK" Bundle.steD A s' s'.heap := by rw [hhp]; exact vx_Zq.moved hW0.alike (hU.kept hS.2.1)
  have hN' : vx_Zq Bundle.tN "SUPPRESSED_SENTINEL" Bundle.listD A s' s'.heap := by rw [hhp]; exact vx_Zq.moved hW0.alike (hN.kept hS.2.1)
  have h : ∀ w ∈ Bundle.ownAtoms own ic cls names, w.before args s' = true := vx_own hat' (vx_isRefq hU'.1) (vx_isRefq hN'.1) hU'.2.word hN'.2.word
  have hown' : s'.vm.findClass own = some m.cls := by rw [hvm]; exact hown
  have hins : (Cond.instantiable cls 6).before args s' = true := h _ (by simp [Bundle.ownAtoms])
  obtain ⟨vm₁, cX, kX, hfX, hkX, -, -, X₁, st1⟩ := Y.newCold hexec (own := own) (C := cls) (index := ik) (n := 6) hown' hk' hins hini'
    (g := F0 m pc ls rest) rfl (by rw [hb]; exact d0) (Nat.le_refl _) (Nat.le_refl _)
  generalize hT1 : (T.setVm vm₁).pushCell { cls := cX, slots := kX.instanceTypes.map defaultValue, vm := .none } = T1 at X₁ st1
  have hcat : (Value.ref T.heap.size).category = 1 := rfl
  have hcellA : T1.heap[T.heap.size]? = some (freshCell cX kX) := by rw [← hT1]; exact State.heap_pushCell_size _ _
  have d3' : decode c.code (pc + 3) = .ok (.dup, 1) := by rw [hb]; exact d3
  have d4' : decode c.code (pc + 4) = .ok (.ldc_w is, 3) := by rw [hb]; exact d4
  have hstr' : vk_R own is text sa s' := vk_R.warm hW0 hstr
  obtain ⟨U, hsteps, hrun, hend, hW, hsame, ce, hce, hO⟩ := X₁.ctorThrowS hexec htr (own := own) (cls := cls) (names := names) (ic := ic) hown' hcls hnames h (fun x hx => nomatch hx) hfX hkX hcellA (by rw [hhp, hT]; exact Nat.le_refl _) (msg := .ref sa) rfl
    (g := { method := m, pc := pc + 7, locals := ls, stack := .ref sa :: .ref T.heap.size :: .ref T.heap.size :: rest, locked := none }) rfl hsize rfl rfl (rest := rest) rfl
    (by rw [hb]; exact d7) (by rw [hb]; exact d10) hout hRframes (by simp only [List.map_cons, List.sum_cons, hcat]; omega) hlocks
  obtain ⟨f1, f2⟩ := vx_frame hsame
  rw [hhp] at f1 f2
  have hWs : s.WarmedH U.vm := State.WarmedH.trans hW0 hW
  have hcl : s.vm.findClass cls = some ce.cls := by
    have h9 := hO.cls
    rw [hvm] at h9
    exact h9
  have hall : s.sameButNew ({ U with vm := s.vm } : State) locs mc ms := by
    subst hA
    obtain ⟨e1, e2⟩ := hsame
    rw [State.setFrames_setFrames] at e1
    have h2 : (T.setVm s.vm).sameButNew ({ U with vm := s.vm } : State) [] (0 + 1) (0 + 6) := ⟨e1, e2⟩
    have h3 := X.same.trans h2
    rw [List.append_nil] at h3
    exact h3.mono hc hs
  refine ⟨U, ?_, .threw T.heap.size, hrun, hend, Or.inr ⟨T.heap.size, rfl, cls, ce, locs, hx U hWs.alike f1 (fun q hq => f2 q hq (fun z hz => nomatch hz)), hce, hO.vm, hcl, hWs, hall, hf⟩⟩
  refine st1 _ ?_
  show Steps p.tables e below (T1.setTop { method := m, pc := pc + 3, locals := ls, stack := .ref T.heap.size :: rest, locked := none }) _
  jvm_step X₁.here [X₁.here.top, hexec, d3', Value.category]
  exact X₁.ldcStringW hexec (own := own) (text := text) (index := is) (a := sa) hown' hstr'.1 hstr'.2
    (g := { method := m, pc := pc + 4, locals := ls, stack := .ref T.heap.size :: .ref T.heap.size :: rest, locked := none }) rfl d4' _ hsteps
end Ends
section Bodies
variable {l : Launch}
theorem vx_ofW {y : MethodName} {ws ws' : List Cond} {rm : Room} {Pc : Array Value → State → Prop} {Qc : Array Value → State → Outcome → State → Prop} {XC : String → State → State → Prop} {mc ms : Nat} {free : Addr → Prop} {cc : ByteArray} {maxL : Nat} {ret : Option FieldType}
    (hy : plainName y.cls = true) (hw : ws = Cond.code y cc maxL ret :: ws')
    (body : ∀ p e s m args below meth c s₁, BodyLoose p l y (headSpec ws rm) cc maxL ret e s m args below meth c s₁ → c.maxLocals = maxL → (∀ x ∈ c.exceptionTable.toList, False) → Pc args s →
      W p l e (headSpec ws rm).room s m args below meth c s.heap [] 0 0 (vx_MQ below Qc XC args s mc ms free) (entryFrame m args maxL)) : vx_Met l y ws rm Pc Qc XC mc ms free := by
  refine MetFree.of_bodyS (code := cc) (maxLocals := maxL) (ret := ret) hy ?_ ?_
  · intro args s m h hn
    obtain ⟨meth, c, h1, h2, h3, h4, h5, h6, -, -⟩ := Cond.code_spec hn (atoms_spec (ws := ws) h _ (by rw [hw]; exact List.mem_cons_self))
    exact ⟨meth, c, h1, h2, h3, h4, h5, h6⟩
  · intro p e s m args below meth c s₁ B hml hP _
    have hh0 : s₁.heap = s.heap := by rw [B.state]; rfl
    have ht : ∀ x ∈ c.exceptionTable.toList, False := by
      obtain ⟨meth9, c9, h1, h2, -, -, -, -, h7, -⟩ := Cond.code_spec B.named (atoms_spec (ws := ws) B.pre _ (by rw [hw]; exact List.mem_cons_self))
      cases Option.some.inj (h1.symm.trans B.method)
      cases Option.some.inj (h2.symm.trans (Stand.of_body B).code)
      intro x hx
      rw [Array.isEmpty_iff.mp h7] at hx
      cases hx
    obtain ⟨t, a1, o, b1, b2, b3⟩ := body p e s m args below meth c s₁ B hml ht hP s₁ hh0 (Stand.of_body B)
    exact ⟨t, o, a1, b1, b2, b3⟩
/-- the table of a body with handlers -/
theorem vx_table {p : Program} {x y : MethodName} {S : Spec} {cc bytes : ByteArray} {maxL maxL' : Nat} {ret ret' : Option FieldType} {e : Env} {s s₁ : State} {m : MethodId} {args : Array Value} {below : List Frame} {meth : Method} {c : Code} {hh : List (Nat × Nat × Nat × Nat)}
    (B : BodyLoose p l y S cc maxL ret e s m args below meth c s₁) (h : (Cond.codeWith y bytes maxL' ret' hh).before args s = true) : c.exceptionTable.toList = tableOf hh := by
  obtain ⟨m9, meth9, c9, hn9, h1, h2, -, -, h6, -⟩ := Cond.codeWith_spec h
  cases Option.some.inj (hn9.symm.trans B.named)
  cases Option.some.inj (h1.symm.trans B.method)
  cases Option.some.inj (h2.symm.trans (Stand.of_body B).code)
  rw [← h6, table_eq]
end Bodies
end VXA
/-! ===== END ===== -/
/-! ===== BEGIN a static call of a method with an exception table ===== -/
section VXS
variable {p : Program} {l : Launch} {e : Env} {R : Room} {s : State} {m : MethodId} {args : Array Value} {below : List Frame} {meth : Method} {c : Code} {T : State} {H : Heap} {locs : List Loc} {cells slots : Nat}
abbrev vx_CSW (R : Room) (s : State) (args : Array Value) (own : String) (index : Nat) (y : MethodName) (bytes : ByteArray) (maxL : Nat) (ret : Option FieldType) (hh : List (Nat × Nat × Nat × Nat)) (ws : List Cond) (rm : Room) (mc ms n : Nat) : Prop :=
  (rm.cells = mc ∧ rm.slots = ms ∧ rm.frames + 1 ≤ R.frames ∧ 8 + (maxL + 11) + rm.locals ≤ R.locals ∧ (∀ w ∈ ws, ∀ (a' : Array Value) (U : State), s.WarmedH U.vm → w.before a' U = true) ∧ Cond.codeWith y bytes maxL ret hh ∈ ws) ∧
  (Cond.codeWith y bytes maxL ret hh).before args s = true ∧ (Cond.initialized y.cls).before args s = true ∧ (y.cls ≠ "java/lang/invoke/MethodHandle" ∧ y.cls ≠ "java/lang/invoke/VarHandle") ∧
  (∀ sig, parseMethodDescriptor y.desc = some sig → n = sig.parameters.length) ∧ (Cond.methodLink own index y).before args s = true ∧ (Cond.static y).before args s = true
theorem vx_cwSW {own : String} {index maxL mc ms : Nat} {y : MethodName} {bytes : ByteArray} {ret : Option FieldType} {hh : List (Nat × Nat × Nat × Nat)} {Ts ws ws' : List Cond} {rm : Room} (n : Nat) (ht : ∀ w ∈ Ts, w.before args s = true) (hT : GoodIn Ts (va_wsS own index y ws)) (hw : ws = Cond.codeWith y bytes maxL ret hh :: ws') (hrc : rm.cells = mc) (hrs : rm.slots = ms)
    (hd : y.cls ≠ "java/lang/invoke/MethodHandle" ∧ y.cls ≠ "java/lang/invoke/VarHandle" ∧ (parseMethodDescriptor y.desc).map (fun d => d.parameters.length) = some n) (hR : rm.frames + 1 ≤ R.frames ∧ 8 + (maxL + 11) + rm.locals ≤ R.locals) :
    vx_CSW R s args own index y bytes maxL ret hh ws rm mc ms n := by
  have ok : ∀ w ∈ va_wsS own index y ws, w.before args s = true := fun w h => ht w (hT w h).1
  have hG : GoodIn Ts ws := fun w h => hT w (by unfold va_wsS; exact List.mem_append_right _ h)
  have hc : Cond.codeWith y bytes maxL ret hh ∈ ws := by rw [hw]; exact List.mem_cons_self
  refine ⟨⟨hrc, hrs, hR.1, hR.2, pay_in ht hG, hc⟩, ht _ (hG _ hc).1, ok _ (by simp [va_wsS]), ⟨hd.1, hd.2.1⟩, fun sig h => ?_, ok _ (by simp [va_wsS]), ok _ (by simp [va_wsS])⟩
  have h2 := hd.2.2
  rw [h] at h2
  exact (Option.some.inj h2).symm
theorem vx_callSW (X : Stand p l e R s m args below meth c T locs cells slots) (hexec : p.tables.exec = Jvm.exec) {own : String} {index : Nat} {y : MethodName} {bytes : ByteArray} {maxL : Nat} {ret : Option FieldType} {hh : List (Nat × Nat × Nat × Nat)}
    (hown : s.vm.findClass own = some m.cls) (hlink : (Cond.methodLink own index y).before args s = true) (hstat : (Cond.static y).before args s = true) (hinit : (Cond.initialized y.cls).before args s = true)
    (hcode : (Cond.codeWith y bytes maxL ret hh).before args s = true) (hy : y.cls ≠ "java/lang/invoke/MethodHandle" ∧ y.cls ≠ "java/lang/invoke/VarHandle")
    {W9 : Nat} {Pre : Pt → Array Value → Prop} {Post : Pt → Array Value → Option Value → Pt → Prop} (hK : Back l R p e below s args y 3 W9 Pre Post)
    {g : JFrame} (hg : g.method = m) (hsize : g.locals.size = c.maxLocals) {argsL rest : List Value} (hlen : ∀ sig, parseMethodDescriptor y.desc = some sig → argsL.length = sig.parameters.length)
    (hstack : g.stack = argsL.reverse ++ rest) (hW : 2 * g.monitorRoom + (rest.map fun v => v.category).sum ≤ W9) (hdg : decode c.code g.pc = .ok (.invokestatic index, 3))
    (hpre : ∀ vm₁, s.WarmedH vm₁ → Pre ⟨T.setVm vm₁, locs, cells, slots⟩ argsL.toArray) :
    ∃ (v : Option Value) (vm₁ : Vm) (B : Pt), s.WarmedH vm₁ ∧ Stand p l e R s m args below meth c B.U B.locs B.cells B.slots ∧ Post ⟨T.setVm vm₁, locs, cells, slots⟩ argsL.toArray v B ∧
      ∀ target, Steps p.tables e below (B.U.setTop { g with pc := g.pc + 3, stack := v.toList ++ rest }) target → Steps p.tables e below (T.setTop g) target := by
  obtain ⟨mk, methM, cM, hnamed, hmethM, -, -, -, -, -, -, hsigM⟩ := Cond.codeWith_spec hcode
  have hstatic : methM.isStatic = true := Cond.static_spec hnamed hmethM hstat
  obtain ⟨kP, hkP, -⟩ := className_of_methodNamed hnamed
  have hinitP : kP.init = .initialized := Cond.initialized_spec (findClass_of_methodNamed hnamed) hkP hinit
  obtain ⟨vm₁, X₁, hstep₁⟩ := X.invokestatic hexec hown hlink hnamed hmethM hstatic hkP hinitP hy (g := g) hg (argsL := argsL) (rest := rest) (hlen _ hsigM) hstack hdg
  obtain ⟨v, B, X', hpost, hsteps⟩ := hK m meth c ⟨T.setVm vm₁, locs, cells, slots⟩ { g with stack := rest } (.invokestatic index) mk argsL.toArray X₁ hg hsize hdg hW (X₁.named hnamed) (hpre vm₁ X₁.warmed)
  exact ⟨v, vm₁, B, X₁.warmed, X', hpost, fun target h => hstep₁ _ fun acts => by rw [doInvoke_state]; exact hsteps.trans h⟩
theorem vx_runSW {y : MethodName} {bytes cc : ByteArray} {maxL nL mc ms n index : Nat} {ret : Option FieldType} {hh : List (Nat × Nat × Nat × Nat)} {ws : List Cond} {rm : Room} {Pc : Array Value → State → Prop} {Qc : Array Value → State → Outcome → State → Prop} {free : Addr → Prop} {Ts : List Cond} {own : String} {As rest : List Value} {g : JFrame}
    (S : CallFix p m c cc nL s args Ts own) (hM : Met l y ws rm Pc Qc mc ms free) (cw : vx_CSW R s args own index y bytes maxL ret hh ws rm mc ms n) (hp : PreS s H Pc As)
    (hg : g.method = m) (hn : As.length = n) (hsize : g.locals.size = nL) (hstack : g.stack = As.reverse ++ rest) (hW : 2 * g.monitorRoom + (rest.map fun v => v.category).sum ≤ 8) (hdg : decode cc g.pc = .ok (.invokestatic index, 3)) (hf : cells + mc ≤ R.cells ∧ slots + ms ≤ R.slots) :
    va_Run p l e R s m args below meth c H locs cells slots mc ms g rest (Qc As.toArray) (free) := by
  obtain ⟨⟨hrc, hrs, hfr, hlo, hws, hcw⟩, hcode, hini, hy, hlen, hl, hstt⟩ := cw
  have hK : Back l R p e below s args y 3 8 (PreOf R mc ms Pc) (PostOf Qc mc ms free) := va_backW (hh := hh) (bytes := bytes) (maxL := maxL) (ret := ret) hM hp.1 hrc hrs hfr hlo hws hcw (fun a' U hW => word_at hW (Or.inl (by first | rfl | simp [Cond.onTables, Cond.keeps, Cond.steady])) hini)
  obtain ⟨hx, hb, hml, ho, -⟩ := S
  intro T hT X
  obtain ⟨v, vm₁, ⟨U', l2, c2, s2⟩, hW₁, X', ⟨g', mk, t, L, e1, e2, hq, h1, hL, h2, h3⟩, st⟩ := vx_callSW X hx (hh := hh) (bytes := bytes) (maxL := maxL) (ret := ret) ho hl hstt hini hcode hy hK hg (hsize.trans hml.symm) (argsL := As) (rest := rest) (fun sig h => hn.trans (hlen sig h)) hstack hW (by rw [hb]; exact hdg)
    (fun vm₁ hW₁ => ⟨hf.1, hf.2, hp.2 (T.setVm vm₁) hT hW₁⟩)
  dsimp only [Pt.U, Pt.locs, Pt.cells, Pt.slots] at X' e1 e2 h1 h2 h3 st
  subst h1; subst h2; subst h3
  exact ⟨v, (T.setVm vm₁).calling g' mk As.toArray, t, U', L, hT, X', hL, e1, e2, hq, st⟩
/-- not caught here, past rows that name other classes: it goes on to the caller -/
theorem vx_outP {p : Program} {l : Launch} {e : Env} {R : Room} {s : State} {m : MethodId} {args : Array Value} {below : List Frame} {meth : Method} {c : Code} {H : Heap} {locs : List Loc} {cells slots : Nat} {free : Addr → Prop} {ls : Array Slot} {rest : List Value} {Qc : Array Value → State → Outcome → State → Prop} {XC : String → State → State → Prop}
    {pc : Nat} {own E : String} {ce : Cell} {q : Addr} {mc ms : Nat} (hown : s.vm.findClass own = some m.cls) (hlocks : meth.locks = false)
    (hpass : ∀ z ∈ c.exceptionTable.toList, covers z pc = false ∨ (z.catchType ≠ 0 ∧ ∃ nm : String, (Cond.classLink own z.catchType nm).before args s = true ∧ va_Nc E nm s)) (hcell : H[q]? = some ce) (hv : ce.vm = .none) (hcl : s.vm.findClass E = some ce.cls)
    (hx : ∀ t : State, t.heap = H → s.vm.Alike t.vm → XC E s t) (hf : ∀ z ∈ locs, free z.base) (hc : cells ≤ mc) (hs : slots ≤ ms) :
    vx_W p l e R s m args below meth c H locs cells slots (vx_MQ below Qc XC args s mc ms free) (F0 m pc ls rest) q := by
  intro T hT X
  have hpl : e.platform.magicAccessors = ({} : Platform).magicAccessors := by rw [X.admits.platform]
  obtain ⟨vm', hW', X', st⟩ := X.outThrough hlocks q (g := F0 m pc ls rest) rfl rfl rfl (cell := ce) (by rw [hT]; exact hcell) (by rw [hv]; rfl)
    (by obtain ⟨k9, h9, -⟩ := Vm.findClass_spec hcl; exact ⟨k9, h9⟩) (fun z hz => by
      rcases hpass z hz with h | ⟨hz0, nm, hl1, hn1⟩
      · exact Or.inl h
      · obtain ⟨c6, hc6, hcl6⟩ := Cond.classLink_spec hown hl1 e.platform hpl
        obtain ⟨a8, b8, h1, h2, h3⟩ := hn1
        cases Option.some.inj (h1.symm.trans hcl)
        cases Option.some.inj (h2.symm.trans hc6)
        exact Or.inr ⟨hz0, _, hcl6, h3⟩)
  obtain ⟨g₀, hfr⟩ := X'.frames_eq
  have hcell9 : ((T.setVm vm').setFrames (.throwing q :: below)).heap[q]? = some ce := by
    show T.heap[q]? = some ce
    rw [hT]; exact hcell
  have hend : Ended ((T.setVm vm').setFrames (.throwing q :: below)) below (.threw q) := State.frames_setFrames _ (State.cur_lt_of_frames hfr)
  refine ⟨(T.setVm vm').setFrames (.throwing q :: below), ?_, .threw q, X'.here.running, hend, Or.inr ⟨q, rfl, E, ce, locs, hx _ hT (X'.ends _).1.alike, hcell9, hv, hcl, (X'.ends _).1, (X'.ends _).2.mono hc hs, hf⟩⟩
  rw [X.pushThrowing_eq]
  exact st
/-- a thing of a world lies in the heap -/
theorem vx_lt {D : va_G} {cl : List vw_C} {ws : va_W} {H1 : Heap} (h : va_P D cl ws H1) {k : Nat} {q : Nat × va_E} (hk : ws[k]? = some q) : q.1 < H1.size := (h k q hk).lt
end VXS
/-! ===== END ===== -/
/-! ===== BEGIN methods with a table of their own: called by a name, returning or throwing ===== -/
section VXH
/-! vx_backW, vx_callVX, vx_callSX, vx_callVW, vx_runVW, vx_runVX, vx_runSX, vx_ofWH follow the same proofs as their sisters above (Free/Laws.lean, Shelf42/LK1.lean); vx_outP calls Shelf42/NT130.lean (outThrough). -/
section
variable {l : Launch} {R : Room} {p : Program} {e : Env} {below : List Frame} {s : State} {sargs : Array Value} {y : MethodName} {len W9 : Nat}
theorem vx_backW {ws : List Cond} {rm : Room} {Pc : Array Value → State → Prop} {Qc : Array Value → State → Outcome → State → Prop} {XC : String → State → State → Prop} {mc ms : Nat} {free : Addr → Prop} {bytes : ByteArray} {maxL : Nat} {ret : Option FieldType} {hh : List (Nat × Nat × Nat × Nat)}
    (hM : vx_Met l y ws rm Pc Qc XC mc ms free) (hblind : FrameBlind Pc) (hrc : rm.cells = mc) (hrs : rm.slots = ms)
    (hframes : rm.frames + 1 ≤ R.frames) (hlocals : W9 + (maxL + 11) + rm.locals ≤ R.locals)
    (hws : ∀ w ∈ ws, ∀ a' U, s.WarmedH U.vm → w.before a' U = true) (hcode : Cond.codeWith y bytes maxL ret hh ∈ ws) (hinit : ∀ a' U, s.WarmedH U.vm → (Cond.initialized y.cls).before a' U = true) :
    vx_Back l R p e below s sargs y len W9 (PreOf R mc ms Pc) (PostOf Qc mc ms free) (vx_Post XC mc ms free) := by
  intro m meth c A g ig mk a X hg hsize hdg hW hn hp
  have h1 : (headSpec ws rm).pre.before a A.U = true := atoms_intro fun w hw => hws w hw _ _ X.warmed
  have h2 : (Cond.codeWith y bytes maxL ret hh).before a A.U = true := hws _ hcode _ _ X.warmed
  have h3 : (Cond.initialized y.cls).before a A.U = true := hinit _ _ X.warmed
  have h4 : A.cells + (headSpec ws rm).room.cells ≤ R.cells := by rw [show (headSpec ws rm).room.cells = mc from hrc]; exact hp.1
  have h5 : A.slots + (headSpec ws rm).room.slots ≤ R.slots := by rw [show (headSpec ws rm).room.slots = ms from hrs]; exact hp.2.1
  have hPc : Pc a (A.U.calling g mk a) := hblind _ _ _ _ hp.2.2
  obtain ⟨U, Ls, c0, s0⟩ := A
  dsimp only [Pt.U, Pt.locs, Pt.cells, Pt.slots] at h1 h2 h3 h4 h5 X hn hPc ⊢
  obtain ⟨m9, methY, cY, hn9, hmY, hcY, -, hlY, -⟩ := Cond.codeWith_spec h2
  cases Option.some.inj (hn9.symm.trans hn)
  obtain ⟨kY, hkY, -⟩ := className_of_methodNamed hn
  have hinitY : kY.init = .initialized := Cond.initialized_spec (findClass_of_methodNamed hn) hkY h3
  have h : At U g.method c below := by rw [hg]; exact X.here
  have hlocals9 : W9 + (maxL + 11) + (headSpec ws rm).room.locals ≤ R.locals := hlocals
  have happ : (headSpec ws rm).appliesLoose y e.platform (U.calling g mk a) = true :=
    Spec.appliesLoose_calling (g := g) h hdg hn hkY hinitY
      (X.room_calling (g := g) (R' := (headSpec ws rm).room) hsize hmY hcY hframes (by rw [hlY]; omega) h4 h5) h1
  obtain ⟨mid, hmid⟩ := h.above
  have hfr : (U.setTop g).frames = (.java g :: mid) ++ below := by rw [State.frames_setTop' g h.top, hmid]; rfl
  obtain ⟨o, s₂, hsteps, -, hend, hq⟩ := Steps.callFree hM p X.admits X.cas X.clock (acts := []) hfr happ hPc trivial
  have hq' : vx_Q Qc XC mc ms free a (U.calling g mk a) o s₂ := hq
  rw [State.frames_setTop' g h.top] at hend
  obtain ⟨g₀, hg0⟩ := Option.isSome_iff_exists.mp h.top
  obtain ⟨r, hr⟩ := State.topJava?_eq_some.mp hg0
  have hr' : (({ U with heap := s₂.heap, slotsUsed := s₂.slotsUsed } : State).setVm s₂.vm).frames = .java g₀ :: r := hr
  rcases hq' with ⟨hqc, L, hfe, hL⟩ | ⟨q, rfl, E, ce, L, hx, hce, hcv, hcl, hW₂, hsm, hL⟩
  · obtain ⟨⟨v, rfl⟩, hW₂, e2, q2, q3, q4, q5, q6⟩ := id hfe
    have e3 : s₂ = ({ (U.calling g mk a).setFrames s₂.frames with heap := s₂.heap, slotsUsed := s₂.slotsUsed } : State).setVm s₂.vm := by
      have : s₂ = ({ s₂ with vm := (U.calling g mk a).vm } : State).setVm s₂.vm := rfl
      rw [e2] at this
      exact this
    obtain ⟨c₂, i₂, len₂, hc₂, hd₂, hf₂⟩ := hend
    have hW' : U.WarmedH s₂.vm := hW₂
    have hcc : c₂ = c := by
      have h1 : s₂.code? g.method = U.code? g.method := by
        rw [State.code?_eq, State.code?_eq, hW'.alike.method?]
      exact Option.some.inj (hc₂.symm.trans (h1.trans h.code))
    subst hcc
    have hlen : len₂ = len := by rw [hdg] at hd₂; cases hd₂; rfl
    subst hlen
    have hs₂ : s₂ = (({ U with heap := s₂.heap, slotsUsed := s₂.slotsUsed } : State).setVm s₂.vm).setTop { g with pc := g.pc + len₂, stack := v.toList ++ g.stack } := by
      refine e3.trans ?_
      rw [hf₂, State.calling_eq h.top, State.setFrames_setFrames, State.setTop_of_frames _ hr', hr]
      rfl
    have hsame : U.sameButNew ({ U with heap := s₂.heap, slotsUsed := s₂.slotsUsed } : State) L mc ms := by
      refine ⟨?_, q2, q3, q4, q5, q6⟩
      obtain ⟨t, ht, -⟩ := State.frames_cons hr
      show ({ U with heap := s₂.heap, slotsUsed := s₂.slotsUsed } : State) = { U.setFrames U.frames with heap := s₂.heap, slotsUsed := s₂.slotsUsed }
      rw [State.setFrames_self ht]
    subst hg
    refine Or.inl ⟨v, ⟨(({ U with heap := s₂.heap, slotsUsed := s₂.slotsUsed } : State).setVm s₂.vm), Ls ++ L, c0 + mc, s0 + ms⟩,
      ⟨X.admits, X.cas, X.clock, X.frames, X.room, X.hears, X.method, X.code, (X.here.setHeapUsed s₂.heap s₂.slotsUsed).setVm hW'.alike, X.tail, State.WarmedH.trans X.warmed hW', X.limits, X.bytes, X.same.trans (hsame.setVm s.vm)⟩,
      ⟨g, mk, s₂, L, rfl, rfl, hqc, rfl, hL, rfl, rfl⟩, ?_⟩
    show Steps p.tables e below _ ((({ U with heap := s₂.heap, slotsUsed := s₂.slotsUsed } : State).setVm s₂.vm).setTop { g with pc := g.pc + len₂, stack := v.toList ++ g.stack })
    rw [← hs₂]
    exact hsteps
  · obtain ⟨e2, q2, q3, q4, q5, q6⟩ := id hsm
    have e3 : s₂ = ({ (U.calling g mk a).setFrames s₂.frames with heap := s₂.heap, slotsUsed := s₂.slotsUsed } : State).setVm s₂.vm := by
      have : s₂ = ({ s₂ with vm := (U.calling g mk a).vm } : State).setVm s₂.vm := rfl
      rw [e2] at this
      exact this
    have hf₂ : s₂.frames = .throwing q :: .java g :: U.frames.tail := hend
    have hW' : U.WarmedH s₂.vm := hW₂
    have hs₂ : s₂ = ((({ U with heap := s₂.heap, slotsUsed := s₂.slotsUsed } : State).setVm s₂.vm).setTop g).pushFrame (.throwing q) := by
      refine e3.trans ?_
      rw [hf₂, State.calling_eq h.top, State.setFrames_setFrames, State.pushFrame, State.frames_setTop _ hr', State.setTop_of_frames _ hr', State.setFrames_setFrames, hr]
      rfl
    have hsame : U.sameButNew ({ U with heap := s₂.heap, slotsUsed := s₂.slotsUsed } : State) L mc ms := by
      refine ⟨?_, q2, q3, q4, q5, q6⟩
      obtain ⟨t, ht, -⟩ := State.frames_cons hr
      show ({ U with heap := s₂.heap, slotsUsed := s₂.slotsUsed } : State) = { U.setFrames U.frames with heap := s₂.heap, slotsUsed := s₂.slotsUsed }
      rw [State.setFrames_self ht]
    subst hg
    refine Or.inr ⟨q, ⟨(({ U with heap := s₂.heap, slotsUsed := s₂.slotsUsed } : State).setVm s₂.vm), Ls ++ L, c0 + mc, s0 + ms⟩,
      ⟨X.admits, X.cas, X.clock, X.frames, X.room, X.hears, X.method, X.code, (X.here.setHeapUsed s₂.heap s₂.slotsUsed).setVm hW'.alike, X.tail, State.WarmedH.trans X.warmed hW', X.limits, X.bytes, X.same.trans (hsame.setVm s.vm)⟩,
      ⟨g, mk, s₂, L, E, ce, rfl, rfl, hx, hce, hcv, hcl, rfl, hL, rfl, rfl⟩, ?_⟩
    show Steps p.tables e below _ (((({ U with heap := s₂.heap, slotsUsed := s₂.slotsUsed } : State).setVm s₂.vm).setTop g).pushFrame (.throwing q))
    rw [← hs₂]
    exact hsteps
end
variable {p : Program} {l : Launch} {e : Env} {R : Room} {s : State} {m : MethodId} {args : Array Value} {below : List Frame} {meth : Method} {c : Code} {T : State} {H : Heap} {locs : List Loc} {cells slots : Nat}
theorem vx_callVX (X : Stand p l e R s m args below meth c T locs cells slots) (hexec : p.tables.exec = Jvm.exec) {own C : String} {index : Nat} {y : MethodName} {bytes : ByteArray} {maxL : Nat} {ret : Option FieldType} {hh : List (Nat × Nat × Nat × Nat)}
    (hown : s.vm.findClass own = some m.cls) (hlink : (Cond.methodLink own index y).before args s = true) (hinst : (Cond.instanceMethod y).before args s = true) (hsel : (Cond.selects C y y).before args s = true)
    (hcode : (Cond.codeWith y bytes maxL ret hh).before args s = true) (hy : y.cls ≠ "java/lang/invoke/MethodHandle" ∧ y.cls ≠ "java/lang/invoke/VarHandle")
    {W9 : Nat} {Pre : Pt → Array Value → Prop} {Post : Pt → Array Value → Option Value → Pt → Prop} {PostX : Pt → Array Value → Addr → Pt → Prop} (hK : vx_Back l R p e below s args y 3 W9 Pre Post PostX)
    {b : Addr} {cellB : Cell} (hcell : T.heap[b]? = some cellB) (hobj : cellB.vm.isStatics = false) (hcls : s.vm.findClass C = some cellB.cls)
    {g : JFrame} (hg : g.method = m) (hsize : g.locals.size = c.maxLocals) {argsL rest : List Value} (hlen : ∀ sig, parseMethodDescriptor y.desc = some sig → argsL.length = sig.parameters.length)
    (hstack : g.stack = argsL.reverse ++ .ref b :: rest) (hW : 2 * g.monitorRoom + (rest.map fun v => v.category).sum ≤ W9) (hdg : decode c.code g.pc = .ok (.invokevirtual index, 3))
    (hpre : ∀ vm₁, s.WarmedH vm₁ → Pre ⟨T.setVm vm₁, locs, cells, slots⟩ (Value.ref b :: argsL).toArray) :
    (∃ (v : Option Value) (vm₁ : Vm) (B : Pt), s.WarmedH vm₁ ∧ Stand p l e R s m args below meth c B.U B.locs B.cells B.slots ∧ Post ⟨T.setVm vm₁, locs, cells, slots⟩ (Value.ref b :: argsL).toArray v B ∧
      ∀ target, Steps p.tables e below (B.U.setTop { g with pc := g.pc + 3, stack := v.toList ++ rest }) target → Steps p.tables e below (T.setTop g) target) ∨
    (∃ (q : Addr) (vm₁ : Vm) (B : Pt), s.WarmedH vm₁ ∧ Stand p l e R s m args below meth c B.U B.locs B.cells B.slots ∧ PostX ⟨T.setVm vm₁, locs, cells, slots⟩ (Value.ref b :: argsL).toArray q B ∧
      Steps p.tables e below (T.setTop g) ((B.U.setTop { g with stack := rest }).pushFrame (.throwing q))) := by
  obtain ⟨mk, methM, hnamed, hmethM, hstM, habM⟩ := Cond.instanceMethod_spec hinst
  obtain ⟨m8, methM', cM, hn8, hmethM', -, -, -, -, -, -, hsigM⟩ := Cond.codeWith_spec hcode
  cases Option.some.inj (hn8.symm.trans hnamed)
  cases hmethM.symm.trans hmethM'
  obtain ⟨c2, r2, m2, q1, q2, q3, q4, kP, hkP, hkPi⟩ := Cond.selects_spec hsel
  cases hcls.symm.trans q1
  cases (State.methodFound?_of_named hnamed hy).symm.trans q2
  cases hnamed.symm.trans q3
  have hselP : selectMethod e.platform s.vm cellB.cls mk = .method mk := by rw [Launch.admits_selectMethod X.admits]; exact q4
  obtain ⟨vm₁, X₁, hstep₁⟩ := X.invokevirtual hexec hown hlink hnamed hmethM hstM hkP hkPi hy (a := b) (cell := cellB) hcell
    (fun z h => by rw [h] at hobj; cases hobj) hselP hmethM habM hkP hkPi (g := g) hg (argsL := argsL) (rest := rest) (hlen _ hsigM) hstack hdg
  rcases hK m meth c ⟨T.setVm vm₁, locs, cells, slots⟩ { g with stack := rest } (.invokevirtual index) mk (Value.ref b :: argsL).toArray X₁ hg hsize hdg hW (X₁.named hnamed) (hpre vm₁ X₁.warmed) with ⟨v, B, X', hpost, hsteps⟩ | ⟨q, B, X', hpost, hsteps⟩
  · exact Or.inl ⟨v, vm₁, B, X₁.warmed, X', hpost, fun target h => hstep₁ _ fun acts => by rw [doInvoke_state]; exact hsteps.trans h⟩
  · exact Or.inr ⟨q, vm₁, B, X₁.warmed, X', hpost, hstep₁ _ fun acts => by rw [doInvoke_state]; exact hsteps⟩
theorem vx_callSX (X : Stand p l e R s m args below meth c T locs cells slots) (hexec : p.tables.exec = Jvm.exec) {own : String} {index : Nat} {y : MethodName} {bytes : ByteArray} {maxL : Nat} {ret : Option FieldType} {hh : List (Nat × Nat × Nat × Nat)}
    (hown : s.vm.findClass own = some m.cls) (hlink : (Cond.methodLink own index y).before args s = true) (hstat : (Cond.static y).before args s = true) (hinit : (Cond.initialized y.cls).before args s = true)
    (hcode : (Cond.codeWith y bytes maxL ret hh).before args s = true) (hy : y.cls ≠ "java/lang/invoke/MethodHandle" ∧ y.cls ≠ "java/lang/invoke/VarHandle")
    {W9 : Nat} {Pre : Pt → Array Value → Prop} {Post : Pt → Array Value → Option Value → Pt → Prop} {PostX : Pt → Array Value → Addr → Pt → Prop} (hK : vx_Back l R p e below s args y 3 W9 Pre Post PostX)
    {g : JFrame} (hg : g.method = m) (hsize : g.locals.size = c.maxLocals) {argsL rest : List Value} (hlen : ∀ sig, parseMethodDescriptor y.desc = some sig → argsL.length = sig.parameters.length)
    (hstack : g.stack = argsL.reverse ++ rest) (hW : 2 * g.monitorRoom + (rest.map fun v => v.category).sum ≤ W9) (hdg : decode c.code g.pc = .ok (.invokestatic index, 3))
    (hpre : ∀ vm₁, s.WarmedH vm₁ → Pre ⟨T.setVm vm₁, locs, cells, slots⟩ argsL.toArray) :
    (∃ (v : Option Value) (vm₁ : Vm) (B : Pt), s.WarmedH vm₁ ∧ Stand p l e R s m args below meth c B.U B.locs B.cells B.slots ∧ Post ⟨T.setVm vm₁, locs, cells, slots⟩ argsL.toArray v B ∧
      ∀ target, Steps p.tables e below (B.U.setTop { g with pc := g.pc + 3, stack := v.toList ++ rest }) target → Steps p.tables e below (T.setTop g) target) ∨
    (∃ (q : Addr) (vm₁ : Vm) (B : Pt), s.WarmedH vm₁ ∧ Stand p l e R s m args below meth c B.U B.locs B.cells B.slots ∧ PostX ⟨T.setVm vm₁, locs, cells, slots⟩ argsL.toArray q B ∧
      Steps p.tables e below (T.setTop g) ((B.U.setTop { g with stack := rest }).pushFrame (.throwing q))) := by
  obtain ⟨mk, methM, cM, hnamed, hmethM, -, -, -, -, -, -, hsigM⟩ := Cond.codeWith_spec hcode
  have hstatic : methM.isStatic = true := Cond.static_spec hnamed hmethM hstat
  obtain ⟨kP, hkP, -⟩ := className_of_methodNamed hnamed
  have hinitP : kP.init = .initialized := Cond.initialized_spec (findClass_of_methodNamed hnamed) hkP hinit
  obtain ⟨vm₁, X₁, hstep₁⟩ := X.invokestatic hexec hown hlink hnamed hmethM hstatic hkP hinitP hy (g := g) hg (argsL := argsL) (rest := rest) (hlen _ hsigM) hstack hdg
  rcases hK m meth c ⟨T.setVm vm₁, locs, cells, slots⟩ { g with stack := rest } (.invokestatic index) mk argsL.toArray X₁ hg hsize hdg hW (X₁.named hnamed) (hpre vm₁ X₁.warmed) with ⟨v, B, X', hpost, hsteps⟩ | ⟨q, B, X', hpost, hsteps⟩
  · exact Or.inl ⟨v, vm₁, B, X₁.warmed, X', hpost, fun target h => hstep₁ _ fun acts => by rw [doInvoke_state]; exact hsteps.trans h⟩
  · exact Or.inr ⟨q, vm₁, B, X₁.warmed, X', hpost, hstep₁ _ fun acts => by rw [doInvoke_state]; exact hsteps⟩
theorem vx_callVW (X : Stand p l e R s m args below meth c T locs cells slots) (hexec : p.tables.exec = Jvm.exec) {own C : String} {index : Nat} {y : MethodName} {bytes : ByteArray} {maxL : Nat} {ret : Option FieldType} {hh : List (Nat × Nat × Nat × Nat)}
    (hown : s.vm.findClass own = some m.cls) (hlink : (Cond.methodLink own index y).before args s = true) (hinst : (Cond.instanceMethod y).before args s = true) (hsel : (Cond.selects C y y).before args s = true)
    (hcode : (Cond.codeWith y bytes maxL ret hh).before args s = true) (hy : y.cls ≠ "java/lang/invoke/MethodHandle" ∧ y.cls ≠ "java/lang/invoke/VarHandle")
    {W9 : Nat} {Pre : Pt → Array Value → Prop} {Post : Pt → Array Value → Option Value → Pt → Prop} (hK : Back l R p e below s args y 3 W9 Pre Post)
    {b : Addr} {cellB : Cell} (hcell : T.heap[b]? = some cellB) (hobj : cellB.vm.isStatics = false) (hcls : s.vm.findClass C = some cellB.cls)
    {g : JFrame} (hg : g.method = m) (hsize : g.locals.size = c.maxLocals) {argsL rest : List Value} (hlen : ∀ sig, parseMethodDescriptor y.desc = some sig → argsL.length = sig.parameters.length)
    (hstack : g.stack = argsL.reverse ++ .ref b :: rest) (hW : 2 * g.monitorRoom + (rest.map fun v => v.category).sum ≤ W9) (hdg : decode c.code g.pc = .ok (.invokevirtual index, 3))
    (hpre : ∀ vm₁, s.WarmedH vm₁ → Pre ⟨T.setVm vm₁, locs, cells, slots⟩ (Value.ref b :: argsL).toArray) :
    ∃ (v : Option Value) (vm₁ : Vm) (B : Pt), s.WarmedH vm₁ ∧ Stand p l e R s m args below meth c B.U B.locs B.cells B.slots ∧ Post ⟨T.setVm vm₁, locs, cells, slots⟩ (Value.ref b :: argsL).toArray v B ∧
      ∀ target, Steps p.tables e below (B.U.setTop { g with pc := g.pc + 3, stack := v.toList ++ rest }) target → Steps p.tables e below (T.setTop g) target := by
  obtain ⟨mk, methM, hnamed, hmethM, hstM, habM⟩ := Cond.instanceMethod_spec hinst
  obtain ⟨m8, methM', cM, hn8, hmethM', -, -, -, -, -, -, hsigM⟩ := Cond.codeWith_spec hcode
  cases Option.some.inj (hn8.symm.trans hnamed)
  cases hmethM.symm.trans hmethM'
  obtain ⟨c2, r2, m2, q1, q2, q3, q4, kP, hkP, hkPi⟩ := Cond.selects_spec hsel
  cases hcls.symm.trans q1
  cases (State.methodFound?_of_named hnamed hy).symm.trans q2
  cases hnamed.symm.trans q3
  have hselP : selectMethod e.platform s.vm cellB.cls mk = .method mk := by rw [Launch.admits_selectMethod X.admits]; exact q4
  obtain ⟨vm₁, X₁, hstep₁⟩ := X.invokevirtual hexec hown hlink hnamed hmethM hstM hkP hkPi hy (a := b) (cell := cellB) hcell
    (fun z h => by rw [h] at hobj; cases hobj) hselP hmethM habM hkP hkPi (g := g) hg (argsL := argsL) (rest := rest) (hlen _ hsigM) hstack hdg
  obtain ⟨v, B, X', hpost, hsteps⟩ := hK m meth c ⟨T.setVm vm₁, locs, cells, slots⟩ { g with stack := rest } (.invokevirtual index) mk (Value.ref b :: argsL).toArray X₁ hg hsize hdg hW (X₁.named hnamed) (hpre vm₁ X₁.warmed)
  exact ⟨v, vm₁, B, X₁.warmed, X', hpost, fun target h => hstep₁ _ fun acts => by rw [doInvoke_state]; exact hsteps.trans h⟩
abbrev vx_CVW (R : Room) (s : State) (args : Array Value) (own C : String) (index : Nat) (y : MethodName) (bytes : ByteArray) (maxL : Nat) (ret : Option FieldType) (hh : List (Nat × Nat × Nat × Nat)) (ws : List Cond) (rm : Room) (mc ms n : Nat) : Prop :=
  (rm.cells = mc ∧ rm.slots = ms ∧ rm.frames + 1 ≤ R.frames ∧ 8 + (maxL + 11) + rm.locals ≤ R.locals ∧ (∀ w ∈ ws, ∀ (a' : Array Value) (U : State), s.WarmedH U.vm → w.before a' U = true) ∧ Cond.codeWith y bytes maxL ret hh ∈ ws) ∧
  (Cond.codeWith y bytes maxL ret hh).before args s = true ∧ (Cond.initialized y.cls).before args s = true ∧ (y.cls ≠ "java/lang/invoke/MethodHandle" ∧ y.cls ≠ "java/lang/invoke/VarHandle") ∧
  (∀ sig, parseMethodDescriptor y.desc = some sig → n = sig.parameters.length) ∧ (Cond.methodLink own index y).before args s = true ∧ (Cond.instanceMethod y).before args s = true ∧ (Cond.selects C y y).before args s = true
theorem vx_cwVW {own C : String} {index maxL mc ms : Nat} {y : MethodName} {bytes : ByteArray} {ret : Option FieldType} {hh : List (Nat × Nat × Nat × Nat)} {Ts ws ws' : List Cond} {rm : Room} (n : Nat) (ht : ∀ w ∈ Ts, w.before args s = true) (hT : GoodIn Ts (wsV own index C y ws)) (hw : ws = Cond.codeWith y bytes maxL ret hh :: ws') (hrc : rm.cells = mc) (hrs : rm.slots = ms)
    (hd : y.cls = C ∧ y.cls ≠ "java/lang/invoke/MethodHandle" ∧ y.cls ≠ "java/lang/invoke/VarHandle" ∧ (parseMethodDescriptor y.desc).map (fun d => d.parameters.length) = some n) (hR : rm.frames + 1 ≤ R.frames ∧ 8 + (maxL + 11) + rm.locals ≤ R.locals) :
    vx_CVW R s args own C index y bytes maxL ret hh ws rm mc ms n := by
  obtain ⟨hC, hd⟩ := hd
  subst hC
  have ok : ∀ w ∈ wsV own index y.cls y ws, w.before args s = true := fun w h => ht w (hT w h).1
  have hG : GoodIn Ts ws := fun w h => hT w (by unfold wsV; exact List.mem_append_right _ h)
  have hc : Cond.codeWith y bytes maxL ret hh ∈ ws := by rw [hw]; exact List.mem_cons_self
  refine ⟨⟨hrc, hrs, hR.1, hR.2, pay_in ht hG, hc⟩, ht _ (hG _ hc).1, ok _ (by simp [wsV]), ⟨hd.1, hd.2.1⟩, fun sig h => ?_, ok _ (by simp [wsV]), ok _ (by simp [wsV]), ok _ (by simp [wsV])⟩
  have h2 := hd.2.2
  rw [h] at h2
  exact (Option.some.inj h2).symm
theorem vx_runVW {y : MethodName} {bytes cc : ByteArray} {maxL nL mc ms n index : Nat} {ret : Option FieldType} {hh : List (Nat × Nat × Nat × Nat)} {ws : List Cond} {rm : Room} {Pc : Array Value → State → Prop} {Qc : Array Value → State → Outcome → State → Prop} {free : Addr → Prop} {Ts : List Cond} {own C : String} {b : Addr} {As rest : List Value} {g : JFrame}
    (S : CallFix p m c cc nL s args Ts own) (hM : Met l y ws rm Pc Qc mc ms free) (cw : vx_CVW R s args own C index y bytes maxL ret hh ws rm mc ms n) (hp : PreV s H C b Pc As)
    (hg : g.method = m) (hn : As.length = n) (hsize : g.locals.size = nL) (hstack : g.stack = As.reverse ++ .ref b :: rest) (hW : 2 * g.monitorRoom + (rest.map fun v => v.category).sum ≤ 8) (hdg : decode cc g.pc = .ok (.invokevirtual index, 3)) (hf : cells + mc ≤ R.cells ∧ slots + ms ≤ R.slots) :
    va_Run p l e R s m args below meth c H locs cells slots mc ms g rest (Qc (Value.ref b :: As).toArray) free := by
  obtain ⟨⟨hrc, hrs, hfr, hlo, hws, hcw⟩, hcode, hini, hy, hlen, hl, hin, hse⟩ := cw
  have hK : Back l R p e below s args y 3 8 (PreOf R mc ms Pc) (PostOf Qc mc ms free) := va_backW (hh := hh) (bytes := bytes) (maxL := maxL) (ret := ret) hM hp.1 hrc hrs hfr hlo hws hcw (fun a' U hW => word_at hW (Or.inl (by first | rfl | simp [Cond.onTables, Cond.keeps, Cond.steady])) hini)
  obtain ⟨hx, hb, hml, ho, -⟩ := S
  obtain ⟨-, ⟨cellB, hcB, hoB, hclB⟩, hPc⟩ := hp
  intro T hT X
  obtain ⟨v, vm₁, ⟨U', l2, c2, s2⟩, hW₁, X', ⟨g', mk, t, L, e1, e2, hq, h1, hL, h2, h3⟩, st⟩ := vx_callVW X hx (C := C) (hh := hh) (bytes := bytes) (maxL := maxL) (ret := ret) ho hl hin hse hcode hy hK (by rw [hT]; exact hcB) hoB hclB hg (hsize.trans hml.symm) (argsL := As) (rest := rest) (fun sig h => hn.trans (hlen sig h)) hstack hW (by rw [hb]; exact hdg)
    (fun vm₁ hW₁ => ⟨hf.1, hf.2, hPc (T.setVm vm₁) hT hW₁⟩)
  dsimp only [Pt.U, Pt.locs, Pt.cells, Pt.slots] at X' e1 e2 h1 h2 h3 st
  subst h1; subst h2; subst h3
  exact ⟨v, (T.setVm vm₁).calling g' mk (Value.ref b :: As).toArray, t, U', L, hT, X', hL, e1, e2, hq, st⟩
section
variable {y : MethodName} {bytes cc : ByteArray} {maxL nL mc ms n index : Nat} {ret : Option FieldType} {ws : List Cond} {rm : Room} {Pc : Array Value → State → Prop} {Qc : Array Value → State → Outcome → State → Prop} {XC : String → State → State → Prop} {free : Addr → Prop} {Ts : List Cond} {own C : String} {b : Addr} {As rest : List Value} {g : JFrame}
theorem vx_runVX {hh : List (Nat × Nat × Nat × Nat)} (S : CallFix p m c cc nL s args Ts own) (hM : vx_Met l y ws rm Pc Qc XC mc ms free) (cw : vx_CVW R s args own C index y bytes maxL ret hh ws rm mc ms n) (hp : PreV s H C b Pc As)
    (hg : g.method = m) (hn : As.length = n) (hsize : g.locals.size = nL) (hstack : g.stack = As.reverse ++ .ref b :: rest) (hW : 2 * g.monitorRoom + (rest.map fun v => v.category).sum ≤ 8) (hdg : decode cc g.pc = .ok (.invokevirtual index, 3)) (hf : cells + mc ≤ R.cells ∧ slots + ms ≤ R.slots) :
    vx_Run p l e R s m args below meth c H locs cells slots mc ms g rest (Qc (Value.ref b :: As).toArray) XC free := by
  obtain ⟨⟨hrc, hrs, hfr, hlo, hws, hcw⟩, hcode, hini, hy, hlen, hl, hin, hse⟩ := cw
  have hK : vx_Back l R p e below s args y 3 8 (PreOf R mc ms Pc) (PostOf Qc mc ms free) (vx_Post XC mc ms free) := vx_backW (hh := hh) (bytes := bytes) (maxL := maxL) (ret := ret) hM hp.1 hrc hrs hfr hlo hws hcw (fun a' U hW => word_at hW (Or.inl (by first | rfl | simp [Cond.onTables, Cond.keeps, Cond.steady])) hini)
  obtain ⟨hx, hb, hml, ho, -⟩ := S
  obtain ⟨-, ⟨cellB, hcB, hoB, hclB⟩, hPc⟩ := hp
  intro T hT X
  rcases vx_callVX X hx (C := C) (hh := hh) (bytes := bytes) (maxL := maxL) (ret := ret) ho hl hin hse hcode hy hK (by rw [hT]; exact hcB) hoB hclB hg (hsize.trans hml.symm) (argsL := As) (rest := rest) (fun sig h => hn.trans (hlen sig h)) hstack hW (by rw [hb]; exact hdg)
    (fun vm₁ hW₁ => ⟨hf.1, hf.2, hPc (T.setVm vm₁) hT hW₁⟩) with ⟨v, vm₁, ⟨U', l2, c2, s2⟩, hW₁, X', ⟨g', mk, t, L, e1, e2, hq, h1, hL, h2, h3⟩, st⟩ | ⟨q, vm₁, ⟨U', l2, c2, s2⟩, hW₁, X', ⟨g', mk, t, L, E, ce, e1, e2, hq, hce, hcv, hcl, h1, hL, h2, h3⟩, st⟩
  · dsimp only [Pt.U, Pt.locs, Pt.cells, Pt.slots] at X' e1 e2 h1 h2 h3 st
    subst h1; subst h2; subst h3
    exact Or.inl ⟨v, (T.setVm vm₁).calling g' mk (Value.ref b :: As).toArray, t, U', L, hT, X', hL, e1, e2, hq, st⟩
  · dsimp only [Pt.U, Pt.locs, Pt.cells, Pt.slots] at X' e1 e2 h1 h2 h3 st hcl
    subst h1; subst h2; subst h3
    exact Or.inr ⟨q, (T.setVm vm₁).calling g' mk (Value.ref b :: As).toArray, t, U', L, E, ce, hT, X', hL, e1, e2, hq, hce, hcv, vx_cls hW₁ hcl, st⟩
theorem vx_runSX {hh : List (Nat × Nat × Nat × Nat)} (S : CallFix p m c cc nL s args Ts own) (hM : vx_Met l y ws rm Pc Qc XC mc ms free) (cw : vx_CSW R s args own index y bytes maxL ret hh ws rm mc ms n) (hp : PreS s H Pc As)
    (hg : g.method = m) (hn : As.length = n) (hsize : g.locals.size = nL) (hstack : g.stack = As.reverse ++ rest) (hW : 2 * g.monitorRoom + (rest.map fun v => v.category).sum ≤ 8) (hdg : decode cc g.pc = .ok (.invokestatic index, 3)) (hf : cells + mc ≤ R.cells ∧ slots + ms ≤ R.slots) :
    vx_Run p l e R s m args below meth c H locs cells slots mc ms g rest (Qc As.toArray) XC free := by
  obtain ⟨⟨hrc, hrs, hfr, hlo, hws, hcw⟩, hcode, hini, hy, hlen, hl, hstt⟩ := cw
  have hK : vx_Back l R p e below s args y 3 8 (PreOf R mc ms Pc) (PostOf Qc mc ms free) (vx_Post XC mc ms free) := vx_backW (hh := hh) (bytes := bytes) (maxL := maxL) (ret := ret) hM hp.1 hrc hrs hfr hlo hws hcw (fun a' U hW => word_at hW (Or.inl (by first | rfl | simp [Cond.onTables, Cond.keeps, Cond.steady])) hini)
  obtain ⟨hx, hb, hml, ho, -⟩ := S
  intro T hT X
  rcases vx_callSX X hx (hh := hh) (bytes := bytes) (maxL := maxL) (ret := ret) ho hl hstt hini hcode hy hK hg (hsize.trans hml.symm) (argsL := As) (rest := rest) (fun sig h => hn.trans (hlen sig h)) hstack hW (by rw [hb]; exact hdg)
    (fun vm₁ hW₁ => ⟨hf.1, hf.2, hp.2 (T.setVm vm₁) hT hW₁⟩) with ⟨v, vm₁, ⟨U', l2, c2, s2⟩, hW₁, X', ⟨g', mk, t, L, e1, e2, hq, h1, hL, h2, h3⟩, st⟩ | ⟨q, vm₁, ⟨U', l2, c2, s2⟩, hW₁, X', ⟨g', mk, t, L, E, ce, e1, e2, hq, hce, hcv, hcl, h1, hL, h2, h3⟩, st⟩
  · dsimp only [Pt.U, Pt.locs, Pt.cells, Pt.slots] at X' e1 e2 h1 h2 h3 st
    subst h1; subst h2; subst h3
    exact Or.inl ⟨v, (T.setVm vm₁).calling g' mk As.toArray, t, U', L, hT, X', hL, e1, e2, hq, st⟩
  · dsimp only [Pt.U, Pt.locs, Pt.cells, Pt.slots] at X' e1 e2 h1 h2 h3 st hcl
    subst h1; subst h2; subst h3
    exact Or.inr ⟨q, (T.setVm vm₁).calling g' mk As.toArray, t, U', L, E, ce, hT, X', hL, e1, e2, hq, hce, hcv, vx_cls hW₁ hcl, st⟩
end
end VXH
theorem vx_ofWH {l : Launch} {y : MethodName} {ws ws' : List Cond} {rm : Room} {Pc : Array Value → State → Prop} {Qc : Array Value → State → Outcome → State → Prop} {XC : String → State → State → Prop} {mc ms : Nat} {free : Addr → Prop} {cc : ByteArray} {maxL : Nat} {ret : Option FieldType} {hh : List (Nat × Nat × Nat × Nat)}
    (hy : plainName y.cls = true) (hw : ws = Cond.codeWith y cc maxL ret hh :: ws')
    (body : ∀ p e s m args below meth c s₁, BodyLoose p l y (headSpec ws rm) cc maxL ret e s m args below meth c s₁ → c.maxLocals = maxL → Pc args s →
      W p l e (headSpec ws rm).room s m args below meth c s.heap [] 0 0 (vx_MQ below Qc XC args s mc ms free) (entryFrame m args maxL)) : vx_Met l y ws rm Pc Qc XC mc ms free := by
  refine MetFree.of_bodyS (code := cc) (maxLocals := maxL) (ret := ret) hy ?_ ?_
  · intro args s m h hn
    obtain ⟨m9, meth, c, hn9, h1, h2, h3, h4, -, h5, h6, -⟩ := Cond.codeWith_spec (atoms_spec (ws := ws) h _ (by rw [hw]; exact List.mem_cons_self))
    cases hn.symm.trans hn9
    exact ⟨meth, c, h1, h2, h3, h4, h5, h6⟩
  · intro p e s m args below meth c s₁ B hml hP _
    have hh0 : s₁.heap = s.heap := by rw [B.state]; rfl
    obtain ⟨t, a1, o, b1, b2, b3⟩ := body p e s m args below meth c s₁ B hml hP s₁ hh0 (Stand.of_body B)
    exact ⟨t, o, a1, b1, b2, b3⟩
/-! ===== END ===== -/
end
section
/-! ===== BEGIN printed: names, fields, word lists, decode rows ===== -/
def RX0 : String := "HilbertHutch$Area"
def TX0 : u_T := fun k => match k with
  | _ => ("", "", "", false)
def tyX0 : Nat → FieldType := fun k => match k with
  | _ => .int
abbrev wsX00 : List Cond := u_ws RX0 TX0 0
theorem nmX0 : ∀ a, a < 0 → ∀ b, b < 0 → a ≠ b → (TX0 a).2.1 ≠ (TX0 b).2.1 := by decide +kernel
theorem tyX0_ok : ∀ k, k < 0 → parseFieldDescriptor (TX0 k).2.2.1 = some (tyX0 k) := by decide +kernel
abbrev cX0_of : ByteArray := prog_2_method_2_code
def yX0_of : MethodName := ⟨RX0, "of", "(IIII)I"⟩
abbrev cX0_side : ByteArray := prog_2_method_3_code
def yX0_side : MethodName := ⟨RX0, "side", "(II)I"⟩
abbrev cX0_meet : ByteArray := prog_2_method_4_code
def yX0_meet : MethodName := ⟨RX0, "meet", "(II)Z"⟩
abbrev cX0_around : ByteArray := prog_2_method_5_code
def yX0_around : MethodName := ⟨RX0, "around", "(II)I"⟩
abbrev cX0_points : ByteArray := prog_2_method_6_code
def yX0_points : MethodName := ⟨RX0, "points", "(I)I"⟩
abbrev cX0_distanceFrom : ByteArray := prog_2_method_7_code
def yX0_distanceFrom : MethodName := ⟨RX0, "distanceFrom", "(III)I"⟩
abbrev cX0_gap : ByteArray := prog_2_method_8_code
def yX0_gap : MethodName := ⟨RX0, "gap", "(III)I"⟩
abbrev cX0_middleKey : ByteArray := prog_2_method_9_code
def yX0_middleKey : MethodName := ⟨RX0, "middleKey", "(I)I"⟩
def RX1 : String := "HilbertHutch$Curve"
def TX1 : u_T := fun k => match k with
  | _ => ("", "", "", false)
def tyX1 : Nat → FieldType := fun k => match k with
  | _ => .int
abbrev wsX10 : List Cond := u_ws RX1 TX1 0
theorem nmX1 : ∀ a, a < 0 → ∀ b, b < 0 → a ≠ b → (TX1 a).2.1 ≠ (TX1 b).2.1 := by decide +kernel
theorem tyX1_ok : ∀ k, k < 0 → parseFieldDescriptor (TX1 k).2.2.1 = some (tyX1 k) := by decide +kernel
abbrev cX1_lengthTo : ByteArray := prog_3_method_2_code
def yX1_lengthTo : MethodName := ⟨RX1, "lengthTo", "(II)I"⟩
abbrev cX1_quarter : ByteArray := prog_3_method_3_code
def yX1_quarter : MethodName := ⟨RX1, "quarter", "(ZZ)I"⟩
def RX2 : String := "HilbertHutch$Stock"
def TX2 : u_T := fun k => match k with
  | 0 => ("HilbertHutch$Stock", "areas", "[I", true)
  | 1 => ("HilbertHutch$Stock", "keys", "[I", true)
  | 2 => ("HilbertHutch$Stock", "there", "[Z", true)
  | 3 => ("HilbertHutch$Stock", "order", "[I", true)
  | 4 => ("HilbertHutch$Stock", "added", "I", false)
  | _ => ("HilbertHutch$Stock", "size", "I", false)
def tyX2 : Nat → FieldType := fun k => match k with
  | 0 => .array .int
  | 1 => .array .int
  | 2 => .array .boolean
  | 3 => .array .int
  | 4 => .int
  | _ => .int
abbrev wsX20 : List Cond := u_ws RX2 TX2 6
theorem nmX2 : ∀ a, a < 6 → ∀ b, b < 6 → a ≠ b → (TX2 a).2.1 ≠ (TX2 b).2.1 := by decide +kernel
theorem tyX2_ok : ∀ k, k < 6 → parseFieldDescriptor (TX2 k).2.2.1 = some (tyX2 k) := by decide +kernel
abbrev cX2_init : ByteArray := prog_4_method_1_code
def yX2_init : MethodName := ⟨RX2, "<init>", "()V"⟩
abbrev cX2_size : ByteArray := prog_4_method_2_code
def yX2_size : MethodName := ⟨RX2, "size", "()I"⟩
abbrev cX2_added : ByteArray := prog_4_method_3_code
def yX2_added : MethodName := ⟨RX2, "added", "()I"⟩
abbrev cX2_hasRoom : ByteArray := prog_4_method_4_code
def yX2_hasRoom : MethodName := ⟨RX2, "hasRoom", "()Z"⟩
abbrev cX2_has : ByteArray := prog_4_method_5_code
def yX2_has : MethodName := ⟨RX2, "has", "(I)Z"⟩
abbrev cX2_areaOf : ByteArray := prog_4_method_6_code
def yX2_areaOf : MethodName := ⟨RX2, "areaOf", "(I)I"⟩
abbrev cX2_keyFor : ByteArray := prog_4_method_7_code
def yX2_keyFor : MethodName := ⟨RX2, "keyFor", "(I)I"⟩
abbrev cX2_numberAt : ByteArray := prog_4_method_8_code
def yX2_numberAt : MethodName := ⟨RX2, "numberAt", "(I)I"⟩
abbrev cX2_areaAt : ByteArray := prog_4_method_9_code
def yX2_areaAt : MethodName := ⟨RX2, "areaAt", "(I)I"⟩
abbrev cX2_placeOf : ByteArray := prog_4_method_10_code
def yX2_placeOf : MethodName := ⟨RX2, "placeOf", "(I)I"⟩
abbrev cX2_haveMet : ByteArray := prog_4_method_11_code
def yX2_haveMet : MethodName := ⟨RX2, "haveMet", "(II)Z"⟩
abbrev cX2_putIn : ByteArray := prog_4_method_12_code
def yX2_putIn : MethodName := ⟨RX2, "putIn", "(I)I"⟩
abbrev cX2_putInOrder : ByteArray := prog_4_method_13_code
def yX2_putInOrder : MethodName := ⟨RX2, "putInOrder", "(I)V"⟩
abbrev cX2_takeOut : ByteArray := prog_4_method_14_code
def yX2_takeOut : MethodName := ⟨RX2, "takeOut", "(I)V"⟩
abbrev cX2_setOrder : ByteArray := prog_4_method_15_code
def yX2_setOrder : MethodName := ⟨RX2, "setOrder", "(II)V"⟩
def RX3 : String := "HilbertHutch$Tree"
def TX3 : u_T := fun k => match k with
  | 0 => ("HilbertHutch$Tree", "loads", "[I", true)
  | 1 => ("HilbertHutch$Tree", "widths", "[I", true)
  | _ => ("HilbertHutch$Tree", "height", "I", false)
def tyX3 : Nat → FieldType := fun k => match k with
  | 0 => .array .int
  | 1 => .array .int
  | _ => .int
abbrev wsX30 : List Cond := u_ws RX3 TX3 3
theorem nmX3 : ∀ a, a < 3 → ∀ b, b < 3 → a ≠ b → (TX3 a).2.1 ≠ (TX3 b).2.1 := by decide +kernel
theorem tyX3_ok : ∀ k, k < 3 → parseFieldDescriptor (TX3 k).2.2.1 = some (tyX3 k) := by decide +kernel
abbrev cX3_init : ByteArray := prog_5_method_1_code
def yX3_init : MethodName := ⟨RX3, "<init>", "()V"⟩
abbrev cX3_height : ByteArray := prog_5_method_2_code
def yX3_height : MethodName := ⟨RX3, "height", "()I"⟩
abbrev cX3_hasLevel : ByteArray := prog_5_method_3_code
def yX3_hasLevel : MethodName := ⟨RX3, "hasLevel", "(I)Z"⟩
abbrev cX3_width : ByteArray := prog_5_method_4_code
def yX3_width : MethodName := ⟨RX3, "width", "(I)I"⟩
abbrev cX3_hasNode : ByteArray := prog_5_method_5_code
def yX3_hasNode : MethodName := ⟨RX3, "hasNode", "(II)Z"⟩
abbrev cX3_load : ByteArray := prog_5_method_6_code
def yX3_load : MethodName := ⟨RX3, "load", "(II)I"⟩
abbrev cX3_setLoad : ByteArray := prog_5_method_7_code
def yX3_setLoad : MethodName := ⟨RX3, "setLoad", "(III)V"⟩
abbrev cX3_setWidth : ByteArray := prog_5_method_8_code
def yX3_setWidth : MethodName := ⟨RX3, "setWidth", "(II)V"⟩
abbrev cX3_entriesBefore : ByteArray := prog_5_method_9_code
def yX3_entriesBefore : MethodName := ⟨RX3, "entriesBefore", "(II)I"⟩
abbrev cX3_boxesBefore : ByteArray := prog_5_method_10_code
def yX3_boxesBefore : MethodName := ⟨RX3, "boxesBefore", "(II)I"⟩
abbrev cX3_holder : ByteArray := prog_5_method_11_code
def yX3_holder : MethodName := ⟨RX3, "holder", "(II)I"⟩
abbrev cX3_parent : ByteArray := prog_5_method_12_code
def yX3_parent : MethodName := ⟨RX3, "parent", "(II)I"⟩
abbrev cX3_partner : ByteArray := prog_5_method_13_code
def yX3_partner : MethodName := ⟨RX3, "partner", "(III)I"⟩
abbrev cX3_grow : ByteArray := prog_5_method_14_code
def yX3_grow : MethodName := ⟨RX3, "grow", "(I)V"⟩
abbrev cX3_gainEntry : ByteArray := prog_5_method_15_code
def yX3_gainEntry : MethodName := ⟨RX3, "gainEntry", "(II)V"⟩
abbrev cX3_addRoot : ByteArray := prog_5_method_16_code
def yX3_addRoot : MethodName := ⟨RX3, "addRoot", "(I)V"⟩
abbrev cX3_relieve : ByteArray := prog_5_method_17_code
def yX3_relieve : MethodName := ⟨RX3, "relieve", "(III)Z"⟩
abbrev cX3_halve : ByteArray := prog_5_method_18_code
def yX3_halve : MethodName := ⟨RX3, "halve", "(II)V"⟩
abbrev cX3_shrink : ByteArray := prog_5_method_19_code
def yX3_shrink : MethodName := ⟨RX3, "shrink", "(I)V"⟩
abbrev cX3_unite : ByteArray := prog_5_method_20_code
def yX3_unite : MethodName := ⟨RX3, "unite", "(III)Z"⟩
abbrev cX3_lowerRoot : ByteArray := prog_5_method_21_code
def yX3_lowerRoot : MethodName := ⟨RX3, "lowerRoot", "()V"⟩
abbrev cX3_insertNode : ByteArray := prog_5_method_22_code
def yX3_insertNode : MethodName := ⟨RX3, "insertNode", "(III)V"⟩
abbrev cX3_deleteNode : ByteArray := prog_5_method_23_code
def yX3_deleteNode : MethodName := ⟨RX3, "deleteNode", "(II)V"⟩
abbrev cX3_planAnew : ByteArray := prog_5_method_24_code
def yX3_planAnew : MethodName := ⟨RX3, "planAnew", "(I)V"⟩
def RX4 : String := "HilbertHutch"
def TX4 : u_T := fun k => match k with
  | 0 => ("HilbertHutch", "stock", "LHilbertHutch$Stock;", true)
  | 1 => ("HilbertHutch", "tree", "LHilbertHutch$Tree;", true)
  | _ => ("HilbertHutch", "ranks", "[I", true)
def tyX4 : Nat → FieldType := fun k => match k with
  | 0 => .object "HilbertHutch$Stock"
  | 1 => .object "HilbertHutch$Tree"
  | _ => .array .int
abbrev wsX40 : List Cond := u_ws RX4 TX4 3
theorem nmX4 : ∀ a, a < 3 → ∀ b, b < 3 → a ≠ b → (TX4 a).2.1 ≠ (TX4 b).2.1 := by decide +kernel
theorem tyX4_ok : ∀ k, k < 3 → parseFieldDescriptor (TX4 k).2.2.1 = some (tyX4 k) := by decide +kernel
abbrev cX4_init : ByteArray := prog_1_method_1_code
def yX4_init : MethodName := ⟨RX4, "<init>", "()V"⟩
abbrev cX4_add : ByteArray := prog_1_method_2_code
def yX4_add : MethodName := ⟨RX4, "add", "(IIII)I"⟩
abbrev cX4_remove : ByteArray := prog_1_method_3_code
def yX4_remove : MethodName := ⟨RX4, "remove", "(I)I"⟩
abbrev cX4_pack : ByteArray := prog_1_method_4_code
def yX4_pack : MethodName := ⟨RX4, "pack", "()I"⟩
abbrev cX4_boxes : ByteArray := prog_1_method_5_code
def yX4_boxes : MethodName := ⟨RX4, "boxes", "()I"⟩
abbrev cX4_key : ByteArray := prog_1_method_6_code
def yX4_key : MethodName := ⟨RX4, "key", "(II)I"⟩
abbrev cX4_keyOf : ByteArray := prog_1_method_7_code
def yX4_keyOf : MethodName := ⟨RX4, "keyOf", "(I)I"⟩
abbrev cX4_sideOf : ByteArray := prog_1_method_8_code
def yX4_sideOf : MethodName := ⟨RX4, "sideOf", "(II)I"⟩
abbrev cX4_levels : ByteArray := prog_1_method_9_code
def yX4_levels : MethodName := ⟨RX4, "levels", "()I"⟩
abbrev cX4_nodes : ByteArray := prog_1_method_10_code
def yX4_nodes : MethodName := ⟨RX4, "nodes", "(I)I"⟩
abbrev cX4_entries : ByteArray := prog_1_method_11_code
def yX4_entries : MethodName := ⟨RX4, "entries", "(II)I"⟩
abbrev cX4_cover : ByteArray := prog_1_method_12_code
def yX4_cover : MethodName := ⟨RX4, "cover", "(III)I"⟩
abbrev cX4_leafOf : ByteArray := prog_1_method_13_code
def yX4_leafOf : MethodName := ⟨RX4, "leafOf", "(I)I"⟩
abbrev cX4_boxAt : ByteArray := prog_1_method_14_code
def yX4_boxAt : MethodName := ⟨RX4, "boxAt", "(I)I"⟩
abbrev cX4_tightness : ByteArray := prog_1_method_15_code
def yX4_tightness : MethodName := ⟨RX4, "tightness", "()F"⟩
abbrev cX4_count : ByteArray := prog_1_method_16_code
def yX4_count : MethodName := ⟨RX4, "count", "(IIII)I"⟩
abbrev cX4_found : ByteArray := prog_1_method_17_code
def yX4_found : MethodName := ⟨RX4, "found", "(IIIII)I"⟩
abbrev cX4_visits : ByteArray := prog_1_method_18_code
def yX4_visits : MethodName := ⟨RX4, "visits", "(IIII)I"⟩
abbrev cX4_nearest : ByteArray := prog_1_method_19_code
def yX4_nearest : MethodName := ⟨RX4, "nearest", "(III)I"⟩
abbrev cX4_distance : ByteArray := prog_1_method_20_code
def yX4_distance : MethodName := ⟨RX4, "distance", "(III)I"⟩
abbrev cX4_pairs : ByteArray := prog_1_method_21_code
def yX4_pairs : MethodName := ⟨RX4, "pairs", "()I"⟩
abbrev cX4_pair : ByteArray := prog_1_method_22_code
def yX4_pair : MethodName := ⟨RX4, "pair", "(I)I"⟩
abbrev cX4_isCoordinate : ByteArray := prog_1_method_23_code
def yX4_isCoordinate : MethodName := ⟨RX4, "isCoordinate", "(I)Z"⟩
abbrev cX4_checkPoint : ByteArray := prog_1_method_24_code
def yX4_checkPoint : MethodName := ⟨RX4, "checkPoint", "(II)V"⟩
abbrev cX4_checkSides : ByteArray := prog_1_method_25_code
def yX4_checkSides : MethodName := ⟨RX4, "checkSides", "(IIII)V"⟩
abbrev cX4_checkSide : ByteArray := prog_1_method_26_code
def yX4_checkSide : MethodName := ⟨RX4, "checkSide", "(I)V"⟩
abbrev cX4_checkBox : ByteArray := prog_1_method_27_code
def yX4_checkBox : MethodName := ⟨RX4, "checkBox", "(I)V"⟩
abbrev cX4_checkNode : ByteArray := prog_1_method_28_code
def yX4_checkNode : MethodName := ⟨RX4, "checkNode", "(II)V"⟩
abbrev cX4_coverOf : ByteArray := prog_1_method_29_code
def yX4_coverOf : MethodName := ⟨RX4, "coverOf", "(II)I"⟩
abbrev cX4_rankByDistance : ByteArray := prog_1_method_30_code
def yX4_rankByDistance : MethodName := ⟨RX4, "rankByDistance", "(II)V"⟩
abbrev cX4_ranksBefore : ByteArray := prog_1_method_31_code
def yX4_ranksBefore : MethodName := ⟨RX4, "ranksBefore", "(I)I"⟩
def RX5 : String := "HilbertHutchModel"
def TX5 : u_T := fun k => match k with
  | 0 => ("HilbertHutchModel", "added", "I", false)
  | 1 => ("HilbertHutchModel", "sides", "[I", true)
  | 2 => ("HilbertHutchModel", "key", "[I", true)
  | 3 => ("HilbertHutchModel", "isThere", "[Z", true)
  | 4 => ("HilbertHutchModel", "boxes", "I", false)
  | 5 => ("HilbertHutchModel", "order", "[I", true)
  | 6 => ("HilbertHutchModel", "levels", "I", false)
  | 7 => ("HilbertHutchModel", "nodes", "[I", true)
  | 8 => ("HilbertHutchModel", "entries", "[I", true)
  | 9 => ("HilbertHutchModel", "left", "I", false)
  | 10 => ("HilbertHutchModel", "low", "I", false)
  | 11 => ("HilbertHutchModel", "right", "I", false)
  | 12 => ("HilbertHutchModel", "high", "I", false)
  | 13 => ("HilbertHutchModel", "first", "I", false)
  | 14 => ("HilbertHutchModel", "end", "I", false)
  | _ => ("HilbertHutchModel", "thrown", "I", false)
def tyX5 : Nat → FieldType := fun k => match k with
  | 0 => .int
  | 1 => .array .int
  | 2 => .array .int
  | 3 => .array .boolean
  | 4 => .int
  | 5 => .array .int
  | 6 => .int
  | 7 => .array .int
  | 8 => .array .int
  | 9 => .int
  | 10 => .int
  | 11 => .int
  | 12 => .int
  | 13 => .int
  | 14 => .int
  | _ => .int
abbrev wsX50 : List Cond := u_ws RX5 TX5 16
theorem nmX5 : ∀ a, a < 16 → ∀ b, b < 16 → a ≠ b → (TX5 a).2.1 ≠ (TX5 b).2.1 := by decide +kernel
theorem tyX5_ok : ∀ k, k < 16 → parseFieldDescriptor (TX5 k).2.2.1 = some (tyX5 k) := by decide +kernel
abbrev cX5_init : ByteArray := prog_7_method_1_code
def yX5_init : MethodName := ⟨RX5, "<init>", "()V"⟩
abbrev cX5_thrown : ByteArray := prog_7_method_2_code
def yX5_thrown : MethodName := ⟨RX5, "thrown", "()I"⟩
abbrev cX5_fails : ByteArray := prog_7_method_3_code
def yX5_fails : MethodName := ⟨RX5, "fails", "(I)Z"⟩
abbrev cX5_tells : ByteArray := prog_7_method_4_code
def yX5_tells : MethodName := ⟨RX5, "tells", "(I)I"⟩
abbrev cX5_isPoint : ByteArray := prog_7_method_5_code
def yX5_isPoint : MethodName := ⟨RX5, "isPoint", "(II)Z"⟩
abbrev cX5_isArea : ByteArray := prog_7_method_6_code
def yX5_isArea : MethodName := ⟨RX5, "isArea", "(IIII)Z"⟩
abbrev cX5_is : ByteArray := prog_7_method_7_code
def yX5_is : MethodName := ⟨RX5, "is", "(I)Z"⟩
abbrev cX5_keyAt : ByteArray := prog_7_method_8_code
def yX5_keyAt : MethodName := ⟨RX5, "keyAt", "(II)I"⟩
abbrev cX5_many : ByteArray := prog_7_method_9_code
def yX5_many : MethodName := ⟨RX5, "many", "(II)I"⟩
abbrev cX5_ahead : ByteArray := prog_7_method_10_code
def yX5_ahead : MethodName := ⟨RX5, "ahead", "(II)I"⟩
abbrev cX5_above : ByteArray := prog_7_method_11_code
def yX5_above : MethodName := ⟨RX5, "above", "(II)I"⟩
abbrev cX5_partner : ByteArray := prog_7_method_12_code
def yX5_partner : MethodName := ⟨RX5, "partner", "(II)I"⟩
abbrev cX5_enters : ByteArray := prog_7_method_13_code
def yX5_enters : MethodName := ⟨RX5, "enters", "(III)V"⟩
abbrev cX5_goes : ByteArray := prog_7_method_14_code
def yX5_goes : MethodName := ⟨RX5, "goes", "(II)V"⟩
abbrev cX5_shares : ByteArray := prog_7_method_15_code
def yX5_shares : MethodName := ⟨RX5, "shares", "(II)V"⟩
abbrev cX5_grows : ByteArray := prog_7_method_16_code
def yX5_grows : MethodName := ⟨RX5, "grows", "(II)V"⟩
abbrev cX5_shrinks : ByteArray := prog_7_method_17_code
def yX5_shrinks : MethodName := ⟨RX5, "shrinks", "(I)V"⟩
abbrev cX5_add : ByteArray := prog_7_method_18_code
def yX5_add : MethodName := ⟨RX5, "add", "(IIII)I"⟩
abbrev cX5_leafFor : ByteArray := prog_7_method_19_code
def yX5_leafFor : MethodName := ⟨RX5, "leafFor", "(I)I"⟩
abbrev cX5_placeOf : ByteArray := prog_7_method_20_code
def yX5_placeOf : MethodName := ⟨RX5, "placeOf", "(I)I"⟩
abbrev cX5_remove : ByteArray := prog_7_method_21_code
def yX5_remove : MethodName := ⟨RX5, "remove", "(I)I"⟩
abbrev cX5_pack : ByteArray := prog_7_method_22_code
def yX5_pack : MethodName := ⟨RX5, "pack", "()I"⟩
abbrev cX5_boxes : ByteArray := prog_7_method_23_code
def yX5_boxes : MethodName := ⟨RX5, "boxes", "()I"⟩
abbrev cX5_key : ByteArray := prog_7_method_24_code
def yX5_key : MethodName := ⟨RX5, "key", "(II)I"⟩
abbrev cX5_keyOf : ByteArray := prog_7_method_25_code
def yX5_keyOf : MethodName := ⟨RX5, "keyOf", "(I)I"⟩
abbrev cX5_isSide : ByteArray := prog_7_method_26_code
def yX5_isSide : MethodName := ⟨RX5, "isSide", "(I)Z"⟩
abbrev cX5_sideOf : ByteArray := prog_7_method_27_code
def yX5_sideOf : MethodName := ⟨RX5, "sideOf", "(II)I"⟩
abbrev cX5_levels : ByteArray := prog_7_method_28_code
def yX5_levels : MethodName := ⟨RX5, "levels", "()I"⟩
abbrev cX5_isLevel : ByteArray := prog_7_method_29_code
def yX5_isLevel : MethodName := ⟨RX5, "isLevel", "(I)Z"⟩
abbrev cX5_nodes : ByteArray := prog_7_method_30_code
def yX5_nodes : MethodName := ⟨RX5, "nodes", "(I)I"⟩
abbrev cX5_isNode : ByteArray := prog_7_method_31_code
def yX5_isNode : MethodName := ⟨RX5, "isNode", "(II)Z"⟩
abbrev cX5_entries : ByteArray := prog_7_method_32_code
def yX5_entries : MethodName := ⟨RX5, "entries", "(II)I"⟩
abbrev cX5_covers : ByteArray := prog_7_method_33_code
def yX5_covers : MethodName := ⟨RX5, "covers", "(II)V"⟩
abbrev cX5_cover : ByteArray := prog_7_method_34_code
def yX5_cover : MethodName := ⟨RX5, "cover", "(III)I"⟩
abbrev cX5_leafOf : ByteArray := prog_7_method_35_code
def yX5_leafOf : MethodName := ⟨RX5, "leafOf", "(I)I"⟩
abbrev cX5_boxAt : ByteArray := prog_7_method_36_code
def yX5_boxAt : MethodName := ⟨RX5, "boxAt", "(I)I"⟩
abbrev cX5_tightness : ByteArray := prog_7_method_37_code
def yX5_tightness : MethodName := ⟨RX5, "tightness", "()F"⟩
abbrev cX5_doesMeet : ByteArray := prog_7_method_38_code
def yX5_doesMeet : MethodName := ⟨RX5, "doesMeet", "(IIIII)Z"⟩
abbrev cX5_met : ByteArray := prog_7_method_39_code
def yX5_met : MethodName := ⟨RX5, "met", "(IIII)I"⟩
abbrev cX5_count : ByteArray := prog_7_method_40_code
def yX5_count : MethodName := ⟨RX5, "count", "(IIII)I"⟩
abbrev cX5_found : ByteArray := prog_7_method_41_code
def yX5_found : MethodName := ⟨RX5, "found", "(IIIII)I"⟩
abbrev cX5_visits : ByteArray := prog_7_method_42_code
def yX5_visits : MethodName := ⟨RX5, "visits", "(IIII)I"⟩
abbrev cX5_far : ByteArray := prog_7_method_43_code
def yX5_far : MethodName := ⟨RX5, "far", "(III)I"⟩
abbrev cX5_nearer : ByteArray := prog_7_method_44_code
def yX5_nearer : MethodName := ⟨RX5, "nearer", "(III)I"⟩
abbrev cX5_nearest : ByteArray := prog_7_method_45_code
def yX5_nearest : MethodName := ⟨RX5, "nearest", "(III)I"⟩
abbrev cX5_distance : ByteArray := prog_7_method_46_code
def yX5_distance : MethodName := ⟨RX5, "distance", "(III)I"⟩
abbrev cX5_arePair : ByteArray := prog_7_method_47_code
def yX5_arePair : MethodName := ⟨RX5, "arePair", "(II)Z"⟩
abbrev cX5_goesThrough : ByteArray := prog_7_method_48_code
def yX5_goesThrough : MethodName := ⟨RX5, "goesThrough", "(I)I"⟩
abbrev cX5_pairs : ByteArray := prog_7_method_49_code
def yX5_pairs : MethodName := ⟨RX5, "pairs", "()I"⟩
abbrev cX5_pair : ByteArray := prog_7_method_50_code
def yX5_pair : MethodName := ⟨RX5, "pair", "(I)I"⟩
def RJ9 : String := "java/lang/Math"
def TJ9 : u_T := fun k => match k with
  | _ => ("", "", "", false)
def tyJ9 : Nat → FieldType := fun k => match k with
  | _ => .int
abbrev wsJ90 : List Cond := u_ws RJ9 TJ9 0
theorem nmJ9 : ∀ a, a < 0 → ∀ b, b < 0 → a ≠ b → (TJ9 a).2.1 ≠ (TJ9 b).2.1 := by decide +kernel
theorem tyJ9_ok : ∀ k, k < 0 → parseFieldDescriptor (TJ9 k).2.2.1 = some (tyJ9 k) := by decide +kernel
abbrev cJ9_max_7cf53 : ByteArray := prog_12_method_65_code
def yJ9_max_7cf53 : MethodName := ⟨RJ9, "max", "(II)I"⟩
abbrev cJ9_min_7cf53 : ByteArray := prog_12_method_69_code
def yJ9_min_7cf53 : MethodName := ⟨RJ9, "min", "(II)I"⟩
def RJ0 : String := "java/lang/String"
def TJ0 : u_T := fun k => match k with
  | _ => ("", "", "", false)
def tyJ0 : Nat → FieldType := fun k => match k with
  | _ => .int
abbrev wsJ00 : List Cond := u_ws RJ0 TJ0 0
theorem nmJ0 : ∀ a, a < 0 → ∀ b, b < 0 → a ≠ b → (TJ0 a).2.1 ≠ (TJ0 b).2.1 := by decide +kernel
theorem tyJ0_ok : ∀ k, k < 0 → parseFieldDescriptor (TJ0 k).2.2.1 = some (tyJ0 k) := by decide +kernel
def RL : String := "HilbertHutchLaw"
abbrev cL_add : ByteArray := method_3_code
def yL_add : MethodName := ⟨RL, "add", "(LHilbertHutch;IIII[J)I"⟩
abbrev cL_remove : ByteArray := method_4_code
def yL_remove : MethodName := ⟨RL, "remove", "(LHilbertHutch;I[J)I"⟩
abbrev cL_key : ByteArray := method_5_code
def yL_key : MethodName := ⟨RL, "key", "(LHilbertHutch;II[J)I"⟩
abbrev cL_keyOf : ByteArray := method_6_code
def yL_keyOf : MethodName := ⟨RL, "keyOf", "(LHilbertHutch;I[J)I"⟩
abbrev cL_sideOf : ByteArray := method_7_code
def yL_sideOf : MethodName := ⟨RL, "sideOf", "(LHilbertHutch;II[J)I"⟩
abbrev cL_nodes : ByteArray := method_8_code
def yL_nodes : MethodName := ⟨RL, "nodes", "(LHilbertHutch;I[J)I"⟩
abbrev cL_entries : ByteArray := method_9_code
def yL_entries : MethodName := ⟨RL, "entries", "(LHilbertHutch;II[J)I"⟩
abbrev cL_cover : ByteArray := method_10_code
def yL_cover : MethodName := ⟨RL, "cover", "(LHilbertHutch;III[J)I"⟩
abbrev cL_leafOf : ByteArray := method_11_code
def yL_leafOf : MethodName := ⟨RL, "leafOf", "(LHilbertHutch;I[J)I"⟩
abbrev cL_boxAt : ByteArray := method_12_code
def yL_boxAt : MethodName := ⟨RL, "boxAt", "(LHilbertHutch;I[J)I"⟩
abbrev cL_tightness : ByteArray := method_13_code
def yL_tightness : MethodName := ⟨RL, "tightness", "(LHilbertHutch;[D)I"⟩
abbrev cL_count : ByteArray := method_14_code
def yL_count : MethodName := ⟨RL, "count", "(LHilbertHutch;IIII[J)I"⟩
abbrev cL_found : ByteArray := method_15_code
def yL_found : MethodName := ⟨RL, "found", "(LHilbertHutch;IIIII[J)I"⟩
abbrev cL_visits : ByteArray := method_16_code
def yL_visits : MethodName := ⟨RL, "visits", "(LHilbertHutch;IIII[J)I"⟩
abbrev cL_nearest : ByteArray := method_17_code
def yL_nearest : MethodName := ⟨RL, "nearest", "(LHilbertHutch;III[J)I"⟩
abbrev cL_distance : ByteArray := method_18_code
def yL_distance : MethodName := ⟨RL, "distance", "(LHilbertHutch;III[J)I"⟩
abbrev cL_pair : ByteArray := method_19_code
def yL_pair : MethodName := ⟨RL, "pair", "(LHilbertHutch;I[J)I"⟩
abbrev cL_law : ByteArray := code
def yL_law : MethodName := ⟨RL, "law", "([I)Z"⟩
def wsX0_of : List Cond := .code yX0_of cX0_of 4 (some .int) :: ([])
def wsX0_side : List Cond := .code yX0_side cX0_side 2 (some .int) :: ([])
def wsX0_meet : List Cond := .code yX0_meet cX0_meet 2 (some .boolean) :: ([.methodLink RX0 9 yX0_side, .static yX0_side, .initialized RX0, .code yX0_side cX0_side 2 (some .int)])
def wsX0_around : List Cond := .code yX0_around cX0_around 2 (some .int) :: ([.methodLink RX0 15 Lib.Math.min.name, .static Lib.Math.min.name, .initialized "java/lang/Math", .code Lib.Math.min.name Lib.Math.min.code 2 (some .int), .methodLink RX0 20 Lib.Math.max.name, .static Lib.Math.max.name, .code Lib.Math.max.name Lib.Math.max.code 2 (some .int), .methodLink RX0 9 yX0_side, .static yX0_side, .initialized RX0, .code yX0_side cX0_side 2 (some .int), .methodLink RX0 23 yX0_of, .static yX0_of, .code yX0_of cX0_of 4 (some .int)])
def wsX0_points : List Cond := .code yX0_points cX0_points 1 (some .int) :: ([.methodLink RX0 9 yX0_side, .static yX0_side, .initialized RX0, .code yX0_side cX0_side 2 (some .int)])
def wsX0_gap : List Cond := .code yX0_gap cX0_gap 3 (some .int) :: ([.methodLink RX0 20 Lib.Math.max.name, .static Lib.Math.max.name, .initialized "java/lang/Math", .code Lib.Math.max.name Lib.Math.max.code 2 (some .int)])
def wsX0_distanceFrom : List Cond := .code yX0_distanceFrom cX0_distanceFrom 5 (some .int) :: ([.methodLink RX0 9 yX0_side, .static yX0_side, .initialized RX0, .code yX0_side cX0_side 2 (some .int), .methodLink RX0 27 yX0_gap, .static yX0_gap, .code yX0_gap cX0_gap 3 (some .int), .methodLink RX0 20 Lib.Math.max.name, .static Lib.Math.max.name, .initialized "java/lang/Math", .code Lib.Math.max.name Lib.Math.max.code 2 (some .int)])
def wsX1_quarter : List Cond := .code yX1_quarter cX1_quarter 2 (some .int) :: ([])
def wsX1_lengthTo : List Cond := .code yX1_lengthTo cX1_lengthTo 9 (some .int) :: ([.methodLink RX1 9 yX1_quarter, .static yX1_quarter, .initialized RX1, .code yX1_quarter cX1_quarter 2 (some .int)])
def wsX0_middleKey : List Cond := .code yX0_middleKey cX0_middleKey 3 (some .int) :: ([.methodLink RX0 9 yX0_side, .static yX0_side, .initialized RX0, .code yX0_side cX0_side 2 (some .int), .methodLink RX0 31 yX1_lengthTo, .static yX1_lengthTo, .initialized RX1, .code yX1_lengthTo cX1_lengthTo 9 (some .int), .methodLink RX1 9 yX1_quarter, .static yX1_quarter, .code yX1_quarter cX1_quarter 2 (some .int)])
def wsX2_init : List Cond := .code yX2_init cX2_init 1 none :: ([.methodLink RX2 3 objectInit, .instanceMethod objectInit, .code objectInit ⟨#[0xb1]⟩ 1 none, .arrayClass .int, .fieldLink RX2 9 "HilbertHutch$Stock" "areas" "[I", .fieldLink RX2 15 "HilbertHutch$Stock" "keys" "[I", .arrayClass .boolean, .fieldLink RX2 18 "HilbertHutch$Stock" "there" "[Z", .fieldLink RX2 22 "HilbertHutch$Stock" "order" "[I"] ++ wsX20)
def wsX2_size : List Cond := .code yX2_size cX2_size 1 (some .int) :: ([.fieldLink RX2 25 "HilbertHutch$Stock" "size" "I"] ++ wsX20)
def wsX2_added : List Cond := .code yX2_added cX2_added 1 (some .int) :: ([.fieldLink RX2 29 "HilbertHutch$Stock" "added" "I"] ++ wsX20)
def wsX2_hasRoom : List Cond := .code yX2_hasRoom cX2_hasRoom 1 (some .boolean) :: ([.fieldLink RX2 29 "HilbertHutch$Stock" "added" "I", .fieldLink RX2 25 "HilbertHutch$Stock" "size" "I"] ++ wsX20)
def wsX2_has : List Cond := .code yX2_has cX2_has 2 (some .boolean) :: ([.fieldLink RX2 18 "HilbertHutch$Stock" "there" "[Z"] ++ wsX20)
def wsX2_areaOf : List Cond := .code yX2_areaOf cX2_areaOf 2 (some .int) :: ([.fieldLink RX2 9 "HilbertHutch$Stock" "areas" "[I"] ++ wsX20)
def wsX2_keyFor : List Cond := .code yX2_keyFor cX2_keyFor 2 (some .int) :: ([.fieldLink RX2 15 "HilbertHutch$Stock" "keys" "[I"] ++ wsX20)
def wsX2_numberAt : List Cond := .code yX2_numberAt cX2_numberAt 2 (some .int) :: ([.fieldLink RX2 22 "HilbertHutch$Stock" "order" "[I", .fieldLink RX2 25 "HilbertHutch$Stock" "size" "I"] ++ wsX20)
def wsX2_areaAt : List Cond := .code yX2_areaAt cX2_areaAt 2 (some .int) :: ([.methodLink RX2 32 yX2_numberAt, .instanceMethod yX2_numberAt, .selects RX2 yX2_numberAt yX2_numberAt, .initialized RX2, .code yX2_numberAt cX2_numberAt 2 (some .int), .fieldLink RX2 22 "HilbertHutch$Stock" "order" "[I", .fieldLink RX2 25 "HilbertHutch$Stock" "size" "I", .methodLink RX2 36 yX2_areaOf, .instanceMethod yX2_areaOf, .selects RX2 yX2_areaOf yX2_areaOf, .code yX2_areaOf cX2_areaOf 2 (some .int), .fieldLink RX2 9 "HilbertHutch$Stock" "areas" "[I"] ++ wsX20)
def wsX2_placeOf : List Cond := .code yX2_placeOf cX2_placeOf 3 (some .int) :: ([.fieldLink RX2 25 "HilbertHutch$Stock" "size" "I", .methodLink RX2 32 yX2_numberAt, .instanceMethod yX2_numberAt, .selects RX2 yX2_numberAt yX2_numberAt, .initialized RX2, .code yX2_numberAt cX2_numberAt 2 (some .int), .fieldLink RX2 22 "HilbertHutch$Stock" "order" "[I"] ++ wsX20)
def wsX2_haveMet : List Cond := .code yX2_haveMet cX2_haveMet 3 (some .boolean) :: ([.methodLink RX2 39 yX2_has, .instanceMethod yX2_has, .selects RX2 yX2_has yX2_has, .initialized RX2, .code yX2_has cX2_has 2 (some .boolean), .fieldLink RX2 18 "HilbertHutch$Stock" "there" "[Z", .methodLink RX2 36 yX2_areaOf, .instanceMethod yX2_areaOf, .selects RX2 yX2_areaOf yX2_areaOf, .code yX2_areaOf cX2_areaOf 2 (some .int), .fieldLink RX2 9 "HilbertHutch$Stock" "areas" "[I", .methodLink RX2 43 yX0_meet, .static yX0_meet, .initialized RX0, .code yX0_meet cX0_meet 2 (some .boolean), .methodLink RX0 9 yX0_side, .static yX0_side, .code yX0_side cX0_side 2 (some .int)] ++ wsX20)
def wsX2_setOrder : List Cond := .code yX2_setOrder cX2_setOrder 3 none :: ([.fieldLink RX2 22 "HilbertHutch$Stock" "order" "[I"] ++ wsX20)
def wsX2_putInOrder : List Cond := .code yX2_putInOrder cX2_putInOrder 4 none :: ([.fieldLink RX2 25 "HilbertHutch$Stock" "size" "I", .methodLink RX2 32 yX2_numberAt, .instanceMethod yX2_numberAt, .selects RX2 yX2_numberAt yX2_numberAt, .initialized RX2, .code yX2_numberAt cX2_numberAt 2 (some .int), .fieldLink RX2 22 "HilbertHutch$Stock" "order" "[I", .methodLink RX2 56 yX2_keyFor, .instanceMethod yX2_keyFor, .selects RX2 yX2_keyFor yX2_keyFor, .code yX2_keyFor cX2_keyFor 2 (some .int), .fieldLink RX2 15 "HilbertHutch$Stock" "keys" "[I", .methodLink RX2 59 yX2_setOrder, .instanceMethod yX2_setOrder, .selects RX2 yX2_setOrder yX2_setOrder, .code yX2_setOrder cX2_setOrder 3 none] ++ wsX20)
def wsX2_putIn_r1 : List Cond := [Cond.fieldLink RX2 29 "HilbertHutch$Stock" "added" "I", Cond.fieldLink RX2 9 "HilbertHutch$Stock" "areas" "[I", Cond.fieldLink RX2 15 "HilbertHutch$Stock" "keys" "[I", Cond.fieldLink RX2 18 "HilbertHutch$Stock" "there" "[Z", Cond.methodLink RX2 49 yX0_middleKey, Cond.static yX0_middleKey, Cond.initialized RX0, Cond.code yX0_middleKey cX0_middleKey 3 (some .int), Cond.methodLink RX0 9 yX0_side, Cond.static yX0_side, Cond.code yX0_side cX0_side 2 (some .int), Cond.methodLink RX0 31 yX1_lengthTo, Cond.static yX1_lengthTo, Cond.initialized RX1, Cond.code yX1_lengthTo cX1_lengthTo 9 (some .int), Cond.methodLink RX1 9 yX1_quarter, Cond.static yX1_quarter, Cond.code yX1_quarter cX1_quarter 2 (some .int), Cond.methodLink RX2 52 yX2_putInOrder, Cond.instanceMethod yX2_putInOrder, Cond.selects RX2 yX2_putInOrder yX2_putInOrder, Cond.initialized RX2, Cond.code yX2_putInOrder cX2_putInOrder 4 none, Cond.fieldLink RX2 25 "HilbertHutch$Stock" "size" "I"]
def wsX2_putIn_r2 : List Cond := [Cond.methodLink RX2 32 yX2_numberAt, Cond.instanceMethod yX2_numberAt, Cond.selects RX2 yX2_numberAt yX2_numberAt, Cond.code yX2_numberAt cX2_numberAt 2 (some .int), Cond.fieldLink RX2 22 "HilbertHutch$Stock" "order" "[I", Cond.methodLink RX2 56 yX2_keyFor, Cond.instanceMethod yX2_keyFor, Cond.selects RX2 yX2_keyFor yX2_keyFor, Cond.code yX2_keyFor cX2_keyFor 2 (some .int), Cond.methodLink RX2 59 yX2_setOrder, Cond.instanceMethod yX2_setOrder, Cond.selects RX2 yX2_setOrder yX2_setOrder, Cond.code yX2_setOrder cX2_setOrder 3 none]
def wsX2_putIn : List Cond := .code yX2_putIn cX2_putIn 3 (some .int) :: ((wsX2_putIn_r1 ++ wsX2_putIn_r2) ++ wsX20)
def wsX2_takeOut : List Cond := .code yX2_takeOut cX2_takeOut 4 none :: ([.fieldLink RX2 18 "HilbertHutch$Stock" "there" "[Z", .fieldLink RX2 25 "HilbertHutch$Stock" "size" "I", .methodLink RX2 63 yX2_placeOf, .instanceMethod yX2_placeOf, .selects RX2 yX2_placeOf yX2_placeOf, .initialized RX2, .code yX2_placeOf cX2_placeOf 3 (some .int), .methodLink RX2 32 yX2_numberAt, .instanceMethod yX2_numberAt, .selects RX2 yX2_numberAt yX2_numberAt, .code yX2_numberAt cX2_numberAt 2 (some .int), .fieldLink RX2 22 "HilbertHutch$Stock" "order" "[I", .methodLink RX2 39 yX2_has, .instanceMethod yX2_has, .selects RX2 yX2_has yX2_has, .code yX2_has cX2_has 2 (some .boolean), .methodLink RX2 59 yX2_setOrder, .instanceMethod yX2_setOrder, .selects RX2 yX2_setOrder yX2_setOrder, .code yX2_setOrder cX2_setOrder 3 none] ++ wsX20)
def wsX3_init : List Cond := .code yX3_init cX3_init 1 none :: ([.methodLink RX3 3 objectInit, .instanceMethod objectInit, .code objectInit ⟨#[0xb1]⟩ 1 none, .arrayClass .int, .fieldLink RX3 11 "HilbertHutch$Tree" "loads" "[I", .fieldLink RX3 15 "HilbertHutch$Tree" "widths" "[I"] ++ wsX30)
def wsX3_height : List Cond := .code yX3_height cX3_height 1 (some .int) :: ([.fieldLink RX3 18 "HilbertHutch$Tree" "height" "I"] ++ wsX30)
def wsX3_hasLevel : List Cond := .code yX3_hasLevel cX3_hasLevel 2 (some .boolean) :: ([.fieldLink RX3 18 "HilbertHutch$Tree" "height" "I"] ++ wsX30)
def wsX3_width : List Cond := .code yX3_width cX3_width 2 (some .int) :: ([.fieldLink RX3 18 "HilbertHutch$Tree" "height" "I", .fieldLink RX3 15 "HilbertHutch$Tree" "widths" "[I"] ++ wsX30)
def wsX3_hasNode : List Cond := .code yX3_hasNode cX3_hasNode 3 (some .boolean) :: ([.fieldLink RX3 18 "HilbertHutch$Tree" "height" "I", .fieldLink RX3 15 "HilbertHutch$Tree" "widths" "[I"] ++ wsX30)
def wsX3_load : List Cond := .code yX3_load cX3_load 4 (some .int) :: ([.fieldLink RX3 11 "HilbertHutch$Tree" "loads" "[I", .methodLink RX3 22 yX3_hasNode, .instanceMethod yX3_hasNode, .selects RX3 yX3_hasNode yX3_hasNode, .initialized RX3, .code yX3_hasNode cX3_hasNode 3 (some .boolean), .fieldLink RX3 18 "HilbertHutch$Tree" "height" "I", .fieldLink RX3 15 "HilbertHutch$Tree" "widths" "[I"] ++ wsX30)
def wsX3_setLoad : List Cond := .code yX3_setLoad cX3_setLoad 5 none :: ([.fieldLink RX3 11 "HilbertHutch$Tree" "loads" "[I", .methodLink RX3 22 yX3_hasNode, .instanceMethod yX3_hasNode, .selects RX3 yX3_hasNode yX3_hasNode, .initialized RX3, .code yX3_hasNode cX3_hasNode 3 (some .boolean), .fieldLink RX3 18 "HilbertHutch$Tree" "height" "I", .fieldLink RX3 15 "HilbertHutch$Tree" "widths" "[I"] ++ wsX30)
def wsX3_setWidth : List Cond := .code yX3_setWidth cX3_setWidth 3 none :: ([.fieldLink RX3 15 "HilbertHutch$Tree" "widths" "[I"] ++ wsX30)
def wsX3_entriesBefore : List Cond := .code yX3_entriesBefore cX3_entriesBefore 5 (some .int) :: ([.methodLink RX3 26 yX3_width, .instanceMethod yX3_width, .selects RX3 yX3_width yX3_width, .initialized RX3, .code yX3_width cX3_width 2 (some .int), .fieldLink RX3 18 "HilbertHutch$Tree" "height" "I", .fieldLink RX3 15 "HilbertHutch$Tree" "widths" "[I", .methodLink RX3 30 yX3_load, .instanceMethod yX3_load, .selects RX3 yX3_load yX3_load, .code yX3_load cX3_load 4 (some .int), .fieldLink RX3 11 "HilbertHutch$Tree" "loads" "[I", .methodLink RX3 22 yX3_hasNode, .instanceMethod yX3_hasNode, .selects RX3 yX3_hasNode yX3_hasNode, .code yX3_hasNode cX3_hasNode 3 (some .boolean)] ++ wsX30)
def wsX3_boxesBefore : List Cond := .code yX3_boxesBefore cX3_boxesBefore 5 (some .int) :: ([.methodLink RX3 34 yX3_entriesBefore, .instanceMethod yX3_entriesBefore, .selects RX3 yX3_entriesBefore yX3_entriesBefore, .initialized RX3, .code yX3_entriesBefore cX3_entriesBefore 5 (some .int), .methodLink RX3 26 yX3_width, .instanceMethod yX3_width, .selects RX3 yX3_width yX3_width, .code yX3_width cX3_width 2 (some .int), .fieldLink RX3 18 "HilbertHutch$Tree" "height" "I", .fieldLink RX3 15 "HilbertHutch$Tree" "widths" "[I", .methodLink RX3 30 yX3_load, .instanceMethod yX3_load, .selects RX3 yX3_load yX3_load, .code yX3_load cX3_load 4 (some .int), .fieldLink RX3 11 "HilbertHutch$Tree" "loads" "[I", .methodLink RX3 22 yX3_hasNode, .instanceMethod yX3_hasNode, .selects RX3 yX3_hasNode yX3_hasNode, .code yX3_hasNode cX3_hasNode 3 (some .boolean)] ++ wsX30)
def wsX3_holder : List Cond := .code yX3_holder cX3_holder 5 (some .int) :: ([.methodLink RX3 26 yX3_width, .instanceMethod yX3_width, .selects RX3 yX3_width yX3_width, .initialized RX3, .code yX3_width cX3_width 2 (some .int), .fieldLink RX3 18 "HilbertHutch$Tree" "height" "I", .fieldLink RX3 15 "HilbertHutch$Tree" "widths" "[I", .methodLink RX3 30 yX3_load, .instanceMethod yX3_load, .selects RX3 yX3_load yX3_load, .code yX3_load cX3_load 4 (some .int), .fieldLink RX3 11 "HilbertHutch$Tree" "loads" "[I", .methodLink RX3 22 yX3_hasNode, .instanceMethod yX3_hasNode, .selects RX3 yX3_hasNode yX3_hasNode, .code yX3_hasNode cX3_hasNode 3 (some .boolean)] ++ wsX30)
def wsX3_parent : List Cond := .code yX3_parent cX3_parent 3 (some .int) :: ([.methodLink RX3 37 yX3_hasLevel, .instanceMethod yX3_hasLevel, .selects RX3 yX3_hasLevel yX3_hasLevel, .initialized RX3, .code yX3_hasLevel cX3_hasLevel 2 (some .boolean), .fieldLink RX3 18 "HilbertHutch$Tree" "height" "I", .methodLink RX3 41 yX3_holder, .instanceMethod yX3_holder, .selects RX3 yX3_holder yX3_holder, .code yX3_holder cX3_holder 5 (some .int), .methodLink RX3 26 yX3_width, .instanceMethod yX3_width, .selects RX3 yX3_width yX3_width, .code yX3_width cX3_width 2 (some .int), .fieldLink RX3 15 "HilbertHutch$Tree" "widths" "[I", .methodLink RX3 30 yX3_load, .instanceMethod yX3_load, .selects RX3 yX3_load yX3_load, .code yX3_load cX3_load 4 (some .int), .fieldLink RX3 11 "HilbertHutch$Tree" "loads" "[I", .methodLink RX3 22 yX3_hasNode, .instanceMethod yX3_hasNode, .selects RX3 yX3_hasNode yX3_hasNode, .code yX3_hasNode cX3_hasNode 3 (some .boolean)] ++ wsX30)
def wsX3_partner : List Cond := .code yX3_partner cX3_partner 6 (some .int) :: ([.methodLink RX3 34 yX3_entriesBefore, .instanceMethod yX3_entriesBefore, .selects RX3 yX3_entriesBefore yX3_entriesBefore, .initialized RX3, .code yX3_entriesBefore cX3_entriesBefore 5 (some .int), .methodLink RX3 26 yX3_width, .instanceMethod yX3_width, .selects RX3 yX3_width yX3_width, .code yX3_width cX3_width 2 (some .int), .fieldLink RX3 18 "HilbertHutch$Tree" "height" "I", .fieldLink RX3 15 "HilbertHutch$Tree" "widths" "[I", .methodLink RX3 30 yX3_load, .instanceMethod yX3_load, .selects RX3 yX3_load yX3_load, .code yX3_load cX3_load 4 (some .int), .fieldLink RX3 11 "HilbertHutch$Tree" "loads" "[I", .methodLink RX3 22 yX3_hasNode, .instanceMethod yX3_hasNode, .selects RX3 yX3_hasNode yX3_hasNode, .code yX3_hasNode cX3_hasNode 3 (some .boolean)] ++ wsX30)
def wsX3_addRoot : List Cond := .code yX3_addRoot cX3_addRoot 2 none :: ([.fieldLink RX3 18 "HilbertHutch$Tree" "height" "I", .methodLink RX3 63 yX3_setWidth, .instanceMethod yX3_setWidth, .selects RX3 yX3_setWidth yX3_setWidth, .initialized RX3, .code yX3_setWidth cX3_setWidth 3 none, .fieldLink RX3 15 "HilbertHutch$Tree" "widths" "[I", .methodLink RX3 48 yX3_setLoad, .instanceMethod yX3_setLoad, .selects RX3 yX3_setLoad yX3_setLoad, .code yX3_setLoad cX3_setLoad 5 none, .fieldLink RX3 11 "HilbertHutch$Tree" "loads" "[I", .methodLink RX3 22 yX3_hasNode, .instanceMethod yX3_hasNode, .selects RX3 yX3_hasNode yX3_hasNode, .code yX3_hasNode cX3_hasNode 3 (some .boolean)] ++ wsX30)
def wsX3_insertNode : List Cond := .code yX3_insertNode cX3_insertNode 6 none :: ([.methodLink RX3 26 yX3_width, .instanceMethod yX3_width, .selects RX3 yX3_width yX3_width, .initialized RX3, .code yX3_width cX3_width 2 (some .int), .fieldLink RX3 18 "HilbertHutch$Tree" "height" "I", .fieldLink RX3 15 "HilbertHutch$Tree" "widths" "[I", .methodLink RX3 63 yX3_setWidth, .instanceMethod yX3_setWidth, .selects RX3 yX3_setWidth yX3_setWidth, .code yX3_setWidth cX3_setWidth 3 none, .methodLink RX3 30 yX3_load, .instanceMethod yX3_load, .selects RX3 yX3_load yX3_load, .code yX3_load cX3_load 4 (some .int), .fieldLink RX3 11 "HilbertHutch$Tree" "loads" "[I", .methodLink RX3 22 yX3_hasNode, .instanceMethod yX3_hasNode, .selects RX3 yX3_hasNode yX3_hasNode, .code yX3_hasNode cX3_hasNode 3 (some .boolean), .methodLink RX3 48 yX3_setLoad, .instanceMethod yX3_setLoad, .selects RX3 yX3_setLoad yX3_setLoad, .code yX3_setLoad cX3_setLoad 5 none] ++ wsX30)
def wsX3_halve : List Cond := .code yX3_halve cX3_halve 4 none :: ([.methodLink RX3 30 yX3_load, .instanceMethod yX3_load, .selects RX3 yX3_load yX3_load, .initialized RX3, .code yX3_load cX3_load 4 (some .int), .fieldLink RX3 11 "HilbertHutch$Tree" "loads" "[I", .methodLink RX3 22 yX3_hasNode, .instanceMethod yX3_hasNode, .selects RX3 yX3_hasNode yX3_hasNode, .code yX3_hasNode cX3_hasNode 3 (some .boolean), .fieldLink RX3 18 "HilbertHutch$Tree" "height" "I", .fieldLink RX3 15 "HilbertHutch$Tree" "widths" "[I", .methodLink RX3 48 yX3_setLoad, .instanceMethod yX3_setLoad, .selects RX3 yX3_setLoad yX3_setLoad, .code yX3_setLoad cX3_setLoad 5 none] ++ wsX30)
def wsX3_relieve_r1 : List Cond := [Cond.methodLink RX3 73 Lib.Math.min.name, Cond.static Lib.Math.min.name, Cond.initialized "java/lang/Math", Cond.code Lib.Math.min.name Lib.Math.min.code 2 (some .int), Cond.methodLink RX3 66 yX3_partner, Cond.instanceMethod yX3_partner, Cond.selects RX3 yX3_partner yX3_partner, Cond.initialized RX3, Cond.code yX3_partner cX3_partner 6 (some .int), Cond.methodLink RX3 34 yX3_entriesBefore, Cond.instanceMethod yX3_entriesBefore, Cond.selects RX3 yX3_entriesBefore yX3_entriesBefore, Cond.code yX3_entriesBefore cX3_entriesBefore 5 (some .int), Cond.methodLink RX3 26 yX3_width, Cond.instanceMethod yX3_width, Cond.selects RX3 yX3_width yX3_width, Cond.code yX3_width cX3_width 2 (some .int), Cond.fieldLink RX3 18 "HilbertHutch$Tree" "height" "I", Cond.fieldLink RX3 15 "HilbertHutch$Tree" "widths" "[I", Cond.methodLink RX3 30 yX3_load, Cond.instanceMethod yX3_load, Cond.selects RX3 yX3_load yX3_load, Cond.code yX3_load cX3_load 4 (some .int), Cond.fieldLink RX3 11 "HilbertHutch$Tree" "loads" "[I"]
def wsX3_relieve_r2 : List Cond := [Cond.methodLink RX3 22 yX3_hasNode, Cond.instanceMethod yX3_hasNode, Cond.selects RX3 yX3_hasNode yX3_hasNode, Cond.code yX3_hasNode cX3_hasNode 3 (some .boolean), Cond.methodLink RX3 48 yX3_setLoad, Cond.instanceMethod yX3_setLoad, Cond.selects RX3 yX3_setLoad yX3_setLoad, Cond.code yX3_setLoad cX3_setLoad 5 none, Cond.methodLink RX3 70 yX3_insertNode, Cond.instanceMethod yX3_insertNode, Cond.selects RX3 yX3_insertNode yX3_insertNode, Cond.code yX3_insertNode cX3_insertNode 6 none, Cond.methodLink RX3 63 yX3_setWidth, Cond.instanceMethod yX3_setWidth, Cond.selects RX3 yX3_setWidth yX3_setWidth, Cond.code yX3_setWidth cX3_setWidth 3 none, Cond.methodLink RX3 78 yX3_halve, Cond.instanceMethod yX3_halve, Cond.selects RX3 yX3_halve yX3_halve, Cond.code yX3_halve cX3_halve 4 none]
def wsX3_relieve : List Cond := .code yX3_relieve cX3_relieve 6 (some .boolean) :: ((wsX3_relieve_r1 ++ wsX3_relieve_r2) ++ wsX30)
def wsX3_gainEntry : List Cond := .code yX3_gainEntry cX3_gainEntry 3 none :: ([.methodLink RX3 44 yX3_addRoot, .instanceMethod yX3_addRoot, .selects RX3 yX3_addRoot yX3_addRoot, .initialized RX3, .code yX3_addRoot cX3_addRoot 2 none, .fieldLink RX3 18 "HilbertHutch$Tree" "height" "I", .methodLink RX3 63 yX3_setWidth, .instanceMethod yX3_setWidth, .selects RX3 yX3_setWidth yX3_setWidth, .code yX3_setWidth cX3_setWidth 3 none, .fieldLink RX3 15 "HilbertHutch$Tree" "widths" "[I", .methodLink RX3 48 yX3_setLoad, .instanceMethod yX3_setLoad, .selects RX3 yX3_setLoad yX3_setLoad, .code yX3_setLoad cX3_setLoad 5 none, .fieldLink RX3 11 "HilbertHutch$Tree" "loads" "[I", .methodLink RX3 22 yX3_hasNode, .instanceMethod yX3_hasNode, .selects RX3 yX3_hasNode yX3_hasNode, .code yX3_hasNode cX3_hasNode 3 (some .boolean), .methodLink RX3 30 yX3_load, .instanceMethod yX3_load, .selects RX3 yX3_load yX3_load, .code yX3_load cX3_load 4 (some .int)] ++ wsX30)
def wsX3_grow_r1 : List Cond := [Cond.fieldLink RX3 18 "HilbertHutch$Tree" "height" "I", Cond.methodLink RX3 44 yX3_addRoot, Cond.instanceMethod yX3_addRoot, Cond.selects RX3 yX3_addRoot yX3_addRoot, Cond.initialized RX3, Cond.code yX3_addRoot cX3_addRoot 2 none, Cond.methodLink RX3 63 yX3_setWidth, Cond.instanceMethod yX3_setWidth, Cond.selects RX3 yX3_setWidth yX3_setWidth, Cond.code yX3_setWidth cX3_setWidth 3 none, Cond.fieldLink RX3 15 "HilbertHutch$Tree" "widths" "[I", Cond.methodLink RX3 48 yX3_setLoad, Cond.instanceMethod yX3_setLoad, Cond.selects RX3 yX3_setLoad yX3_setLoad, Cond.code yX3_setLoad cX3_setLoad 5 none, Cond.fieldLink RX3 11 "HilbertHutch$Tree" "loads" "[I", Cond.methodLink RX3 22 yX3_hasNode, Cond.instanceMethod yX3_hasNode, Cond.selects RX3 yX3_hasNode yX3_hasNode, Cond.code yX3_hasNode cX3_hasNode 3 (some .boolean), Cond.methodLink RX3 41 yX3_holder, Cond.instanceMethod yX3_holder, Cond.selects RX3 yX3_holder yX3_holder, Cond.code yX3_holder cX3_holder 5 (some .int)]
def wsX3_grow_r2 : List Cond := [Cond.methodLink RX3 26 yX3_width, Cond.instanceMethod yX3_width, Cond.selects RX3 yX3_width yX3_width, Cond.code yX3_width cX3_width 2 (some .int), Cond.methodLink RX3 30 yX3_load, Cond.instanceMethod yX3_load, Cond.selects RX3 yX3_load yX3_load, Cond.code yX3_load cX3_load 4 (some .int), Cond.methodLink RX3 52 yX3_parent, Cond.instanceMethod yX3_parent, Cond.selects RX3 yX3_parent yX3_parent, Cond.code yX3_parent cX3_parent 3 (some .int), Cond.methodLink RX3 37 yX3_hasLevel, Cond.instanceMethod yX3_hasLevel, Cond.selects RX3 yX3_hasLevel yX3_hasLevel, Cond.code yX3_hasLevel cX3_hasLevel 2 (some .boolean), Cond.methodLink RX3 55 yX3_relieve, Cond.instanceMethod yX3_relieve, Cond.selects RX3 yX3_relieve yX3_relieve, Cond.code yX3_relieve cX3_relieve 6 (some .boolean), Cond.methodLink RX3 73 Lib.Math.min.name, Cond.static Lib.Math.min.name, Cond.initialized "java/lang/Math", Cond.code Lib.Math.min.name Lib.Math.min.code 2 (some .int)]
def wsX3_grow_r3 : List Cond := [Cond.methodLink RX3 66 yX3_partner, Cond.instanceMethod yX3_partner, Cond.selects RX3 yX3_partner yX3_partner, Cond.code yX3_partner cX3_partner 6 (some .int), Cond.methodLink RX3 34 yX3_entriesBefore, Cond.instanceMethod yX3_entriesBefore, Cond.selects RX3 yX3_entriesBefore yX3_entriesBefore, Cond.code yX3_entriesBefore cX3_entriesBefore 5 (some .int), Cond.methodLink RX3 70 yX3_insertNode, Cond.instanceMethod yX3_insertNode, Cond.selects RX3 yX3_insertNode yX3_insertNode, Cond.code yX3_insertNode cX3_insertNode 6 none, Cond.methodLink RX3 78 yX3_halve, Cond.instanceMethod yX3_halve, Cond.selects RX3 yX3_halve yX3_halve, Cond.code yX3_halve cX3_halve 4 none, Cond.methodLink RX3 59 yX3_gainEntry, Cond.instanceMethod yX3_gainEntry, Cond.selects RX3 yX3_gainEntry yX3_gainEntry, Cond.code yX3_gainEntry cX3_gainEntry 3 none]
def wsX3_grow : List Cond := .code yX3_grow cX3_grow 5 none :: ((wsX3_grow_r1 ++ (wsX3_grow_r2 ++ wsX3_grow_r3)) ++ wsX30)
def wsX3_deleteNode_r1 : List Cond := [Cond.methodLink RX3 90 Lib.Math.max.name, Cond.static Lib.Math.max.name, Cond.initialized "java/lang/Math", Cond.code Lib.Math.max.name Lib.Math.max.code 2 (some .int), Cond.methodLink RX3 26 yX3_width, Cond.instanceMethod yX3_width, Cond.selects RX3 yX3_width yX3_width, Cond.initialized RX3, Cond.code yX3_width cX3_width 2 (some .int), Cond.fieldLink RX3 18 "HilbertHutch$Tree" "height" "I", Cond.fieldLink RX3 15 "HilbertHutch$Tree" "widths" "[I", Cond.methodLink RX3 30 yX3_load, Cond.instanceMethod yX3_load, Cond.selects RX3 yX3_load yX3_load, Cond.code yX3_load cX3_load 4 (some .int), Cond.fieldLink RX3 11 "HilbertHutch$Tree" "loads" "[I", Cond.methodLink RX3 22 yX3_hasNode, Cond.instanceMethod yX3_hasNode, Cond.selects RX3 yX3_hasNode yX3_hasNode, Cond.code yX3_hasNode cX3_hasNode 3 (some .boolean), Cond.methodLink RX3 48 yX3_setLoad, Cond.instanceMethod yX3_setLoad, Cond.selects RX3 yX3_setLoad yX3_setLoad, Cond.code yX3_setLoad cX3_setLoad 5 none]
def wsX3_deleteNode_r2 : List Cond := [Cond.methodLink RX3 63 yX3_setWidth, Cond.instanceMethod yX3_setWidth, Cond.selects RX3 yX3_setWidth yX3_setWidth, Cond.code yX3_setWidth cX3_setWidth 3 none]
def wsX3_deleteNode : List Cond := .code yX3_deleteNode cX3_deleteNode 5 none :: ((wsX3_deleteNode_r1 ++ wsX3_deleteNode_r2) ++ wsX30)
def wsX3_unite_r1 : List Cond := [Cond.methodLink RX3 73 Lib.Math.min.name, Cond.static Lib.Math.min.name, Cond.initialized "java/lang/Math", Cond.code Lib.Math.min.name Lib.Math.min.code 2 (some .int), Cond.methodLink RX3 66 yX3_partner, Cond.instanceMethod yX3_partner, Cond.selects RX3 yX3_partner yX3_partner, Cond.initialized RX3, Cond.code yX3_partner cX3_partner 6 (some .int), Cond.methodLink RX3 34 yX3_entriesBefore, Cond.instanceMethod yX3_entriesBefore, Cond.selects RX3 yX3_entriesBefore yX3_entriesBefore, Cond.code yX3_entriesBefore cX3_entriesBefore 5 (some .int), Cond.methodLink RX3 26 yX3_width, Cond.instanceMethod yX3_width, Cond.selects RX3 yX3_width yX3_width, Cond.code yX3_width cX3_width 2 (some .int), Cond.fieldLink RX3 18 "HilbertHutch$Tree" "height" "I", Cond.fieldLink RX3 15 "HilbertHutch$Tree" "widths" "[I", Cond.methodLink RX3 30 yX3_load, Cond.instanceMethod yX3_load, Cond.selects RX3 yX3_load yX3_load, Cond.code yX3_load cX3_load 4 (some .int), Cond.fieldLink RX3 11 "HilbertHutch$Tree" "loads" "[I"]
def wsX3_unite_r2 : List Cond := [Cond.methodLink RX3 22 yX3_hasNode, Cond.instanceMethod yX3_hasNode, Cond.selects RX3 yX3_hasNode yX3_hasNode, Cond.code yX3_hasNode cX3_hasNode 3 (some .boolean), Cond.methodLink RX3 87 yX3_deleteNode, Cond.instanceMethod yX3_deleteNode, Cond.selects RX3 yX3_deleteNode yX3_deleteNode, Cond.code yX3_deleteNode cX3_deleteNode 5 none, Cond.methodLink RX3 90 Lib.Math.max.name, Cond.static Lib.Math.max.name, Cond.code Lib.Math.max.name Lib.Math.max.code 2 (some .int), Cond.methodLink RX3 48 yX3_setLoad, Cond.instanceMethod yX3_setLoad, Cond.selects RX3 yX3_setLoad yX3_setLoad, Cond.code yX3_setLoad cX3_setLoad 5 none, Cond.methodLink RX3 63 yX3_setWidth, Cond.instanceMethod yX3_setWidth, Cond.selects RX3 yX3_setWidth yX3_setWidth, Cond.code yX3_setWidth cX3_setWidth 3 none, Cond.methodLink RX3 78 yX3_halve, Cond.instanceMethod yX3_halve, Cond.selects RX3 yX3_halve yX3_halve, Cond.code yX3_halve cX3_halve 4 none]
def wsX3_unite : List Cond := .code yX3_unite cX3_unite 7 (some .boolean) :: ((wsX3_unite_r1 ++ wsX3_unite_r2) ++ wsX30)
def wsX3_lowerRoot : List Cond := .code yX3_lowerRoot cX3_lowerRoot 2 none :: ([.fieldLink RX3 18 "HilbertHutch$Tree" "height" "I", .methodLink RX3 30 yX3_load, .instanceMethod yX3_load, .selects RX3 yX3_load yX3_load, .initialized RX3, .code yX3_load cX3_load 4 (some .int), .fieldLink RX3 11 "HilbertHutch$Tree" "loads" "[I", .methodLink RX3 22 yX3_hasNode, .instanceMethod yX3_hasNode, .selects RX3 yX3_hasNode yX3_hasNode, .code yX3_hasNode cX3_hasNode 3 (some .boolean), .fieldLink RX3 15 "HilbertHutch$Tree" "widths" "[I"] ++ wsX30)
def wsX3_shrink_r1 : List Cond := [Cond.fieldLink RX3 18 "HilbertHutch$Tree" "height" "I", Cond.methodLink RX3 41 yX3_holder, Cond.instanceMethod yX3_holder, Cond.selects RX3 yX3_holder yX3_holder, Cond.initialized RX3, Cond.code yX3_holder cX3_holder 5 (some .int), Cond.methodLink RX3 26 yX3_width, Cond.instanceMethod yX3_width, Cond.selects RX3 yX3_width yX3_width, Cond.code yX3_width cX3_width 2 (some .int), Cond.fieldLink RX3 15 "HilbertHutch$Tree" "widths" "[I", Cond.methodLink RX3 30 yX3_load, Cond.instanceMethod yX3_load, Cond.selects RX3 yX3_load yX3_load, Cond.code yX3_load cX3_load 4 (some .int), Cond.fieldLink RX3 11 "HilbertHutch$Tree" "loads" "[I", Cond.methodLink RX3 22 yX3_hasNode, Cond.instanceMethod yX3_hasNode, Cond.selects RX3 yX3_hasNode yX3_hasNode, Cond.code yX3_hasNode cX3_hasNode 3 (some .boolean), Cond.methodLink RX3 48 yX3_setLoad, Cond.instanceMethod yX3_setLoad, Cond.selects RX3 yX3_setLoad yX3_setLoad, Cond.code yX3_setLoad cX3_setLoad 5 none]
def wsX3_shrink_r2 : List Cond := [Cond.methodLink RX3 52 yX3_parent, Cond.instanceMethod yX3_parent, Cond.selects RX3 yX3_parent yX3_parent, Cond.code yX3_parent cX3_parent 3 (some .int), Cond.methodLink RX3 37 yX3_hasLevel, Cond.instanceMethod yX3_hasLevel, Cond.selects RX3 yX3_hasLevel yX3_hasLevel, Cond.code yX3_hasLevel cX3_hasLevel 2 (some .boolean), Cond.methodLink RX3 81 yX3_unite, Cond.instanceMethod yX3_unite, Cond.selects RX3 yX3_unite yX3_unite, Cond.code yX3_unite cX3_unite 7 (some .boolean), Cond.methodLink RX3 73 Lib.Math.min.name, Cond.static Lib.Math.min.name, Cond.initialized "java/lang/Math", Cond.code Lib.Math.min.name Lib.Math.min.code 2 (some .int), Cond.methodLink RX3 66 yX3_partner, Cond.instanceMethod yX3_partner, Cond.selects RX3 yX3_partner yX3_partner, Cond.code yX3_partner cX3_partner 6 (some .int), Cond.methodLink RX3 34 yX3_entriesBefore, Cond.instanceMethod yX3_entriesBefore, Cond.selects RX3 yX3_entriesBefore yX3_entriesBefore, Cond.code yX3_entriesBefore cX3_entriesBefore 5 (some .int)]
def wsX3_shrink_r3 : List Cond := [Cond.methodLink RX3 87 yX3_deleteNode, Cond.instanceMethod yX3_deleteNode, Cond.selects RX3 yX3_deleteNode yX3_deleteNode, Cond.code yX3_deleteNode cX3_deleteNode 5 none, Cond.methodLink RX3 90 Lib.Math.max.name, Cond.static Lib.Math.max.name, Cond.code Lib.Math.max.name Lib.Math.max.code 2 (some .int), Cond.methodLink RX3 63 yX3_setWidth, Cond.instanceMethod yX3_setWidth, Cond.selects RX3 yX3_setWidth yX3_setWidth, Cond.code yX3_setWidth cX3_setWidth 3 none, Cond.methodLink RX3 78 yX3_halve, Cond.instanceMethod yX3_halve, Cond.selects RX3 yX3_halve yX3_halve, Cond.code yX3_halve cX3_halve 4 none, Cond.methodLink RX3 84 yX3_lowerRoot, Cond.instanceMethod yX3_lowerRoot, Cond.selects RX3 yX3_lowerRoot yX3_lowerRoot, Cond.code yX3_lowerRoot cX3_lowerRoot 2 none]
def wsX3_shrink : List Cond := .code yX3_shrink cX3_shrink 6 none :: ((wsX3_shrink_r1 ++ (wsX3_shrink_r2 ++ wsX3_shrink_r3)) ++ wsX30)
def wsX3_planAnew : List Cond := .code yX3_planAnew cX3_planAnew 6 none :: ([.fieldLink RX3 18 "HilbertHutch$Tree" "height" "I", .methodLink RX3 73 Lib.Math.min.name, .static Lib.Math.min.name, .initialized "java/lang/Math", .code Lib.Math.min.name Lib.Math.min.code 2 (some .int), .methodLink RX3 63 yX3_setWidth, .instanceMethod yX3_setWidth, .selects RX3 yX3_setWidth yX3_setWidth, .initialized RX3, .code yX3_setWidth cX3_setWidth 3 none, .fieldLink RX3 15 "HilbertHutch$Tree" "widths" "[I", .methodLink RX3 48 yX3_setLoad, .instanceMethod yX3_setLoad, .selects RX3 yX3_setLoad yX3_setLoad, .code yX3_setLoad cX3_setLoad 5 none, .fieldLink RX3 11 "HilbertHutch$Tree" "loads" "[I", .methodLink RX3 22 yX3_hasNode, .instanceMethod yX3_hasNode, .selects RX3 yX3_hasNode yX3_hasNode, .code yX3_hasNode cX3_hasNode 3 (some .boolean)] ++ wsX30)
def wsX4_init_r1 : List Cond := [Cond.methodLink RX4 1 objectInit, Cond.instanceMethod objectInit, Cond.code objectInit ⟨#[0xb1]⟩ 1 none, Cond.arrayClass .int, Cond.fieldLink RX4 9 "HilbertHutch" "ranks" "[I", Cond.classLink RX4 13 RX2, Cond.instantiable RX2 6, Cond.initialized RX2, Cond.fieldLink RX4 16 "HilbertHutch" "stock" "LHilbertHutch$Stock;", Cond.classLink RX4 20 RX3, Cond.instantiable RX3 3, Cond.initialized RX3, Cond.fieldLink RX4 23 "HilbertHutch" "tree" "LHilbertHutch$Tree;", Cond.instanceMethod yX2_init, Cond.code yX2_init cX2_init 1 none, Cond.methodLink RX2 3 objectInit, Cond.fieldLink RX2 9 "HilbertHutch$Stock" "areas" "[I", Cond.fieldLink RX2 15 "HilbertHutch$Stock" "keys" "[I", Cond.arrayClass .boolean, Cond.fieldLink RX2 18 "HilbertHutch$Stock" "there" "[Z", Cond.fieldLink RX2 22 "HilbertHutch$Stock" "order" "[I", Cond.instanceMethod yX3_init, Cond.code yX3_init cX3_init 1 none, Cond.methodLink RX3 3 objectInit]
def wsX4_init_r2 : List Cond := [Cond.fieldLink RX3 11 "HilbertHutch$Tree" "loads" "[I", Cond.fieldLink RX3 15 "HilbertHutch$Tree" "widths" "[I"]
def wsX4_init : List Cond := .code yX4_init cX4_init 1 none :: ((wsX4_init_r1 ++ wsX4_init_r2) ++ wsX40 ++ wsX20 ++ wsX30)
def wsX4_isCoordinate : List Cond := .code yX4_isCoordinate cX4_isCoordinate 1 (some .boolean) :: ([])
def wsX4_checkSides : List Cond := .code yX4_checkSides cX4_checkSides 4 none :: ([.classLink RX4 160 "java/lang/IllegalArgumentException", .initialized "java/lang/IllegalArgumentException", .methodLink RX4 157 yX4_isCoordinate, .static yX4_isCoordinate, .initialized RX4, .code yX4_isCoordinate cX4_isCoordinate 1 (some .boolean)] ++ (vx_atS RX4 164 "java/lang/IllegalArgumentException" ["java/lang/RuntimeException", "java/lang/Exception"]).filter goodWord)
def wsX4_add_r1 : List Cond := [Cond.classLink RX4 35 "java/lang/IllegalStateException", Cond.initialized "java/lang/IllegalStateException", Cond.fieldLink RX4 16 "HilbertHutch" "stock" "LHilbertHutch$Stock;", Cond.fieldLink RX4 23 "HilbertHutch" "tree" "LHilbertHutch$Tree;", Cond.methodLink RX4 27 yX4_checkSides, Cond.static yX4_checkSides, Cond.initialized RX4, Cond.code yX4_checkSides cX4_checkSides 4 none, Cond.classLink RX4 160 "java/lang/IllegalArgumentException", Cond.initialized "java/lang/IllegalArgumentException", Cond.methodLink RX4 157 yX4_isCoordinate, Cond.static yX4_isCoordinate, Cond.code yX4_isCoordinate cX4_isCoordinate 1 (some .boolean), Cond.methodLink RX4 31 yX2_hasRoom, Cond.instanceMethod yX2_hasRoom, Cond.selects RX2 yX2_hasRoom yX2_hasRoom, Cond.initialized RX2, Cond.code yX2_hasRoom cX2_hasRoom 1 (some .boolean), Cond.fieldLink RX2 29 "HilbertHutch$Stock" "added" "I", Cond.fieldLink RX2 25 "HilbertHutch$Stock" "size" "I", Cond.methodLink RX4 42 yX0_of, Cond.static yX0_of, Cond.initialized RX0, Cond.code yX0_of cX0_of 4 (some .int)]
def wsX4_add_r2 : List Cond := [Cond.methodLink RX4 48 yX2_putIn, Cond.instanceMethod yX2_putIn, Cond.selects RX2 yX2_putIn yX2_putIn, Cond.code yX2_putIn cX2_putIn 3 (some .int), Cond.fieldLink RX2 9 "HilbertHutch$Stock" "areas" "[I", Cond.fieldLink RX2 15 "HilbertHutch$Stock" "keys" "[I", Cond.fieldLink RX2 18 "HilbertHutch$Stock" "there" "[Z", Cond.methodLink RX2 49 yX0_middleKey, Cond.static yX0_middleKey, Cond.code yX0_middleKey cX0_middleKey 3 (some .int), Cond.methodLink RX0 9 yX0_side, Cond.static yX0_side, Cond.code yX0_side cX0_side 2 (some .int), Cond.methodLink RX0 31 yX1_lengthTo, Cond.static yX1_lengthTo, Cond.initialized RX1, Cond.code yX1_lengthTo cX1_lengthTo 9 (some .int), Cond.methodLink RX1 9 yX1_quarter, Cond.static yX1_quarter, Cond.code yX1_quarter cX1_quarter 2 (some .int), Cond.methodLink RX2 52 yX2_putInOrder, Cond.instanceMethod yX2_putInOrder, Cond.selects RX2 yX2_putInOrder yX2_putInOrder, Cond.code yX2_putInOrder cX2_putInOrder 4 none]
def wsX4_add_r3 : List Cond := [Cond.methodLink RX2 32 yX2_numberAt, Cond.instanceMethod yX2_numberAt, Cond.selects RX2 yX2_numberAt yX2_numberAt, Cond.code yX2_numberAt cX2_numberAt 2 (some .int), Cond.fieldLink RX2 22 "HilbertHutch$Stock" "order" "[I", Cond.methodLink RX2 56 yX2_keyFor, Cond.instanceMethod yX2_keyFor, Cond.selects RX2 yX2_keyFor yX2_keyFor, Cond.code yX2_keyFor cX2_keyFor 2 (some .int), Cond.methodLink RX2 59 yX2_setOrder, Cond.instanceMethod yX2_setOrder, Cond.selects RX2 yX2_setOrder yX2_setOrder, Cond.code yX2_setOrder cX2_setOrder 3 none, Cond.methodLink RX4 52 yX2_placeOf, Cond.instanceMethod yX2_placeOf, Cond.selects RX2 yX2_placeOf yX2_placeOf, Cond.code yX2_placeOf cX2_placeOf 3 (some .int), Cond.methodLink RX4 55 yX3_grow, Cond.instanceMethod yX3_grow, Cond.selects RX3 yX3_grow yX3_grow, Cond.initialized RX3, Cond.code yX3_grow cX3_grow 5 none, Cond.fieldLink RX3 18 "HilbertHutch$Tree" "height" "I", Cond.methodLink RX3 44 yX3_addRoot]
def wsX4_add_r4 : List Cond := [Cond.instanceMethod yX3_addRoot, Cond.selects RX3 yX3_addRoot yX3_addRoot, Cond.code yX3_addRoot cX3_addRoot 2 none, Cond.methodLink RX3 63 yX3_setWidth, Cond.instanceMethod yX3_setWidth, Cond.selects RX3 yX3_setWidth yX3_setWidth, Cond.code yX3_setWidth cX3_setWidth 3 none, Cond.fieldLink RX3 15 "HilbertHutch$Tree" "widths" "[I", Cond.methodLink RX3 48 yX3_setLoad, Cond.instanceMethod yX3_setLoad, Cond.selects RX3 yX3_setLoad yX3_setLoad, Cond.code yX3_setLoad cX3_setLoad 5 none, Cond.fieldLink RX3 11 "HilbertHutch$Tree" "loads" "[I", Cond.methodLink RX3 22 yX3_hasNode, Cond.instanceMethod yX3_hasNode, Cond.selects RX3 yX3_hasNode yX3_hasNode, Cond.code yX3_hasNode cX3_hasNode 3 (some .boolean), Cond.methodLink RX3 41 yX3_holder, Cond.instanceMethod yX3_holder, Cond.selects RX3 yX3_holder yX3_holder, Cond.code yX3_holder cX3_holder 5 (some .int), Cond.methodLink RX3 26 yX3_width, Cond.instanceMethod yX3_width, Cond.selects RX3 yX3_width yX3_width]
def wsX4_add_r5 : List Cond := [Cond.code yX3_width cX3_width 2 (some .int), Cond.methodLink RX3 30 yX3_load, Cond.instanceMethod yX3_load, Cond.selects RX3 yX3_load yX3_load, Cond.code yX3_load cX3_load 4 (some .int), Cond.methodLink RX3 52 yX3_parent, Cond.instanceMethod yX3_parent, Cond.selects RX3 yX3_parent yX3_parent, Cond.code yX3_parent cX3_parent 3 (some .int), Cond.methodLink RX3 37 yX3_hasLevel, Cond.instanceMethod yX3_hasLevel, Cond.selects RX3 yX3_hasLevel yX3_hasLevel, Cond.code yX3_hasLevel cX3_hasLevel 2 (some .boolean), Cond.methodLink RX3 55 yX3_relieve, Cond.instanceMethod yX3_relieve, Cond.selects RX3 yX3_relieve yX3_relieve, Cond.code yX3_relieve cX3_relieve 6 (some .boolean), Cond.methodLink RX3 73 Lib.Math.min.name, Cond.static Lib.Math.min.name, Cond.initialized "java/lang/Math", Cond.code Lib.Math.min.name Lib.Math.min.code 2 (some .int), Cond.methodLink RX3 66 yX3_partner, Cond.instanceMethod yX3_partner, Cond.selects RX3 yX3_partner yX3_partner]
def wsX4_add_r6 : List Cond := [Cond.code yX3_partner cX3_partner 6 (some .int), Cond.methodLink RX3 34 yX3_entriesBefore, Cond.instanceMethod yX3_entriesBefore, Cond.selects RX3 yX3_entriesBefore yX3_entriesBefore, Cond.code yX3_entriesBefore cX3_entriesBefore 5 (some .int), Cond.methodLink RX3 70 yX3_insertNode, Cond.instanceMethod yX3_insertNode, Cond.selects RX3 yX3_insertNode yX3_insertNode, Cond.code yX3_insertNode cX3_insertNode 6 none, Cond.methodLink RX3 78 yX3_halve, Cond.instanceMethod yX3_halve, Cond.selects RX3 yX3_halve yX3_halve, Cond.code yX3_halve cX3_halve 4 none, Cond.methodLink RX3 59 yX3_gainEntry, Cond.instanceMethod yX3_gainEntry, Cond.selects RX3 yX3_gainEntry yX3_gainEntry, Cond.code yX3_gainEntry cX3_gainEntry 3 none]
def wsX4_add : List Cond := .code yX4_add cX4_add 6 (some .int) :: ((wsX4_add_r1 ++ (wsX4_add_r2 ++ (wsX4_add_r3 ++ (wsX4_add_r4 ++ (wsX4_add_r5 ++ wsX4_add_r6))))) ++ wsX40 ++ wsX20 ++ wsX30 ++ (vx_atS RX4 39 "java/lang/IllegalStateException" ["java/lang/RuntimeException", "java/lang/Exception"]).filter goodWord ++ (vx_atS RX4 164 "java/lang/IllegalArgumentException" ["java/lang/RuntimeException", "java/lang/Exception"]).filter goodWord)
def wsX4_checkBox : List Cond := .code yX4_checkBox cX4_checkBox 2 none :: ([.classLink RX4 107 "java/lang/IndexOutOfBoundsException", .initialized "java/lang/IndexOutOfBoundsException", .fieldLink RX4 16 "HilbertHutch" "stock" "LHilbertHutch$Stock;", .methodLink RX4 169 yX2_has, .instanceMethod yX2_has, .selects RX2 yX2_has yX2_has, .initialized RX2, .code yX2_has cX2_has 2 (some .boolean), .fieldLink RX2 18 "HilbertHutch$Stock" "there" "[Z"] ++ wsX40 ++ wsX20 ++ (vx_atS RX4 111 "java/lang/IndexOutOfBoundsException" ["java/lang/RuntimeException", "java/lang/Exception"]).filter goodWord)
def wsX4_remove_r1 : List Cond := [Cond.fieldLink RX4 23 "HilbertHutch" "tree" "LHilbertHutch$Tree;", Cond.fieldLink RX4 16 "HilbertHutch" "stock" "LHilbertHutch$Stock;", Cond.methodLink RX4 59 yX4_checkBox, Cond.instanceMethod yX4_checkBox, Cond.selects RX4 yX4_checkBox yX4_checkBox, Cond.initialized RX4, Cond.code yX4_checkBox cX4_checkBox 2 none, Cond.classLink RX4 107 "java/lang/IndexOutOfBoundsException", Cond.initialized "java/lang/IndexOutOfBoundsException", Cond.methodLink RX4 169 yX2_has, Cond.instanceMethod yX2_has, Cond.selects RX2 yX2_has yX2_has, Cond.initialized RX2, Cond.code yX2_has cX2_has 2 (some .boolean), Cond.fieldLink RX2 18 "HilbertHutch$Stock" "there" "[Z", Cond.methodLink RX4 52 yX2_placeOf, Cond.instanceMethod yX2_placeOf, Cond.selects RX2 yX2_placeOf yX2_placeOf, Cond.code yX2_placeOf cX2_placeOf 3 (some .int), Cond.fieldLink RX2 25 "HilbertHutch$Stock" "size" "I", Cond.methodLink RX2 32 yX2_numberAt, Cond.instanceMethod yX2_numberAt, Cond.selects RX2 yX2_numberAt yX2_numberAt, Cond.code yX2_numberAt cX2_numberAt 2 (some .int)]
def wsX4_remove_r2 : List Cond := [Cond.fieldLink RX2 22 "HilbertHutch$Stock" "order" "[I", Cond.methodLink RX4 62 yX3_shrink, Cond.instanceMethod yX3_shrink, Cond.selects RX3 yX3_shrink yX3_shrink, Cond.initialized RX3, Cond.code yX3_shrink cX3_shrink 6 none, Cond.fieldLink RX3 18 "HilbertHutch$Tree" "height" "I", Cond.methodLink RX3 41 yX3_holder, Cond.instanceMethod yX3_holder, Cond.selects RX3 yX3_holder yX3_holder, Cond.code yX3_holder cX3_holder 5 (some .int), Cond.methodLink RX3 26 yX3_width, Cond.instanceMethod yX3_width, Cond.selects RX3 yX3_width yX3_width, Cond.code yX3_width cX3_width 2 (some .int), Cond.fieldLink RX3 15 "HilbertHutch$Tree" "widths" "[I", Cond.methodLink RX3 30 yX3_load, Cond.instanceMethod yX3_load, Cond.selects RX3 yX3_load yX3_load, Cond.code yX3_load cX3_load 4 (some .int), Cond.fieldLink RX3 11 "HilbertHutch$Tree" "loads" "[I", Cond.methodLink RX3 22 yX3_hasNode, Cond.instanceMethod yX3_hasNode, Cond.selects RX3 yX3_hasNode yX3_hasNode]
def wsX4_remove_r3 : List Cond := [Cond.code yX3_hasNode cX3_hasNode 3 (some .boolean), Cond.methodLink RX3 48 yX3_setLoad, Cond.instanceMethod yX3_setLoad, Cond.selects RX3 yX3_setLoad yX3_setLoad, Cond.code yX3_setLoad cX3_setLoad 5 none, Cond.methodLink RX3 52 yX3_parent, Cond.instanceMethod yX3_parent, Cond.selects RX3 yX3_parent yX3_parent, Cond.code yX3_parent cX3_parent 3 (some .int), Cond.methodLink RX3 37 yX3_hasLevel, Cond.instanceMethod yX3_hasLevel, Cond.selects RX3 yX3_hasLevel yX3_hasLevel, Cond.code yX3_hasLevel cX3_hasLevel 2 (some .boolean), Cond.methodLink RX3 81 yX3_unite, Cond.instanceMethod yX3_unite, Cond.selects RX3 yX3_unite yX3_unite, Cond.code yX3_unite cX3_unite 7 (some .boolean), Cond.methodLink RX3 73 Lib.Math.min.name, Cond.static Lib.Math.min.name, Cond.initialized "java/lang/Math", Cond.code Lib.Math.min.name Lib.Math.min.code 2 (some .int), Cond.methodLink RX3 66 yX3_partner, Cond.instanceMethod yX3_partner, Cond.selects RX3 yX3_partner yX3_partner]
def wsX4_remove_r4 : List Cond := [Cond.code yX3_partner cX3_partner 6 (some .int), Cond.methodLink RX3 34 yX3_entriesBefore, Cond.instanceMethod yX3_entriesBefore, Cond.selects RX3 yX3_entriesBefore yX3_entriesBefore, Cond.code yX3_entriesBefore cX3_entriesBefore 5 (some .int), Cond.methodLink RX3 87 yX3_deleteNode, Cond.instanceMethod yX3_deleteNode, Cond.selects RX3 yX3_deleteNode yX3_deleteNode, Cond.code yX3_deleteNode cX3_deleteNode 5 none, Cond.methodLink RX3 90 Lib.Math.max.name, Cond.static Lib.Math.max.name, Cond.code Lib.Math.max.name Lib.Math.max.code 2 (some .int), Cond.methodLink RX3 63 yX3_setWidth, Cond.instanceMethod yX3_setWidth, Cond.selects RX3 yX3_setWidth yX3_setWidth, Cond.code yX3_setWidth cX3_setWidth 3 none, Cond.methodLink RX3 78 yX3_halve, Cond.instanceMethod yX3_halve, Cond.selects RX3 yX3_halve yX3_halve, Cond.code yX3_halve cX3_halve 4 none, Cond.methodLink RX3 84 yX3_lowerRoot, Cond.instanceMethod yX3_lowerRoot, Cond.selects RX3 yX3_lowerRoot yX3_lowerRoot, Cond.code yX3_lowerRoot cX3_lowerRoot 2 none]
def wsX4_remove_r5 : List Cond := [Cond.methodLink RX4 65 yX2_takeOut, Cond.instanceMethod yX2_takeOut, Cond.selects RX2 yX2_takeOut yX2_takeOut, Cond.code yX2_takeOut cX2_takeOut 4 none, Cond.methodLink RX2 63 yX2_placeOf, Cond.methodLink RX2 39 yX2_has, Cond.methodLink RX2 59 yX2_setOrder, Cond.instanceMethod yX2_setOrder, Cond.selects RX2 yX2_setOrder yX2_setOrder, Cond.code yX2_setOrder cX2_setOrder 3 none, Cond.methodLink RX4 68 yX2_size, Cond.instanceMethod yX2_size, Cond.selects RX2 yX2_size yX2_size, Cond.code yX2_size cX2_size 1 (some .int)]
def wsX4_remove : List Cond := .code yX4_remove cX4_remove 2 (some .int) :: ((wsX4_remove_r1 ++ (wsX4_remove_r2 ++ (wsX4_remove_r3 ++ (wsX4_remove_r4 ++ wsX4_remove_r5)))) ++ wsX40 ++ wsX20 ++ wsX30 ++ (vx_atS RX4 111 "java/lang/IndexOutOfBoundsException" ["java/lang/RuntimeException", "java/lang/Exception"]).filter goodWord)
def wsX4_pack_r1 : List Cond := [Cond.fieldLink RX4 23 "HilbertHutch" "tree" "LHilbertHutch$Tree;", Cond.fieldLink RX4 16 "HilbertHutch" "stock" "LHilbertHutch$Stock;", Cond.methodLink RX4 68 yX2_size, Cond.instanceMethod yX2_size, Cond.selects RX2 yX2_size yX2_size, Cond.initialized RX2, Cond.code yX2_size cX2_size 1 (some .int), Cond.fieldLink RX2 25 "HilbertHutch$Stock" "size" "I", Cond.methodLink RX4 72 yX3_planAnew, Cond.instanceMethod yX3_planAnew, Cond.selects RX3 yX3_planAnew yX3_planAnew, Cond.initialized RX3, Cond.code yX3_planAnew cX3_planAnew 6 none, Cond.fieldLink RX3 18 "HilbertHutch$Tree" "height" "I", Cond.methodLink RX3 73 Lib.Math.min.name, Cond.static Lib.Math.min.name, Cond.initialized "java/lang/Math", Cond.code Lib.Math.min.name Lib.Math.min.code 2 (some .int), Cond.methodLink RX3 63 yX3_setWidth, Cond.instanceMethod yX3_setWidth, Cond.selects RX3 yX3_setWidth yX3_setWidth, Cond.code yX3_setWidth cX3_setWidth 3 none, Cond.fieldLink RX3 15 "HilbertHutch$Tree" "widths" "[I", Cond.methodLink RX3 48 yX3_setLoad]
def wsX4_pack_r2 : List Cond := [Cond.instanceMethod yX3_setLoad, Cond.selects RX3 yX3_setLoad yX3_setLoad, Cond.code yX3_setLoad cX3_setLoad 5 none, Cond.fieldLink RX3 11 "HilbertHutch$Tree" "loads" "[I", Cond.methodLink RX3 22 yX3_hasNode, Cond.instanceMethod yX3_hasNode, Cond.selects RX3 yX3_hasNode yX3_hasNode, Cond.code yX3_hasNode cX3_hasNode 3 (some .boolean), Cond.methodLink RX4 75 yX3_width, Cond.instanceMethod yX3_width, Cond.selects RX3 yX3_width yX3_width, Cond.code yX3_width cX3_width 2 (some .int)]
def wsX4_pack : List Cond := .code yX4_pack cX4_pack 1 (some .int) :: ((wsX4_pack_r1 ++ wsX4_pack_r2) ++ wsX40 ++ wsX20 ++ wsX30)
def wsX4_boxes : List Cond := .code yX4_boxes cX4_boxes 1 (some .int) :: ([.fieldLink RX4 16 "HilbertHutch" "stock" "LHilbertHutch$Stock;", .methodLink RX4 68 yX2_size, .instanceMethod yX2_size, .selects RX2 yX2_size yX2_size, .initialized RX2, .code yX2_size cX2_size 1 (some .int), .fieldLink RX2 25 "HilbertHutch$Stock" "size" "I"] ++ wsX40 ++ wsX20)
def wsX4_checkPoint : List Cond := .code yX4_checkPoint cX4_checkPoint 2 none :: ([.classLink RX4 160 "java/lang/IllegalArgumentException", .initialized "java/lang/IllegalArgumentException", .methodLink RX4 157 yX4_isCoordinate, .static yX4_isCoordinate, .initialized RX4, .code yX4_isCoordinate cX4_isCoordinate 1 (some .boolean)] ++ (vx_atS RX4 164 "java/lang/IllegalArgumentException" ["java/lang/RuntimeException", "java/lang/Exception"]).filter goodWord)
def wsX4_key : List Cond := .code yX4_key cX4_key 3 (some .int) :: ([.methodLink RX4 78 yX4_checkPoint, .static yX4_checkPoint, .initialized RX4, .code yX4_checkPoint cX4_checkPoint 2 none, .classLink RX4 160 "java/lang/IllegalArgumentException", .initialized "java/lang/IllegalArgumentException", .methodLink RX4 157 yX4_isCoordinate, .static yX4_isCoordinate, .code yX4_isCoordinate cX4_isCoordinate 1 (some .boolean), .methodLink RX4 82 yX1_lengthTo, .static yX1_lengthTo, .initialized RX1, .code yX1_lengthTo cX1_lengthTo 9 (some .int), .methodLink RX1 9 yX1_quarter, .static yX1_quarter, .code yX1_quarter cX1_quarter 2 (some .int)] ++ (vx_atS RX4 164 "java/lang/IllegalArgumentException" ["java/lang/RuntimeException", "java/lang/Exception"]).filter goodWord)
def wsX4_keyOf : List Cond := .code yX4_keyOf cX4_keyOf 2 (some .int) :: ([.fieldLink RX4 16 "HilbertHutch" "stock" "LHilbertHutch$Stock;", .methodLink RX4 59 yX4_checkBox, .instanceMethod yX4_checkBox, .selects RX4 yX4_checkBox yX4_checkBox, .initialized RX4, .code yX4_checkBox cX4_checkBox 2 none, .classLink RX4 107 "java/lang/IndexOutOfBoundsException", .initialized "java/lang/IndexOutOfBoundsException", .methodLink RX4 169 yX2_has, .instanceMethod yX2_has, .selects RX2 yX2_has yX2_has, .initialized RX2, .code yX2_has cX2_has 2 (some .boolean), .fieldLink RX2 18 "HilbertHutch$Stock" "there" "[Z", .methodLink RX4 88 yX2_keyFor, .instanceMethod yX2_keyFor, .selects RX2 yX2_keyFor yX2_keyFor, .code yX2_keyFor cX2_keyFor 2 (some .int), .fieldLink RX2 15 "HilbertHutch$Stock" "keys" "[I"] ++ wsX40 ++ wsX20 ++ (vx_atS RX4 111 "java/lang/IndexOutOfBoundsException" ["java/lang/RuntimeException", "java/lang/Exception"]).filter goodWord)
def wsX4_checkSide : List Cond := .code yX4_checkSide cX4_checkSide 1 none :: ([.classLink RX4 160 "java/lang/IllegalArgumentException", .initialized "java/lang/IllegalArgumentException"] ++ (vx_atS RX4 164 "java/lang/IllegalArgumentException" ["java/lang/RuntimeException", "java/lang/Exception"]).filter goodWord)
def wsX4_sideOf_r1 : List Cond := [Cond.fieldLink RX4 16 "HilbertHutch" "stock" "LHilbertHutch$Stock;", Cond.methodLink RX4 91 yX4_checkSide, Cond.static yX4_checkSide, Cond.initialized RX4, Cond.code yX4_checkSide cX4_checkSide 1 none, Cond.classLink RX4 160 "java/lang/IllegalArgumentException", Cond.initialized "java/lang/IllegalArgumentException", Cond.methodLink RX4 59 yX4_checkBox, Cond.instanceMethod yX4_checkBox, Cond.selects RX4 yX4_checkBox yX4_checkBox, Cond.code yX4_checkBox cX4_checkBox 2 none, Cond.classLink RX4 107 "java/lang/IndexOutOfBoundsException", Cond.initialized "java/lang/IndexOutOfBoundsException", Cond.methodLink RX4 169 yX2_has, Cond.instanceMethod yX2_has, Cond.selects RX2 yX2_has yX2_has, Cond.initialized RX2, Cond.code yX2_has cX2_has 2 (some .boolean), Cond.fieldLink RX2 18 "HilbertHutch$Stock" "there" "[Z", Cond.methodLink RX4 94 yX2_areaOf, Cond.instanceMethod yX2_areaOf, Cond.selects RX2 yX2_areaOf yX2_areaOf, Cond.code yX2_areaOf cX2_areaOf 2 (some .int), Cond.fieldLink RX2 9 "HilbertHutch$Stock" "areas" "[I"]
def wsX4_sideOf_r2 : List Cond := [Cond.methodLink RX4 97 yX0_side, Cond.static yX0_side, Cond.initialized RX0, Cond.code yX0_side cX0_side 2 (some .int)]
def wsX4_sideOf : List Cond := .code yX4_sideOf cX4_sideOf 3 (some .int) :: ((wsX4_sideOf_r1 ++ wsX4_sideOf_r2) ++ wsX40 ++ wsX20 ++ (vx_atS RX4 164 "java/lang/IllegalArgumentException" ["java/lang/RuntimeException", "java/lang/Exception"]).filter goodWord ++ (vx_atS RX4 111 "java/lang/IndexOutOfBoundsException" ["java/lang/RuntimeException", "java/lang/Exception"]).filter goodWord)
def wsX4_levels : List Cond := .code yX4_levels cX4_levels 1 (some .int) :: ([.fieldLink RX4 23 "HilbertHutch" "tree" "LHilbertHutch$Tree;", .methodLink RX4 100 yX3_height, .instanceMethod yX3_height, .selects RX3 yX3_height yX3_height, .initialized RX3, .code yX3_height cX3_height 1 (some .int), .fieldLink RX3 18 "HilbertHutch$Tree" "height" "I"] ++ wsX40 ++ wsX30)
def wsX4_nodes : List Cond := .code yX4_nodes cX4_nodes 2 (some .int) :: ([.classLink RX4 107 "java/lang/IndexOutOfBoundsException", .initialized "java/lang/IndexOutOfBoundsException", .fieldLink RX4 23 "HilbertHutch" "tree" "LHilbertHutch$Tree;", .methodLink RX4 103 yX3_hasLevel, .instanceMethod yX3_hasLevel, .selects RX3 yX3_hasLevel yX3_hasLevel, .initialized RX3, .code yX3_hasLevel cX3_hasLevel 2 (some .boolean), .fieldLink RX3 18 "HilbertHutch$Tree" "height" "I", .methodLink RX4 75 yX3_width, .instanceMethod yX3_width, .selects RX3 yX3_width yX3_width, .code yX3_width cX3_width 2 (some .int), .fieldLink RX3 15 "HilbertHutch$Tree" "widths" "[I"] ++ wsX40 ++ wsX30 ++ (vx_atS RX4 111 "java/lang/IndexOutOfBoundsException" ["java/lang/RuntimeException", "java/lang/Exception"]).filter goodWord)
def wsX4_checkNode : List Cond := .code yX4_checkNode cX4_checkNode 3 none :: ([.classLink RX4 107 "java/lang/IndexOutOfBoundsException", .initialized "java/lang/IndexOutOfBoundsException", .fieldLink RX4 23 "HilbertHutch" "tree" "LHilbertHutch$Tree;", .methodLink RX4 174 yX3_hasNode, .instanceMethod yX3_hasNode, .selects RX3 yX3_hasNode yX3_hasNode, .initialized RX3, .code yX3_hasNode cX3_hasNode 3 (some .boolean), .fieldLink RX3 18 "HilbertHutch$Tree" "height" "I", .fieldLink RX3 15 "HilbertHutch$Tree" "widths" "[I"] ++ wsX40 ++ wsX30 ++ (vx_atS RX4 111 "java/lang/IndexOutOfBoundsException" ["java/lang/RuntimeException", "java/lang/Exception"]).filter goodWord)
def wsX4_entries : List Cond := .code yX4_entries cX4_entries 3 (some .int) :: ([.fieldLink RX4 23 "HilbertHutch" "tree" "LHilbertHutch$Tree;", .methodLink RX4 112 yX4_checkNode, .instanceMethod yX4_checkNode, .selects RX4 yX4_checkNode yX4_checkNode, .initialized RX4, .code yX4_checkNode cX4_checkNode 3 none, .classLink RX4 107 "java/lang/IndexOutOfBoundsException", .initialized "java/lang/IndexOutOfBoundsException", .methodLink RX4 174 yX3_hasNode, .instanceMethod yX3_hasNode, .selects RX3 yX3_hasNode yX3_hasNode, .initialized RX3, .code yX3_hasNode cX3_hasNode 3 (some .boolean), .fieldLink RX3 18 "HilbertHutch$Tree" "height" "I", .fieldLink RX3 15 "HilbertHutch$Tree" "widths" "[I", .methodLink RX4 115 yX3_load, .instanceMethod yX3_load, .selects RX3 yX3_load yX3_load, .code yX3_load cX3_load 4 (some .int), .fieldLink RX3 11 "HilbertHutch$Tree" "loads" "[I", .methodLink RX3 22 yX3_hasNode] ++ wsX40 ++ wsX30 ++ (vx_atS RX4 111 "java/lang/IndexOutOfBoundsException" ["java/lang/RuntimeException", "java/lang/Exception"]).filter goodWord)
def wsX4_coverOf_r1 : List Cond := [Cond.fieldLink RX4 23 "HilbertHutch" "tree" "LHilbertHutch$Tree;", Cond.fieldLink RX4 16 "HilbertHutch" "stock" "LHilbertHutch$Stock;", Cond.methodLink RX4 179 yX3_boxesBefore, Cond.instanceMethod yX3_boxesBefore, Cond.selects RX3 yX3_boxesBefore yX3_boxesBefore, Cond.initialized RX3, Cond.code yX3_boxesBefore cX3_boxesBefore 5 (some .int), Cond.methodLink RX3 34 yX3_entriesBefore, Cond.instanceMethod yX3_entriesBefore, Cond.selects RX3 yX3_entriesBefore yX3_entriesBefore, Cond.code yX3_entriesBefore cX3_entriesBefore 5 (some .int), Cond.methodLink RX3 26 yX3_width, Cond.instanceMethod yX3_width, Cond.selects RX3 yX3_width yX3_width, Cond.code yX3_width cX3_width 2 (some .int), Cond.fieldLink RX3 18 "HilbertHutch$Tree" "height" "I", Cond.fieldLink RX3 15 "HilbertHutch$Tree" "widths" "[I", Cond.methodLink RX3 30 yX3_load, Cond.instanceMethod yX3_load, Cond.selects RX3 yX3_load yX3_load, Cond.code yX3_load cX3_load 4 (some .int), Cond.fieldLink RX3 11 "HilbertHutch$Tree" "loads" "[I", Cond.methodLink RX3 22 yX3_hasNode, Cond.instanceMethod yX3_hasNode]
def wsX4_coverOf_r2 : List Cond := [Cond.selects RX3 yX3_hasNode yX3_hasNode, Cond.code yX3_hasNode cX3_hasNode 3 (some .boolean), Cond.methodLink RX4 134 yX2_areaAt, Cond.instanceMethod yX2_areaAt, Cond.selects RX2 yX2_areaAt yX2_areaAt, Cond.initialized RX2, Cond.code yX2_areaAt cX2_areaAt 2 (some .int), Cond.methodLink RX2 32 yX2_numberAt, Cond.instanceMethod yX2_numberAt, Cond.selects RX2 yX2_numberAt yX2_numberAt, Cond.code yX2_numberAt cX2_numberAt 2 (some .int), Cond.fieldLink RX2 22 "HilbertHutch$Stock" "order" "[I", Cond.fieldLink RX2 25 "HilbertHutch$Stock" "size" "I", Cond.methodLink RX2 36 yX2_areaOf, Cond.instanceMethod yX2_areaOf, Cond.selects RX2 yX2_areaOf yX2_areaOf, Cond.code yX2_areaOf cX2_areaOf 2 (some .int), Cond.fieldLink RX2 9 "HilbertHutch$Stock" "areas" "[I", Cond.methodLink RX4 182 yX0_around, Cond.static yX0_around, Cond.initialized RX0, Cond.code yX0_around cX0_around 2 (some .int), Cond.methodLink RX0 15 Lib.Math.min.name, Cond.static Lib.Math.min.name]
def wsX4_coverOf_r3 : List Cond := [Cond.initialized "java/lang/Math", Cond.code Lib.Math.min.name Lib.Math.min.code 2 (some .int), Cond.methodLink RX0 20 Lib.Math.max.name, Cond.static Lib.Math.max.name, Cond.code Lib.Math.max.name Lib.Math.max.code 2 (some .int), Cond.methodLink RX0 9 yX0_side, Cond.static yX0_side, Cond.code yX0_side cX0_side 2 (some .int), Cond.methodLink RX0 23 yX0_of, Cond.static yX0_of, Cond.code yX0_of cX0_of 4 (some .int)]
def wsX4_coverOf : List Cond := .code yX4_coverOf cX4_coverOf 7 (some .int) :: ((wsX4_coverOf_r1 ++ (wsX4_coverOf_r2 ++ wsX4_coverOf_r3)) ++ wsX40 ++ wsX30 ++ wsX20)
def wsX4_cover_r1 : List Cond := [Cond.methodLink RX4 91 yX4_checkSide, Cond.static yX4_checkSide, Cond.initialized RX4, Cond.code yX4_checkSide cX4_checkSide 1 none, Cond.classLink RX4 160 "java/lang/IllegalArgumentException", Cond.initialized "java/lang/IllegalArgumentException", Cond.methodLink RX4 112 yX4_checkNode, Cond.instanceMethod yX4_checkNode, Cond.selects RX4 yX4_checkNode yX4_checkNode, Cond.code yX4_checkNode cX4_checkNode 3 none, Cond.classLink RX4 107 "java/lang/IndexOutOfBoundsException", Cond.initialized "java/lang/IndexOutOfBoundsException", Cond.fieldLink RX4 23 "HilbertHutch" "tree" "LHilbertHutch$Tree;", Cond.methodLink RX4 174 yX3_hasNode, Cond.instanceMethod yX3_hasNode, Cond.selects RX3 yX3_hasNode yX3_hasNode, Cond.initialized RX3, Cond.code yX3_hasNode cX3_hasNode 3 (some .boolean), Cond.fieldLink RX3 18 "HilbertHutch$Tree" "height" "I", Cond.fieldLink RX3 15 "HilbertHutch$Tree" "widths" "[I", Cond.methodLink RX4 118 yX4_coverOf, Cond.instanceMethod yX4_coverOf, Cond.selects RX4 yX4_coverOf yX4_coverOf, Cond.code yX4_coverOf cX4_coverOf 7 (some .int)]
def wsX4_cover_r2 : List Cond := [Cond.fieldLink RX4 16 "HilbertHutch" "stock" "LHilbertHutch$Stock;", Cond.methodLink RX4 179 yX3_boxesBefore, Cond.instanceMethod yX3_boxesBefore, Cond.selects RX3 yX3_boxesBefore yX3_boxesBefore, Cond.code yX3_boxesBefore cX3_boxesBefore 5 (some .int), Cond.methodLink RX3 34 yX3_entriesBefore, Cond.instanceMethod yX3_entriesBefore, Cond.selects RX3 yX3_entriesBefore yX3_entriesBefore, Cond.code yX3_entriesBefore cX3_entriesBefore 5 (some .int), Cond.methodLink RX3 26 yX3_width, Cond.instanceMethod yX3_width, Cond.selects RX3 yX3_width yX3_width, Cond.code yX3_width cX3_width 2 (some .int), Cond.methodLink RX3 30 yX3_load, Cond.instanceMethod yX3_load, Cond.selects RX3 yX3_load yX3_load, Cond.code yX3_load cX3_load 4 (some .int), Cond.fieldLink RX3 11 "HilbertHutch$Tree" "loads" "[I", Cond.methodLink RX3 22 yX3_hasNode, Cond.methodLink RX4 134 yX2_areaAt, Cond.instanceMethod yX2_areaAt, Cond.selects RX2 yX2_areaAt yX2_areaAt, Cond.initialized RX2, Cond.code yX2_areaAt cX2_areaAt 2 (some .int)]
def wsX4_cover_r3 : List Cond := [Cond.methodLink RX2 32 yX2_numberAt, Cond.instanceMethod yX2_numberAt, Cond.selects RX2 yX2_numberAt yX2_numberAt, Cond.code yX2_numberAt cX2_numberAt 2 (some .int), Cond.fieldLink RX2 22 "HilbertHutch$Stock" "order" "[I", Cond.fieldLink RX2 25 "HilbertHutch$Stock" "size" "I", Cond.methodLink RX2 36 yX2_areaOf, Cond.instanceMethod yX2_areaOf, Cond.selects RX2 yX2_areaOf yX2_areaOf, Cond.code yX2_areaOf cX2_areaOf 2 (some .int), Cond.fieldLink RX2 9 "HilbertHutch$Stock" "areas" "[I", Cond.methodLink RX4 182 yX0_around, Cond.static yX0_around, Cond.initialized RX0, Cond.code yX0_around cX0_around 2 (some .int), Cond.methodLink RX0 15 Lib.Math.min.name, Cond.static Lib.Math.min.name, Cond.initialized "java/lang/Math", Cond.code Lib.Math.min.name Lib.Math.min.code 2 (some .int), Cond.methodLink RX0 20 Lib.Math.max.name, Cond.static Lib.Math.max.name, Cond.code Lib.Math.max.name Lib.Math.max.code 2 (some .int), Cond.methodLink RX0 9 yX0_side, Cond.static yX0_side]
def wsX4_cover_r4 : List Cond := [Cond.code yX0_side cX0_side 2 (some .int), Cond.methodLink RX0 23 yX0_of, Cond.static yX0_of, Cond.code yX0_of cX0_of 4 (some .int), Cond.methodLink RX4 97 yX0_side]
def wsX4_cover : List Cond := .code yX4_cover cX4_cover 4 (some .int) :: ((wsX4_cover_r1 ++ (wsX4_cover_r2 ++ (wsX4_cover_r3 ++ wsX4_cover_r4))) ++ wsX40 ++ wsX30 ++ wsX20 ++ (vx_atS RX4 164 "java/lang/IllegalArgumentException" ["java/lang/RuntimeException", "java/lang/Exception"]).filter goodWord ++ (vx_atS RX4 111 "java/lang/IndexOutOfBoundsException" ["java/lang/RuntimeException", "java/lang/Exception"]).filter goodWord)
def wsX4_leafOf_r1 : List Cond := [Cond.fieldLink RX4 23 "HilbertHutch" "tree" "LHilbertHutch$Tree;", Cond.fieldLink RX4 16 "HilbertHutch" "stock" "LHilbertHutch$Stock;", Cond.methodLink RX4 59 yX4_checkBox, Cond.instanceMethod yX4_checkBox, Cond.selects RX4 yX4_checkBox yX4_checkBox, Cond.initialized RX4, Cond.code yX4_checkBox cX4_checkBox 2 none, Cond.classLink RX4 107 "java/lang/IndexOutOfBoundsException", Cond.initialized "java/lang/IndexOutOfBoundsException", Cond.methodLink RX4 169 yX2_has, Cond.instanceMethod yX2_has, Cond.selects RX2 yX2_has yX2_has, Cond.initialized RX2, Cond.code yX2_has cX2_has 2 (some .boolean), Cond.fieldLink RX2 18 "HilbertHutch$Stock" "there" "[Z", Cond.methodLink RX4 52 yX2_placeOf, Cond.instanceMethod yX2_placeOf, Cond.selects RX2 yX2_placeOf yX2_placeOf, Cond.code yX2_placeOf cX2_placeOf 3 (some .int), Cond.fieldLink RX2 25 "HilbertHutch$Stock" "size" "I", Cond.methodLink RX2 32 yX2_numberAt, Cond.instanceMethod yX2_numberAt, Cond.selects RX2 yX2_numberAt yX2_numberAt, Cond.code yX2_numberAt cX2_numberAt 2 (some .int)]
def wsX4_leafOf_r2 : List Cond := [Cond.fieldLink RX2 22 "HilbertHutch$Stock" "order" "[I", Cond.methodLink RX4 121 yX3_holder, Cond.instanceMethod yX3_holder, Cond.selects RX3 yX3_holder yX3_holder, Cond.initialized RX3, Cond.code yX3_holder cX3_holder 5 (some .int), Cond.methodLink RX3 26 yX3_width, Cond.instanceMethod yX3_width, Cond.selects RX3 yX3_width yX3_width, Cond.code yX3_width cX3_width 2 (some .int), Cond.fieldLink RX3 18 "HilbertHutch$Tree" "height" "I", Cond.fieldLink RX3 15 "HilbertHutch$Tree" "widths" "[I", Cond.methodLink RX3 30 yX3_load, Cond.instanceMethod yX3_load, Cond.selects RX3 yX3_load yX3_load, Cond.code yX3_load cX3_load 4 (some .int), Cond.fieldLink RX3 11 "HilbertHutch$Tree" "loads" "[I", Cond.methodLink RX3 22 yX3_hasNode, Cond.instanceMethod yX3_hasNode, Cond.selects RX3 yX3_hasNode yX3_hasNode, Cond.code yX3_hasNode cX3_hasNode 3 (some .boolean)]
def wsX4_leafOf : List Cond := .code yX4_leafOf cX4_leafOf 2 (some .int) :: ((wsX4_leafOf_r1 ++ wsX4_leafOf_r2) ++ wsX40 ++ wsX20 ++ wsX30 ++ (vx_atS RX4 111 "java/lang/IndexOutOfBoundsException" ["java/lang/RuntimeException", "java/lang/Exception"]).filter goodWord)
def wsX4_boxAt : List Cond := .code yX4_boxAt cX4_boxAt 2 (some .int) :: ([.classLink RX4 107 "java/lang/IndexOutOfBoundsException", .initialized "java/lang/IndexOutOfBoundsException", .fieldLink RX4 16 "HilbertHutch" "stock" "LHilbertHutch$Stock;", .methodLink RX4 68 yX2_size, .instanceMethod yX2_size, .selects RX2 yX2_size yX2_size, .initialized RX2, .code yX2_size cX2_size 1 (some .int), .fieldLink RX2 25 "HilbertHutch$Stock" "size" "I", .methodLink RX4 126 yX2_numberAt, .instanceMethod yX2_numberAt, .selects RX2 yX2_numberAt yX2_numberAt, .code yX2_numberAt cX2_numberAt 2 (some .int), .fieldLink RX2 22 "HilbertHutch$Stock" "order" "[I"] ++ wsX40 ++ wsX20 ++ (vx_atS RX4 111 "java/lang/IndexOutOfBoundsException" ["java/lang/RuntimeException", "java/lang/Exception"]).filter goodWord)
def wsX4_tightness_r1 : List Cond := [Cond.classLink RX4 35 "java/lang/IllegalStateException", Cond.initialized "java/lang/IllegalStateException", Cond.fieldLink RX4 23 "HilbertHutch" "tree" "LHilbertHutch$Tree;", Cond.fieldLink RX4 16 "HilbertHutch" "stock" "LHilbertHutch$Stock;", Cond.methodLink RX4 75 yX3_width, Cond.instanceMethod yX3_width, Cond.selects RX3 yX3_width yX3_width, Cond.initialized RX3, Cond.code yX3_width cX3_width 2 (some .int), Cond.fieldLink RX3 18 "HilbertHutch$Tree" "height" "I", Cond.fieldLink RX3 15 "HilbertHutch$Tree" "widths" "[I", Cond.methodLink RX4 118 yX4_coverOf, Cond.instanceMethod yX4_coverOf, Cond.selects RX4 yX4_coverOf yX4_coverOf, Cond.initialized RX4, Cond.code yX4_coverOf cX4_coverOf 7 (some .int), Cond.methodLink RX4 179 yX3_boxesBefore, Cond.instanceMethod yX3_boxesBefore, Cond.selects RX3 yX3_boxesBefore yX3_boxesBefore, Cond.code yX3_boxesBefore cX3_boxesBefore 5 (some .int), Cond.methodLink RX3 34 yX3_entriesBefore, Cond.instanceMethod yX3_entriesBefore, Cond.selects RX3 yX3_entriesBefore yX3_entriesBefore, Cond.code yX3_entriesBefore cX3_entriesBefore 5 (some .int)]
def wsX4_tightness_r2 : List Cond := [Cond.methodLink RX3 26 yX3_width, Cond.methodLink RX3 30 yX3_load, Cond.instanceMethod yX3_load, Cond.selects RX3 yX3_load yX3_load, Cond.code yX3_load cX3_load 4 (some .int), Cond.fieldLink RX3 11 "HilbertHutch$Tree" "loads" "[I", Cond.methodLink RX3 22 yX3_hasNode, Cond.instanceMethod yX3_hasNode, Cond.selects RX3 yX3_hasNode yX3_hasNode, Cond.code yX3_hasNode cX3_hasNode 3 (some .boolean), Cond.methodLink RX4 134 yX2_areaAt, Cond.instanceMethod yX2_areaAt, Cond.selects RX2 yX2_areaAt yX2_areaAt, Cond.initialized RX2, Cond.code yX2_areaAt cX2_areaAt 2 (some .int), Cond.methodLink RX2 32 yX2_numberAt, Cond.instanceMethod yX2_numberAt, Cond.selects RX2 yX2_numberAt yX2_numberAt, Cond.code yX2_numberAt cX2_numberAt 2 (some .int), Cond.fieldLink RX2 22 "HilbertHutch$Stock" "order" "[I", Cond.fieldLink RX2 25 "HilbertHutch$Stock" "size" "I", Cond.methodLink RX2 36 yX2_areaOf, Cond.instanceMethod yX2_areaOf, Cond.selects RX2 yX2_areaOf yX2_areaOf]
def wsX4_tightness_r3 : List Cond := [Cond.code yX2_areaOf cX2_areaOf 2 (some .int), Cond.fieldLink RX2 9 "HilbertHutch$Stock" "areas" "[I", Cond.methodLink RX4 182 yX0_around, Cond.static yX0_around, Cond.initialized RX0, Cond.code yX0_around cX0_around 2 (some .int), Cond.methodLink RX0 15 Lib.Math.min.name, Cond.static Lib.Math.min.name, Cond.initialized "java/lang/Math", Cond.code Lib.Math.min.name Lib.Math.min.code 2 (some .int), Cond.methodLink RX0 20 Lib.Math.max.name, Cond.static Lib.Math.max.name, Cond.code Lib.Math.max.name Lib.Math.max.code 2 (some .int), Cond.methodLink RX0 9 yX0_side, Cond.static yX0_side, Cond.code yX0_side cX0_side 2 (some .int), Cond.methodLink RX0 23 yX0_of, Cond.static yX0_of, Cond.code yX0_of cX0_of 4 (some .int), Cond.methodLink RX4 129 yX0_points, Cond.static yX0_points, Cond.code yX0_points cX0_points 1 (some .int), Cond.methodLink RX4 68 yX2_size, Cond.instanceMethod yX2_size]
def wsX4_tightness_r4 : List Cond := [Cond.selects RX2 yX2_size yX2_size, Cond.code yX2_size cX2_size 1 (some .int)]
def wsX4_tightness : List Cond := .code yX4_tightness cX4_tightness 4 (some .float) :: ((wsX4_tightness_r1 ++ (wsX4_tightness_r2 ++ (wsX4_tightness_r3 ++ wsX4_tightness_r4))) ++ wsX40 ++ wsX30 ++ wsX20 ++ (vx_atS RX4 39 "java/lang/IllegalStateException" ["java/lang/RuntimeException", "java/lang/Exception"]).filter goodWord)
def wsX4_count_r1 : List Cond := [Cond.fieldLink RX4 16 "HilbertHutch" "stock" "LHilbertHutch$Stock;", Cond.methodLink RX4 27 yX4_checkSides, Cond.static yX4_checkSides, Cond.initialized RX4, Cond.code yX4_checkSides cX4_checkSides 4 none, Cond.classLink RX4 160 "java/lang/IllegalArgumentException", Cond.initialized "java/lang/IllegalArgumentException", Cond.methodLink RX4 157 yX4_isCoordinate, Cond.static yX4_isCoordinate, Cond.code yX4_isCoordinate cX4_isCoordinate 1 (some .boolean), Cond.methodLink RX4 42 yX0_of, Cond.static yX0_of, Cond.initialized RX0, Cond.code yX0_of cX0_of 4 (some .int), Cond.methodLink RX4 68 yX2_size, Cond.instanceMethod yX2_size, Cond.selects RX2 yX2_size yX2_size, Cond.initialized RX2, Cond.code yX2_size cX2_size 1 (some .int), Cond.fieldLink RX2 25 "HilbertHutch$Stock" "size" "I", Cond.methodLink RX4 134 yX2_areaAt, Cond.instanceMethod yX2_areaAt, Cond.selects RX2 yX2_areaAt yX2_areaAt, Cond.code yX2_areaAt cX2_areaAt 2 (some .int)]
def wsX4_count_r2 : List Cond := [Cond.methodLink RX2 32 yX2_numberAt, Cond.instanceMethod yX2_numberAt, Cond.selects RX2 yX2_numberAt yX2_numberAt, Cond.code yX2_numberAt cX2_numberAt 2 (some .int), Cond.fieldLink RX2 22 "HilbertHutch$Stock" "order" "[I", Cond.methodLink RX2 36 yX2_areaOf, Cond.instanceMethod yX2_areaOf, Cond.selects RX2 yX2_areaOf yX2_areaOf, Cond.code yX2_areaOf cX2_areaOf 2 (some .int), Cond.fieldLink RX2 9 "HilbertHutch$Stock" "areas" "[I", Cond.methodLink RX4 137 yX0_meet, Cond.static yX0_meet, Cond.code yX0_meet cX0_meet 2 (some .boolean), Cond.methodLink RX0 9 yX0_side, Cond.static yX0_side, Cond.code yX0_side cX0_side 2 (some .int)]
def wsX4_count : List Cond := .code yX4_count cX4_count 8 (some .int) :: ((wsX4_count_r1 ++ wsX4_count_r2) ++ wsX40 ++ wsX20 ++ (vx_atS RX4 164 "java/lang/IllegalArgumentException" ["java/lang/RuntimeException", "java/lang/Exception"]).filter goodWord)
def wsX4_found_r1 : List Cond := [Cond.classLink RX4 107 "java/lang/IndexOutOfBoundsException", Cond.initialized "java/lang/IndexOutOfBoundsException", Cond.fieldLink RX4 16 "HilbertHutch" "stock" "LHilbertHutch$Stock;", Cond.methodLink RX4 27 yX4_checkSides, Cond.static yX4_checkSides, Cond.initialized RX4, Cond.code yX4_checkSides cX4_checkSides 4 none, Cond.classLink RX4 160 "java/lang/IllegalArgumentException", Cond.initialized "java/lang/IllegalArgumentException", Cond.methodLink RX4 157 yX4_isCoordinate, Cond.static yX4_isCoordinate, Cond.code yX4_isCoordinate cX4_isCoordinate 1 (some .boolean), Cond.methodLink RX4 42 yX0_of, Cond.static yX0_of, Cond.initialized RX0, Cond.code yX0_of cX0_of 4 (some .int), Cond.methodLink RX4 68 yX2_size, Cond.instanceMethod yX2_size, Cond.selects RX2 yX2_size yX2_size, Cond.initialized RX2, Cond.code yX2_size cX2_size 1 (some .int), Cond.fieldLink RX2 25 "HilbertHutch$Stock" "size" "I", Cond.methodLink RX4 134 yX2_areaAt, Cond.instanceMethod yX2_areaAt]
def wsX4_found_r2 : List Cond := [Cond.selects RX2 yX2_areaAt yX2_areaAt, Cond.code yX2_areaAt cX2_areaAt 2 (some .int), Cond.methodLink RX2 32 yX2_numberAt, Cond.instanceMethod yX2_numberAt, Cond.selects RX2 yX2_numberAt yX2_numberAt, Cond.code yX2_numberAt cX2_numberAt 2 (some .int), Cond.fieldLink RX2 22 "HilbertHutch$Stock" "order" "[I", Cond.methodLink RX2 36 yX2_areaOf, Cond.instanceMethod yX2_areaOf, Cond.selects RX2 yX2_areaOf yX2_areaOf, Cond.code yX2_areaOf cX2_areaOf 2 (some .int), Cond.fieldLink RX2 9 "HilbertHutch$Stock" "areas" "[I", Cond.methodLink RX4 137 yX0_meet, Cond.static yX0_meet, Cond.code yX0_meet cX0_meet 2 (some .boolean), Cond.methodLink RX0 9 yX0_side, Cond.static yX0_side, Cond.code yX0_side cX0_side 2 (some .int), Cond.methodLink RX4 126 yX2_numberAt]
def wsX4_found : List Cond := .code yX4_found cX4_found 9 (some .int) :: ((wsX4_found_r1 ++ wsX4_found_r2) ++ wsX40 ++ wsX20 ++ (vx_atS RX4 111 "java/lang/IndexOutOfBoundsException" ["java/lang/RuntimeException", "java/lang/Exception"]).filter goodWord ++ (vx_atS RX4 164 "java/lang/IllegalArgumentException" ["java/lang/RuntimeException", "java/lang/Exception"]).filter goodWord)
def wsX4_visits_r1 : List Cond := [Cond.fieldLink RX4 23 "HilbertHutch" "tree" "LHilbertHutch$Tree;", Cond.methodLink RX4 27 yX4_checkSides, Cond.static yX4_checkSides, Cond.initialized RX4, Cond.code yX4_checkSides cX4_checkSides 4 none, Cond.classLink RX4 160 "java/lang/IllegalArgumentException", Cond.initialized "java/lang/IllegalArgumentException", Cond.methodLink RX4 157 yX4_isCoordinate, Cond.static yX4_isCoordinate, Cond.code yX4_isCoordinate cX4_isCoordinate 1 (some .boolean), Cond.methodLink RX4 42 yX0_of, Cond.static yX0_of, Cond.initialized RX0, Cond.code yX0_of cX0_of 4 (some .int), Cond.methodLink RX4 100 yX3_height, Cond.instanceMethod yX3_height, Cond.selects RX3 yX3_height yX3_height, Cond.initialized RX3, Cond.code yX3_height cX3_height 1 (some .int), Cond.fieldLink RX3 18 "HilbertHutch$Tree" "height" "I", Cond.methodLink RX4 75 yX3_width, Cond.instanceMethod yX3_width, Cond.selects RX3 yX3_width yX3_width, Cond.code yX3_width cX3_width 2 (some .int)]
def wsX4_visits_r2 : List Cond := [Cond.fieldLink RX3 15 "HilbertHutch$Tree" "widths" "[I", Cond.methodLink RX4 118 yX4_coverOf, Cond.instanceMethod yX4_coverOf, Cond.selects RX4 yX4_coverOf yX4_coverOf, Cond.code yX4_coverOf cX4_coverOf 7 (some .int), Cond.fieldLink RX4 16 "HilbertHutch" "stock" "LHilbertHutch$Stock;", Cond.methodLink RX4 179 yX3_boxesBefore, Cond.instanceMethod yX3_boxesBefore, Cond.selects RX3 yX3_boxesBefore yX3_boxesBefore, Cond.code yX3_boxesBefore cX3_boxesBefore 5 (some .int), Cond.methodLink RX3 34 yX3_entriesBefore, Cond.instanceMethod yX3_entriesBefore, Cond.selects RX3 yX3_entriesBefore yX3_entriesBefore, Cond.code yX3_entriesBefore cX3_entriesBefore 5 (some .int), Cond.methodLink RX3 26 yX3_width, Cond.methodLink RX3 30 yX3_load, Cond.instanceMethod yX3_load, Cond.selects RX3 yX3_load yX3_load, Cond.code yX3_load cX3_load 4 (some .int), Cond.fieldLink RX3 11 "HilbertHutch$Tree" "loads" "[I", Cond.methodLink RX3 22 yX3_hasNode, Cond.instanceMethod yX3_hasNode, Cond.selects RX3 yX3_hasNode yX3_hasNode, Cond.code yX3_hasNode cX3_hasNode 3 (some .boolean)]
def wsX4_visits_r3 : List Cond := [Cond.methodLink RX4 134 yX2_areaAt, Cond.instanceMethod yX2_areaAt, Cond.selects RX2 yX2_areaAt yX2_areaAt, Cond.initialized RX2, Cond.code yX2_areaAt cX2_areaAt 2 (some .int), Cond.methodLink RX2 32 yX2_numberAt, Cond.instanceMethod yX2_numberAt, Cond.selects RX2 yX2_numberAt yX2_numberAt, Cond.code yX2_numberAt cX2_numberAt 2 (some .int), Cond.fieldLink RX2 22 "HilbertHutch$Stock" "order" "[I", Cond.fieldLink RX2 25 "HilbertHutch$Stock" "size" "I", Cond.methodLink RX2 36 yX2_areaOf, Cond.instanceMethod yX2_areaOf, Cond.selects RX2 yX2_areaOf yX2_areaOf, Cond.code yX2_areaOf cX2_areaOf 2 (some .int), Cond.fieldLink RX2 9 "HilbertHutch$Stock" "areas" "[I", Cond.methodLink RX4 182 yX0_around, Cond.static yX0_around, Cond.code yX0_around cX0_around 2 (some .int), Cond.methodLink RX0 15 Lib.Math.min.name, Cond.static Lib.Math.min.name, Cond.initialized "java/lang/Math", Cond.code Lib.Math.min.name Lib.Math.min.code 2 (some .int), Cond.methodLink RX0 20 Lib.Math.max.name]
def wsX4_visits_r4 : List Cond := [Cond.static Lib.Math.max.name, Cond.code Lib.Math.max.name Lib.Math.max.code 2 (some .int), Cond.methodLink RX0 9 yX0_side, Cond.static yX0_side, Cond.code yX0_side cX0_side 2 (some .int), Cond.methodLink RX0 23 yX0_of, Cond.methodLink RX4 137 yX0_meet, Cond.static yX0_meet, Cond.code yX0_meet cX0_meet 2 (some .boolean)]
def wsX4_visits : List Cond := .code yX4_visits cX4_visits 9 (some .int) :: ((wsX4_visits_r1 ++ (wsX4_visits_r2 ++ (wsX4_visits_r3 ++ wsX4_visits_r4))) ++ wsX40 ++ wsX30 ++ wsX20 ++ (vx_atS RX4 164 "java/lang/IllegalArgumentException" ["java/lang/RuntimeException", "java/lang/Exception"]).filter goodWord)
def wsX4_rankByDistance_r1 : List Cond := [Cond.fieldLink RX4 9 "HilbertHutch" "ranks" "[I", Cond.fieldLink RX4 16 "HilbertHutch" "stock" "LHilbertHutch$Stock;", Cond.methodLink RX4 68 yX2_size, Cond.instanceMethod yX2_size, Cond.selects RX2 yX2_size yX2_size, Cond.initialized RX2, Cond.code yX2_size cX2_size 1 (some .int), Cond.fieldLink RX2 25 "HilbertHutch$Stock" "size" "I", Cond.methodLink RX4 134 yX2_areaAt, Cond.instanceMethod yX2_areaAt, Cond.selects RX2 yX2_areaAt yX2_areaAt, Cond.code yX2_areaAt cX2_areaAt 2 (some .int), Cond.methodLink RX2 32 yX2_numberAt, Cond.instanceMethod yX2_numberAt, Cond.selects RX2 yX2_numberAt yX2_numberAt, Cond.code yX2_numberAt cX2_numberAt 2 (some .int), Cond.fieldLink RX2 22 "HilbertHutch$Stock" "order" "[I", Cond.methodLink RX2 36 yX2_areaOf, Cond.instanceMethod yX2_areaOf, Cond.selects RX2 yX2_areaOf yX2_areaOf, Cond.code yX2_areaOf cX2_areaOf 2 (some .int), Cond.fieldLink RX2 9 "HilbertHutch$Stock" "areas" "[I", Cond.methodLink RX4 147 yX0_distanceFrom, Cond.static yX0_distanceFrom]
def wsX4_rankByDistance_r2 : List Cond := [Cond.initialized RX0, Cond.code yX0_distanceFrom cX0_distanceFrom 5 (some .int), Cond.methodLink RX0 9 yX0_side, Cond.static yX0_side, Cond.code yX0_side cX0_side 2 (some .int), Cond.methodLink RX0 27 yX0_gap, Cond.static yX0_gap, Cond.code yX0_gap cX0_gap 3 (some .int), Cond.methodLink RX0 20 Lib.Math.max.name, Cond.static Lib.Math.max.name, Cond.initialized "java/lang/Math", Cond.code Lib.Math.max.name Lib.Math.max.code 2 (some .int), Cond.methodLink RX4 126 yX2_numberAt]
def wsX4_rankByDistance : List Cond := .code yX4_rankByDistance cX4_rankByDistance 5 none :: ((wsX4_rankByDistance_r1 ++ wsX4_rankByDistance_r2) ++ wsX40 ++ wsX20)
def wsX4_ranksBefore : List Cond := .code yX4_ranksBefore cX4_ranksBefore 5 (some .int) :: ([.fieldLink RX4 9 "HilbertHutch" "ranks" "[I", .fieldLink RX4 16 "HilbertHutch" "stock" "LHilbertHutch$Stock;", .methodLink RX4 68 yX2_size, .instanceMethod yX2_size, .selects RX2 yX2_size yX2_size, .initialized RX2, .code yX2_size cX2_size 1 (some .int), .fieldLink RX2 25 "HilbertHutch$Stock" "size" "I"] ++ wsX40 ++ wsX20)
def wsX4_nearest_r1 : List Cond := [Cond.classLink RX4 107 "java/lang/IndexOutOfBoundsException", Cond.initialized "java/lang/IndexOutOfBoundsException", Cond.fieldLink RX4 16 "HilbertHutch" "stock" "LHilbertHutch$Stock;", Cond.methodLink RX4 78 yX4_checkPoint, Cond.static yX4_checkPoint, Cond.initialized RX4, Cond.code yX4_checkPoint cX4_checkPoint 2 none, Cond.classLink RX4 160 "java/lang/IllegalArgumentException", Cond.initialized "java/lang/IllegalArgumentException", Cond.methodLink RX4 157 yX4_isCoordinate, Cond.static yX4_isCoordinate, Cond.code yX4_isCoordinate cX4_isCoordinate 1 (some .boolean), Cond.methodLink RX4 141 yX4_rankByDistance, Cond.instanceMethod yX4_rankByDistance, Cond.selects RX4 yX4_rankByDistance yX4_rankByDistance, Cond.code yX4_rankByDistance cX4_rankByDistance 5 none, Cond.fieldLink RX4 9 "HilbertHutch" "ranks" "[I", Cond.methodLink RX4 68 yX2_size, Cond.instanceMethod yX2_size, Cond.selects RX2 yX2_size yX2_size, Cond.initialized RX2, Cond.code yX2_size cX2_size 1 (some .int), Cond.fieldLink RX2 25 "HilbertHutch$Stock" "size" "I", Cond.methodLink RX4 134 yX2_areaAt]
def wsX4_nearest_r2 : List Cond := [Cond.instanceMethod yX2_areaAt, Cond.selects RX2 yX2_areaAt yX2_areaAt, Cond.code yX2_areaAt cX2_areaAt 2 (some .int), Cond.methodLink RX2 32 yX2_numberAt, Cond.instanceMethod yX2_numberAt, Cond.selects RX2 yX2_numberAt yX2_numberAt, Cond.code yX2_numberAt cX2_numberAt 2 (some .int), Cond.fieldLink RX2 22 "HilbertHutch$Stock" "order" "[I", Cond.methodLink RX2 36 yX2_areaOf, Cond.instanceMethod yX2_areaOf, Cond.selects RX2 yX2_areaOf yX2_areaOf, Cond.code yX2_areaOf cX2_areaOf 2 (some .int), Cond.fieldLink RX2 9 "HilbertHutch$Stock" "areas" "[I", Cond.methodLink RX4 147 yX0_distanceFrom, Cond.static yX0_distanceFrom, Cond.initialized RX0, Cond.code yX0_distanceFrom cX0_distanceFrom 5 (some .int), Cond.methodLink RX0 9 yX0_side, Cond.static yX0_side, Cond.code yX0_side cX0_side 2 (some .int), Cond.methodLink RX0 27 yX0_gap, Cond.static yX0_gap, Cond.code yX0_gap cX0_gap 3 (some .int), Cond.methodLink RX0 20 Lib.Math.max.name]
def wsX4_nearest_r3 : List Cond := [Cond.static Lib.Math.max.name, Cond.initialized "java/lang/Math", Cond.code Lib.Math.max.name Lib.Math.max.code 2 (some .int), Cond.methodLink RX4 126 yX2_numberAt, Cond.methodLink RX4 144 yX4_ranksBefore, Cond.instanceMethod yX4_ranksBefore, Cond.selects RX4 yX4_ranksBefore yX4_ranksBefore, Cond.code yX4_ranksBefore cX4_ranksBefore 5 (some .int)]
def wsX4_nearest : List Cond := .code yX4_nearest cX4_nearest 5 (some .int) :: ((wsX4_nearest_r1 ++ (wsX4_nearest_r2 ++ wsX4_nearest_r3)) ++ wsX40 ++ wsX20 ++ (vx_atS RX4 111 "java/lang/IndexOutOfBoundsException" ["java/lang/RuntimeException", "java/lang/Exception"]).filter goodWord ++ (vx_atS RX4 164 "java/lang/IllegalArgumentException" ["java/lang/RuntimeException", "java/lang/Exception"]).filter goodWord)
def wsX4_distance_r1 : List Cond := [Cond.fieldLink RX4 16 "HilbertHutch" "stock" "LHilbertHutch$Stock;", Cond.methodLink RX4 78 yX4_checkPoint, Cond.static yX4_checkPoint, Cond.initialized RX4, Cond.code yX4_checkPoint cX4_checkPoint 2 none, Cond.classLink RX4 160 "java/lang/IllegalArgumentException", Cond.initialized "java/lang/IllegalArgumentException", Cond.methodLink RX4 157 yX4_isCoordinate, Cond.static yX4_isCoordinate, Cond.code yX4_isCoordinate cX4_isCoordinate 1 (some .boolean), Cond.methodLink RX4 59 yX4_checkBox, Cond.instanceMethod yX4_checkBox, Cond.selects RX4 yX4_checkBox yX4_checkBox, Cond.code yX4_checkBox cX4_checkBox 2 none, Cond.classLink RX4 107 "java/lang/IndexOutOfBoundsException", Cond.initialized "java/lang/IndexOutOfBoundsException", Cond.methodLink RX4 169 yX2_has, Cond.instanceMethod yX2_has, Cond.selects RX2 yX2_has yX2_has, Cond.initialized RX2, Cond.code yX2_has cX2_has 2 (some .boolean), Cond.fieldLink RX2 18 "HilbertHutch$Stock" "there" "[Z", Cond.methodLink RX4 94 yX2_areaOf, Cond.instanceMethod yX2_areaOf]
def wsX4_distance_r2 : List Cond := [Cond.selects RX2 yX2_areaOf yX2_areaOf, Cond.code yX2_areaOf cX2_areaOf 2 (some .int), Cond.fieldLink RX2 9 "HilbertHutch$Stock" "areas" "[I", Cond.methodLink RX4 147 yX0_distanceFrom, Cond.static yX0_distanceFrom, Cond.initialized RX0, Cond.code yX0_distanceFrom cX0_distanceFrom 5 (some .int), Cond.methodLink RX0 9 yX0_side, Cond.static yX0_side, Cond.code yX0_side cX0_side 2 (some .int), Cond.methodLink RX0 27 yX0_gap, Cond.static yX0_gap, Cond.code yX0_gap cX0_gap 3 (some .int), Cond.methodLink RX0 20 Lib.Math.max.name, Cond.static Lib.Math.max.name, Cond.initialized "java/lang/Math", Cond.code Lib.Math.max.name Lib.Math.max.code 2 (some .int)]
def wsX4_distance : List Cond := .code yX4_distance cX4_distance 4 (some .int) :: ((wsX4_distance_r1 ++ wsX4_distance_r2) ++ wsX40 ++ wsX20 ++ (vx_atS RX4 164 "java/lang/IllegalArgumentException" ["java/lang/RuntimeException", "java/lang/Exception"]).filter goodWord ++ (vx_atS RX4 111 "java/lang/IndexOutOfBoundsException" ["java/lang/RuntimeException", "java/lang/Exception"]).filter goodWord)
def wsX4_pairs_r1 : List Cond := [Cond.fieldLink RX4 16 "HilbertHutch" "stock" "LHilbertHutch$Stock;", Cond.methodLink RX4 151 yX2_added, Cond.instanceMethod yX2_added, Cond.selects RX2 yX2_added yX2_added, Cond.initialized RX2, Cond.code yX2_added cX2_added 1 (some .int), Cond.fieldLink RX2 29 "HilbertHutch$Stock" "added" "I", Cond.methodLink RX4 154 yX2_haveMet, Cond.instanceMethod yX2_haveMet, Cond.selects RX2 yX2_haveMet yX2_haveMet, Cond.code yX2_haveMet cX2_haveMet 3 (some .boolean), Cond.methodLink RX2 39 yX2_has, Cond.instanceMethod yX2_has, Cond.selects RX2 yX2_has yX2_has, Cond.code yX2_has cX2_has 2 (some .boolean), Cond.fieldLink RX2 18 "HilbertHutch$Stock" "there" "[Z", Cond.methodLink RX2 36 yX2_areaOf, Cond.instanceMethod yX2_areaOf, Cond.selects RX2 yX2_areaOf yX2_areaOf, Cond.code yX2_areaOf cX2_areaOf 2 (some .int), Cond.fieldLink RX2 9 "HilbertHutch$Stock" "areas" "[I", Cond.methodLink RX2 43 yX0_meet, Cond.static yX0_meet, Cond.initialized RX0]
def wsX4_pairs_r2 : List Cond := [Cond.code yX0_meet cX0_meet 2 (some .boolean), Cond.methodLink RX0 9 yX0_side, Cond.static yX0_side, Cond.code yX0_side cX0_side 2 (some .int)]
def wsX4_pairs : List Cond := .code yX4_pairs cX4_pairs 4 (some .int) :: ((wsX4_pairs_r1 ++ wsX4_pairs_r2) ++ wsX40 ++ wsX20)
def wsX4_pair_r1 : List Cond := [Cond.classLink RX4 107 "java/lang/IndexOutOfBoundsException", Cond.initialized "java/lang/IndexOutOfBoundsException", Cond.fieldLink RX4 16 "HilbertHutch" "stock" "LHilbertHutch$Stock;", Cond.methodLink RX4 151 yX2_added, Cond.instanceMethod yX2_added, Cond.selects RX2 yX2_added yX2_added, Cond.initialized RX2, Cond.code yX2_added cX2_added 1 (some .int), Cond.fieldLink RX2 29 "HilbertHutch$Stock" "added" "I", Cond.methodLink RX4 154 yX2_haveMet, Cond.instanceMethod yX2_haveMet, Cond.selects RX2 yX2_haveMet yX2_haveMet, Cond.code yX2_haveMet cX2_haveMet 3 (some .boolean), Cond.methodLink RX2 39 yX2_has, Cond.instanceMethod yX2_has, Cond.selects RX2 yX2_has yX2_has, Cond.code yX2_has cX2_has 2 (some .boolean), Cond.fieldLink RX2 18 "HilbertHutch$Stock" "there" "[Z", Cond.methodLink RX2 36 yX2_areaOf, Cond.instanceMethod yX2_areaOf, Cond.selects RX2 yX2_areaOf yX2_areaOf, Cond.code yX2_areaOf cX2_areaOf 2 (some .int), Cond.fieldLink RX2 9 "HilbertHutch$Stock" "areas" "[I", Cond.methodLink RX2 43 yX0_meet]
def wsX4_pair_r2 : List Cond := [Cond.static yX0_meet, Cond.initialized RX0, Cond.code yX0_meet cX0_meet 2 (some .boolean), Cond.methodLink RX0 9 yX0_side, Cond.static yX0_side, Cond.code yX0_side cX0_side 2 (some .int)]
def wsX4_pair : List Cond := .code yX4_pair cX4_pair 5 (some .int) :: ((wsX4_pair_r1 ++ wsX4_pair_r2) ++ wsX40 ++ wsX20 ++ (vx_atS RX4 111 "java/lang/IndexOutOfBoundsException" ["java/lang/RuntimeException", "java/lang/Exception"]).filter goodWord)
def wsX5_init : List Cond := .code yX5_init cX5_init 1 none :: ([.methodLink RX5 1 objectInit, .instanceMethod objectInit, .code objectInit ⟨#[0xb1]⟩ 1 none, .arrayClass .int, .fieldLink RX5 7 "HilbertHutchModel" "sides" "[I", .fieldLink RX5 13 "HilbertHutchModel" "key" "[I", .arrayClass .boolean, .fieldLink RX5 16 "HilbertHutchModel" "isThere" "[Z", .fieldLink RX5 20 "HilbertHutchModel" "order" "[I", .fieldLink RX5 23 "HilbertHutchModel" "nodes" "[I", .fieldLink RX5 26 "HilbertHutchModel" "entries" "[I"] ++ wsX50)
def wsX5_thrown : List Cond := .code yX5_thrown cX5_thrown 1 (some .int) :: ([.fieldLink RX5 29 "HilbertHutchModel" "thrown" "I"] ++ wsX50)
def wsX5_fails : List Cond := .code yX5_fails cX5_fails 2 (some .boolean) :: ([.fieldLink RX5 29 "HilbertHutchModel" "thrown" "I"] ++ wsX50)
def wsX5_tells : List Cond := .code yX5_tells cX5_tells 2 (some .int) :: ([.fieldLink RX5 29 "HilbertHutchModel" "thrown" "I"] ++ wsX50)
def wsX5_isPoint : List Cond := .code yX5_isPoint cX5_isPoint 2 (some .boolean) :: ([])
def wsX5_isArea : List Cond := .code yX5_isArea cX5_isArea 4 (some .boolean) :: ([])
def wsX5_is : List Cond := .code yX5_is cX5_is 2 (some .boolean) :: ([.fieldLink RX5 33 "HilbertHutchModel" "added" "I", .fieldLink RX5 16 "HilbertHutchModel" "isThere" "[Z"] ++ wsX50)
def wsX5_keyAt : List Cond := .code yX5_keyAt cX5_keyAt 10 (some .int) :: ([])
def wsX5_many : List Cond := .code yX5_many cX5_many 3 (some .int) :: ([.fieldLink RX5 26 "HilbertHutchModel" "entries" "[I"] ++ wsX50)
def wsX5_ahead : List Cond := .code yX5_ahead cX5_ahead 5 (some .int) :: ([.methodLink RX5 36 yX5_many, .instanceMethod yX5_many, .selects RX5 yX5_many yX5_many, .initialized RX5, .code yX5_many cX5_many 3 (some .int), .fieldLink RX5 26 "HilbertHutchModel" "entries" "[I"] ++ wsX50)
def wsX5_above : List Cond := .code yX5_above cX5_above 4 (some .int) :: ([.methodLink RX5 40 yX5_ahead, .instanceMethod yX5_ahead, .selects RX5 yX5_ahead yX5_ahead, .initialized RX5, .code yX5_ahead cX5_ahead 5 (some .int), .methodLink RX5 36 yX5_many, .instanceMethod yX5_many, .selects RX5 yX5_many yX5_many, .code yX5_many cX5_many 3 (some .int), .fieldLink RX5 26 "HilbertHutchModel" "entries" "[I"] ++ wsX50)
def wsX5_partner : List Cond := .code yX5_partner cX5_partner 6 (some .int) :: ([.fieldLink RX5 43 "HilbertHutchModel" "levels" "I", .methodLink RX5 46 yX5_above, .instanceMethod yX5_above, .selects RX5 yX5_above yX5_above, .initialized RX5, .code yX5_above cX5_above 4 (some .int), .methodLink RX5 40 yX5_ahead, .instanceMethod yX5_ahead, .selects RX5 yX5_ahead yX5_ahead, .code yX5_ahead cX5_ahead 5 (some .int), .methodLink RX5 36 yX5_many, .instanceMethod yX5_many, .selects RX5 yX5_many yX5_many, .code yX5_many cX5_many 3 (some .int), .fieldLink RX5 26 "HilbertHutchModel" "entries" "[I"] ++ wsX50)
def wsX5_enters : List Cond := .code yX5_enters cX5_enters 5 none :: ([.fieldLink RX5 23 "HilbertHutchModel" "nodes" "[I", .fieldLink RX5 26 "HilbertHutchModel" "entries" "[I"] ++ wsX50)
def wsX5_goes : List Cond := .code yX5_goes cX5_goes 4 none :: ([.fieldLink RX5 23 "HilbertHutchModel" "nodes" "[I", .fieldLink RX5 26 "HilbertHutchModel" "entries" "[I"] ++ wsX50)
def wsX5_shares : List Cond := .code yX5_shares cX5_shares 4 none :: ([.fieldLink RX5 26 "HilbertHutchModel" "entries" "[I", .methodLink RX5 36 yX5_many, .instanceMethod yX5_many, .selects RX5 yX5_many yX5_many, .initialized RX5, .code yX5_many cX5_many 3 (some .int)] ++ wsX50)
def wsX5_grows_r1 : List Cond := [Cond.fieldLink RX5 26 "HilbertHutchModel" "entries" "[I", Cond.fieldLink RX5 43 "HilbertHutchModel" "levels" "I", Cond.fieldLink RX5 23 "HilbertHutchModel" "nodes" "[I", Cond.methodLink RX5 36 yX5_many, Cond.instanceMethod yX5_many, Cond.selects RX5 yX5_many yX5_many, Cond.initialized RX5, Cond.code yX5_many cX5_many 3 (some .int), Cond.methodLink RX5 49 yX5_partner, Cond.instanceMethod yX5_partner, Cond.selects RX5 yX5_partner yX5_partner, Cond.code yX5_partner cX5_partner 6 (some .int), Cond.methodLink RX5 46 yX5_above, Cond.instanceMethod yX5_above, Cond.selects RX5 yX5_above yX5_above, Cond.code yX5_above cX5_above 4 (some .int), Cond.methodLink RX5 40 yX5_ahead, Cond.instanceMethod yX5_ahead, Cond.selects RX5 yX5_ahead yX5_ahead, Cond.code yX5_ahead cX5_ahead 5 (some .int), Cond.methodLink RX5 52 yX5_enters, Cond.instanceMethod yX5_enters, Cond.selects RX5 yX5_enters yX5_enters, Cond.code yX5_enters cX5_enters 5 none]
def wsX5_grows_r2 : List Cond := [Cond.methodLink RX5 56 yX5_shares, Cond.instanceMethod yX5_shares, Cond.selects RX5 yX5_shares yX5_shares, Cond.code yX5_shares cX5_shares 4 none]
def wsX5_grows : List Cond := .code yX5_grows cX5_grows 9 none :: ((wsX5_grows_r1 ++ wsX5_grows_r2) ++ wsX50)
def wsX5_shrinks_r1 : List Cond := [Cond.fieldLink RX5 26 "HilbertHutchModel" "entries" "[I", Cond.fieldLink RX5 43 "HilbertHutchModel" "levels" "I", Cond.fieldLink RX5 63 "HilbertHutchModel" "boxes" "I", Cond.methodLink RX5 36 yX5_many, Cond.instanceMethod yX5_many, Cond.selects RX5 yX5_many yX5_many, Cond.initialized RX5, Cond.code yX5_many cX5_many 3 (some .int), Cond.methodLink RX5 49 yX5_partner, Cond.instanceMethod yX5_partner, Cond.selects RX5 yX5_partner yX5_partner, Cond.code yX5_partner cX5_partner 6 (some .int), Cond.methodLink RX5 46 yX5_above, Cond.instanceMethod yX5_above, Cond.selects RX5 yX5_above yX5_above, Cond.code yX5_above cX5_above 4 (some .int), Cond.methodLink RX5 40 yX5_ahead, Cond.instanceMethod yX5_ahead, Cond.selects RX5 yX5_ahead yX5_ahead, Cond.code yX5_ahead cX5_ahead 5 (some .int), Cond.methodLink RX5 60 yX5_goes, Cond.instanceMethod yX5_goes, Cond.selects RX5 yX5_goes yX5_goes, Cond.code yX5_goes cX5_goes 4 none]
def wsX5_shrinks_r2 : List Cond := [Cond.fieldLink RX5 23 "HilbertHutchModel" "nodes" "[I", Cond.methodLink RX5 56 yX5_shares, Cond.instanceMethod yX5_shares, Cond.selects RX5 yX5_shares yX5_shares, Cond.code yX5_shares cX5_shares 4 none]
def wsX5_shrinks : List Cond := .code yX5_shrinks cX5_shrinks 9 none :: ((wsX5_shrinks_r1 ++ wsX5_shrinks_r2) ++ wsX50)
def wsX5_leafFor : List Cond := .code yX5_leafFor cX5_leafFor 3 (some .int) :: ([.fieldLink RX5 43 "HilbertHutchModel" "levels" "I", .fieldLink RX5 23 "HilbertHutchModel" "nodes" "[I", .methodLink RX5 40 yX5_ahead, .instanceMethod yX5_ahead, .selects RX5 yX5_ahead yX5_ahead, .initialized RX5, .code yX5_ahead cX5_ahead 5 (some .int), .methodLink RX5 36 yX5_many, .instanceMethod yX5_many, .selects RX5 yX5_many yX5_many, .code yX5_many cX5_many 3 (some .int), .fieldLink RX5 26 "HilbertHutchModel" "entries" "[I"] ++ wsX50)
def wsX5_add_r1 : List Cond := [Cond.fieldLink RX5 63 "HilbertHutchModel" "boxes" "I", Cond.fieldLink RX5 33 "HilbertHutchModel" "added" "I", Cond.fieldLink RX5 7 "HilbertHutchModel" "sides" "[I", Cond.fieldLink RX5 13 "HilbertHutchModel" "key" "[I", Cond.fieldLink RX5 16 "HilbertHutchModel" "isThere" "[Z", Cond.fieldLink RX5 20 "HilbertHutchModel" "order" "[I", Cond.fieldLink RX5 43 "HilbertHutchModel" "levels" "I", Cond.fieldLink RX5 23 "HilbertHutchModel" "nodes" "[I", Cond.fieldLink RX5 26 "HilbertHutchModel" "entries" "[I", Cond.methodLink RX5 66 yX5_isArea, Cond.static yX5_isArea, Cond.initialized RX5, Cond.code yX5_isArea cX5_isArea 4 (some .boolean), Cond.methodLink RX5 70 yX5_fails, Cond.instanceMethod yX5_fails, Cond.selects RX5 yX5_fails yX5_fails, Cond.code yX5_fails cX5_fails 2 (some .boolean), Cond.fieldLink RX5 29 "HilbertHutchModel" "thrown" "I", Cond.methodLink RX5 74 yX5_keyAt, Cond.static yX5_keyAt, Cond.code yX5_keyAt cX5_keyAt 10 (some .int), Cond.methodLink RX5 77 yX5_leafFor, Cond.instanceMethod yX5_leafFor, Cond.selects RX5 yX5_leafFor yX5_leafFor]
def wsX5_add_r2 : List Cond := [Cond.code yX5_leafFor cX5_leafFor 3 (some .int), Cond.methodLink RX5 40 yX5_ahead, Cond.instanceMethod yX5_ahead, Cond.selects RX5 yX5_ahead yX5_ahead, Cond.code yX5_ahead cX5_ahead 5 (some .int), Cond.methodLink RX5 36 yX5_many, Cond.instanceMethod yX5_many, Cond.selects RX5 yX5_many yX5_many, Cond.code yX5_many cX5_many 3 (some .int), Cond.methodLink RX5 81 yX5_grows, Cond.instanceMethod yX5_grows, Cond.selects RX5 yX5_grows yX5_grows, Cond.code yX5_grows cX5_grows 9 none, Cond.methodLink RX5 49 yX5_partner, Cond.instanceMethod yX5_partner, Cond.selects RX5 yX5_partner yX5_partner, Cond.code yX5_partner cX5_partner 6 (some .int), Cond.methodLink RX5 46 yX5_above, Cond.instanceMethod yX5_above, Cond.selects RX5 yX5_above yX5_above, Cond.code yX5_above cX5_above 4 (some .int), Cond.methodLink RX5 52 yX5_enters, Cond.instanceMethod yX5_enters, Cond.selects RX5 yX5_enters yX5_enters]
def wsX5_add_r3 : List Cond := [Cond.code yX5_enters cX5_enters 5 none, Cond.methodLink RX5 56 yX5_shares, Cond.instanceMethod yX5_shares, Cond.selects RX5 yX5_shares yX5_shares, Cond.code yX5_shares cX5_shares 4 none]
def wsX5_add : List Cond := .code yX5_add cX5_add 8 (some .int) :: ((wsX5_add_r1 ++ (wsX5_add_r2 ++ wsX5_add_r3)) ++ wsX50)
def wsX5_placeOf : List Cond := .code yX5_placeOf cX5_placeOf 3 (some .int) :: ([.fieldLink RX5 20 "HilbertHutchModel" "order" "[I"] ++ wsX50)
def wsX5_remove_r1 : List Cond := [Cond.fieldLink RX5 16 "HilbertHutchModel" "isThere" "[Z", Cond.fieldLink RX5 63 "HilbertHutchModel" "boxes" "I", Cond.fieldLink RX5 20 "HilbertHutchModel" "order" "[I", Cond.methodLink RX5 84 yX5_is, Cond.instanceMethod yX5_is, Cond.selects RX5 yX5_is yX5_is, Cond.initialized RX5, Cond.code yX5_is cX5_is 2 (some .boolean), Cond.fieldLink RX5 33 "HilbertHutchModel" "added" "I", Cond.methodLink RX5 70 yX5_fails, Cond.instanceMethod yX5_fails, Cond.selects RX5 yX5_fails yX5_fails, Cond.code yX5_fails cX5_fails 2 (some .boolean), Cond.fieldLink RX5 29 "HilbertHutchModel" "thrown" "I", Cond.methodLink RX5 87 yX5_placeOf, Cond.instanceMethod yX5_placeOf, Cond.selects RX5 yX5_placeOf yX5_placeOf, Cond.code yX5_placeOf cX5_placeOf 3 (some .int), Cond.methodLink RX5 77 yX5_leafFor, Cond.instanceMethod yX5_leafFor, Cond.selects RX5 yX5_leafFor yX5_leafFor, Cond.code yX5_leafFor cX5_leafFor 3 (some .int), Cond.fieldLink RX5 43 "HilbertHutchModel" "levels" "I", Cond.fieldLink RX5 23 "HilbertHutchModel" "nodes" "[I"]
def wsX5_remove_r2 : List Cond := [Cond.methodLink RX5 40 yX5_ahead, Cond.instanceMethod yX5_ahead, Cond.selects RX5 yX5_ahead yX5_ahead, Cond.code yX5_ahead cX5_ahead 5 (some .int), Cond.methodLink RX5 36 yX5_many, Cond.instanceMethod yX5_many, Cond.selects RX5 yX5_many yX5_many, Cond.code yX5_many cX5_many 3 (some .int), Cond.fieldLink RX5 26 "HilbertHutchModel" "entries" "[I", Cond.methodLink RX5 90 yX5_shrinks, Cond.instanceMethod yX5_shrinks, Cond.selects RX5 yX5_shrinks yX5_shrinks, Cond.code yX5_shrinks cX5_shrinks 9 none, Cond.methodLink RX5 49 yX5_partner, Cond.instanceMethod yX5_partner, Cond.selects RX5 yX5_partner yX5_partner, Cond.code yX5_partner cX5_partner 6 (some .int), Cond.methodLink RX5 46 yX5_above, Cond.instanceMethod yX5_above, Cond.selects RX5 yX5_above yX5_above, Cond.code yX5_above cX5_above 4 (some .int), Cond.methodLink RX5 60 yX5_goes, Cond.instanceMethod yX5_goes, Cond.selects RX5 yX5_goes yX5_goes]
def wsX5_remove_r3 : List Cond := [Cond.code yX5_goes cX5_goes 4 none, Cond.methodLink RX5 56 yX5_shares, Cond.instanceMethod yX5_shares, Cond.selects RX5 yX5_shares yX5_shares, Cond.code yX5_shares cX5_shares 4 none]
def wsX5_remove : List Cond := .code yX5_remove cX5_remove 5 (some .int) :: ((wsX5_remove_r1 ++ (wsX5_remove_r2 ++ wsX5_remove_r3)) ++ wsX50)
def wsX5_pack : List Cond := .code yX5_pack cX5_pack 4 (some .int) :: ([.fieldLink RX5 29 "HilbertHutchModel" "thrown" "I", .fieldLink RX5 63 "HilbertHutchModel" "boxes" "I", .fieldLink RX5 43 "HilbertHutchModel" "levels" "I", .fieldLink RX5 23 "HilbertHutchModel" "nodes" "[I", .fieldLink RX5 26 "HilbertHutchModel" "entries" "[I"] ++ wsX50)
def wsX5_boxes : List Cond := .code yX5_boxes cX5_boxes 1 (some .int) :: ([.fieldLink RX5 63 "HilbertHutchModel" "boxes" "I", .methodLink RX5 94 yX5_tells, .instanceMethod yX5_tells, .selects RX5 yX5_tells yX5_tells, .initialized RX5, .code yX5_tells cX5_tells 2 (some .int), .fieldLink RX5 29 "HilbertHutchModel" "thrown" "I"] ++ wsX50)
def wsX5_key : List Cond := .code yX5_key cX5_key 3 (some .int) :: ([.methodLink RX5 97 yX5_isPoint, .static yX5_isPoint, .initialized RX5, .code yX5_isPoint cX5_isPoint 2 (some .boolean), .methodLink RX5 70 yX5_fails, .instanceMethod yX5_fails, .selects RX5 yX5_fails yX5_fails, .code yX5_fails cX5_fails 2 (some .boolean), .fieldLink RX5 29 "HilbertHutchModel" "thrown" "I", .methodLink RX5 74 yX5_keyAt, .static yX5_keyAt, .code yX5_keyAt cX5_keyAt 10 (some .int)] ++ wsX50)
def wsX5_keyOf : List Cond := .code yX5_keyOf cX5_keyOf 2 (some .int) :: ([.fieldLink RX5 13 "HilbertHutchModel" "key" "[I", .methodLink RX5 84 yX5_is, .instanceMethod yX5_is, .selects RX5 yX5_is yX5_is, .initialized RX5, .code yX5_is cX5_is 2 (some .boolean), .fieldLink RX5 33 "HilbertHutchModel" "added" "I", .fieldLink RX5 16 "HilbertHutchModel" "isThere" "[Z", .methodLink RX5 70 yX5_fails, .instanceMethod yX5_fails, .selects RX5 yX5_fails yX5_fails, .code yX5_fails cX5_fails 2 (some .boolean), .fieldLink RX5 29 "HilbertHutchModel" "thrown" "I"] ++ wsX50)
def wsX5_isSide : List Cond := .code yX5_isSide cX5_isSide 1 (some .boolean) :: ([])
def wsX5_sideOf : List Cond := .code yX5_sideOf cX5_sideOf 3 (some .int) :: ([.fieldLink RX5 7 "HilbertHutchModel" "sides" "[I", .methodLink RX5 101 yX5_isSide, .static yX5_isSide, .initialized RX5, .code yX5_isSide cX5_isSide 1 (some .boolean), .methodLink RX5 84 yX5_is, .instanceMethod yX5_is, .selects RX5 yX5_is yX5_is, .code yX5_is cX5_is 2 (some .boolean), .fieldLink RX5 33 "HilbertHutchModel" "added" "I", .fieldLink RX5 16 "HilbertHutchModel" "isThere" "[Z", .methodLink RX5 70 yX5_fails, .instanceMethod yX5_fails, .selects RX5 yX5_fails yX5_fails, .code yX5_fails cX5_fails 2 (some .boolean), .fieldLink RX5 29 "HilbertHutchModel" "thrown" "I"] ++ wsX50)
def wsX5_levels : List Cond := .code yX5_levels cX5_levels 1 (some .int) :: ([.fieldLink RX5 43 "HilbertHutchModel" "levels" "I", .methodLink RX5 94 yX5_tells, .instanceMethod yX5_tells, .selects RX5 yX5_tells yX5_tells, .initialized RX5, .code yX5_tells cX5_tells 2 (some .int), .fieldLink RX5 29 "HilbertHutchModel" "thrown" "I"] ++ wsX50)
def wsX5_isLevel : List Cond := .code yX5_isLevel cX5_isLevel 2 (some .boolean) :: ([.fieldLink RX5 43 "HilbertHutchModel" "levels" "I"] ++ wsX50)
def wsX5_nodes : List Cond := .code yX5_nodes cX5_nodes 2 (some .int) :: ([.fieldLink RX5 23 "HilbertHutchModel" "nodes" "[I", .methodLink RX5 104 yX5_isLevel, .instanceMethod yX5_isLevel, .selects RX5 yX5_isLevel yX5_isLevel, .initialized RX5, .code yX5_isLevel cX5_isLevel 2 (some .boolean), .fieldLink RX5 43 "HilbertHutchModel" "levels" "I", .methodLink RX5 70 yX5_fails, .instanceMethod yX5_fails, .selects RX5 yX5_fails yX5_fails, .code yX5_fails cX5_fails 2 (some .boolean), .fieldLink RX5 29 "HilbertHutchModel" "thrown" "I"] ++ wsX50)
def wsX5_isNode : List Cond := .code yX5_isNode cX5_isNode 3 (some .boolean) :: ([.fieldLink RX5 23 "HilbertHutchModel" "nodes" "[I", .methodLink RX5 104 yX5_isLevel, .instanceMethod yX5_isLevel, .selects RX5 yX5_isLevel yX5_isLevel, .initialized RX5, .code yX5_isLevel cX5_isLevel 2 (some .boolean), .fieldLink RX5 43 "HilbertHutchModel" "levels" "I"] ++ wsX50)
def wsX5_entries : List Cond := .code yX5_entries cX5_entries 3 (some .int) :: ([.methodLink RX5 107 yX5_isNode, .instanceMethod yX5_isNode, .selects RX5 yX5_isNode yX5_isNode, .initialized RX5, .code yX5_isNode cX5_isNode 3 (some .boolean), .fieldLink RX5 23 "HilbertHutchModel" "nodes" "[I", .methodLink RX5 104 yX5_isLevel, .instanceMethod yX5_isLevel, .selects RX5 yX5_isLevel yX5_isLevel, .code yX5_isLevel cX5_isLevel 2 (some .boolean), .fieldLink RX5 43 "HilbertHutchModel" "levels" "I", .methodLink RX5 70 yX5_fails, .instanceMethod yX5_fails, .selects RX5 yX5_fails yX5_fails, .code yX5_fails cX5_fails 2 (some .boolean), .fieldLink RX5 29 "HilbertHutchModel" "thrown" "I", .methodLink RX5 36 yX5_many, .instanceMethod yX5_many, .selects RX5 yX5_many yX5_many, .code yX5_many cX5_many 3 (some .int), .fieldLink RX5 26 "HilbertHutchModel" "entries" "[I"] ++ wsX50)
def wsX5_covers : List Cond := .code yX5_covers cX5_covers 5 none :: ([.fieldLink RX5 110 "HilbertHutchModel" "first" "I", .fieldLink RX5 113 "HilbertHutchModel" "end" "I", .fieldLink RX5 116 "HilbertHutchModel" "left" "I", .fieldLink RX5 119 "HilbertHutchModel" "low" "I", .fieldLink RX5 122 "HilbertHutchModel" "right" "I", .fieldLink RX5 125 "HilbertHutchModel" "high" "I", .fieldLink RX5 20 "HilbertHutchModel" "order" "[I", .fieldLink RX5 7 "HilbertHutchModel" "sides" "[I", .methodLink RX5 40 yX5_ahead, .instanceMethod yX5_ahead, .selects RX5 yX5_ahead yX5_ahead, .initialized RX5, .code yX5_ahead cX5_ahead 5 (some .int), .methodLink RX5 36 yX5_many, .instanceMethod yX5_many, .selects RX5 yX5_many yX5_many, .code yX5_many cX5_many 3 (some .int), .fieldLink RX5 26 "HilbertHutchModel" "entries" "[I"] ++ wsX50)
def wsX5_cover_r1 : List Cond := [Cond.fieldLink RX5 116 "HilbertHutchModel" "left" "I", Cond.fieldLink RX5 119 "HilbertHutchModel" "low" "I", Cond.fieldLink RX5 122 "HilbertHutchModel" "right" "I", Cond.fieldLink RX5 125 "HilbertHutchModel" "high" "I", Cond.methodLink RX5 101 yX5_isSide, Cond.static yX5_isSide, Cond.initialized RX5, Cond.code yX5_isSide cX5_isSide 1 (some .boolean), Cond.methodLink RX5 107 yX5_isNode, Cond.instanceMethod yX5_isNode, Cond.selects RX5 yX5_isNode yX5_isNode, Cond.code yX5_isNode cX5_isNode 3 (some .boolean), Cond.fieldLink RX5 23 "HilbertHutchModel" "nodes" "[I", Cond.methodLink RX5 104 yX5_isLevel, Cond.instanceMethod yX5_isLevel, Cond.selects RX5 yX5_isLevel yX5_isLevel, Cond.code yX5_isLevel cX5_isLevel 2 (some .boolean), Cond.fieldLink RX5 43 "HilbertHutchModel" "levels" "I", Cond.methodLink RX5 70 yX5_fails, Cond.instanceMethod yX5_fails, Cond.selects RX5 yX5_fails yX5_fails, Cond.code yX5_fails cX5_fails 2 (some .boolean), Cond.fieldLink RX5 29 "HilbertHutchModel" "thrown" "I", Cond.methodLink RX5 128 yX5_covers]
def wsX5_cover_r2 : List Cond := [Cond.instanceMethod yX5_covers, Cond.selects RX5 yX5_covers yX5_covers, Cond.code yX5_covers cX5_covers 5 none, Cond.fieldLink RX5 110 "HilbertHutchModel" "first" "I", Cond.fieldLink RX5 113 "HilbertHutchModel" "end" "I", Cond.fieldLink RX5 20 "HilbertHutchModel" "order" "[I", Cond.fieldLink RX5 7 "HilbertHutchModel" "sides" "[I", Cond.methodLink RX5 40 yX5_ahead, Cond.instanceMethod yX5_ahead, Cond.selects RX5 yX5_ahead yX5_ahead, Cond.code yX5_ahead cX5_ahead 5 (some .int), Cond.methodLink RX5 36 yX5_many, Cond.instanceMethod yX5_many, Cond.selects RX5 yX5_many yX5_many, Cond.code yX5_many cX5_many 3 (some .int), Cond.fieldLink RX5 26 "HilbertHutchModel" "entries" "[I"]
def wsX5_cover : List Cond := .code yX5_cover cX5_cover 4 (some .int) :: ((wsX5_cover_r1 ++ wsX5_cover_r2) ++ wsX50)
def wsX5_leafOf_r1 : List Cond := [Cond.methodLink RX5 84 yX5_is, Cond.instanceMethod yX5_is, Cond.selects RX5 yX5_is yX5_is, Cond.initialized RX5, Cond.code yX5_is cX5_is 2 (some .boolean), Cond.fieldLink RX5 33 "HilbertHutchModel" "added" "I", Cond.fieldLink RX5 16 "HilbertHutchModel" "isThere" "[Z", Cond.methodLink RX5 70 yX5_fails, Cond.instanceMethod yX5_fails, Cond.selects RX5 yX5_fails yX5_fails, Cond.code yX5_fails cX5_fails 2 (some .boolean), Cond.fieldLink RX5 29 "HilbertHutchModel" "thrown" "I", Cond.methodLink RX5 87 yX5_placeOf, Cond.instanceMethod yX5_placeOf, Cond.selects RX5 yX5_placeOf yX5_placeOf, Cond.code yX5_placeOf cX5_placeOf 3 (some .int), Cond.fieldLink RX5 20 "HilbertHutchModel" "order" "[I", Cond.methodLink RX5 77 yX5_leafFor, Cond.instanceMethod yX5_leafFor, Cond.selects RX5 yX5_leafFor yX5_leafFor, Cond.code yX5_leafFor cX5_leafFor 3 (some .int), Cond.fieldLink RX5 43 "HilbertHutchModel" "levels" "I", Cond.fieldLink RX5 23 "HilbertHutchModel" "nodes" "[I", Cond.methodLink RX5 40 yX5_ahead]
def wsX5_leafOf_r2 : List Cond := [Cond.instanceMethod yX5_ahead, Cond.selects RX5 yX5_ahead yX5_ahead, Cond.code yX5_ahead cX5_ahead 5 (some .int), Cond.methodLink RX5 36 yX5_many, Cond.instanceMethod yX5_many, Cond.selects RX5 yX5_many yX5_many, Cond.code yX5_many cX5_many 3 (some .int), Cond.fieldLink RX5 26 "HilbertHutchModel" "entries" "[I"]
def wsX5_leafOf : List Cond := .code yX5_leafOf cX5_leafOf 2 (some .int) :: ((wsX5_leafOf_r1 ++ wsX5_leafOf_r2) ++ wsX50)
def wsX5_boxAt : List Cond := .code yX5_boxAt cX5_boxAt 2 (some .int) :: ([.fieldLink RX5 63 "HilbertHutchModel" "boxes" "I", .fieldLink RX5 20 "HilbertHutchModel" "order" "[I", .methodLink RX5 70 yX5_fails, .instanceMethod yX5_fails, .selects RX5 yX5_fails yX5_fails, .initialized RX5, .code yX5_fails cX5_fails 2 (some .boolean), .fieldLink RX5 29 "HilbertHutchModel" "thrown" "I"] ++ wsX50)
def wsX5_tightness_r1 : List Cond := [Cond.fieldLink RX5 63 "HilbertHutchModel" "boxes" "I", Cond.fieldLink RX5 20 "HilbertHutchModel" "order" "[I", Cond.fieldLink RX5 7 "HilbertHutchModel" "sides" "[I", Cond.fieldLink RX5 23 "HilbertHutchModel" "nodes" "[I", Cond.fieldLink RX5 122 "HilbertHutchModel" "right" "I", Cond.fieldLink RX5 116 "HilbertHutchModel" "left" "I", Cond.fieldLink RX5 125 "HilbertHutchModel" "high" "I", Cond.fieldLink RX5 119 "HilbertHutchModel" "low" "I", Cond.methodLink RX5 70 yX5_fails, Cond.instanceMethod yX5_fails, Cond.selects RX5 yX5_fails yX5_fails, Cond.initialized RX5, Cond.code yX5_fails cX5_fails 2 (some .boolean), Cond.fieldLink RX5 29 "HilbertHutchModel" "thrown" "I", Cond.methodLink RX5 128 yX5_covers, Cond.instanceMethod yX5_covers, Cond.selects RX5 yX5_covers yX5_covers, Cond.code yX5_covers cX5_covers 5 none, Cond.fieldLink RX5 110 "HilbertHutchModel" "first" "I", Cond.fieldLink RX5 113 "HilbertHutchModel" "end" "I", Cond.methodLink RX5 40 yX5_ahead, Cond.instanceMethod yX5_ahead, Cond.selects RX5 yX5_ahead yX5_ahead, Cond.code yX5_ahead cX5_ahead 5 (some .int)]
def wsX5_tightness_r2 : List Cond := [Cond.methodLink RX5 36 yX5_many, Cond.instanceMethod yX5_many, Cond.selects RX5 yX5_many yX5_many, Cond.code yX5_many cX5_many 3 (some .int), Cond.fieldLink RX5 26 "HilbertHutchModel" "entries" "[I"]
def wsX5_tightness : List Cond := .code yX5_tightness cX5_tightness 4 (some .float) :: ((wsX5_tightness_r1 ++ wsX5_tightness_r2) ++ wsX50)
def wsX5_doesMeet : List Cond := .code yX5_doesMeet cX5_doesMeet 7 (some .boolean) :: ([.fieldLink RX5 7 "HilbertHutchModel" "sides" "[I"] ++ wsX50)
def wsX5_met : List Cond := .code yX5_met cX5_met 7 (some .int) :: ([.fieldLink RX5 63 "HilbertHutchModel" "boxes" "I", .fieldLink RX5 20 "HilbertHutchModel" "order" "[I", .methodLink RX5 131 yX5_doesMeet, .instanceMethod yX5_doesMeet, .selects RX5 yX5_doesMeet yX5_doesMeet, .initialized RX5, .code yX5_doesMeet cX5_doesMeet 7 (some .boolean), .fieldLink RX5 7 "HilbertHutchModel" "sides" "[I"] ++ wsX50)
def wsX5_count : List Cond := .code yX5_count cX5_count 5 (some .int) :: ([.methodLink RX5 66 yX5_isArea, .static yX5_isArea, .initialized RX5, .code yX5_isArea cX5_isArea 4 (some .boolean), .methodLink RX5 70 yX5_fails, .instanceMethod yX5_fails, .selects RX5 yX5_fails yX5_fails, .code yX5_fails cX5_fails 2 (some .boolean), .fieldLink RX5 29 "HilbertHutchModel" "thrown" "I", .methodLink RX5 135 yX5_met, .instanceMethod yX5_met, .selects RX5 yX5_met yX5_met, .code yX5_met cX5_met 7 (some .int), .fieldLink RX5 63 "HilbertHutchModel" "boxes" "I", .fieldLink RX5 20 "HilbertHutchModel" "order" "[I", .methodLink RX5 131 yX5_doesMeet, .instanceMethod yX5_doesMeet, .selects RX5 yX5_doesMeet yX5_doesMeet, .code yX5_doesMeet cX5_doesMeet 7 (some .boolean), .fieldLink RX5 7 "HilbertHutchModel" "sides" "[I"] ++ wsX50)
def wsX5_found : List Cond := .code yX5_found cX5_found 9 (some .int) :: ([.fieldLink RX5 20 "HilbertHutchModel" "order" "[I", .methodLink RX5 66 yX5_isArea, .static yX5_isArea, .initialized RX5, .code yX5_isArea cX5_isArea 4 (some .boolean), .methodLink RX5 135 yX5_met, .instanceMethod yX5_met, .selects RX5 yX5_met yX5_met, .code yX5_met cX5_met 7 (some .int), .fieldLink RX5 63 "HilbertHutchModel" "boxes" "I", .methodLink RX5 131 yX5_doesMeet, .instanceMethod yX5_doesMeet, .selects RX5 yX5_doesMeet yX5_doesMeet, .code yX5_doesMeet cX5_doesMeet 7 (some .boolean), .fieldLink RX5 7 "HilbertHutchModel" "sides" "[I", .methodLink RX5 70 yX5_fails, .instanceMethod yX5_fails, .selects RX5 yX5_fails yX5_fails, .code yX5_fails cX5_fails 2 (some .boolean), .fieldLink RX5 29 "HilbertHutchModel" "thrown" "I"] ++ wsX50)
def wsX5_visits_r1 : List Cond := [Cond.fieldLink RX5 43 "HilbertHutchModel" "levels" "I", Cond.fieldLink RX5 23 "HilbertHutchModel" "nodes" "[I", Cond.fieldLink RX5 116 "HilbertHutchModel" "left" "I", Cond.fieldLink RX5 122 "HilbertHutchModel" "right" "I", Cond.fieldLink RX5 119 "HilbertHutchModel" "low" "I", Cond.fieldLink RX5 125 "HilbertHutchModel" "high" "I", Cond.methodLink RX5 66 yX5_isArea, Cond.static yX5_isArea, Cond.initialized RX5, Cond.code yX5_isArea cX5_isArea 4 (some .boolean), Cond.methodLink RX5 70 yX5_fails, Cond.instanceMethod yX5_fails, Cond.selects RX5 yX5_fails yX5_fails, Cond.code yX5_fails cX5_fails 2 (some .boolean), Cond.fieldLink RX5 29 "HilbertHutchModel" "thrown" "I", Cond.methodLink RX5 128 yX5_covers, Cond.instanceMethod yX5_covers, Cond.selects RX5 yX5_covers yX5_covers, Cond.code yX5_covers cX5_covers 5 none, Cond.fieldLink RX5 110 "HilbertHutchModel" "first" "I", Cond.fieldLink RX5 113 "HilbertHutchModel" "end" "I", Cond.fieldLink RX5 20 "HilbertHutchModel" "order" "[I", Cond.fieldLink RX5 7 "HilbertHutchModel" "sides" "[I", Cond.methodLink RX5 40 yX5_ahead]
def wsX5_visits_r2 : List Cond := [Cond.instanceMethod yX5_ahead, Cond.selects RX5 yX5_ahead yX5_ahead, Cond.code yX5_ahead cX5_ahead 5 (some .int), Cond.methodLink RX5 36 yX5_many, Cond.instanceMethod yX5_many, Cond.selects RX5 yX5_many yX5_many, Cond.code yX5_many cX5_many 3 (some .int), Cond.fieldLink RX5 26 "HilbertHutchModel" "entries" "[I"]
def wsX5_visits : List Cond := .code yX5_visits cX5_visits 8 (some .int) :: ((wsX5_visits_r1 ++ wsX5_visits_r2) ++ wsX50)
def wsX5_far : List Cond := .code yX5_far cX5_far 7 (some .int) :: ([.fieldLink RX5 7 "HilbertHutchModel" "sides" "[I"] ++ wsX50)
def wsX5_nearer : List Cond := .code yX5_nearer cX5_nearer 7 (some .int) :: ([.fieldLink RX5 33 "HilbertHutchModel" "added" "I", .fieldLink RX5 16 "HilbertHutchModel" "isThere" "[Z", .methodLink RX5 139 yX5_far, .instanceMethod yX5_far, .selects RX5 yX5_far yX5_far, .initialized RX5, .code yX5_far cX5_far 7 (some .int), .fieldLink RX5 7 "HilbertHutchModel" "sides" "[I"] ++ wsX50)
def wsX5_nearest : List Cond := .code yX5_nearest cX5_nearest 5 (some .int) :: ([.fieldLink RX5 63 "HilbertHutchModel" "boxes" "I", .fieldLink RX5 16 "HilbertHutchModel" "isThere" "[Z", .methodLink RX5 97 yX5_isPoint, .static yX5_isPoint, .initialized RX5, .code yX5_isPoint cX5_isPoint 2 (some .boolean), .methodLink RX5 70 yX5_fails, .instanceMethod yX5_fails, .selects RX5 yX5_fails yX5_fails, .code yX5_fails cX5_fails 2 (some .boolean), .fieldLink RX5 29 "HilbertHutchModel" "thrown" "I", .methodLink RX5 143 yX5_nearer, .instanceMethod yX5_nearer, .selects RX5 yX5_nearer yX5_nearer, .code yX5_nearer cX5_nearer 7 (some .int), .fieldLink RX5 33 "HilbertHutchModel" "added" "I", .methodLink RX5 139 yX5_far, .instanceMethod yX5_far, .selects RX5 yX5_far yX5_far, .code yX5_far cX5_far 7 (some .int), .fieldLink RX5 7 "HilbertHutchModel" "sides" "[I"] ++ wsX50)
def wsX5_distance : List Cond := .code yX5_distance cX5_distance 4 (some .int) :: ([.methodLink RX5 97 yX5_isPoint, .static yX5_isPoint, .initialized RX5, .code yX5_isPoint cX5_isPoint 2 (some .boolean), .methodLink RX5 84 yX5_is, .instanceMethod yX5_is, .selects RX5 yX5_is yX5_is, .code yX5_is cX5_is 2 (some .boolean), .fieldLink RX5 33 "HilbertHutchModel" "added" "I", .fieldLink RX5 16 "HilbertHutchModel" "isThere" "[Z", .methodLink RX5 70 yX5_fails, .instanceMethod yX5_fails, .selects RX5 yX5_fails yX5_fails, .code yX5_fails cX5_fails 2 (some .boolean), .fieldLink RX5 29 "HilbertHutchModel" "thrown" "I", .methodLink RX5 139 yX5_far, .instanceMethod yX5_far, .selects RX5 yX5_far yX5_far, .code yX5_far cX5_far 7 (some .int), .fieldLink RX5 7 "HilbertHutchModel" "sides" "[I"] ++ wsX50)
def wsX5_arePair : List Cond := .code yX5_arePair cX5_arePair 4 (some .boolean) :: ([.fieldLink RX5 16 "HilbertHutchModel" "isThere" "[Z", .fieldLink RX5 7 "HilbertHutchModel" "sides" "[I", .methodLink RX5 131 yX5_doesMeet, .instanceMethod yX5_doesMeet, .selects RX5 yX5_doesMeet yX5_doesMeet, .initialized RX5, .code yX5_doesMeet cX5_doesMeet 7 (some .boolean)] ++ wsX50)
def wsX5_goesThrough : List Cond := .code yX5_goesThrough cX5_goesThrough 5 (some .int) :: ([.fieldLink RX5 33 "HilbertHutchModel" "added" "I", .methodLink RX5 146 yX5_arePair, .instanceMethod yX5_arePair, .selects RX5 yX5_arePair yX5_arePair, .initialized RX5, .code yX5_arePair cX5_arePair 4 (some .boolean), .fieldLink RX5 16 "HilbertHutchModel" "isThere" "[Z", .fieldLink RX5 7 "HilbertHutchModel" "sides" "[I", .methodLink RX5 131 yX5_doesMeet, .instanceMethod yX5_doesMeet, .selects RX5 yX5_doesMeet yX5_doesMeet, .code yX5_doesMeet cX5_doesMeet 7 (some .boolean)] ++ wsX50)
def wsX5_pairs : List Cond := .code yX5_pairs cX5_pairs 1 (some .int) :: ([.methodLink RX5 149 yX5_goesThrough, .instanceMethod yX5_goesThrough, .selects RX5 yX5_goesThrough yX5_goesThrough, .initialized RX5, .code yX5_goesThrough cX5_goesThrough 5 (some .int), .fieldLink RX5 33 "HilbertHutchModel" "added" "I", .methodLink RX5 146 yX5_arePair, .instanceMethod yX5_arePair, .selects RX5 yX5_arePair yX5_arePair, .code yX5_arePair cX5_arePair 4 (some .boolean), .fieldLink RX5 16 "HilbertHutchModel" "isThere" "[Z", .fieldLink RX5 7 "HilbertHutchModel" "sides" "[I", .methodLink RX5 131 yX5_doesMeet, .instanceMethod yX5_doesMeet, .selects RX5 yX5_doesMeet yX5_doesMeet, .code yX5_doesMeet cX5_doesMeet 7 (some .boolean), .methodLink RX5 94 yX5_tells, .instanceMethod yX5_tells, .selects RX5 yX5_tells yX5_tells, .code yX5_tells cX5_tells 2 (some .int), .fieldLink RX5 29 "HilbertHutchModel" "thrown" "I"] ++ wsX50)
def wsX5_pair : List Cond := .code yX5_pair cX5_pair 3 (some .int) :: ([.methodLink RX5 149 yX5_goesThrough, .instanceMethod yX5_goesThrough, .selects RX5 yX5_goesThrough yX5_goesThrough, .initialized RX5, .code yX5_goesThrough cX5_goesThrough 5 (some .int), .fieldLink RX5 33 "HilbertHutchModel" "added" "I", .methodLink RX5 146 yX5_arePair, .instanceMethod yX5_arePair, .selects RX5 yX5_arePair yX5_arePair, .code yX5_arePair cX5_arePair 4 (some .boolean), .fieldLink RX5 16 "HilbertHutchModel" "isThere" "[Z", .fieldLink RX5 7 "HilbertHutchModel" "sides" "[I", .methodLink RX5 131 yX5_doesMeet, .instanceMethod yX5_doesMeet, .selects RX5 yX5_doesMeet yX5_doesMeet, .code yX5_doesMeet cX5_doesMeet 7 (some .boolean), .methodLink RX5 70 yX5_fails, .instanceMethod yX5_fails, .selects RX5 yX5_fails yX5_fails, .code yX5_fails cX5_fails 2 (some .boolean), .fieldLink RX5 29 "HilbertHutchModel" "thrown" "I"] ++ wsX50)
def wsJ9_max_7cf53 : List Cond := .code yJ9_max_7cf53 cJ9_max_7cf53 2 (some .int) :: ([])
def wsJ9_min_7cf53 : List Cond := .code yJ9_min_7cf53 cJ9_min_7cf53 2 (some .int) :: ([])
def wsL_add_r1 : List Cond := [Cond.classLink RL 13 "java/lang/IllegalArgumentException", Cond.classLink RL 15 "java/lang/IllegalStateException", Cond.methodLink RL 7 yX4_add, Cond.instanceMethod yX4_add, Cond.selects RX4 yX4_add yX4_add, Cond.initialized RX4, Cond.code yX4_add cX4_add 6 (some .int), Cond.classLink RX4 35 "java/lang/IllegalStateException", Cond.initialized "java/lang/IllegalStateException", Cond.fieldLink RX4 16 "HilbertHutch" "stock" "LHilbertHutch$Stock;", Cond.fieldLink RX4 23 "HilbertHutch" "tree" "LHilbertHutch$Tree;", Cond.methodLink RX4 27 yX4_checkSides, Cond.static yX4_checkSides, Cond.code yX4_checkSides cX4_checkSides 4 none, Cond.classLink RX4 160 "java/lang/IllegalArgumentException", Cond.initialized "java/lang/IllegalArgumentException", Cond.methodLink RX4 157 yX4_isCoordinate, Cond.static yX4_isCoordinate, Cond.code yX4_isCoordinate cX4_isCoordinate 1 (some .boolean), Cond.methodLink RX4 31 yX2_hasRoom, Cond.instanceMethod yX2_hasRoom, Cond.selects RX2 yX2_hasRoom yX2_hasRoom, Cond.initialized RX2, Cond.code yX2_hasRoom cX2_hasRoom 1 (some .boolean)]
def wsL_add_r2 : List Cond := [Cond.fieldLink RX2 29 "HilbertHutch$Stock" "added" "I", Cond.fieldLink RX2 25 "HilbertHutch$Stock" "size" "I", Cond.methodLink RX4 42 yX0_of, Cond.static yX0_of, Cond.initialized RX0, Cond.code yX0_of cX0_of 4 (some .int), Cond.methodLink RX4 48 yX2_putIn, Cond.instanceMethod yX2_putIn, Cond.selects RX2 yX2_putIn yX2_putIn, Cond.code yX2_putIn cX2_putIn 3 (some .int), Cond.fieldLink RX2 9 "HilbertHutch$Stock" "areas" "[I", Cond.fieldLink RX2 15 "HilbertHutch$Stock" "keys" "[I", Cond.fieldLink RX2 18 "HilbertHutch$Stock" "there" "[Z", Cond.methodLink RX2 49 yX0_middleKey, Cond.static yX0_middleKey, Cond.code yX0_middleKey cX0_middleKey 3 (some .int), Cond.methodLink RX0 9 yX0_side, Cond.static yX0_side, Cond.code yX0_side cX0_side 2 (some .int), Cond.methodLink RX0 31 yX1_lengthTo, Cond.static yX1_lengthTo, Cond.initialized RX1, Cond.code yX1_lengthTo cX1_lengthTo 9 (some .int), Cond.methodLink RX1 9 yX1_quarter]
def wsL_add_r3 : List Cond := [Cond.static yX1_quarter, Cond.code yX1_quarter cX1_quarter 2 (some .int), Cond.methodLink RX2 52 yX2_putInOrder, Cond.instanceMethod yX2_putInOrder, Cond.selects RX2 yX2_putInOrder yX2_putInOrder, Cond.code yX2_putInOrder cX2_putInOrder 4 none, Cond.methodLink RX2 32 yX2_numberAt, Cond.instanceMethod yX2_numberAt, Cond.selects RX2 yX2_numberAt yX2_numberAt, Cond.code yX2_numberAt cX2_numberAt 2 (some .int), Cond.fieldLink RX2 22 "HilbertHutch$Stock" "order" "[I", Cond.methodLink RX2 56 yX2_keyFor, Cond.instanceMethod yX2_keyFor, Cond.selects RX2 yX2_keyFor yX2_keyFor, Cond.code yX2_keyFor cX2_keyFor 2 (some .int), Cond.methodLink RX2 59 yX2_setOrder, Cond.instanceMethod yX2_setOrder, Cond.selects RX2 yX2_setOrder yX2_setOrder, Cond.code yX2_setOrder cX2_setOrder 3 none, Cond.methodLink RX4 52 yX2_placeOf, Cond.instanceMethod yX2_placeOf, Cond.selects RX2 yX2_placeOf yX2_placeOf, Cond.code yX2_placeOf cX2_placeOf 3 (some .int), Cond.methodLink RX4 55 yX3_grow]
def wsL_add_r4 : List Cond := [Cond.instanceMethod yX3_grow, Cond.selects RX3 yX3_grow yX3_grow, Cond.initialized RX3, Cond.code yX3_grow cX3_grow 5 none, Cond.fieldLink RX3 18 "HilbertHutch$Tree" "height" "I", Cond.methodLink RX3 44 yX3_addRoot, Cond.instanceMethod yX3_addRoot, Cond.selects RX3 yX3_addRoot yX3_addRoot, Cond.code yX3_addRoot cX3_addRoot 2 none, Cond.methodLink RX3 63 yX3_setWidth, Cond.instanceMethod yX3_setWidth, Cond.selects RX3 yX3_setWidth yX3_setWidth, Cond.code yX3_setWidth cX3_setWidth 3 none, Cond.fieldLink RX3 15 "HilbertHutch$Tree" "widths" "[I", Cond.methodLink RX3 48 yX3_setLoad, Cond.instanceMethod yX3_setLoad, Cond.selects RX3 yX3_setLoad yX3_setLoad, Cond.code yX3_setLoad cX3_setLoad 5 none, Cond.fieldLink RX3 11 "HilbertHutch$Tree" "loads" "[I", Cond.methodLink RX3 22 yX3_hasNode, Cond.instanceMethod yX3_hasNode, Cond.selects RX3 yX3_hasNode yX3_hasNode, Cond.code yX3_hasNode cX3_hasNode 3 (some .boolean), Cond.methodLink RX3 41 yX3_holder]
def wsL_add_r5 : List Cond := [Cond.instanceMethod yX3_holder, Cond.selects RX3 yX3_holder yX3_holder, Cond.code yX3_holder cX3_holder 5 (some .int), Cond.methodLink RX3 26 yX3_width, Cond.instanceMethod yX3_width, Cond.selects RX3 yX3_width yX3_width, Cond.code yX3_width cX3_width 2 (some .int), Cond.methodLink RX3 30 yX3_load, Cond.instanceMethod yX3_load, Cond.selects RX3 yX3_load yX3_load, Cond.code yX3_load cX3_load 4 (some .int), Cond.methodLink RX3 52 yX3_parent, Cond.instanceMethod yX3_parent, Cond.selects RX3 yX3_parent yX3_parent, Cond.code yX3_parent cX3_parent 3 (some .int), Cond.methodLink RX3 37 yX3_hasLevel, Cond.instanceMethod yX3_hasLevel, Cond.selects RX3 yX3_hasLevel yX3_hasLevel, Cond.code yX3_hasLevel cX3_hasLevel 2 (some .boolean), Cond.methodLink RX3 55 yX3_relieve, Cond.instanceMethod yX3_relieve, Cond.selects RX3 yX3_relieve yX3_relieve, Cond.code yX3_relieve cX3_relieve 6 (some .boolean), Cond.methodLink RX3 73 Lib.Math.min.name]
def wsL_add_r6 : List Cond := [Cond.static Lib.Math.min.name, Cond.initialized "java/lang/Math", Cond.code Lib.Math.min.name Lib.Math.min.code 2 (some .int), Cond.methodLink RX3 66 yX3_partner, Cond.instanceMethod yX3_partner, Cond.selects RX3 yX3_partner yX3_partner, Cond.code yX3_partner cX3_partner 6 (some .int), Cond.methodLink RX3 34 yX3_entriesBefore, Cond.instanceMethod yX3_entriesBefore, Cond.selects RX3 yX3_entriesBefore yX3_entriesBefore, Cond.code yX3_entriesBefore cX3_entriesBefore 5 (some .int), Cond.methodLink RX3 70 yX3_insertNode, Cond.instanceMethod yX3_insertNode, Cond.selects RX3 yX3_insertNode yX3_insertNode, Cond.code yX3_insertNode cX3_insertNode 6 none, Cond.methodLink RX3 78 yX3_halve, Cond.instanceMethod yX3_halve, Cond.selects RX3 yX3_halve yX3_halve, Cond.code yX3_halve cX3_halve 4 none, Cond.methodLink RX3 59 yX3_gainEntry, Cond.instanceMethod yX3_gainEntry, Cond.selects RX3 yX3_gainEntry yX3_gainEntry, Cond.code yX3_gainEntry cX3_gainEntry 3 none]
def wsL_add : List Cond := .codeWith yL_add cL_add 7 (some .int) [(0, 14, 17, 13), (0, 14, 21, 15)] :: ((wsL_add_r1 ++ (wsL_add_r2 ++ (wsL_add_r3 ++ (wsL_add_r4 ++ (wsL_add_r5 ++ wsL_add_r6))))) ++ wsX40 ++ wsX20 ++ wsX30 ++ (vx_atS RX4 39 "java/lang/IllegalStateException" ["java/lang/RuntimeException", "java/lang/Exception"]).filter goodWord ++ (vx_atS RX4 164 "java/lang/IllegalArgumentException" ["java/lang/RuntimeException", "java/lang/Exception"]).filter goodWord)
def wsL_remove_r1 : List Cond := [Cond.classLink RL 21 "java/lang/IndexOutOfBoundsException", Cond.methodLink RL 17 yX4_remove, Cond.instanceMethod yX4_remove, Cond.selects RX4 yX4_remove yX4_remove, Cond.initialized RX4, Cond.code yX4_remove cX4_remove 2 (some .int), Cond.fieldLink RX4 23 "HilbertHutch" "tree" "LHilbertHutch$Tree;", Cond.fieldLink RX4 16 "HilbertHutch" "stock" "LHilbertHutch$Stock;", Cond.methodLink RX4 59 yX4_checkBox, Cond.instanceMethod yX4_checkBox, Cond.selects RX4 yX4_checkBox yX4_checkBox, Cond.code yX4_checkBox cX4_checkBox 2 none, Cond.classLink RX4 107 "java/lang/IndexOutOfBoundsException", Cond.initialized "java/lang/IndexOutOfBoundsException", Cond.methodLink RX4 169 yX2_has, Cond.instanceMethod yX2_has, Cond.selects RX2 yX2_has yX2_has, Cond.initialized RX2, Cond.code yX2_has cX2_has 2 (some .boolean), Cond.fieldLink RX2 18 "HilbertHutch$Stock" "there" "[Z", Cond.methodLink RX4 52 yX2_placeOf, Cond.instanceMethod yX2_placeOf, Cond.selects RX2 yX2_placeOf yX2_placeOf, Cond.code yX2_placeOf cX2_placeOf 3 (some .int)]
def wsL_remove_r2 : List Cond := [Cond.fieldLink RX2 25 "HilbertHutch$Stock" "size" "I", Cond.methodLink RX2 32 yX2_numberAt, Cond.instanceMethod yX2_numberAt, Cond.selects RX2 yX2_numberAt yX2_numberAt, Cond.code yX2_numberAt cX2_numberAt 2 (some .int), Cond.fieldLink RX2 22 "HilbertHutch$Stock" "order" "[I", Cond.methodLink RX4 62 yX3_shrink, Cond.instanceMethod yX3_shrink, Cond.selects RX3 yX3_shrink yX3_shrink, Cond.initialized RX3, Cond.code yX3_shrink cX3_shrink 6 none, Cond.fieldLink RX3 18 "HilbertHutch$Tree" "height" "I", Cond.methodLink RX3 41 yX3_holder, Cond.instanceMethod yX3_holder, Cond.selects RX3 yX3_holder yX3_holder, Cond.code yX3_holder cX3_holder 5 (some .int), Cond.methodLink RX3 26 yX3_width, Cond.instanceMethod yX3_width, Cond.selects RX3 yX3_width yX3_width, Cond.code yX3_width cX3_width 2 (some .int), Cond.fieldLink RX3 15 "HilbertHutch$Tree" "widths" "[I", Cond.methodLink RX3 30 yX3_load, Cond.instanceMethod yX3_load, Cond.selects RX3 yX3_load yX3_load]
def wsL_remove_r3 : List Cond := [Cond.code yX3_load cX3_load 4 (some .int), Cond.fieldLink RX3 11 "HilbertHutch$Tree" "loads" "[I", Cond.methodLink RX3 22 yX3_hasNode, Cond.instanceMethod yX3_hasNode, Cond.selects RX3 yX3_hasNode yX3_hasNode, Cond.code yX3_hasNode cX3_hasNode 3 (some .boolean), Cond.methodLink RX3 48 yX3_setLoad, Cond.instanceMethod yX3_setLoad, Cond.selects RX3 yX3_setLoad yX3_setLoad, Cond.code yX3_setLoad cX3_setLoad 5 none, Cond.methodLink RX3 52 yX3_parent, Cond.instanceMethod yX3_parent, Cond.selects RX3 yX3_parent yX3_parent, Cond.code yX3_parent cX3_parent 3 (some .int), Cond.methodLink RX3 37 yX3_hasLevel, Cond.instanceMethod yX3_hasLevel, Cond.selects RX3 yX3_hasLevel yX3_hasLevel, Cond.code yX3_hasLevel cX3_hasLevel 2 (some .boolean), Cond.methodLink RX3 81 yX3_unite, Cond.instanceMethod yX3_unite, Cond.selects RX3 yX3_unite yX3_unite, Cond.code yX3_unite cX3_unite 7 (some .boolean), Cond.methodLink RX3 73 Lib.Math.min.name, Cond.static Lib.Math.min.name]
def wsL_remove_r4 : List Cond := [Cond.initialized "java/lang/Math", Cond.code Lib.Math.min.name Lib.Math.min.code 2 (some .int), Cond.methodLink RX3 66 yX3_partner, Cond.instanceMethod yX3_partner, Cond.selects RX3 yX3_partner yX3_partner, Cond.code yX3_partner cX3_partner 6 (some .int), Cond.methodLink RX3 34 yX3_entriesBefore, Cond.instanceMethod yX3_entriesBefore, Cond.selects RX3 yX3_entriesBefore yX3_entriesBefore, Cond.code yX3_entriesBefore cX3_entriesBefore 5 (some .int), Cond.methodLink RX3 87 yX3_deleteNode, Cond.instanceMethod yX3_deleteNode, Cond.selects RX3 yX3_deleteNode yX3_deleteNode, Cond.code yX3_deleteNode cX3_deleteNode 5 none, Cond.methodLink RX3 90 Lib.Math.max.name, Cond.static Lib.Math.max.name, Cond.code Lib.Math.max.name Lib.Math.max.code 2 (some .int), Cond.methodLink RX3 63 yX3_setWidth, Cond.instanceMethod yX3_setWidth, Cond.selects RX3 yX3_setWidth yX3_setWidth, Cond.code yX3_setWidth cX3_setWidth 3 none, Cond.methodLink RX3 78 yX3_halve, Cond.instanceMethod yX3_halve, Cond.selects RX3 yX3_halve yX3_halve]
def wsL_remove_r5 : List Cond := [Cond.code yX3_halve cX3_halve 4 none, Cond.methodLink RX3 84 yX3_lowerRoot, Cond.instanceMethod yX3_lowerRoot, Cond.selects RX3 yX3_lowerRoot yX3_lowerRoot, Cond.code yX3_lowerRoot cX3_lowerRoot 2 none, Cond.methodLink RX4 65 yX2_takeOut, Cond.instanceMethod yX2_takeOut, Cond.selects RX2 yX2_takeOut yX2_takeOut, Cond.code yX2_takeOut cX2_takeOut 4 none, Cond.methodLink RX2 63 yX2_placeOf, Cond.methodLink RX2 39 yX2_has, Cond.methodLink RX2 59 yX2_setOrder, Cond.instanceMethod yX2_setOrder, Cond.selects RX2 yX2_setOrder yX2_setOrder, Cond.code yX2_setOrder cX2_setOrder 3 none, Cond.methodLink RX4 68 yX2_size, Cond.instanceMethod yX2_size, Cond.selects RX2 yX2_size yX2_size, Cond.code yX2_size cX2_size 1 (some .int)]
def wsL_remove : List Cond := .codeWith yL_remove cL_remove 4 (some .int) [(0, 9, 12, 21)] :: ((wsL_remove_r1 ++ (wsL_remove_r2 ++ (wsL_remove_r3 ++ (wsL_remove_r4 ++ wsL_remove_r5)))) ++ wsX40 ++ wsX20 ++ wsX30 ++ (vx_atS RX4 111 "java/lang/IndexOutOfBoundsException" ["java/lang/RuntimeException", "java/lang/Exception"]).filter goodWord)
def wsL_key : List Cond := .codeWith yL_key cL_key 5 (some .int) [(0, 10, 13, 13)] :: ([.classLink RL 13 "java/lang/IllegalArgumentException", .methodLink RL 23 yX4_key, .instanceMethod yX4_key, .selects RX4 yX4_key yX4_key, .initialized RX4, .code yX4_key cX4_key 3 (some .int), .methodLink RX4 78 yX4_checkPoint, .static yX4_checkPoint, .code yX4_checkPoint cX4_checkPoint 2 none, .classLink RX4 160 "java/lang/IllegalArgumentException", .initialized "java/lang/IllegalArgumentException", .methodLink RX4 157 yX4_isCoordinate, .static yX4_isCoordinate, .code yX4_isCoordinate cX4_isCoordinate 1 (some .boolean), .methodLink RX4 82 yX1_lengthTo, .static yX1_lengthTo, .initialized RX1, .code yX1_lengthTo cX1_lengthTo 9 (some .int), .methodLink RX1 9 yX1_quarter, .static yX1_quarter, .code yX1_quarter cX1_quarter 2 (some .int)] ++ (vx_atS RX4 164 "java/lang/IllegalArgumentException" ["java/lang/RuntimeException", "java/lang/Exception"]).filter goodWord)
def wsL_keyOf : List Cond := .codeWith yL_keyOf cL_keyOf 4 (some .int) [(0, 9, 12, 21)] :: ([.classLink RL 21 "java/lang/IndexOutOfBoundsException", .methodLink RL 27 yX4_keyOf, .instanceMethod yX4_keyOf, .selects RX4 yX4_keyOf yX4_keyOf, .initialized RX4, .code yX4_keyOf cX4_keyOf 2 (some .int), .fieldLink RX4 16 "HilbertHutch" "stock" "LHilbertHutch$Stock;", .methodLink RX4 59 yX4_checkBox, .instanceMethod yX4_checkBox, .selects RX4 yX4_checkBox yX4_checkBox, .code yX4_checkBox cX4_checkBox 2 none, .classLink RX4 107 "java/lang/IndexOutOfBoundsException", .initialized "java/lang/IndexOutOfBoundsException", .methodLink RX4 169 yX2_has, .instanceMethod yX2_has, .selects RX2 yX2_has yX2_has, .initialized RX2, .code yX2_has cX2_has 2 (some .boolean), .fieldLink RX2 18 "HilbertHutch$Stock" "there" "[Z", .methodLink RX4 88 yX2_keyFor, .instanceMethod yX2_keyFor, .selects RX2 yX2_keyFor yX2_keyFor, .code yX2_keyFor cX2_keyFor 2 (some .int), .fieldLink RX2 15 "HilbertHutch$Stock" "keys" "[I"] ++ wsX40 ++ wsX20 ++ (vx_atS RX4 111 "java/lang/IndexOutOfBoundsException" ["java/lang/RuntimeException", "java/lang/Exception"]).filter goodWord)
def wsL_sideOf_r1 : List Cond := [Cond.classLink RL 13 "java/lang/IllegalArgumentException", Cond.classLink RL 21 "java/lang/IndexOutOfBoundsException", Cond.methodLink RL 30 yX4_sideOf, Cond.instanceMethod yX4_sideOf, Cond.selects RX4 yX4_sideOf yX4_sideOf, Cond.initialized RX4, Cond.code yX4_sideOf cX4_sideOf 3 (some .int), Cond.fieldLink RX4 16 "HilbertHutch" "stock" "LHilbertHutch$Stock;", Cond.methodLink RX4 91 yX4_checkSide, Cond.static yX4_checkSide, Cond.code yX4_checkSide cX4_checkSide 1 none, Cond.classLink RX4 160 "java/lang/IllegalArgumentException", Cond.initialized "java/lang/IllegalArgumentException", Cond.methodLink RX4 59 yX4_checkBox, Cond.instanceMethod yX4_checkBox, Cond.selects RX4 yX4_checkBox yX4_checkBox, Cond.code yX4_checkBox cX4_checkBox 2 none, Cond.classLink RX4 107 "java/lang/IndexOutOfBoundsException", Cond.initialized "java/lang/IndexOutOfBoundsException", Cond.methodLink RX4 169 yX2_has, Cond.instanceMethod yX2_has, Cond.selects RX2 yX2_has yX2_has, Cond.initialized RX2, Cond.code yX2_has cX2_has 2 (some .boolean)]
def wsL_sideOf_r2 : List Cond := [Cond.fieldLink RX2 18 "HilbertHutch$Stock" "there" "[Z", Cond.methodLink RX4 94 yX2_areaOf, Cond.instanceMethod yX2_areaOf, Cond.selects RX2 yX2_areaOf yX2_areaOf, Cond.code yX2_areaOf cX2_areaOf 2 (some .int), Cond.fieldLink RX2 9 "HilbertHutch$Stock" "areas" "[I", Cond.methodLink RX4 97 yX0_side, Cond.static yX0_side, Cond.initialized RX0, Cond.code yX0_side cX0_side 2 (some .int)]
def wsL_sideOf : List Cond := .codeWith yL_sideOf cL_sideOf 5 (some .int) [(0, 10, 13, 13), (0, 10, 17, 21)] :: ((wsL_sideOf_r1 ++ wsL_sideOf_r2) ++ wsX40 ++ wsX20 ++ (vx_atS RX4 164 "java/lang/IllegalArgumentException" ["java/lang/RuntimeException", "java/lang/Exception"]).filter goodWord ++ (vx_atS RX4 111 "java/lang/IndexOutOfBoundsException" ["java/lang/RuntimeException", "java/lang/Exception"]).filter goodWord)
def wsL_nodes : List Cond := .codeWith yL_nodes cL_nodes 4 (some .int) [(0, 9, 12, 21)] :: ([.classLink RL 21 "java/lang/IndexOutOfBoundsException", .methodLink RL 33 yX4_nodes, .instanceMethod yX4_nodes, .selects RX4 yX4_nodes yX4_nodes, .initialized RX4, .code yX4_nodes cX4_nodes 2 (some .int), .classLink RX4 107 "java/lang/IndexOutOfBoundsException", .initialized "java/lang/IndexOutOfBoundsException", .fieldLink RX4 23 "HilbertHutch" "tree" "LHilbertHutch$Tree;", .methodLink RX4 103 yX3_hasLevel, .instanceMethod yX3_hasLevel, .selects RX3 yX3_hasLevel yX3_hasLevel, .initialized RX3, .code yX3_hasLevel cX3_hasLevel 2 (some .boolean), .fieldLink RX3 18 "HilbertHutch$Tree" "height" "I", .methodLink RX4 75 yX3_width, .instanceMethod yX3_width, .selects RX3 yX3_width yX3_width, .code yX3_width cX3_width 2 (some .int), .fieldLink RX3 15 "HilbertHutch$Tree" "widths" "[I"] ++ wsX40 ++ wsX30 ++ (vx_atS RX4 111 "java/lang/IndexOutOfBoundsException" ["java/lang/RuntimeException", "java/lang/Exception"]).filter goodWord)
def wsL_entries_r1 : List Cond := [Cond.classLink RL 21 "java/lang/IndexOutOfBoundsException", Cond.methodLink RL 36 yX4_entries, Cond.instanceMethod yX4_entries, Cond.selects RX4 yX4_entries yX4_entries, Cond.initialized RX4, Cond.code yX4_entries cX4_entries 3 (some .int), Cond.fieldLink RX4 23 "HilbertHutch" "tree" "LHilbertHutch$Tree;", Cond.methodLink RX4 112 yX4_checkNode, Cond.instanceMethod yX4_checkNode, Cond.selects RX4 yX4_checkNode yX4_checkNode, Cond.code yX4_checkNode cX4_checkNode 3 none, Cond.classLink RX4 107 "java/lang/IndexOutOfBoundsException", Cond.initialized "java/lang/IndexOutOfBoundsException", Cond.methodLink RX4 174 yX3_hasNode, Cond.instanceMethod yX3_hasNode, Cond.selects RX3 yX3_hasNode yX3_hasNode, Cond.initialized RX3, Cond.code yX3_hasNode cX3_hasNode 3 (some .boolean), Cond.fieldLink RX3 18 "HilbertHutch$Tree" "height" "I", Cond.fieldLink RX3 15 "HilbertHutch$Tree" "widths" "[I", Cond.methodLink RX4 115 yX3_load, Cond.instanceMethod yX3_load, Cond.selects RX3 yX3_load yX3_load, Cond.code yX3_load cX3_load 4 (some .int)]
def wsL_entries_r2 : List Cond := [Cond.fieldLink RX3 11 "HilbertHutch$Tree" "loads" "[I", Cond.methodLink RX3 22 yX3_hasNode]
def wsL_entries : List Cond := .codeWith yL_entries cL_entries 5 (some .int) [(0, 10, 13, 21)] :: ((wsL_entries_r1 ++ wsL_entries_r2) ++ wsX40 ++ wsX30 ++ (vx_atS RX4 111 "java/lang/IndexOutOfBoundsException" ["java/lang/RuntimeException", "java/lang/Exception"]).filter goodWord)
def wsL_cover_r1 : List Cond := [Cond.classLink RL 13 "java/lang/IllegalArgumentException", Cond.classLink RL 21 "java/lang/IndexOutOfBoundsException", Cond.methodLink RL 39 yX4_cover, Cond.instanceMethod yX4_cover, Cond.selects RX4 yX4_cover yX4_cover, Cond.initialized RX4, Cond.code yX4_cover cX4_cover 4 (some .int), Cond.methodLink RX4 91 yX4_checkSide, Cond.static yX4_checkSide, Cond.code yX4_checkSide cX4_checkSide 1 none, Cond.classLink RX4 160 "java/lang/IllegalArgumentException", Cond.initialized "java/lang/IllegalArgumentException", Cond.methodLink RX4 112 yX4_checkNode, Cond.instanceMethod yX4_checkNode, Cond.selects RX4 yX4_checkNode yX4_checkNode, Cond.code yX4_checkNode cX4_checkNode 3 none, Cond.classLink RX4 107 "java/lang/IndexOutOfBoundsException", Cond.initialized "java/lang/IndexOutOfBoundsException", Cond.fieldLink RX4 23 "HilbertHutch" "tree" "LHilbertHutch$Tree;", Cond.methodLink RX4 174 yX3_hasNode, Cond.instanceMethod yX3_hasNode, Cond.selects RX3 yX3_hasNode yX3_hasNode, Cond.initialized RX3, Cond.code yX3_hasNode cX3_hasNode 3 (some .boolean)]
def wsL_cover_r2 : List Cond := [Cond.fieldLink RX3 18 "HilbertHutch$Tree" "height" "I", Cond.fieldLink RX3 15 "HilbertHutch$Tree" "widths" "[I", Cond.methodLink RX4 118 yX4_coverOf, Cond.instanceMethod yX4_coverOf, Cond.selects RX4 yX4_coverOf yX4_coverOf, Cond.code yX4_coverOf cX4_coverOf 7 (some .int), Cond.fieldLink RX4 16 "HilbertHutch" "stock" "LHilbertHutch$Stock;", Cond.methodLink RX4 179 yX3_boxesBefore, Cond.instanceMethod yX3_boxesBefore, Cond.selects RX3 yX3_boxesBefore yX3_boxesBefore, Cond.code yX3_boxesBefore cX3_boxesBefore 5 (some .int), Cond.methodLink RX3 34 yX3_entriesBefore, Cond.instanceMethod yX3_entriesBefore, Cond.selects RX3 yX3_entriesBefore yX3_entriesBefore, Cond.code yX3_entriesBefore cX3_entriesBefore 5 (some .int), Cond.methodLink RX3 26 yX3_width, Cond.instanceMethod yX3_width, Cond.selects RX3 yX3_width yX3_width, Cond.code yX3_width cX3_width 2 (some .int), Cond.methodLink RX3 30 yX3_load, Cond.instanceMethod yX3_load, Cond.selects RX3 yX3_load yX3_load, Cond.code yX3_load cX3_load 4 (some .int), Cond.fieldLink RX3 11 "HilbertHutch$Tree" "loads" "[I"]
def wsL_cover_r3 : List Cond := [Cond.methodLink RX3 22 yX3_hasNode, Cond.methodLink RX4 134 yX2_areaAt, Cond.instanceMethod yX2_areaAt, Cond.selects RX2 yX2_areaAt yX2_areaAt, Cond.initialized RX2, Cond.code yX2_areaAt cX2_areaAt 2 (some .int), Cond.methodLink RX2 32 yX2_numberAt, Cond.instanceMethod yX2_numberAt, Cond.selects RX2 yX2_numberAt yX2_numberAt, Cond.code yX2_numberAt cX2_numberAt 2 (some .int), Cond.fieldLink RX2 22 "HilbertHutch$Stock" "order" "[I", Cond.fieldLink RX2 25 "HilbertHutch$Stock" "size" "I", Cond.methodLink RX2 36 yX2_areaOf, Cond.instanceMethod yX2_areaOf, Cond.selects RX2 yX2_areaOf yX2_areaOf, Cond.code yX2_areaOf cX2_areaOf 2 (some .int), Cond.fieldLink RX2 9 "HilbertHutch$Stock" "areas" "[I", Cond.methodLink RX4 182 yX0_around, Cond.static yX0_around, Cond.initialized RX0, Cond.code yX0_around cX0_around 2 (some .int), Cond.methodLink RX0 15 Lib.Math.min.name, Cond.static Lib.Math.min.name, Cond.initialized "java/lang/Math"]
def wsL_cover_r4 : List Cond := [Cond.code Lib.Math.min.name Lib.Math.min.code 2 (some .int), Cond.methodLink RX0 20 Lib.Math.max.name, Cond.static Lib.Math.max.name, Cond.code Lib.Math.max.name Lib.Math.max.code 2 (some .int), Cond.methodLink RX0 9 yX0_side, Cond.static yX0_side, Cond.code yX0_side cX0_side 2 (some .int), Cond.methodLink RX0 23 yX0_of, Cond.static yX0_of, Cond.code yX0_of cX0_of 4 (some .int), Cond.methodLink RX4 97 yX0_side]
def wsL_cover : List Cond := .codeWith yL_cover cL_cover 6 (some .int) [(0, 12, 15, 13), (0, 12, 19, 21)] :: ((wsL_cover_r1 ++ (wsL_cover_r2 ++ (wsL_cover_r3 ++ wsL_cover_r4))) ++ wsX40 ++ wsX30 ++ wsX20 ++ (vx_atS RX4 164 "java/lang/IllegalArgumentException" ["java/lang/RuntimeException", "java/lang/Exception"]).filter goodWord ++ (vx_atS RX4 111 "java/lang/IndexOutOfBoundsException" ["java/lang/RuntimeException", "java/lang/Exception"]).filter goodWord)
def wsL_leafOf_r1 : List Cond := [Cond.classLink RL 21 "java/lang/IndexOutOfBoundsException", Cond.methodLink RL 43 yX4_leafOf, Cond.instanceMethod yX4_leafOf, Cond.selects RX4 yX4_leafOf yX4_leafOf, Cond.initialized RX4, Cond.code yX4_leafOf cX4_leafOf 2 (some .int), Cond.fieldLink RX4 23 "HilbertHutch" "tree" "LHilbertHutch$Tree;", Cond.fieldLink RX4 16 "HilbertHutch" "stock" "LHilbertHutch$Stock;", Cond.methodLink RX4 59 yX4_checkBox, Cond.instanceMethod yX4_checkBox, Cond.selects RX4 yX4_checkBox yX4_checkBox, Cond.code yX4_checkBox cX4_checkBox 2 none, Cond.classLink RX4 107 "java/lang/IndexOutOfBoundsException", Cond.initialized "java/lang/IndexOutOfBoundsException", Cond.methodLink RX4 169 yX2_has, Cond.instanceMethod yX2_has, Cond.selects RX2 yX2_has yX2_has, Cond.initialized RX2, Cond.code yX2_has cX2_has 2 (some .boolean), Cond.fieldLink RX2 18 "HilbertHutch$Stock" "there" "[Z", Cond.methodLink RX4 52 yX2_placeOf, Cond.instanceMethod yX2_placeOf, Cond.selects RX2 yX2_placeOf yX2_placeOf, Cond.code yX2_placeOf cX2_placeOf 3 (some .int)]
def wsL_leafOf_r2 : List Cond := [Cond.fieldLink RX2 25 "HilbertHutch$Stock" "size" "I", Cond.methodLink RX2 32 yX2_numberAt, Cond.instanceMethod yX2_numberAt, Cond.selects RX2 yX2_numberAt yX2_numberAt, Cond.code yX2_numberAt cX2_numberAt 2 (some .int), Cond.fieldLink RX2 22 "HilbertHutch$Stock" "order" "[I", Cond.methodLink RX4 121 yX3_holder, Cond.instanceMethod yX3_holder, Cond.selects RX3 yX3_holder yX3_holder, Cond.initialized RX3, Cond.code yX3_holder cX3_holder 5 (some .int), Cond.methodLink RX3 26 yX3_width, Cond.instanceMethod yX3_width, Cond.selects RX3 yX3_width yX3_width, Cond.code yX3_width cX3_width 2 (some .int), Cond.fieldLink RX3 18 "HilbertHutch$Tree" "height" "I", Cond.fieldLink RX3 15 "HilbertHutch$Tree" "widths" "[I", Cond.methodLink RX3 30 yX3_load, Cond.instanceMethod yX3_load, Cond.selects RX3 yX3_load yX3_load, Cond.code yX3_load cX3_load 4 (some .int), Cond.fieldLink RX3 11 "HilbertHutch$Tree" "loads" "[I", Cond.methodLink RX3 22 yX3_hasNode, Cond.instanceMethod yX3_hasNode]
def wsL_leafOf_r3 : List Cond := [Cond.selects RX3 yX3_hasNode yX3_hasNode, Cond.code yX3_hasNode cX3_hasNode 3 (some .boolean)]
def wsL_leafOf : List Cond := .codeWith yL_leafOf cL_leafOf 4 (some .int) [(0, 9, 12, 21)] :: ((wsL_leafOf_r1 ++ (wsL_leafOf_r2 ++ wsL_leafOf_r3)) ++ wsX40 ++ wsX20 ++ wsX30 ++ (vx_atS RX4 111 "java/lang/IndexOutOfBoundsException" ["java/lang/RuntimeException", "java/lang/Exception"]).filter goodWord)
def wsL_boxAt : List Cond := .codeWith yL_boxAt cL_boxAt 4 (some .int) [(0, 9, 12, 21)] :: ([.classLink RL 21 "java/lang/IndexOutOfBoundsException", .methodLink RL 46 yX4_boxAt, .instanceMethod yX4_boxAt, .selects RX4 yX4_boxAt yX4_boxAt, .initialized RX4, .code yX4_boxAt cX4_boxAt 2 (some .int), .classLink RX4 107 "java/lang/IndexOutOfBoundsException", .initialized "java/lang/IndexOutOfBoundsException", .fieldLink RX4 16 "HilbertHutch" "stock" "LHilbertHutch$Stock;", .methodLink RX4 68 yX2_size, .instanceMethod yX2_size, .selects RX2 yX2_size yX2_size, .initialized RX2, .code yX2_size cX2_size 1 (some .int), .fieldLink RX2 25 "HilbertHutch$Stock" "size" "I", .methodLink RX4 126 yX2_numberAt, .instanceMethod yX2_numberAt, .selects RX2 yX2_numberAt yX2_numberAt, .code yX2_numberAt cX2_numberAt 2 (some .int), .fieldLink RX2 22 "HilbertHutch$Stock" "order" "[I"] ++ wsX40 ++ wsX20 ++ (vx_atS RX4 111 "java/lang/IndexOutOfBoundsException" ["java/lang/RuntimeException", "java/lang/Exception"]).filter goodWord)
def wsL_tightness_r1 : List Cond := [Cond.classLink RL 15 "java/lang/IllegalStateException", Cond.methodLink RL 49 yX4_tightness, Cond.instanceMethod yX4_tightness, Cond.selects RX4 yX4_tightness yX4_tightness, Cond.initialized RX4, Cond.code yX4_tightness cX4_tightness 4 (some .float), Cond.classLink RX4 35 "java/lang/IllegalStateException", Cond.initialized "java/lang/IllegalStateException", Cond.fieldLink RX4 23 "HilbertHutch" "tree" "LHilbertHutch$Tree;", Cond.fieldLink RX4 16 "HilbertHutch" "stock" "LHilbertHutch$Stock;", Cond.methodLink RX4 75 yX3_width, Cond.instanceMethod yX3_width, Cond.selects RX3 yX3_width yX3_width, Cond.initialized RX3, Cond.code yX3_width cX3_width 2 (some .int), Cond.fieldLink RX3 18 "HilbertHutch$Tree" "height" "I", Cond.fieldLink RX3 15 "HilbertHutch$Tree" "widths" "[I", Cond.methodLink RX4 118 yX4_coverOf, Cond.instanceMethod yX4_coverOf, Cond.selects RX4 yX4_coverOf yX4_coverOf, Cond.code yX4_coverOf cX4_coverOf 7 (some .int), Cond.methodLink RX4 179 yX3_boxesBefore, Cond.instanceMethod yX3_boxesBefore, Cond.selects RX3 yX3_boxesBefore yX3_boxesBefore]
def wsL_tightness_r2 : List Cond := [Cond.code yX3_boxesBefore cX3_boxesBefore 5 (some .int), Cond.methodLink RX3 34 yX3_entriesBefore, Cond.instanceMethod yX3_entriesBefore, Cond.selects RX3 yX3_entriesBefore yX3_entriesBefore, Cond.code yX3_entriesBefore cX3_entriesBefore 5 (some .int), Cond.methodLink RX3 26 yX3_width, Cond.methodLink RX3 30 yX3_load, Cond.instanceMethod yX3_load, Cond.selects RX3 yX3_load yX3_load, Cond.code yX3_load cX3_load 4 (some .int), Cond.fieldLink RX3 11 "HilbertHutch$Tree" "loads" "[I", Cond.methodLink RX3 22 yX3_hasNode, Cond.instanceMethod yX3_hasNode, Cond.selects RX3 yX3_hasNode yX3_hasNode, Cond.code yX3_hasNode cX3_hasNode 3 (some .boolean), Cond.methodLink RX4 134 yX2_areaAt, Cond.instanceMethod yX2_areaAt, Cond.selects RX2 yX2_areaAt yX2_areaAt, Cond.initialized RX2, Cond.code yX2_areaAt cX2_areaAt 2 (some .int), Cond.methodLink RX2 32 yX2_numberAt, Cond.instanceMethod yX2_numberAt, Cond.selects RX2 yX2_numberAt yX2_numberAt, Cond.code yX2_numberAt cX2_numberAt 2 (some .int)]
def wsL_tightness_r3 : List Cond := [Cond.fieldLink RX2 22 "HilbertHutch$Stock" "order" "[I", Cond.fieldLink RX2 25 "HilbertHutch$Stock" "size" "I", Cond.methodLink RX2 36 yX2_areaOf, Cond.instanceMethod yX2_areaOf, Cond.selects RX2 yX2_areaOf yX2_areaOf, Cond.code yX2_areaOf cX2_areaOf 2 (some .int), Cond.fieldLink RX2 9 "HilbertHutch$Stock" "areas" "[I", Cond.methodLink RX4 182 yX0_around, Cond.static yX0_around, Cond.initialized RX0, Cond.code yX0_around cX0_around 2 (some .int), Cond.methodLink RX0 15 Lib.Math.min.name, Cond.static Lib.Math.min.name, Cond.initialized "java/lang/Math", Cond.code Lib.Math.min.name Lib.Math.min.code 2 (some .int), Cond.methodLink RX0 20 Lib.Math.max.name, Cond.static Lib.Math.max.name, Cond.code Lib.Math.max.name Lib.Math.max.code 2 (some .int), Cond.methodLink RX0 9 yX0_side, Cond.static yX0_side, Cond.code yX0_side cX0_side 2 (some .int), Cond.methodLink RX0 23 yX0_of, Cond.static yX0_of, Cond.code yX0_of cX0_of 4 (some .int)]
def wsL_tightness_r4 : List Cond := [Cond.methodLink RX4 129 yX0_points, Cond.static yX0_points, Cond.code yX0_points cX0_points 1 (some .int), Cond.methodLink RX4 68 yX2_size, Cond.instanceMethod yX2_size, Cond.selects RX2 yX2_size yX2_size, Cond.code yX2_size cX2_size 1 (some .int)]
def wsL_tightness : List Cond := .codeWith yL_tightness cL_tightness 3 (some .int) [(0, 8, 11, 15)] :: ((wsL_tightness_r1 ++ (wsL_tightness_r2 ++ (wsL_tightness_r3 ++ wsL_tightness_r4))) ++ wsX40 ++ wsX30 ++ wsX20 ++ (vx_atS RX4 39 "java/lang/IllegalStateException" ["java/lang/RuntimeException", "java/lang/Exception"]).filter goodWord)
def wsL_count_r1 : List Cond := [Cond.classLink RL 13 "java/lang/IllegalArgumentException", Cond.methodLink RL 53 yX4_count, Cond.instanceMethod yX4_count, Cond.selects RX4 yX4_count yX4_count, Cond.initialized RX4, Cond.code yX4_count cX4_count 8 (some .int), Cond.fieldLink RX4 16 "HilbertHutch" "stock" "LHilbertHutch$Stock;", Cond.methodLink RX4 27 yX4_checkSides, Cond.static yX4_checkSides, Cond.code yX4_checkSides cX4_checkSides 4 none, Cond.classLink RX4 160 "java/lang/IllegalArgumentException", Cond.initialized "java/lang/IllegalArgumentException", Cond.methodLink RX4 157 yX4_isCoordinate, Cond.static yX4_isCoordinate, Cond.code yX4_isCoordinate cX4_isCoordinate 1 (some .boolean), Cond.methodLink RX4 42 yX0_of, Cond.static yX0_of, Cond.initialized RX0, Cond.code yX0_of cX0_of 4 (some .int), Cond.methodLink RX4 68 yX2_size, Cond.instanceMethod yX2_size, Cond.selects RX2 yX2_size yX2_size, Cond.initialized RX2, Cond.code yX2_size cX2_size 1 (some .int)]
def wsL_count_r2 : List Cond := [Cond.fieldLink RX2 25 "HilbertHutch$Stock" "size" "I", Cond.methodLink RX4 134 yX2_areaAt, Cond.instanceMethod yX2_areaAt, Cond.selects RX2 yX2_areaAt yX2_areaAt, Cond.code yX2_areaAt cX2_areaAt 2 (some .int), Cond.methodLink RX2 32 yX2_numberAt, Cond.instanceMethod yX2_numberAt, Cond.selects RX2 yX2_numberAt yX2_numberAt, Cond.code yX2_numberAt cX2_numberAt 2 (some .int), Cond.fieldLink RX2 22 "HilbertHutch$Stock" "order" "[I", Cond.methodLink RX2 36 yX2_areaOf, Cond.instanceMethod yX2_areaOf, Cond.selects RX2 yX2_areaOf yX2_areaOf, Cond.code yX2_areaOf cX2_areaOf 2 (some .int), Cond.fieldLink RX2 9 "HilbertHutch$Stock" "areas" "[I", Cond.methodLink RX4 137 yX0_meet, Cond.static yX0_meet, Cond.code yX0_meet cX0_meet 2 (some .boolean), Cond.methodLink RX0 9 yX0_side, Cond.static yX0_side, Cond.code yX0_side cX0_side 2 (some .int)]
def wsL_count : List Cond := .codeWith yL_count cL_count 7 (some .int) [(0, 14, 17, 13)] :: ((wsL_count_r1 ++ wsL_count_r2) ++ wsX40 ++ wsX20 ++ (vx_atS RX4 164 "java/lang/IllegalArgumentException" ["java/lang/RuntimeException", "java/lang/Exception"]).filter goodWord)
def wsL_found_r1 : List Cond := [Cond.classLink RL 13 "java/lang/IllegalArgumentException", Cond.classLink RL 21 "java/lang/IndexOutOfBoundsException", Cond.methodLink RL 56 yX4_found, Cond.instanceMethod yX4_found, Cond.selects RX4 yX4_found yX4_found, Cond.initialized RX4, Cond.code yX4_found cX4_found 9 (some .int), Cond.classLink RX4 107 "java/lang/IndexOutOfBoundsException", Cond.initialized "java/lang/IndexOutOfBoundsException", Cond.fieldLink RX4 16 "HilbertHutch" "stock" "LHilbertHutch$Stock;", Cond.methodLink RX4 27 yX4_checkSides, Cond.static yX4_checkSides, Cond.code yX4_checkSides cX4_checkSides 4 none, Cond.classLink RX4 160 "java/lang/IllegalArgumentException", Cond.initialized "java/lang/IllegalArgumentException", Cond.methodLink RX4 157 yX4_isCoordinate, Cond.static yX4_isCoordinate, Cond.code yX4_isCoordinate cX4_isCoordinate 1 (some .boolean), Cond.methodLink RX4 42 yX0_of, Cond.static yX0_of, Cond.initialized RX0, Cond.code yX0_of cX0_of 4 (some .int), Cond.methodLink RX4 68 yX2_size, Cond.instanceMethod yX2_size]
def wsL_found_r2 : List Cond := [Cond.selects RX2 yX2_size yX2_size, Cond.initialized RX2, Cond.code yX2_size cX2_size 1 (some .int), Cond.fieldLink RX2 25 "HilbertHutch$Stock" "size" "I", Cond.methodLink RX4 134 yX2_areaAt, Cond.instanceMethod yX2_areaAt, Cond.selects RX2 yX2_areaAt yX2_areaAt, Cond.code yX2_areaAt cX2_areaAt 2 (some .int), Cond.methodLink RX2 32 yX2_numberAt, Cond.instanceMethod yX2_numberAt, Cond.selects RX2 yX2_numberAt yX2_numberAt, Cond.code yX2_numberAt cX2_numberAt 2 (some .int), Cond.fieldLink RX2 22 "HilbertHutch$Stock" "order" "[I", Cond.methodLink RX2 36 yX2_areaOf, Cond.instanceMethod yX2_areaOf, Cond.selects RX2 yX2_areaOf yX2_areaOf, Cond.code yX2_areaOf cX2_areaOf 2 (some .int), Cond.fieldLink RX2 9 "HilbertHutch$Stock" "areas" "[I", Cond.methodLink RX4 137 yX0_meet, Cond.static yX0_meet, Cond.code yX0_meet cX0_meet 2 (some .boolean), Cond.methodLink RX0 9 yX0_side, Cond.static yX0_side, Cond.code yX0_side cX0_side 2 (some .int)]
def wsL_found_r3 : List Cond := [Cond.methodLink RX4 126 yX2_numberAt]
def wsL_found : List Cond := .codeWith yL_found cL_found 8 (some .int) [(0, 16, 19, 13), (0, 16, 23, 21)] :: ((wsL_found_r1 ++ (wsL_found_r2 ++ wsL_found_r3)) ++ wsX40 ++ wsX20 ++ (vx_atS RX4 111 "java/lang/IndexOutOfBoundsException" ["java/lang/RuntimeException", "java/lang/Exception"]).filter goodWord ++ (vx_atS RX4 164 "java/lang/IllegalArgumentException" ["java/lang/RuntimeException", "java/lang/Exception"]).filter goodWord)
def wsL_visits_r1 : List Cond := [Cond.classLink RL 13 "java/lang/IllegalArgumentException", Cond.methodLink RL 60 yX4_visits, Cond.instanceMethod yX4_visits, Cond.selects RX4 yX4_visits yX4_visits, Cond.initialized RX4, Cond.code yX4_visits cX4_visits 9 (some .int), Cond.fieldLink RX4 23 "HilbertHutch" "tree" "LHilbertHutch$Tree;", Cond.methodLink RX4 27 yX4_checkSides, Cond.static yX4_checkSides, Cond.code yX4_checkSides cX4_checkSides 4 none, Cond.classLink RX4 160 "java/lang/IllegalArgumentException", Cond.initialized "java/lang/IllegalArgumentException", Cond.methodLink RX4 157 yX4_isCoordinate, Cond.static yX4_isCoordinate, Cond.code yX4_isCoordinate cX4_isCoordinate 1 (some .boolean), Cond.methodLink RX4 42 yX0_of, Cond.static yX0_of, Cond.initialized RX0, Cond.code yX0_of cX0_of 4 (some .int), Cond.methodLink RX4 100 yX3_height, Cond.instanceMethod yX3_height, Cond.selects RX3 yX3_height yX3_height, Cond.initialized RX3, Cond.code yX3_height cX3_height 1 (some .int)]
def wsL_visits_r2 : List Cond := [Cond.fieldLink RX3 18 "HilbertHutch$Tree" "height" "I", Cond.methodLink RX4 75 yX3_width, Cond.instanceMethod yX3_width, Cond.selects RX3 yX3_width yX3_width, Cond.code yX3_width cX3_width 2 (some .int), Cond.fieldLink RX3 15 "HilbertHutch$Tree" "widths" "[I", Cond.methodLink RX4 118 yX4_coverOf, Cond.instanceMethod yX4_coverOf, Cond.selects RX4 yX4_coverOf yX4_coverOf, Cond.code yX4_coverOf cX4_coverOf 7 (some .int), Cond.fieldLink RX4 16 "HilbertHutch" "stock" "LHilbertHutch$Stock;", Cond.methodLink RX4 179 yX3_boxesBefore, Cond.instanceMethod yX3_boxesBefore, Cond.selects RX3 yX3_boxesBefore yX3_boxesBefore, Cond.code yX3_boxesBefore cX3_boxesBefore 5 (some .int), Cond.methodLink RX3 34 yX3_entriesBefore, Cond.instanceMethod yX3_entriesBefore, Cond.selects RX3 yX3_entriesBefore yX3_entriesBefore, Cond.code yX3_entriesBefore cX3_entriesBefore 5 (some .int), Cond.methodLink RX3 26 yX3_width, Cond.methodLink RX3 30 yX3_load, Cond.instanceMethod yX3_load, Cond.selects RX3 yX3_load yX3_load, Cond.code yX3_load cX3_load 4 (some .int)]
def wsL_visits_r3 : List Cond := [Cond.fieldLink RX3 11 "HilbertHutch$Tree" "loads" "[I", Cond.methodLink RX3 22 yX3_hasNode, Cond.instanceMethod yX3_hasNode, Cond.selects RX3 yX3_hasNode yX3_hasNode, Cond.code yX3_hasNode cX3_hasNode 3 (some .boolean), Cond.methodLink RX4 134 yX2_areaAt, Cond.instanceMethod yX2_areaAt, Cond.selects RX2 yX2_areaAt yX2_areaAt, Cond.initialized RX2, Cond.code yX2_areaAt cX2_areaAt 2 (some .int), Cond.methodLink RX2 32 yX2_numberAt, Cond.instanceMethod yX2_numberAt, Cond.selects RX2 yX2_numberAt yX2_numberAt, Cond.code yX2_numberAt cX2_numberAt 2 (some .int), Cond.fieldLink RX2 22 "HilbertHutch$Stock" "order" "[I", Cond.fieldLink RX2 25 "HilbertHutch$Stock" "size" "I", Cond.methodLink RX2 36 yX2_areaOf, Cond.instanceMethod yX2_areaOf, Cond.selects RX2 yX2_areaOf yX2_areaOf, Cond.code yX2_areaOf cX2_areaOf 2 (some .int), Cond.fieldLink RX2 9 "HilbertHutch$Stock" "areas" "[I", Cond.methodLink RX4 182 yX0_around, Cond.static yX0_around, Cond.code yX0_around cX0_around 2 (some .int)]
def wsL_visits_r4 : List Cond := [Cond.methodLink RX0 15 Lib.Math.min.name, Cond.static Lib.Math.min.name, Cond.initialized "java/lang/Math", Cond.code Lib.Math.min.name Lib.Math.min.code 2 (some .int), Cond.methodLink RX0 20 Lib.Math.max.name, Cond.static Lib.Math.max.name, Cond.code Lib.Math.max.name Lib.Math.max.code 2 (some .int), Cond.methodLink RX0 9 yX0_side, Cond.static yX0_side, Cond.code yX0_side cX0_side 2 (some .int), Cond.methodLink RX0 23 yX0_of, Cond.methodLink RX4 137 yX0_meet, Cond.static yX0_meet, Cond.code yX0_meet cX0_meet 2 (some .boolean)]
def wsL_visits : List Cond := .codeWith yL_visits cL_visits 7 (some .int) [(0, 14, 17, 13)] :: ((wsL_visits_r1 ++ (wsL_visits_r2 ++ (wsL_visits_r3 ++ wsL_visits_r4))) ++ wsX40 ++ wsX30 ++ wsX20 ++ (vx_atS RX4 164 "java/lang/IllegalArgumentException" ["java/lang/RuntimeException", "java/lang/Exception"]).filter goodWord)
def wsL_nearest_r1 : List Cond := [Cond.classLink RL 13 "java/lang/IllegalArgumentException", Cond.classLink RL 21 "java/lang/IndexOutOfBoundsException", Cond.methodLink RL 63 yX4_nearest, Cond.instanceMethod yX4_nearest, Cond.selects RX4 yX4_nearest yX4_nearest, Cond.initialized RX4, Cond.code yX4_nearest cX4_nearest 5 (some .int), Cond.classLink RX4 107 "java/lang/IndexOutOfBoundsException", Cond.initialized "java/lang/IndexOutOfBoundsException", Cond.fieldLink RX4 16 "HilbertHutch" "stock" "LHilbertHutch$Stock;", Cond.methodLink RX4 78 yX4_checkPoint, Cond.static yX4_checkPoint, Cond.code yX4_checkPoint cX4_checkPoint 2 none, Cond.classLink RX4 160 "java/lang/IllegalArgumentException", Cond.initialized "java/lang/IllegalArgumentException", Cond.methodLink RX4 157 yX4_isCoordinate, Cond.static yX4_isCoordinate, Cond.code yX4_isCoordinate cX4_isCoordinate 1 (some .boolean), Cond.methodLink RX4 141 yX4_rankByDistance, Cond.instanceMethod yX4_rankByDistance, Cond.selects RX4 yX4_rankByDistance yX4_rankByDistance, Cond.code yX4_rankByDistance cX4_rankByDistance 5 none, Cond.fieldLink RX4 9 "HilbertHutch" "ranks" "[I", Cond.methodLink RX4 68 yX2_size]
def wsL_nearest_r2 : List Cond := [Cond.instanceMethod yX2_size, Cond.selects RX2 yX2_size yX2_size, Cond.initialized RX2, Cond.code yX2_size cX2_size 1 (some .int), Cond.fieldLink RX2 25 "HilbertHutch$Stock" "size" "I", Cond.methodLink RX4 134 yX2_areaAt, Cond.instanceMethod yX2_areaAt, Cond.selects RX2 yX2_areaAt yX2_areaAt, Cond.code yX2_areaAt cX2_areaAt 2 (some .int), Cond.methodLink RX2 32 yX2_numberAt, Cond.instanceMethod yX2_numberAt, Cond.selects RX2 yX2_numberAt yX2_numberAt, Cond.code yX2_numberAt cX2_numberAt 2 (some .int), Cond.fieldLink RX2 22 "HilbertHutch$Stock" "order" "[I", Cond.methodLink RX2 36 yX2_areaOf, Cond.instanceMethod yX2_areaOf, Cond.selects RX2 yX2_areaOf yX2_areaOf, Cond.code yX2_areaOf cX2_areaOf 2 (some .int), Cond.fieldLink RX2 9 "HilbertHutch$Stock" "areas" "[I", Cond.methodLink RX4 147 yX0_distanceFrom, Cond.static yX0_distanceFrom, Cond.initialized RX0, Cond.code yX0_distanceFrom cX0_distanceFrom 5 (some .int), Cond.methodLink RX0 9 yX0_side]
def wsL_nearest_r3 : List Cond := [Cond.static yX0_side, Cond.code yX0_side cX0_side 2 (some .int), Cond.methodLink RX0 27 yX0_gap, Cond.static yX0_gap, Cond.code yX0_gap cX0_gap 3 (some .int), Cond.methodLink RX0 20 Lib.Math.max.name, Cond.static Lib.Math.max.name, Cond.initialized "java/lang/Math", Cond.code Lib.Math.max.name Lib.Math.max.code 2 (some .int), Cond.methodLink RX4 126 yX2_numberAt, Cond.methodLink RX4 144 yX4_ranksBefore, Cond.instanceMethod yX4_ranksBefore, Cond.selects RX4 yX4_ranksBefore yX4_ranksBefore, Cond.code yX4_ranksBefore cX4_ranksBefore 5 (some .int)]
def wsL_nearest : List Cond := .codeWith yL_nearest cL_nearest 6 (some .int) [(0, 12, 15, 13), (0, 12, 19, 21)] :: ((wsL_nearest_r1 ++ (wsL_nearest_r2 ++ wsL_nearest_r3)) ++ wsX40 ++ wsX20 ++ (vx_atS RX4 111 "java/lang/IndexOutOfBoundsException" ["java/lang/RuntimeException", "java/lang/Exception"]).filter goodWord ++ (vx_atS RX4 164 "java/lang/IllegalArgumentException" ["java/lang/RuntimeException", "java/lang/Exception"]).filter goodWord)
def wsL_distance_r1 : List Cond := [Cond.classLink RL 13 "java/lang/IllegalArgumentException", Cond.classLink RL 21 "java/lang/IndexOutOfBoundsException", Cond.methodLink RL 66 yX4_distance, Cond.instanceMethod yX4_distance, Cond.selects RX4 yX4_distance yX4_distance, Cond.initialized RX4, Cond.code yX4_distance cX4_distance 4 (some .int), Cond.fieldLink RX4 16 "HilbertHutch" "stock" "LHilbertHutch$Stock;", Cond.methodLink RX4 78 yX4_checkPoint, Cond.static yX4_checkPoint, Cond.code yX4_checkPoint cX4_checkPoint 2 none, Cond.classLink RX4 160 "java/lang/IllegalArgumentException", Cond.initialized "java/lang/IllegalArgumentException", Cond.methodLink RX4 157 yX4_isCoordinate, Cond.static yX4_isCoordinate, Cond.code yX4_isCoordinate cX4_isCoordinate 1 (some .boolean), Cond.methodLink RX4 59 yX4_checkBox, Cond.instanceMethod yX4_checkBox, Cond.selects RX4 yX4_checkBox yX4_checkBox, Cond.code yX4_checkBox cX4_checkBox 2 none, Cond.classLink RX4 107 "java/lang/IndexOutOfBoundsException", Cond.initialized "java/lang/IndexOutOfBoundsException", Cond.methodLink RX4 169 yX2_has, Cond.instanceMethod yX2_has]
def wsL_distance_r2 : List Cond := [Cond.selects RX2 yX2_has yX2_has, Cond.initialized RX2, Cond.code yX2_has cX2_has 2 (some .boolean), Cond.fieldLink RX2 18 "HilbertHutch$Stock" "there" "[Z", Cond.methodLink RX4 94 yX2_areaOf, Cond.instanceMethod yX2_areaOf, Cond.selects RX2 yX2_areaOf yX2_areaOf, Cond.code yX2_areaOf cX2_areaOf 2 (some .int), Cond.fieldLink RX2 9 "HilbertHutch$Stock" "areas" "[I", Cond.methodLink RX4 147 yX0_distanceFrom, Cond.static yX0_distanceFrom, Cond.initialized RX0, Cond.code yX0_distanceFrom cX0_distanceFrom 5 (some .int), Cond.methodLink RX0 9 yX0_side, Cond.static yX0_side, Cond.code yX0_side cX0_side 2 (some .int), Cond.methodLink RX0 27 yX0_gap, Cond.static yX0_gap, Cond.code yX0_gap cX0_gap 3 (some .int), Cond.methodLink RX0 20 Lib.Math.max.name, Cond.static Lib.Math.max.name, Cond.initialized "java/lang/Math", Cond.code Lib.Math.max.name Lib.Math.max.code 2 (some .int)]
def wsL_distance : List Cond := .codeWith yL_distance cL_distance 6 (some .int) [(0, 12, 15, 13), (0, 12, 19, 21)] :: ((wsL_distance_r1 ++ wsL_distance_r2) ++ wsX40 ++ wsX20 ++ (vx_atS RX4 164 "java/lang/IllegalArgumentException" ["java/lang/RuntimeException", "java/lang/Exception"]).filter goodWord ++ (vx_atS RX4 111 "java/lang/IndexOutOfBoundsException" ["java/lang/RuntimeException", "java/lang/Exception"]).filter goodWord)
def wsL_pair_r1 : List Cond := [Cond.classLink RL 21 "java/lang/IndexOutOfBoundsException", Cond.methodLink RL 69 yX4_pair, Cond.instanceMethod yX4_pair, Cond.selects RX4 yX4_pair yX4_pair, Cond.initialized RX4, Cond.code yX4_pair cX4_pair 5 (some .int), Cond.classLink RX4 107 "java/lang/IndexOutOfBoundsException", Cond.initialized "java/lang/IndexOutOfBoundsException", Cond.fieldLink RX4 16 "HilbertHutch" "stock" "LHilbertHutch$Stock;", Cond.methodLink RX4 151 yX2_added, Cond.instanceMethod yX2_added, Cond.selects RX2 yX2_added yX2_added, Cond.initialized RX2, Cond.code yX2_added cX2_added 1 (some .int), Cond.fieldLink RX2 29 "HilbertHutch$Stock" "added" "I", Cond.methodLink RX4 154 yX2_haveMet, Cond.instanceMethod yX2_haveMet, Cond.selects RX2 yX2_haveMet yX2_haveMet, Cond.code yX2_haveMet cX2_haveMet 3 (some .boolean), Cond.methodLink RX2 39 yX2_has, Cond.instanceMethod yX2_has, Cond.selects RX2 yX2_has yX2_has, Cond.code yX2_has cX2_has 2 (some .boolean), Cond.fieldLink RX2 18 "HilbertHutch$Stock" "there" "[Z"]
def wsL_pair_r2 : List Cond := [Cond.methodLink RX2 36 yX2_areaOf, Cond.instanceMethod yX2_areaOf, Cond.selects RX2 yX2_areaOf yX2_areaOf, Cond.code yX2_areaOf cX2_areaOf 2 (some .int), Cond.fieldLink RX2 9 "HilbertHutch$Stock" "areas" "[I", Cond.methodLink RX2 43 yX0_meet, Cond.static yX0_meet, Cond.initialized RX0, Cond.code yX0_meet cX0_meet 2 (some .boolean), Cond.methodLink RX0 9 yX0_side, Cond.static yX0_side, Cond.code yX0_side cX0_side 2 (some .int)]
def wsL_pair : List Cond := .codeWith yL_pair cL_pair 4 (some .int) [(0, 9, 12, 21)] :: ((wsL_pair_r1 ++ wsL_pair_r2) ++ wsX40 ++ wsX20 ++ (vx_atS RX4 111 "java/lang/IndexOutOfBoundsException" ["java/lang/RuntimeException", "java/lang/Exception"]).filter goodWord)
def wsL_law0_r1 : List Cond := [Cond.classLink RL 8 RX4, Cond.instantiable RX4 3, Cond.initialized RX4, Cond.classLink RL 73 RX5, Cond.instantiable RX5 16, Cond.initialized RX5, Cond.arrayClass .long, Cond.arrayClass .double, Cond.methodLink RL 72 yX4_init, Cond.instanceMethod yX4_init, Cond.code yX4_init cX4_init 1 none, Cond.methodLink RX4 1 objectInit, Cond.instanceMethod objectInit, Cond.code objectInit ⟨#[0xb1]⟩ 1 none, Cond.arrayClass .int, Cond.fieldLink RX4 9 "HilbertHutch" "ranks" "[I", Cond.classLink RX4 13 RX2, Cond.instantiable RX2 6, Cond.initialized RX2, Cond.fieldLink RX4 16 "HilbertHutch" "stock" "LHilbertHutch$Stock;", Cond.classLink RX4 20 RX3, Cond.instantiable RX3 3, Cond.initialized RX3, Cond.fieldLink RX4 23 "HilbertHutch" "tree" "LHilbertHutch$Tree;"]
def wsL_law0_r2 : List Cond := [Cond.instanceMethod yX2_init, Cond.code yX2_init cX2_init 1 none, Cond.methodLink RX2 3 objectInit, Cond.fieldLink RX2 9 "HilbertHutch$Stock" "areas" "[I", Cond.fieldLink RX2 15 "HilbertHutch$Stock" "keys" "[I", Cond.arrayClass .boolean, Cond.fieldLink RX2 18 "HilbertHutch$Stock" "there" "[Z", Cond.fieldLink RX2 22 "HilbertHutch$Stock" "order" "[I", Cond.instanceMethod yX3_init, Cond.code yX3_init cX3_init 1 none, Cond.methodLink RX3 3 objectInit, Cond.fieldLink RX3 11 "HilbertHutch$Tree" "loads" "[I", Cond.fieldLink RX3 15 "HilbertHutch$Tree" "widths" "[I", Cond.methodLink RL 75 yX5_init, Cond.instanceMethod yX5_init, Cond.code yX5_init cX5_init 1 none, Cond.methodLink RX5 1 objectInit, Cond.fieldLink RX5 7 "HilbertHutchModel" "sides" "[I", Cond.fieldLink RX5 13 "HilbertHutchModel" "key" "[I", Cond.fieldLink RX5 16 "HilbertHutchModel" "isThere" "[Z", Cond.fieldLink RX5 20 "HilbertHutchModel" "order" "[I", Cond.fieldLink RX5 23 "HilbertHutchModel" "nodes" "[I", Cond.fieldLink RX5 26 "HilbertHutchModel" "entries" "[I", Cond.methodLink RL 76 yL_add]
def wsL_law0_r3 : List Cond := [Cond.static yL_add, Cond.initialized RL, Cond.codeWith yL_add cL_add 7 (some .int) [(0, 14, 17, 13), (0, 14, 21, 15)], Cond.classLink RL 13 "java/lang/IllegalArgumentException", Cond.classLink RL 15 "java/lang/IllegalStateException", Cond.methodLink RL 7 yX4_add, Cond.instanceMethod yX4_add, Cond.selects RX4 yX4_add yX4_add, Cond.code yX4_add cX4_add 6 (some .int), Cond.classLink RX4 35 "java/lang/IllegalStateException", Cond.initialized "java/lang/IllegalStateException", Cond.methodLink RX4 27 yX4_checkSides, Cond.static yX4_checkSides, Cond.code yX4_checkSides cX4_checkSides 4 none, Cond.classLink RX4 160 "java/lang/IllegalArgumentException", Cond.initialized "java/lang/IllegalArgumentException", Cond.methodLink RX4 157 yX4_isCoordinate, Cond.static yX4_isCoordinate, Cond.code yX4_isCoordinate cX4_isCoordinate 1 (some .boolean), Cond.methodLink RX4 31 yX2_hasRoom, Cond.instanceMethod yX2_hasRoom, Cond.selects RX2 yX2_hasRoom yX2_hasRoom, Cond.code yX2_hasRoom cX2_hasRoom 1 (some .boolean), Cond.fieldLink RX2 29 "HilbertHutch$Stock" "added" "I"]
def wsL_law0_r4 : List Cond := [Cond.fieldLink RX2 25 "HilbertHutch$Stock" "size" "I", Cond.methodLink RX4 42 yX0_of, Cond.static yX0_of, Cond.initialized RX0, Cond.code yX0_of cX0_of 4 (some .int), Cond.methodLink RX4 48 yX2_putIn, Cond.instanceMethod yX2_putIn, Cond.selects RX2 yX2_putIn yX2_putIn, Cond.code yX2_putIn cX2_putIn 3 (some .int), Cond.methodLink RX2 49 yX0_middleKey, Cond.static yX0_middleKey, Cond.code yX0_middleKey cX0_middleKey 3 (some .int), Cond.methodLink RX0 9 yX0_side, Cond.static yX0_side, Cond.code yX0_side cX0_side 2 (some .int), Cond.methodLink RX0 31 yX1_lengthTo, Cond.static yX1_lengthTo, Cond.initialized RX1, Cond.code yX1_lengthTo cX1_lengthTo 9 (some .int), Cond.methodLink RX1 9 yX1_quarter, Cond.static yX1_quarter, Cond.code yX1_quarter cX1_quarter 2 (some .int), Cond.methodLink RX2 52 yX2_putInOrder, Cond.instanceMethod yX2_putInOrder]
def wsL_law0_r5 : List Cond := [Cond.selects RX2 yX2_putInOrder yX2_putInOrder, Cond.code yX2_putInOrder cX2_putInOrder 4 none, Cond.methodLink RX2 32 yX2_numberAt, Cond.instanceMethod yX2_numberAt, Cond.selects RX2 yX2_numberAt yX2_numberAt, Cond.code yX2_numberAt cX2_numberAt 2 (some .int), Cond.methodLink RX2 56 yX2_keyFor, Cond.instanceMethod yX2_keyFor, Cond.selects RX2 yX2_keyFor yX2_keyFor, Cond.code yX2_keyFor cX2_keyFor 2 (some .int), Cond.methodLink RX2 59 yX2_setOrder, Cond.instanceMethod yX2_setOrder, Cond.selects RX2 yX2_setOrder yX2_setOrder, Cond.code yX2_setOrder cX2_setOrder 3 none, Cond.methodLink RX4 52 yX2_placeOf, Cond.instanceMethod yX2_placeOf, Cond.selects RX2 yX2_placeOf yX2_placeOf, Cond.code yX2_placeOf cX2_placeOf 3 (some .int), Cond.methodLink RX4 55 yX3_grow, Cond.instanceMethod yX3_grow, Cond.selects RX3 yX3_grow yX3_grow, Cond.code yX3_grow cX3_grow 5 none, Cond.fieldLink RX3 18 "HilbertHutch$Tree" "height" "I", Cond.methodLink RX3 44 yX3_addRoot]
def wsL_law0_r6 : List Cond := [Cond.instanceMethod yX3_addRoot, Cond.selects RX3 yX3_addRoot yX3_addRoot, Cond.code yX3_addRoot cX3_addRoot 2 none, Cond.methodLink RX3 63 yX3_setWidth, Cond.instanceMethod yX3_setWidth, Cond.selects RX3 yX3_setWidth yX3_setWidth, Cond.code yX3_setWidth cX3_setWidth 3 none, Cond.methodLink RX3 48 yX3_setLoad, Cond.instanceMethod yX3_setLoad, Cond.selects RX3 yX3_setLoad yX3_setLoad, Cond.code yX3_setLoad cX3_setLoad 5 none, Cond.methodLink RX3 22 yX3_hasNode, Cond.instanceMethod yX3_hasNode, Cond.selects RX3 yX3_hasNode yX3_hasNode, Cond.code yX3_hasNode cX3_hasNode 3 (some .boolean), Cond.methodLink RX3 41 yX3_holder, Cond.instanceMethod yX3_holder, Cond.selects RX3 yX3_holder yX3_holder, Cond.code yX3_holder cX3_holder 5 (some .int), Cond.methodLink RX3 26 yX3_width, Cond.instanceMethod yX3_width, Cond.selects RX3 yX3_width yX3_width, Cond.code yX3_width cX3_width 2 (some .int), Cond.methodLink RX3 30 yX3_load]
def wsL_law0_r7 : List Cond := [Cond.instanceMethod yX3_load, Cond.selects RX3 yX3_load yX3_load, Cond.code yX3_load cX3_load 4 (some .int), Cond.methodLink RX3 52 yX3_parent, Cond.instanceMethod yX3_parent, Cond.selects RX3 yX3_parent yX3_parent, Cond.code yX3_parent cX3_parent 3 (some .int), Cond.methodLink RX3 37 yX3_hasLevel, Cond.instanceMethod yX3_hasLevel, Cond.selects RX3 yX3_hasLevel yX3_hasLevel, Cond.code yX3_hasLevel cX3_hasLevel 2 (some .boolean), Cond.methodLink RX3 55 yX3_relieve, Cond.instanceMethod yX3_relieve, Cond.selects RX3 yX3_relieve yX3_relieve, Cond.code yX3_relieve cX3_relieve 6 (some .boolean), Cond.methodLink RX3 73 Lib.Math.min.name, Cond.static Lib.Math.min.name, Cond.initialized "java/lang/Math", Cond.code Lib.Math.min.name Lib.Math.min.code 2 (some .int), Cond.methodLink RX3 66 yX3_partner, Cond.instanceMethod yX3_partner, Cond.selects RX3 yX3_partner yX3_partner, Cond.code yX3_partner cX3_partner 6 (some .int), Cond.methodLink RX3 34 yX3_entriesBefore]
def wsL_law0_r8 : List Cond := [Cond.instanceMethod yX3_entriesBefore, Cond.selects RX3 yX3_entriesBefore yX3_entriesBefore, Cond.code yX3_entriesBefore cX3_entriesBefore 5 (some .int), Cond.methodLink RX3 70 yX3_insertNode, Cond.instanceMethod yX3_insertNode, Cond.selects RX3 yX3_insertNode yX3_insertNode, Cond.code yX3_insertNode cX3_insertNode 6 none, Cond.methodLink RX3 78 yX3_halve, Cond.instanceMethod yX3_halve, Cond.selects RX3 yX3_halve yX3_halve, Cond.code yX3_halve cX3_halve 4 none, Cond.methodLink RX3 59 yX3_gainEntry, Cond.instanceMethod yX3_gainEntry, Cond.selects RX3 yX3_gainEntry yX3_gainEntry, Cond.code yX3_gainEntry cX3_gainEntry 3 none, Cond.methodLink RL 81 yX5_add, Cond.instanceMethod yX5_add, Cond.selects RX5 yX5_add yX5_add, Cond.code yX5_add cX5_add 8 (some .int), Cond.fieldLink RX5 63 "HilbertHutchModel" "boxes" "I", Cond.fieldLink RX5 33 "HilbertHutchModel" "added" "I", Cond.fieldLink RX5 43 "HilbertHutchModel" "levels" "I", Cond.methodLink RX5 66 yX5_isArea, Cond.static yX5_isArea]
def wsL_law0_r9 : List Cond := [Cond.code yX5_isArea cX5_isArea 4 (some .boolean), Cond.methodLink RX5 70 yX5_fails, Cond.instanceMethod yX5_fails, Cond.selects RX5 yX5_fails yX5_fails, Cond.code yX5_fails cX5_fails 2 (some .boolean), Cond.fieldLink RX5 29 "HilbertHutchModel" "thrown" "I", Cond.methodLink RX5 74 yX5_keyAt, Cond.static yX5_keyAt, Cond.code yX5_keyAt cX5_keyAt 10 (some .int), Cond.methodLink RX5 77 yX5_leafFor, Cond.instanceMethod yX5_leafFor, Cond.selects RX5 yX5_leafFor yX5_leafFor, Cond.code yX5_leafFor cX5_leafFor 3 (some .int), Cond.methodLink RX5 40 yX5_ahead, Cond.instanceMethod yX5_ahead, Cond.selects RX5 yX5_ahead yX5_ahead, Cond.code yX5_ahead cX5_ahead 5 (some .int), Cond.methodLink RX5 36 yX5_many, Cond.instanceMethod yX5_many, Cond.selects RX5 yX5_many yX5_many, Cond.code yX5_many cX5_many 3 (some .int), Cond.methodLink RX5 81 yX5_grows, Cond.instanceMethod yX5_grows, Cond.selects RX5 yX5_grows yX5_grows]
def wsL_law0_r10 : List Cond := [Cond.code yX5_grows cX5_grows 9 none, Cond.methodLink RX5 49 yX5_partner, Cond.instanceMethod yX5_partner, Cond.selects RX5 yX5_partner yX5_partner, Cond.code yX5_partner cX5_partner 6 (some .int), Cond.methodLink RX5 46 yX5_above, Cond.instanceMethod yX5_above, Cond.selects RX5 yX5_above yX5_above, Cond.code yX5_above cX5_above 4 (some .int), Cond.methodLink RX5 52 yX5_enters, Cond.instanceMethod yX5_enters, Cond.selects RX5 yX5_enters yX5_enters, Cond.code yX5_enters cX5_enters 5 none, Cond.methodLink RX5 56 yX5_shares, Cond.instanceMethod yX5_shares, Cond.selects RX5 yX5_shares yX5_shares, Cond.code yX5_shares cX5_shares 4 none, Cond.methodLink RL 82 yX5_thrown, Cond.instanceMethod yX5_thrown, Cond.selects RX5 yX5_thrown yX5_thrown, Cond.code yX5_thrown cX5_thrown 1 (some .int), Cond.methodLink RL 86 yL_remove, Cond.static yL_remove, Cond.codeWith yL_remove cL_remove 4 (some .int) [(0, 9, 12, 21)]]
def wsL_law0_r11 : List Cond := [Cond.classLink RL 21 "java/lang/IndexOutOfBoundsException", Cond.methodLink RL 17 yX4_remove, Cond.instanceMethod yX4_remove, Cond.selects RX4 yX4_remove yX4_remove, Cond.code yX4_remove cX4_remove 2 (some .int), Cond.methodLink RX4 59 yX4_checkBox, Cond.instanceMethod yX4_checkBox, Cond.selects RX4 yX4_checkBox yX4_checkBox, Cond.code yX4_checkBox cX4_checkBox 2 none, Cond.classLink RX4 107 "java/lang/IndexOutOfBoundsException", Cond.initialized "java/lang/IndexOutOfBoundsException", Cond.methodLink RX4 169 yX2_has, Cond.instanceMethod yX2_has, Cond.selects RX2 yX2_has yX2_has, Cond.code yX2_has cX2_has 2 (some .boolean), Cond.methodLink RX4 62 yX3_shrink, Cond.instanceMethod yX3_shrink, Cond.selects RX3 yX3_shrink yX3_shrink, Cond.code yX3_shrink cX3_shrink 6 none, Cond.methodLink RX3 81 yX3_unite, Cond.instanceMethod yX3_unite, Cond.selects RX3 yX3_unite yX3_unite, Cond.code yX3_unite cX3_unite 7 (some .boolean), Cond.methodLink RX3 87 yX3_deleteNode]
def wsL_law0_r12 : List Cond := [Cond.instanceMethod yX3_deleteNode, Cond.selects RX3 yX3_deleteNode yX3_deleteNode, Cond.code yX3_deleteNode cX3_deleteNode 5 none, Cond.methodLink RX3 90 Lib.Math.max.name, Cond.static Lib.Math.max.name, Cond.code Lib.Math.max.name Lib.Math.max.code 2 (some .int), Cond.methodLink RX3 84 yX3_lowerRoot, Cond.instanceMethod yX3_lowerRoot, Cond.selects RX3 yX3_lowerRoot yX3_lowerRoot, Cond.code yX3_lowerRoot cX3_lowerRoot 2 none, Cond.methodLink RX4 65 yX2_takeOut, Cond.instanceMethod yX2_takeOut, Cond.selects RX2 yX2_takeOut yX2_takeOut, Cond.code yX2_takeOut cX2_takeOut 4 none, Cond.methodLink RX2 63 yX2_placeOf, Cond.methodLink RX2 39 yX2_has, Cond.methodLink RX4 68 yX2_size, Cond.instanceMethod yX2_size, Cond.selects RX2 yX2_size yX2_size, Cond.code yX2_size cX2_size 1 (some .int), Cond.methodLink RL 89 yX5_remove, Cond.instanceMethod yX5_remove, Cond.selects RX5 yX5_remove yX5_remove, Cond.code yX5_remove cX5_remove 5 (some .int)]
def wsL_law0_r13 : List Cond := [Cond.methodLink RX5 84 yX5_is, Cond.instanceMethod yX5_is, Cond.selects RX5 yX5_is yX5_is, Cond.code yX5_is cX5_is 2 (some .boolean), Cond.methodLink RX5 87 yX5_placeOf, Cond.instanceMethod yX5_placeOf, Cond.selects RX5 yX5_placeOf yX5_placeOf, Cond.code yX5_placeOf cX5_placeOf 3 (some .int), Cond.methodLink RX5 90 yX5_shrinks, Cond.instanceMethod yX5_shrinks, Cond.selects RX5 yX5_shrinks yX5_shrinks, Cond.code yX5_shrinks cX5_shrinks 9 none, Cond.methodLink RX5 60 yX5_goes, Cond.instanceMethod yX5_goes, Cond.selects RX5 yX5_goes yX5_goes, Cond.code yX5_goes cX5_goes 4 none, Cond.methodLink RL 90 yX4_pack, Cond.instanceMethod yX4_pack, Cond.selects RX4 yX4_pack yX4_pack, Cond.code yX4_pack cX4_pack 1 (some .int), Cond.methodLink RX4 72 yX3_planAnew, Cond.instanceMethod yX3_planAnew, Cond.selects RX3 yX3_planAnew yX3_planAnew, Cond.code yX3_planAnew cX3_planAnew 6 none]
def wsL_law0_r14 : List Cond := [Cond.methodLink RX4 75 yX3_width, Cond.methodLink RL 93 yX5_pack, Cond.instanceMethod yX5_pack, Cond.selects RX5 yX5_pack yX5_pack, Cond.code yX5_pack cX5_pack 4 (some .int), Cond.methodLink RL 94 yX4_boxes, Cond.instanceMethod yX4_boxes, Cond.selects RX4 yX4_boxes yX4_boxes, Cond.code yX4_boxes cX4_boxes 1 (some .int), Cond.methodLink RL 97 yX5_boxes, Cond.instanceMethod yX5_boxes, Cond.selects RX5 yX5_boxes yX5_boxes, Cond.code yX5_boxes cX5_boxes 1 (some .int), Cond.methodLink RX5 94 yX5_tells, Cond.instanceMethod yX5_tells, Cond.selects RX5 yX5_tells yX5_tells, Cond.code yX5_tells cX5_tells 2 (some .int), Cond.methodLink RL 98 yL_key, Cond.static yL_key, Cond.codeWith yL_key cL_key 5 (some .int) [(0, 10, 13, 13)], Cond.methodLink RL 23 yX4_key, Cond.instanceMethod yX4_key, Cond.selects RX4 yX4_key yX4_key, Cond.code yX4_key cX4_key 3 (some .int)]
def wsL_law0_r15 : List Cond := [Cond.methodLink RX4 78 yX4_checkPoint, Cond.static yX4_checkPoint, Cond.code yX4_checkPoint cX4_checkPoint 2 none, Cond.methodLink RX4 82 yX1_lengthTo, Cond.methodLink RL 101 yX5_key, Cond.instanceMethod yX5_key, Cond.selects RX5 yX5_key yX5_key, Cond.code yX5_key cX5_key 3 (some .int), Cond.methodLink RX5 97 yX5_isPoint, Cond.static yX5_isPoint, Cond.code yX5_isPoint cX5_isPoint 2 (some .boolean), Cond.methodLink RL 102 yL_keyOf, Cond.static yL_keyOf, Cond.codeWith yL_keyOf cL_keyOf 4 (some .int) [(0, 9, 12, 21)], Cond.methodLink RL 27 yX4_keyOf, Cond.instanceMethod yX4_keyOf, Cond.selects RX4 yX4_keyOf yX4_keyOf, Cond.code yX4_keyOf cX4_keyOf 2 (some .int), Cond.methodLink RX4 88 yX2_keyFor, Cond.methodLink RL 104 yX5_keyOf, Cond.instanceMethod yX5_keyOf, Cond.selects RX5 yX5_keyOf yX5_keyOf, Cond.code yX5_keyOf cX5_keyOf 2 (some .int), Cond.methodLink RL 105 yL_sideOf]
def wsL_law0_r16 : List Cond := [Cond.static yL_sideOf, Cond.codeWith yL_sideOf cL_sideOf 5 (some .int) [(0, 10, 13, 13), (0, 10, 17, 21)], Cond.methodLink RL 30 yX4_sideOf, Cond.instanceMethod yX4_sideOf, Cond.selects RX4 yX4_sideOf yX4_sideOf, Cond.code yX4_sideOf cX4_sideOf 3 (some .int), Cond.methodLink RX4 91 yX4_checkSide, Cond.static yX4_checkSide, Cond.code yX4_checkSide cX4_checkSide 1 none, Cond.methodLink RX4 94 yX2_areaOf, Cond.instanceMethod yX2_areaOf, Cond.selects RX2 yX2_areaOf yX2_areaOf, Cond.code yX2_areaOf cX2_areaOf 2 (some .int), Cond.methodLink RX4 97 yX0_side, Cond.methodLink RL 107 yX5_sideOf, Cond.instanceMethod yX5_sideOf, Cond.selects RX5 yX5_sideOf yX5_sideOf, Cond.code yX5_sideOf cX5_sideOf 3 (some .int), Cond.methodLink RX5 101 yX5_isSide, Cond.static yX5_isSide, Cond.code yX5_isSide cX5_isSide 1 (some .boolean), Cond.methodLink RL 108 yX4_levels, Cond.instanceMethod yX4_levels, Cond.selects RX4 yX4_levels yX4_levels]
def wsL_law0_r17 : List Cond := [Cond.code yX4_levels cX4_levels 1 (some .int), Cond.methodLink RX4 100 yX3_height, Cond.instanceMethod yX3_height, Cond.selects RX3 yX3_height yX3_height, Cond.code yX3_height cX3_height 1 (some .int), Cond.methodLink RL 111 yX5_levels, Cond.instanceMethod yX5_levels, Cond.selects RX5 yX5_levels yX5_levels, Cond.code yX5_levels cX5_levels 1 (some .int), Cond.methodLink RL 112 yL_nodes, Cond.static yL_nodes, Cond.codeWith yL_nodes cL_nodes 4 (some .int) [(0, 9, 12, 21)], Cond.methodLink RL 33 yX4_nodes, Cond.instanceMethod yX4_nodes, Cond.selects RX4 yX4_nodes yX4_nodes, Cond.code yX4_nodes cX4_nodes 2 (some .int), Cond.methodLink RX4 103 yX3_hasLevel, Cond.methodLink RL 114 yX5_nodes, Cond.instanceMethod yX5_nodes, Cond.selects RX5 yX5_nodes yX5_nodes, Cond.code yX5_nodes cX5_nodes 2 (some .int), Cond.methodLink RX5 104 yX5_isLevel, Cond.instanceMethod yX5_isLevel, Cond.selects RX5 yX5_isLevel yX5_isLevel]
def wsL_law0_r18 : List Cond := [Cond.code yX5_isLevel cX5_isLevel 2 (some .boolean), Cond.methodLink RL 115 yL_entries, Cond.static yL_entries, Cond.codeWith yL_entries cL_entries 5 (some .int) [(0, 10, 13, 21)], Cond.methodLink RL 36 yX4_entries, Cond.instanceMethod yX4_entries, Cond.selects RX4 yX4_entries yX4_entries, Cond.code yX4_entries cX4_entries 3 (some .int), Cond.methodLink RX4 112 yX4_checkNode, Cond.instanceMethod yX4_checkNode, Cond.selects RX4 yX4_checkNode yX4_checkNode, Cond.code yX4_checkNode cX4_checkNode 3 none, Cond.methodLink RX4 174 yX3_hasNode, Cond.methodLink RX4 115 yX3_load, Cond.methodLink RL 117 yX5_entries, Cond.instanceMethod yX5_entries, Cond.selects RX5 yX5_entries yX5_entries, Cond.code yX5_entries cX5_entries 3 (some .int), Cond.methodLink RX5 107 yX5_isNode, Cond.instanceMethod yX5_isNode, Cond.selects RX5 yX5_isNode yX5_isNode, Cond.code yX5_isNode cX5_isNode 3 (some .boolean), Cond.methodLink RL 118 yL_cover, Cond.static yL_cover]
def wsL_law0_r19 : List Cond := [Cond.codeWith yL_cover cL_cover 6 (some .int) [(0, 12, 15, 13), (0, 12, 19, 21)], Cond.methodLink RL 39 yX4_cover, Cond.instanceMethod yX4_cover, Cond.selects RX4 yX4_cover yX4_cover, Cond.code yX4_cover cX4_cover 4 (some .int), Cond.methodLink RX4 118 yX4_coverOf, Cond.instanceMethod yX4_coverOf, Cond.selects RX4 yX4_coverOf yX4_coverOf, Cond.code yX4_coverOf cX4_coverOf 7 (some .int), Cond.methodLink RX4 179 yX3_boxesBefore, Cond.instanceMethod yX3_boxesBefore, Cond.selects RX3 yX3_boxesBefore yX3_boxesBefore, Cond.code yX3_boxesBefore cX3_boxesBefore 5 (some .int), Cond.methodLink RX4 134 yX2_areaAt, Cond.instanceMethod yX2_areaAt, Cond.selects RX2 yX2_areaAt yX2_areaAt, Cond.code yX2_areaAt cX2_areaAt 2 (some .int), Cond.methodLink RX2 36 yX2_areaOf, Cond.methodLink RX4 182 yX0_around, Cond.static yX0_around, Cond.code yX0_around cX0_around 2 (some .int), Cond.methodLink RX0 15 Lib.Math.min.name, Cond.methodLink RX0 20 Lib.Math.max.name, Cond.methodLink RX0 23 yX0_of]
def wsL_law0_r20 : List Cond := [Cond.methodLink RL 121 yX5_cover, Cond.instanceMethod yX5_cover, Cond.selects RX5 yX5_cover yX5_cover, Cond.code yX5_cover cX5_cover 4 (some .int), Cond.fieldLink RX5 116 "HilbertHutchModel" "left" "I", Cond.fieldLink RX5 119 "HilbertHutchModel" "low" "I", Cond.fieldLink RX5 122 "HilbertHutchModel" "right" "I", Cond.fieldLink RX5 125 "HilbertHutchModel" "high" "I", Cond.methodLink RX5 128 yX5_covers, Cond.instanceMethod yX5_covers, Cond.selects RX5 yX5_covers yX5_covers, Cond.code yX5_covers cX5_covers 5 none, Cond.fieldLink RX5 110 "HilbertHutchModel" "first" "I", Cond.fieldLink RX5 113 "HilbertHutchModel" "end" "I", Cond.methodLink RL 122 yL_leafOf, Cond.static yL_leafOf, Cond.codeWith yL_leafOf cL_leafOf 4 (some .int) [(0, 9, 12, 21)], Cond.methodLink RL 43 yX4_leafOf, Cond.instanceMethod yX4_leafOf, Cond.selects RX4 yX4_leafOf yX4_leafOf, Cond.code yX4_leafOf cX4_leafOf 2 (some .int), Cond.methodLink RX4 121 yX3_holder, Cond.methodLink RL 124 yX5_leafOf, Cond.instanceMethod yX5_leafOf]
def wsL_law0_r21 : List Cond := [Cond.selects RX5 yX5_leafOf yX5_leafOf, Cond.code yX5_leafOf cX5_leafOf 2 (some .int), Cond.methodLink RL 125 yL_boxAt, Cond.static yL_boxAt, Cond.codeWith yL_boxAt cL_boxAt 4 (some .int) [(0, 9, 12, 21)], Cond.methodLink RL 46 yX4_boxAt, Cond.instanceMethod yX4_boxAt, Cond.selects RX4 yX4_boxAt yX4_boxAt, Cond.code yX4_boxAt cX4_boxAt 2 (some .int), Cond.methodLink RX4 126 yX2_numberAt, Cond.methodLink RL 127 yX5_boxAt, Cond.instanceMethod yX5_boxAt, Cond.selects RX5 yX5_boxAt yX5_boxAt, Cond.code yX5_boxAt cX5_boxAt 2 (some .int), Cond.methodLink RL 128 yL_tightness, Cond.static yL_tightness, Cond.codeWith yL_tightness cL_tightness 3 (some .int) [(0, 8, 11, 15)], Cond.methodLink RL 49 yX4_tightness, Cond.instanceMethod yX4_tightness, Cond.selects RX4 yX4_tightness yX4_tightness, Cond.code yX4_tightness cX4_tightness 4 (some .float), Cond.methodLink RX4 129 yX0_points, Cond.static yX0_points, Cond.code yX0_points cX0_points 1 (some .int)]
def wsL_law0_r22 : List Cond := [Cond.methodLink RL 131 yX5_tightness, Cond.instanceMethod yX5_tightness, Cond.selects RX5 yX5_tightness yX5_tightness, Cond.code yX5_tightness cX5_tightness 4 (some .float), Cond.methodLink RL 132 yL_count, Cond.static yL_count, Cond.codeWith yL_count cL_count 7 (some .int) [(0, 14, 17, 13)], Cond.methodLink RL 53 yX4_count, Cond.instanceMethod yX4_count, Cond.selects RX4 yX4_count yX4_count, Cond.code yX4_count cX4_count 8 (some .int), Cond.methodLink RX4 137 yX0_meet, Cond.static yX0_meet, Cond.code yX0_meet cX0_meet 2 (some .boolean), Cond.methodLink RL 134 yX5_count, Cond.instanceMethod yX5_count, Cond.selects RX5 yX5_count yX5_count, Cond.code yX5_count cX5_count 5 (some .int), Cond.methodLink RX5 135 yX5_met, Cond.instanceMethod yX5_met, Cond.selects RX5 yX5_met yX5_met, Cond.code yX5_met cX5_met 7 (some .int), Cond.methodLink RX5 131 yX5_doesMeet, Cond.instanceMethod yX5_doesMeet]
def wsL_law0_r23 : List Cond := [Cond.selects RX5 yX5_doesMeet yX5_doesMeet, Cond.code yX5_doesMeet cX5_doesMeet 7 (some .boolean), Cond.methodLink RL 135 yL_found, Cond.static yL_found, Cond.codeWith yL_found cL_found 8 (some .int) [(0, 16, 19, 13), (0, 16, 23, 21)], Cond.methodLink RL 56 yX4_found, Cond.instanceMethod yX4_found, Cond.selects RX4 yX4_found yX4_found, Cond.code yX4_found cX4_found 9 (some .int), Cond.methodLink RL 138 yX5_found, Cond.instanceMethod yX5_found, Cond.selects RX5 yX5_found yX5_found, Cond.code yX5_found cX5_found 9 (some .int), Cond.methodLink RL 139 yL_visits, Cond.static yL_visits, Cond.codeWith yL_visits cL_visits 7 (some .int) [(0, 14, 17, 13)], Cond.methodLink RL 60 yX4_visits, Cond.instanceMethod yX4_visits, Cond.selects RX4 yX4_visits yX4_visits, Cond.code yX4_visits cX4_visits 9 (some .int), Cond.methodLink RL 141 yX5_visits, Cond.instanceMethod yX5_visits, Cond.selects RX5 yX5_visits yX5_visits, Cond.code yX5_visits cX5_visits 8 (some .int)]
def wsL_law0_r24 : List Cond := [Cond.methodLink RL 142 yL_nearest, Cond.static yL_nearest, Cond.codeWith yL_nearest cL_nearest 6 (some .int) [(0, 12, 15, 13), (0, 12, 19, 21)], Cond.methodLink RL 63 yX4_nearest, Cond.instanceMethod yX4_nearest, Cond.selects RX4 yX4_nearest yX4_nearest, Cond.code yX4_nearest cX4_nearest 5 (some .int), Cond.methodLink RX4 141 yX4_rankByDistance, Cond.instanceMethod yX4_rankByDistance, Cond.selects RX4 yX4_rankByDistance yX4_rankByDistance, Cond.code yX4_rankByDistance cX4_rankByDistance 5 none, Cond.methodLink RX4 147 yX0_distanceFrom, Cond.static yX0_distanceFrom, Cond.code yX0_distanceFrom cX0_distanceFrom 5 (some .int), Cond.methodLink RX0 27 yX0_gap, Cond.static yX0_gap, Cond.code yX0_gap cX0_gap 3 (some .int), Cond.methodLink RX4 144 yX4_ranksBefore, Cond.instanceMethod yX4_ranksBefore, Cond.selects RX4 yX4_ranksBefore yX4_ranksBefore, Cond.code yX4_ranksBefore cX4_ranksBefore 5 (some .int), Cond.methodLink RL 144 yX5_nearest, Cond.instanceMethod yX5_nearest, Cond.selects RX5 yX5_nearest yX5_nearest]
def wsL_law0_r25 : List Cond := [Cond.code yX5_nearest cX5_nearest 5 (some .int), Cond.methodLink RX5 143 yX5_nearer, Cond.instanceMethod yX5_nearer, Cond.selects RX5 yX5_nearer yX5_nearer, Cond.code yX5_nearer cX5_nearer 7 (some .int), Cond.methodLink RX5 139 yX5_far, Cond.instanceMethod yX5_far, Cond.selects RX5 yX5_far yX5_far, Cond.code yX5_far cX5_far 7 (some .int), Cond.methodLink RL 145 yL_distance, Cond.static yL_distance, Cond.codeWith yL_distance cL_distance 6 (some .int) [(0, 12, 15, 13), (0, 12, 19, 21)], Cond.methodLink RL 66 yX4_distance, Cond.instanceMethod yX4_distance, Cond.selects RX4 yX4_distance yX4_distance, Cond.code yX4_distance cX4_distance 4 (some .int), Cond.methodLink RL 147 yX5_distance, Cond.instanceMethod yX5_distance, Cond.selects RX5 yX5_distance yX5_distance, Cond.code yX5_distance cX5_distance 4 (some .int), Cond.methodLink RL 148 yX4_pairs, Cond.instanceMethod yX4_pairs, Cond.selects RX4 yX4_pairs yX4_pairs, Cond.code yX4_pairs cX4_pairs 4 (some .int)]
def wsL_law0_r26 : List Cond := [Cond.methodLink RX4 151 yX2_added, Cond.instanceMethod yX2_added, Cond.selects RX2 yX2_added yX2_added, Cond.code yX2_added cX2_added 1 (some .int), Cond.methodLink RX4 154 yX2_haveMet, Cond.instanceMethod yX2_haveMet, Cond.selects RX2 yX2_haveMet yX2_haveMet, Cond.code yX2_haveMet cX2_haveMet 3 (some .boolean), Cond.methodLink RX2 43 yX0_meet, Cond.methodLink RL 151 yX5_pairs, Cond.instanceMethod yX5_pairs, Cond.selects RX5 yX5_pairs yX5_pairs, Cond.code yX5_pairs cX5_pairs 1 (some .int), Cond.methodLink RX5 149 yX5_goesThrough, Cond.instanceMethod yX5_goesThrough, Cond.selects RX5 yX5_goesThrough yX5_goesThrough, Cond.code yX5_goesThrough cX5_goesThrough 5 (some .int), Cond.methodLink RX5 146 yX5_arePair, Cond.instanceMethod yX5_arePair, Cond.selects RX5 yX5_arePair yX5_arePair, Cond.code yX5_arePair cX5_arePair 4 (some .boolean), Cond.methodLink RL 152 yL_pair, Cond.static yL_pair, Cond.codeWith yL_pair cL_pair 4 (some .int) [(0, 9, 12, 21)]]
def wsL_law0_r27 : List Cond := [Cond.methodLink RL 69 yX4_pair, Cond.instanceMethod yX4_pair, Cond.selects RX4 yX4_pair yX4_pair, Cond.code yX4_pair cX4_pair 5 (some .int), Cond.methodLink RL 154 yX5_pair, Cond.instanceMethod yX5_pair, Cond.selects RX5 yX5_pair yX5_pair, Cond.code yX5_pair cX5_pair 3 (some .int)]
def wsL_law0 : List Cond := (wsL_law0_r1 ++ (wsL_law0_r2 ++ (wsL_law0_r3 ++ (wsL_law0_r4 ++ (wsL_law0_r5 ++ (wsL_law0_r6 ++ (wsL_law0_r7 ++ (wsL_law0_r8 ++ (wsL_law0_r9 ++ (wsL_law0_r10 ++ (wsL_law0_r11 ++ (wsL_law0_r12 ++ (wsL_law0_r13 ++ (wsL_law0_r14 ++ (wsL_law0_r15 ++ (wsL_law0_r16 ++ (wsL_law0_r17 ++ (wsL_law0_r18 ++ (wsL_law0_r19 ++ (wsL_law0_r20 ++ (wsL_law0_r21 ++ (wsL_law0_r22 ++ (wsL_law0_r23 ++ (wsL_law0_r24 ++ (wsL_law0_r25 ++ (wsL_law0_r26 ++ wsL_law0_r27)))))))))))))))))))))))))) ++ wsX40 ++ wsX50 ++ wsX20 ++ wsX30 ++ ([] : List Cond)
def wsL_law : List Cond := wsL_law0 ++ (vx_atS RX4 39 "java/lang/IllegalStateException" ["java/lang/RuntimeException", "java/lang/Exception"]).filter goodWord ++ (vx_atS RX4 164 "java/lang/IllegalArgumentException" ["java/lang/RuntimeException", "java/lang/Exception"]).filter goodWord ++ (vx_atS RX4 111 "java/lang/IndexOutOfBoundsException" ["java/lang/RuntimeException", "java/lang/Exception"]).filter goodWord
end
section
theorem wsL_law_k1 : ∀ w ∈ wsL_law0_r1, w ∈ lw_tbl := fun w h => (goodIn_p wsL_law0_r1 [62, 65] (by decide +kernel) (by decide +kernel) w h).1
theorem wsL_law_k2 : ∀ w ∈ wsL_law0_r2, w ∈ lw_tbl := fun w h => (goodIn_p wsL_law0_r2 [70, 97, 599] (by decide +kernel) (by decide +kernel) w h).1
theorem wsL_law_k3 : ∀ w ∈ wsL_law0_r3, w ∈ lw_tbl := fun w h => (goodIn_p wsL_law0_r3 [196, 199, 202, 274] (by decide +kernel) (by decide +kernel) w h).1
theorem wsL_law_k4 : ∀ w ∈ wsL_law0_r4, w ∈ lw_tbl := fun w h => (goodIn_p wsL_law0_r4 [293, 297, 300, 187, 303, 306] (by decide +kernel) (by decide +kernel) w h).1
theorem wsL_law_k5 : ∀ w ∈ wsL_law0_r5, w ∈ lw_tbl := fun w h => (goodIn_p wsL_law0_r5 [310, 314, 318, 322, 326, 330] (by decide +kernel) (by decide +kernel) w h).1
theorem wsL_law_k6 : ∀ w ∈ wsL_law0_r6, w ∈ lw_tbl := fun w h => (goodIn_p wsL_law0_r6 [334, 134, 141, 145, 338, 149] (by decide +kernel) (by decide +kernel) w h).1
theorem wsL_law_k7 : ∀ w ∈ wsL_law0_r7, w ∈ lw_tbl := fun w h => (goodIn_p wsL_law0_r7 [343, 347, 351, 355, 137, 359] (by decide +kernel) (by decide +kernel) w h).1
theorem wsL_law_k8 : ∀ w ∈ wsL_law0_r8, w ∈ lw_tbl := fun w h => (goodIn_p wsL_law0_r8 [363, 367, 371, 375, 657] (by decide +kernel) (by decide +kernel) w h).1
theorem wsL_law_k9 : ∀ w ∈ wsL_law0_r9, w ∈ lw_tbl := fun w h => (goodIn_p wsL_law0_r9 [660, 664, 667, 671, 675, 679] (by decide +kernel) (by decide +kernel) w h).1
theorem wsL_law_k10 : ∀ w ∈ wsL_law0_r10, w ∈ lw_tbl := fun w h => (goodIn_p wsL_law0_r10 [683, 687, 691, 695, 699, 653] (by decide +kernel) (by decide +kernel) w h).1
theorem wsL_law_k11 : ∀ w ∈ wsL_law0_r11, w ∈ lw_tbl := fun w h => (goodIn_p wsL_law0_r11 [383, 387, 177, 408, 412] (by decide +kernel) (by decide +kernel) w h).1
theorem wsL_law_k12 : ∀ w ∈ wsL_law0_r12, w ∈ lw_tbl := fun w h => (goodIn_p wsL_law0_r12 [416, 419, 423, 427, 126, 703] (by decide +kernel) (by decide +kernel) w h).1
theorem wsL_law_k13 : ∀ w ∈ wsL_law0_r13, w ∈ lw_tbl := fun w h => (goodIn_p wsL_law0_r13 [707, 711, 715, 719, 122, 130] (by decide +kernel) (by decide +kernel) w h).1
theorem wsL_law_k14 : ∀ w ∈ wsL_law0_r14, w ∈ lw_tbl := fun w h => (goodIn_p wsL_law0_r14 [723, 153, 727, 731, 435] (by decide +kernel) (by decide +kernel) w h).1
theorem wsL_law_k15 : ∀ w ∈ wsL_law0_r15, w ∈ lw_tbl := fun w h => (goodIn_p wsL_law0_r15 [438, 735, 738, 447, 742] (by decide +kernel) (by decide +kernel) w h).1
theorem wsL_law_k16 : ∀ w ∈ wsL_law0_r16, w ∈ lw_tbl := fun w h => (goodIn_p wsL_law0_r16 [455, 458, 181, 746, 749] (by decide +kernel) (by decide +kernel) w h).1
theorem wsL_law_k17 : ∀ w ∈ wsL_law0_r17, w ∈ lw_tbl := fun w h => (goodIn_p wsL_law0_r17 [157, 161, 753, 468, 757] (by decide +kernel) (by decide +kernel) w h).1
theorem wsL_law_k18 : ∀ w ∈ wsL_law0_r18, w ∈ lw_tbl := fun w h => (goodIn_p wsL_law0_r18 [761, 477, 481, 765, 769] (by decide +kernel) (by decide +kernel) w h).1
theorem wsL_law_k19 : ∀ w ∈ wsL_law0_r19, w ∈ lw_tbl := fun w h => (goodIn_p wsL_law0_r19 [491, 495, 499, 503, 506] (by decide +kernel) (by decide +kernel) w h).1
theorem wsL_law_k20 : ∀ w ∈ wsL_law0_r20, w ∈ lw_tbl := fun w h => (goodIn_p wsL_law0_r20 [773, 777, 516] (by decide +kernel) (by decide +kernel) w h).1
theorem wsL_law_k21 : ∀ w ∈ wsL_law0_r21, w ∈ lw_tbl := fun w h => (goodIn_p wsL_law0_r21 [781, 524, 785, 533, 536] (by decide +kernel) (by decide +kernel) w h).1
theorem wsL_law_k22 : ∀ w ∈ wsL_law0_r22, w ∈ lw_tbl := fun w h => (goodIn_p wsL_law0_r22 [789, 544, 184, 793, 797] (by decide +kernel) (by decide +kernel) w h).1
theorem wsL_law_k23 : ∀ w ∈ wsL_law0_r23, w ∈ lw_tbl := fun w h => (goodIn_p wsL_law0_r23 [801, 552, 805, 559, 809] (by decide +kernel) (by decide +kernel) w h).1
theorem wsL_law_k24 : ∀ w ∈ wsL_law0_r24, w ∈ lw_tbl := fun w h => (goodIn_p wsL_law0_r24 [566, 570, 573, 576, 580] (by decide +kernel) (by decide +kernel) w h).1
theorem wsL_law_k25 : ∀ w ∈ wsL_law0_r25, w ∈ lw_tbl := fun w h => (goodIn_p wsL_law0_r25 [813, 817, 821, 587, 825, 165] (by decide +kernel) (by decide +kernel) w h).1
theorem wsL_law_k26 : ∀ w ∈ wsL_law0_r26, w ∈ lw_tbl := fun w h => (goodIn_p wsL_law0_r26 [169, 173, 829, 833, 837] (by decide +kernel) (by decide +kernel) w h).1
theorem wsL_law_k27 : ∀ w ∈ wsL_law0_r27, w ∈ lw_tbl := fun w h => (goodIn_p wsL_law0_r27 [594, 841] (by decide +kernel) (by decide +kernel) w h).1
theorem wsL_law_twsX40 : ∀ w ∈ wsX40, w ∈ lw_tbl := by decide +kernel
theorem wsL_law_twsX50 : ∀ w ∈ wsX50, w ∈ lw_tbl := by decide +kernel
theorem wsL_law_twsX20 : ∀ w ∈ wsX20, w ∈ lw_tbl := by decide +kernel
theorem wsL_law_twsX30 : ∀ w ∈ wsX30, w ∈ lw_tbl := by decide +kernel
theorem wsL_app {a b : List Cond} (ha : ∀ w ∈ a, w ∈ lw_tbl) (hb : ∀ w ∈ b, w ∈ lw_tbl) : ∀ w ∈ a ++ b, w ∈ lw_tbl := fun w h => (List.mem_append.mp h).elim (ha w) (hb w)
theorem wsL_law_in0 : ∀ w ∈ wsL_law0, w ∈ lw_tbl := (wsL_app (wsL_app (wsL_app (wsL_app (wsL_app (wsL_app wsL_law_k1 (wsL_app wsL_law_k2 (wsL_app wsL_law_k3 (wsL_app wsL_law_k4 (wsL_app wsL_law_k5 (wsL_app wsL_law_k6 (wsL_app wsL_law_k7 (wsL_app wsL_law_k8 (wsL_app wsL_law_k9 (wsL_app wsL_law_k10 (wsL_app wsL_law_k11 (wsL_app wsL_law_k12 (wsL_app wsL_law_k13 (wsL_app wsL_law_k14 (wsL_app wsL_law_k15 (wsL_app wsL_law_k16 (wsL_app wsL_law_k17 (wsL_app wsL_law_k18 (wsL_app wsL_law_k19 (wsL_app wsL_law_k20 (wsL_app wsL_law_k21 (wsL_app wsL_law_k22 (wsL_app wsL_law_k23 (wsL_app wsL_law_k24 (wsL_app wsL_law_k25 (wsL_app wsL_law_k26 wsL_law_k27)))))))))))))))))))))))))) wsL_law_twsX40) wsL_law_twsX50) wsL_law_twsX20) wsL_law_twsX30) (fun w h => absurd h List.not_mem_nil))
theorem wsL_law_x0 : ∀ w ∈ (vx_atS RX4 39 "java/lang/IllegalStateException" ["java/lang/RuntimeException", "java/lang/Exception"]).filter goodWord, w ∈ lw_tbl := by decide +kernel
theorem wsL_law_x1 : ∀ w ∈ (vx_atS RX4 164 "java/lang/IllegalArgumentException" ["java/lang/RuntimeException", "java/lang/Exception"]).filter goodWord, w ∈ lw_tbl := by decide +kernel
theorem wsL_law_x2 : ∀ w ∈ (vx_atS RX4 111 "java/lang/IndexOutOfBoundsException" ["java/lang/RuntimeException", "java/lang/Exception"]).filter goodWord, w ∈ lw_tbl := by decide +kernel
theorem wsL_law_in : ∀ w ∈ wsL_law, w ∈ lw_tbl := fun w h => (List.mem_append.mp h).elim (fun h => (List.mem_append.mp h).elim (fun h => (List.mem_append.mp h).elim (fun h => wsL_law_in0 w h) (fun h => wsL_law_x0 w h)) (fun h => wsL_law_x1 w h)) (fun h => wsL_law_x2 w h)
theorem inX0 : ∀ w ∈ wsX00, w ∈ lw_tbl := by decide +kernel
theorem inX1 : ∀ w ∈ wsX10, w ∈ lw_tbl := by decide +kernel
theorem inlX2 : ∀ w ∈ wsX20, w ∈ wsL_law := fun _ h => List.mem_append_left _ (List.mem_append_left _ (List.mem_append_left _ (List.mem_append_left _ (List.mem_append_left _ (List.mem_append_right _ h)))))
theorem inX2 : ∀ w ∈ wsX20, w ∈ lw_tbl := fun w h => wsL_law_in w (inlX2 w h)
theorem inlX3 : ∀ w ∈ wsX30, w ∈ wsL_law := fun _ h => List.mem_append_left _ (List.mem_append_left _ (List.mem_append_left _ (List.mem_append_left _ (List.mem_append_right _ h))))
theorem inX3 : ∀ w ∈ wsX30, w ∈ lw_tbl := fun w h => wsL_law_in w (inlX3 w h)
theorem inlX4 : ∀ w ∈ wsX40, w ∈ wsL_law := fun _ h => List.mem_append_left _ (List.mem_append_left _ (List.mem_append_left _ (List.mem_append_left _ (List.mem_append_left _ (List.mem_append_left _ (List.mem_append_left _ (List.mem_append_right _ h)))))))
theorem inX4 : ∀ w ∈ wsX40, w ∈ lw_tbl := fun w h => wsL_law_in w (inlX4 w h)
theorem inlX5 : ∀ w ∈ wsX50, w ∈ wsL_law := fun _ h => List.mem_append_left _ (List.mem_append_left _ (List.mem_append_left _ (List.mem_append_left _ (List.mem_append_left _ (List.mem_append_left _ (List.mem_append_right _ h))))))
theorem inX5 : ∀ w ∈ wsX50, w ∈ lw_tbl := fun w h => wsL_law_in w (inlX5 w h)
theorem inJ9 : ∀ w ∈ wsJ90, w ∈ lw_tbl := by decide +kernel
theorem inJ0 : ∀ w ∈ wsJ00, w ∈ lw_tbl := by decide +kernel
theorem dX0_of_0 : decode cX0_of 0 = .ok (.iload_n 0, 1) := by decide +kernel
theorem dX0_of_1 : decode cX0_of 1 = .ok (.iload_n 1, 1) := by decide +kernel
theorem dX0_of_2 : decode cX0_of 2 = .ok (.bipush 8, 2) := by decide +kernel
theorem dX0_of_4 : decode cX0_of 4 = .ok (.ishl, 1) := by decide +kernel
theorem dX0_of_5 : decode cX0_of 5 = .ok (.ior, 1) := by decide +kernel
theorem dX0_of_6 : decode cX0_of 6 = .ok (.iload_n 2, 1) := by decide +kernel
theorem dX0_of_7 : decode cX0_of 7 = .ok (.bipush 16, 2) := by decide +kernel
theorem dX0_of_9 : decode cX0_of 9 = .ok (.ishl, 1) := by decide +kernel
theorem dX0_of_10 : decode cX0_of 10 = .ok (.ior, 1) := by decide +kernel
theorem dX0_of_11 : decode cX0_of 11 = .ok (.iload_n 3, 1) := by decide +kernel
theorem dX0_of_12 : decode cX0_of 12 = .ok (.bipush 24, 2) := by decide +kernel
theorem dX0_of_14 : decode cX0_of 14 = .ok (.ishl, 1) := by decide +kernel
theorem dX0_of_15 : decode cX0_of 15 = .ok (.ior, 1) := by decide +kernel
theorem dX0_of_16 : decode cX0_of 16 = .ok (.ireturn, 1) := by decide +kernel
theorem dX0_side_0 : decode cX0_side 0 = .ok (.iload_n 0, 1) := by decide +kernel
theorem dX0_side_1 : decode cX0_side 1 = .ok (.bipush 8, 2) := by decide +kernel
theorem dX0_side_3 : decode cX0_side 3 = .ok (.iload_n 1, 1) := by decide +kernel
theorem dX0_side_4 : decode cX0_side 4 = .ok (.imul, 1) := by decide +kernel
theorem dX0_side_5 : decode cX0_side 5 = .ok (.iushr, 1) := by decide +kernel
theorem dX0_side_6 : decode cX0_side 6 = .ok (.sipush 255, 3) := by decide +kernel
theorem dX0_side_9 : decode cX0_side 9 = .ok (.iand, 1) := by decide +kernel
theorem dX0_side_10 : decode cX0_side 10 = .ok (.ireturn, 1) := by decide +kernel
set_option maxRecDepth 20000 in
theorem ggX0_meet_X0_side : GoodIn wsX0_meet wsX0_side := goodIn_r _ [4] (by decide +kernel) (by decide +kernel)
set_option maxRecDepth 20000 in
theorem gX0_meet_X0_side : GoodIn wsX0_meet (va_wsS RX0 9 yX0_side wsX0_side) := goodIn_app (goodIn_of _ (by decide +kernel)) ggX0_meet_X0_side
theorem dX0_meet_0 : decode cX0_meet 0 = .ok (.iload_n 0, 1) := by decide +kernel
theorem dX0_meet_1 : decode cX0_meet 1 = .ok (.iconst 0, 1) := by decide +kernel
theorem dX0_meet_2 : decode cX0_meet 2 = .ok (.invokestatic 9, 3) := by decide +kernel
theorem dX0_meet_5 : decode cX0_meet 5 = .ok (.iload_n 1, 1) := by decide +kernel
theorem dX0_meet_6 : decode cX0_meet 6 = .ok (.iconst 2, 1) := by decide +kernel
theorem dX0_meet_7 : decode cX0_meet 7 = .ok (.invokestatic 9, 3) := by decide +kernel
theorem dX0_meet_10 : decode cX0_meet 10 = .ok (.if_icmp .gt 46, 3) := by decide +kernel
theorem dX0_meet_13 : decode cX0_meet 13 = .ok (.iload_n 1, 1) := by decide +kernel
theorem dX0_meet_14 : decode cX0_meet 14 = .ok (.iconst 0, 1) := by decide +kernel
theorem dX0_meet_15 : decode cX0_meet 15 = .ok (.invokestatic 9, 3) := by decide +kernel
theorem dX0_meet_18 : decode cX0_meet 18 = .ok (.iload_n 0, 1) := by decide +kernel
theorem dX0_meet_19 : decode cX0_meet 19 = .ok (.iconst 2, 1) := by decide +kernel
theorem dX0_meet_20 : decode cX0_meet 20 = .ok (.invokestatic 9, 3) := by decide +kernel
theorem dX0_meet_23 : decode cX0_meet 23 = .ok (.if_icmp .gt 33, 3) := by decide +kernel
theorem dX0_meet_26 : decode cX0_meet 26 = .ok (.iload_n 0, 1) := by decide +kernel
theorem dX0_meet_27 : decode cX0_meet 27 = .ok (.iconst 1, 1) := by decide +kernel
theorem dX0_meet_28 : decode cX0_meet 28 = .ok (.invokestatic 9, 3) := by decide +kernel
theorem dX0_meet_31 : decode cX0_meet 31 = .ok (.iload_n 1, 1) := by decide +kernel
theorem dX0_meet_32 : decode cX0_meet 32 = .ok (.iconst 3, 1) := by decide +kernel
theorem dX0_meet_33 : decode cX0_meet 33 = .ok (.invokestatic 9, 3) := by decide +kernel
theorem dX0_meet_36 : decode cX0_meet 36 = .ok (.if_icmp .gt 20, 3) := by decide +kernel
theorem dX0_meet_39 : decode cX0_meet 39 = .ok (.iload_n 1, 1) := by decide +kernel
theorem dX0_meet_40 : decode cX0_meet 40 = .ok (.iconst 1, 1) := by decide +kernel
theorem dX0_meet_41 : decode cX0_meet 41 = .ok (.invokestatic 9, 3) := by decide +kernel
theorem dX0_meet_44 : decode cX0_meet 44 = .ok (.iload_n 0, 1) := by decide +kernel
theorem dX0_meet_45 : decode cX0_meet 45 = .ok (.iconst 3, 1) := by decide +kernel
theorem dX0_meet_46 : decode cX0_meet 46 = .ok (.invokestatic 9, 3) := by decide +kernel
theorem dX0_meet_49 : decode cX0_meet 49 = .ok (.if_icmp .gt 7, 3) := by decide +kernel
theorem dX0_meet_52 : decode cX0_meet 52 = .ok (.iconst 1, 1) := by decide +kernel
theorem dX0_meet_53 : decode cX0_meet 53 = .ok (.goto 4, 3) := by decide +kernel
theorem dX0_meet_56 : decode cX0_meet 56 = .ok (.iconst 0, 1) := by decide +kernel
theorem dX0_meet_57 : decode cX0_meet 57 = .ok (.ireturn, 1) := by decide +kernel
set_option maxRecDepth 20000 in
theorem ggX0_around_X0_side : GoodIn wsX0_around wsX0_side := goodIn_r _ [11] (by decide +kernel) (by decide +kernel)
set_option maxRecDepth 20000 in
theorem gX0_around_X0_side : GoodIn wsX0_around (va_wsS RX0 9 yX0_side wsX0_side) := goodIn_app (goodIn_of _ (by decide +kernel)) ggX0_around_X0_side
set_option maxRecDepth 20000 in
theorem ggX0_around_X0_of : GoodIn wsX0_around wsX0_of := goodIn_r _ [14] (by decide +kernel) (by decide +kernel)
set_option maxRecDepth 20000 in
theorem gX0_around_X0_of : GoodIn wsX0_around (va_wsS RX0 23 yX0_of wsX0_of) := goodIn_app (goodIn_of _ (by decide +kernel)) ggX0_around_X0_of
theorem dX0_around_0 : decode cX0_around 0 = .ok (.iload_n 0, 1) := by decide +kernel
theorem dX0_around_1 : decode cX0_around 1 = .ok (.iconst 0, 1) := by decide +kernel
theorem dX0_around_2 : decode cX0_around 2 = .ok (.invokestatic 9, 3) := by decide +kernel
theorem dX0_around_5 : decode cX0_around 5 = .ok (.iload_n 1, 1) := by decide +kernel
theorem dX0_around_6 : decode cX0_around 6 = .ok (.iconst 0, 1) := by decide +kernel
theorem dX0_around_7 : decode cX0_around 7 = .ok (.invokestatic 9, 3) := by decide +kernel
theorem dX0_around_10 : decode cX0_around 10 = .ok (.invokestatic 15, 3) := by decide +kernel
theorem dX0_around_13 : decode cX0_around 13 = .ok (.iload_n 0, 1) := by decide +kernel
theorem dX0_around_14 : decode cX0_around 14 = .ok (.iconst 1, 1) := by decide +kernel
theorem dX0_around_15 : decode cX0_around 15 = .ok (.invokestatic 9, 3) := by decide +kernel
theorem dX0_around_18 : decode cX0_around 18 = .ok (.iload_n 1, 1) := by decide +kernel
theorem dX0_around_19 : decode cX0_around 19 = .ok (.iconst 1, 1) := by decide +kernel
theorem dX0_around_20 : decode cX0_around 20 = .ok (.invokestatic 9, 3) := by decide +kernel
theorem dX0_around_23 : decode cX0_around 23 = .ok (.invokestatic 15, 3) := by decide +kernel
theorem dX0_around_26 : decode cX0_around 26 = .ok (.iload_n 0, 1) := by decide +kernel
theorem dX0_around_27 : decode cX0_around 27 = .ok (.iconst 2, 1) := by decide +kernel
theorem dX0_around_28 : decode cX0_around 28 = .ok (.invokestatic 9, 3) := by decide +kernel
theorem dX0_around_31 : decode cX0_around 31 = .ok (.iload_n 1, 1) := by decide +kernel
theorem dX0_around_32 : decode cX0_around 32 = .ok (.iconst 2, 1) := by decide +kernel
theorem dX0_around_33 : decode cX0_around 33 = .ok (.invokestatic 9, 3) := by decide +kernel
theorem dX0_around_36 : decode cX0_around 36 = .ok (.invokestatic 20, 3) := by decide +kernel
theorem dX0_around_39 : decode cX0_around 39 = .ok (.iload_n 0, 1) := by decide +kernel
theorem dX0_around_40 : decode cX0_around 40 = .ok (.iconst 3, 1) := by decide +kernel
theorem dX0_around_41 : decode cX0_around 41 = .ok (.invokestatic 9, 3) := by decide +kernel
theorem dX0_around_44 : decode cX0_around 44 = .ok (.iload_n 1, 1) := by decide +kernel
theorem dX0_around_45 : decode cX0_around 45 = .ok (.iconst 3, 1) := by decide +kernel
theorem dX0_around_46 : decode cX0_around 46 = .ok (.invokestatic 9, 3) := by decide +kernel
theorem dX0_around_49 : decode cX0_around 49 = .ok (.invokestatic 20, 3) := by decide +kernel
theorem dX0_around_52 : decode cX0_around 52 = .ok (.invokestatic 23, 3) := by decide +kernel
theorem dX0_around_55 : decode cX0_around 55 = .ok (.ireturn, 1) := by decide +kernel
set_option maxRecDepth 20000 in
theorem ggX0_points_X0_side : GoodIn wsX0_points wsX0_side := goodIn_r _ [4] (by decide +kernel) (by decide +kernel)
set_option maxRecDepth 20000 in
theorem gX0_points_X0_side : GoodIn wsX0_points (va_wsS RX0 9 yX0_side wsX0_side) := goodIn_app (goodIn_of _ (by decide +kernel)) ggX0_points_X0_side
theorem dX0_points_0 : decode cX0_points 0 = .ok (.iload_n 0, 1) := by decide +kernel
theorem dX0_points_1 : decode cX0_points 1 = .ok (.iconst 2, 1) := by decide +kernel
theorem dX0_points_2 : decode cX0_points 2 = .ok (.invokestatic 9, 3) := by decide +kernel
theorem dX0_points_5 : decode cX0_points 5 = .ok (.iload_n 0, 1) := by decide +kernel
theorem dX0_points_6 : decode cX0_points 6 = .ok (.iconst 0, 1) := by decide +kernel
theorem dX0_points_7 : decode cX0_points 7 = .ok (.invokestatic 9, 3) := by decide +kernel
theorem dX0_points_10 : decode cX0_points 10 = .ok (.isub, 1) := by decide +kernel
theorem dX0_points_11 : decode cX0_points 11 = .ok (.iconst 1, 1) := by decide +kernel
theorem dX0_points_12 : decode cX0_points 12 = .ok (.iadd, 1) := by decide +kernel
theorem dX0_points_13 : decode cX0_points 13 = .ok (.iload_n 0, 1) := by decide +kernel
theorem dX0_points_14 : decode cX0_points 14 = .ok (.iconst 3, 1) := by decide +kernel
theorem dX0_points_15 : decode cX0_points 15 = .ok (.invokestatic 9, 3) := by decide +kernel
theorem dX0_points_18 : decode cX0_points 18 = .ok (.iload_n 0, 1) := by decide +kernel
theorem dX0_points_19 : decode cX0_points 19 = .ok (.iconst 1, 1) := by decide +kernel
theorem dX0_points_20 : decode cX0_points 20 = .ok (.invokestatic 9, 3) := by decide +kernel
theorem dX0_points_23 : decode cX0_points 23 = .ok (.isub, 1) := by decide +kernel
theorem dX0_points_24 : decode cX0_points 24 = .ok (.iconst 1, 1) := by decide +kernel
theorem dX0_points_25 : decode cX0_points 25 = .ok (.iadd, 1) := by decide +kernel
theorem dX0_points_26 : decode cX0_points 26 = .ok (.imul, 1) := by decide +kernel
theorem dX0_points_27 : decode cX0_points 27 = .ok (.ireturn, 1) := by decide +kernel
set_option maxRecDepth 20000 in
theorem ggX0_distanceFrom_X0_side : GoodIn wsX0_distanceFrom wsX0_side := goodIn_r _ [4] (by decide +kernel) (by decide +kernel)
set_option maxRecDepth 20000 in
theorem gX0_distanceFrom_X0_side : GoodIn wsX0_distanceFrom (va_wsS RX0 9 yX0_side wsX0_side) := goodIn_app (goodIn_of _ (by decide +kernel)) ggX0_distanceFrom_X0_side
set_option maxRecDepth 20000 in
theorem ggX0_distanceFrom_X0_gap : GoodIn wsX0_distanceFrom wsX0_gap := goodIn_r _ [7, 8, 9, 10, 11] (by decide +kernel) (by decide +kernel)
set_option maxRecDepth 20000 in
theorem gX0_distanceFrom_X0_gap : GoodIn wsX0_distanceFrom (va_wsS RX0 27 yX0_gap wsX0_gap) := goodIn_app (goodIn_of _ (by decide +kernel)) ggX0_distanceFrom_X0_gap
theorem dX0_distanceFrom_0 : decode cX0_distanceFrom 0 = .ok (.iload_n 0, 1) := by decide +kernel
theorem dX0_distanceFrom_1 : decode cX0_distanceFrom 1 = .ok (.iconst 0, 1) := by decide +kernel
theorem dX0_distanceFrom_2 : decode cX0_distanceFrom 2 = .ok (.invokestatic 9, 3) := by decide +kernel
theorem dX0_distanceFrom_5 : decode cX0_distanceFrom 5 = .ok (.iload_n 0, 1) := by decide +kernel
theorem dX0_distanceFrom_6 : decode cX0_distanceFrom 6 = .ok (.iconst 2, 1) := by decide +kernel
theorem dX0_distanceFrom_7 : decode cX0_distanceFrom 7 = .ok (.invokestatic 9, 3) := by decide +kernel
theorem dX0_distanceFrom_10 : decode cX0_distanceFrom 10 = .ok (.iload_n 1, 1) := by decide +kernel
theorem dX0_distanceFrom_11 : decode cX0_distanceFrom 11 = .ok (.invokestatic 27, 3) := by decide +kernel
theorem dX0_distanceFrom_14 : decode cX0_distanceFrom 14 = .ok (.istore_n 3, 1) := by decide +kernel
theorem dX0_distanceFrom_15 : decode cX0_distanceFrom 15 = .ok (.iload_n 0, 1) := by decide +kernel
theorem dX0_distanceFrom_16 : decode cX0_distanceFrom 16 = .ok (.iconst 1, 1) := by decide +kernel
theorem dX0_distanceFrom_17 : decode cX0_distanceFrom 17 = .ok (.invokestatic 9, 3) := by decide +kernel
theorem dX0_distanceFrom_20 : decode cX0_distanceFrom 20 = .ok (.iload_n 0, 1) := by decide +kernel
theorem dX0_distanceFrom_21 : decode cX0_distanceFrom 21 = .ok (.iconst 3, 1) := by decide +kernel
theorem dX0_distanceFrom_22 : decode cX0_distanceFrom 22 = .ok (.invokestatic 9, 3) := by decide +kernel
theorem dX0_distanceFrom_25 : decode cX0_distanceFrom 25 = .ok (.iload_n 2, 1) := by decide +kernel
theorem dX0_distanceFrom_26 : decode cX0_distanceFrom 26 = .ok (.invokestatic 27, 3) := by decide +kernel
theorem dX0_distanceFrom_29 : decode cX0_distanceFrom 29 = .ok (.istore 4, 2) := by decide +kernel
theorem dX0_distanceFrom_31 : decode cX0_distanceFrom 31 = .ok (.iload_n 3, 1) := by decide +kernel
theorem dX0_distanceFrom_32 : decode cX0_distanceFrom 32 = .ok (.iload_n 3, 1) := by decide +kernel
theorem dX0_distanceFrom_33 : decode cX0_distanceFrom 33 = .ok (.imul, 1) := by decide +kernel
theorem dX0_distanceFrom_34 : decode cX0_distanceFrom 34 = .ok (.iload 4, 2) := by decide +kernel
theorem dX0_distanceFrom_36 : decode cX0_distanceFrom 36 = .ok (.iload 4, 2) := by decide +kernel
theorem dX0_distanceFrom_38 : decode cX0_distanceFrom 38 = .ok (.imul, 1) := by decide +kernel
theorem dX0_distanceFrom_39 : decode cX0_distanceFrom 39 = .ok (.iadd, 1) := by decide +kernel
theorem dX0_distanceFrom_40 : decode cX0_distanceFrom 40 = .ok (.ireturn, 1) := by decide +kernel
theorem dX0_gap_0 : decode cX0_gap 0 = .ok (.iconst 0, 1) := by decide +kernel
theorem dX0_gap_1 : decode cX0_gap 1 = .ok (.iload_n 0, 1) := by decide +kernel
theorem dX0_gap_2 : decode cX0_gap 2 = .ok (.iload_n 2, 1) := by decide +kernel
theorem dX0_gap_3 : decode cX0_gap 3 = .ok (.isub, 1) := by decide +kernel
theorem dX0_gap_4 : decode cX0_gap 4 = .ok (.iload_n 2, 1) := by decide +kernel
theorem dX0_gap_5 : decode cX0_gap 5 = .ok (.iload_n 1, 1) := by decide +kernel
theorem dX0_gap_6 : decode cX0_gap 6 = .ok (.isub, 1) := by decide +kernel
theorem dX0_gap_7 : decode cX0_gap 7 = .ok (.invokestatic 20, 3) := by decide +kernel
theorem dX0_gap_10 : decode cX0_gap 10 = .ok (.invokestatic 20, 3) := by decide +kernel
theorem dX0_gap_13 : decode cX0_gap 13 = .ok (.ireturn, 1) := by decide +kernel
set_option maxRecDepth 20000 in
theorem ggX0_middleKey_X0_side : GoodIn wsX0_middleKey wsX0_side := goodIn_r _ [4] (by decide +kernel) (by decide +kernel)
set_option maxRecDepth 20000 in
theorem gX0_middleKey_X0_side : GoodIn wsX0_middleKey (va_wsS RX0 9 yX0_side wsX0_side) := goodIn_app (goodIn_of _ (by decide +kernel)) ggX0_middleKey_X0_side
set_option maxRecDepth 20000 in
theorem ggX0_middleKey_X1_lengthTo : GoodIn wsX0_middleKey wsX1_lengthTo := goodIn_r _ [8, 9, 10, 7, 11] (by decide +kernel) (by decide +kernel)
set_option maxRecDepth 20000 in
theorem gX0_middleKey_X1_lengthTo : GoodIn wsX0_middleKey (va_wsS RX0 31 yX1_lengthTo wsX1_lengthTo) := goodIn_app (goodIn_of _ (by decide +kernel)) ggX0_middleKey_X1_lengthTo
theorem dX0_middleKey_0 : decode cX0_middleKey 0 = .ok (.iload_n 0, 1) := by decide +kernel
theorem dX0_middleKey_1 : decode cX0_middleKey 1 = .ok (.iconst 0, 1) := by decide +kernel
theorem dX0_middleKey_2 : decode cX0_middleKey 2 = .ok (.invokestatic 9, 3) := by decide +kernel
theorem dX0_middleKey_5 : decode cX0_middleKey 5 = .ok (.iload_n 0, 1) := by decide +kernel
theorem dX0_middleKey_6 : decode cX0_middleKey 6 = .ok (.iconst 2, 1) := by decide +kernel
theorem dX0_middleKey_7 : decode cX0_middleKey 7 = .ok (.invokestatic 9, 3) := by decide +kernel
theorem dX0_middleKey_10 : decode cX0_middleKey 10 = .ok (.iadd, 1) := by decide +kernel
theorem dX0_middleKey_11 : decode cX0_middleKey 11 = .ok (.iconst 2, 1) := by decide +kernel
theorem dX0_middleKey_12 : decode cX0_middleKey 12 = .ok (.idiv, 1) := by decide +kernel
theorem dX0_middleKey_13 : decode cX0_middleKey 13 = .ok (.istore_n 1, 1) := by decide +kernel
theorem dX0_middleKey_14 : decode cX0_middleKey 14 = .ok (.iload_n 0, 1) := by decide +kernel
theorem dX0_middleKey_15 : decode cX0_middleKey 15 = .ok (.iconst 1, 1) := by decide +kernel
theorem dX0_middleKey_16 : decode cX0_middleKey 16 = .ok (.invokestatic 9, 3) := by decide +kernel
theorem dX0_middleKey_19 : decode cX0_middleKey 19 = .ok (.iload_n 0, 1) := by decide +kernel
theorem dX0_middleKey_20 : decode cX0_middleKey 20 = .ok (.iconst 3, 1) := by decide +kernel
theorem dX0_middleKey_21 : decode cX0_middleKey 21 = .ok (.invokestatic 9, 3) := by decide +kernel
theorem dX0_middleKey_24 : decode cX0_middleKey 24 = .ok (.iadd, 1) := by decide +kernel
theorem dX0_middleKey_25 : decode cX0_middleKey 25 = .ok (.iconst 2, 1) := by decide +kernel
theorem dX0_middleKey_26 : decode cX0_middleKey 26 = .ok (.idiv, 1) := by decide +kernel
theorem dX0_middleKey_27 : decode cX0_middleKey 27 = .ok (.istore_n 2, 1) := by decide +kernel
theorem dX0_middleKey_28 : decode cX0_middleKey 28 = .ok (.iload_n 1, 1) := by decide +kernel
theorem dX0_middleKey_29 : decode cX0_middleKey 29 = .ok (.iload_n 2, 1) := by decide +kernel
theorem dX0_middleKey_30 : decode cX0_middleKey 30 = .ok (.invokestatic 31, 3) := by decide +kernel
theorem dX0_middleKey_33 : decode cX0_middleKey 33 = .ok (.ireturn, 1) := by decide +kernel
set_option maxRecDepth 20000 in
theorem ggX1_lengthTo_X1_quarter : GoodIn wsX1_lengthTo wsX1_quarter := goodIn_r _ [4] (by decide +kernel) (by decide +kernel)
set_option maxRecDepth 20000 in
theorem gX1_lengthTo_X1_quarter : GoodIn wsX1_lengthTo (va_wsS RX1 9 yX1_quarter wsX1_quarter) := goodIn_app (goodIn_of _ (by decide +kernel)) ggX1_lengthTo_X1_quarter
theorem dX1_lengthTo_0 : decode cX1_lengthTo 0 = .ok (.iload_n 0, 1) := by decide +kernel
theorem dX1_lengthTo_1 : decode cX1_lengthTo 1 = .ok (.istore_n 2, 1) := by decide +kernel
theorem dX1_lengthTo_2 : decode cX1_lengthTo 2 = .ok (.iload_n 1, 1) := by decide +kernel
theorem dX1_lengthTo_3 : decode cX1_lengthTo 3 = .ok (.istore_n 3, 1) := by decide +kernel
theorem dX1_lengthTo_4 : decode cX1_lengthTo 4 = .ok (.iconst 0, 1) := by decide +kernel
theorem dX1_lengthTo_5 : decode cX1_lengthTo 5 = .ok (.istore 4, 2) := by decide +kernel
theorem dX1_lengthTo_7 : decode cX1_lengthTo 7 = .ok (.sipush 128, 3) := by decide +kernel
theorem dX1_lengthTo_10 : decode cX1_lengthTo 10 = .ok (.istore 5, 2) := by decide +kernel
theorem dX1_lengthTo_12 : decode cX1_lengthTo 12 = .ok (.iload 5, 2) := by decide +kernel
theorem dX1_lengthTo_14 : decode cX1_lengthTo 14 = .ok (.ifCond .le 98, 3) := by decide +kernel
theorem dX1_lengthTo_17 : decode cX1_lengthTo 17 = .ok (.iload_n 2, 1) := by decide +kernel
theorem dX1_lengthTo_18 : decode cX1_lengthTo 18 = .ok (.iload 5, 2) := by decide +kernel
theorem dX1_lengthTo_20 : decode cX1_lengthTo 20 = .ok (.iand, 1) := by decide +kernel
theorem dX1_lengthTo_21 : decode cX1_lengthTo 21 = .ok (.ifCond .eq 7, 3) := by decide +kernel
theorem dX1_lengthTo_24 : decode cX1_lengthTo 24 = .ok (.iconst 1, 1) := by decide +kernel
theorem dX1_lengthTo_25 : decode cX1_lengthTo 25 = .ok (.goto 4, 3) := by decide +kernel
theorem dX1_lengthTo_28 : decode cX1_lengthTo 28 = .ok (.iconst 0, 1) := by decide +kernel
theorem dX1_lengthTo_29 : decode cX1_lengthTo 29 = .ok (.istore 6, 2) := by decide +kernel
theorem dX1_lengthTo_31 : decode cX1_lengthTo 31 = .ok (.iload_n 3, 1) := by decide +kernel
theorem dX1_lengthTo_32 : decode cX1_lengthTo 32 = .ok (.iload 5, 2) := by decide +kernel
theorem dX1_lengthTo_34 : decode cX1_lengthTo 34 = .ok (.iand, 1) := by decide +kernel
theorem dX1_lengthTo_35 : decode cX1_lengthTo 35 = .ok (.ifCond .eq 7, 3) := by decide +kernel
theorem dX1_lengthTo_38 : decode cX1_lengthTo 38 = .ok (.iconst 1, 1) := by decide +kernel
theorem dX1_lengthTo_39 : decode cX1_lengthTo 39 = .ok (.goto 4, 3) := by decide +kernel
theorem dX1_lengthTo_42 : decode cX1_lengthTo 42 = .ok (.iconst 0, 1) := by decide +kernel
theorem dX1_lengthTo_43 : decode cX1_lengthTo 43 = .ok (.istore 7, 2) := by decide +kernel
theorem dX1_lengthTo_45 : decode cX1_lengthTo 45 = .ok (.iload 4, 2) := by decide +kernel
theorem dX1_lengthTo_47 : decode cX1_lengthTo 47 = .ok (.iload 5, 2) := by decide +kernel
theorem dX1_lengthTo_49 : decode cX1_lengthTo 49 = .ok (.iload 5, 2) := by decide +kernel
theorem dX1_lengthTo_51 : decode cX1_lengthTo 51 = .ok (.imul, 1) := by decide +kernel
theorem dX1_lengthTo_52 : decode cX1_lengthTo 52 = .ok (.iload 6, 2) := by decide +kernel
theorem dX1_lengthTo_54 : decode cX1_lengthTo 54 = .ok (.iload 7, 2) := by decide +kernel
theorem dX1_lengthTo_56 : decode cX1_lengthTo 56 = .ok (.invokestatic 9, 3) := by decide +kernel
theorem dX1_lengthTo_59 : decode cX1_lengthTo 59 = .ok (.imul, 1) := by decide +kernel
theorem dX1_lengthTo_60 : decode cX1_lengthTo 60 = .ok (.iadd, 1) := by decide +kernel
theorem dX1_lengthTo_61 : decode cX1_lengthTo 61 = .ok (.istore 4, 2) := by decide +kernel
theorem dX1_lengthTo_63 : decode cX1_lengthTo 63 = .ok (.iload 7, 2) := by decide +kernel
theorem dX1_lengthTo_65 : decode cX1_lengthTo 65 = .ok (.ifCond .ne 38, 3) := by decide +kernel
theorem dX1_lengthTo_68 : decode cX1_lengthTo 68 = .ok (.iload_n 2, 1) := by decide +kernel
theorem dX1_lengthTo_69 : decode cX1_lengthTo 69 = .ok (.istore 8, 2) := by decide +kernel
theorem dX1_lengthTo_71 : decode cX1_lengthTo 71 = .ok (.iload 6, 2) := by decide +kernel
theorem dX1_lengthTo_73 : decode cX1_lengthTo 73 = .ok (.ifCond .eq 11, 3) := by decide +kernel
theorem dX1_lengthTo_76 : decode cX1_lengthTo 76 = .ok (.sipush 255, 3) := by decide +kernel
theorem dX1_lengthTo_79 : decode cX1_lengthTo 79 = .ok (.iload_n 3, 1) := by decide +kernel
theorem dX1_lengthTo_80 : decode cX1_lengthTo 80 = .ok (.isub, 1) := by decide +kernel
theorem dX1_lengthTo_81 : decode cX1_lengthTo 81 = .ok (.goto 4, 3) := by decide +kernel
theorem dX1_lengthTo_84 : decode cX1_lengthTo 84 = .ok (.iload_n 3, 1) := by decide +kernel
theorem dX1_lengthTo_85 : decode cX1_lengthTo 85 = .ok (.istore_n 2, 1) := by decide +kernel
theorem dX1_lengthTo_86 : decode cX1_lengthTo 86 = .ok (.iload 6, 2) := by decide +kernel
theorem dX1_lengthTo_88 : decode cX1_lengthTo 88 = .ok (.ifCond .eq 12, 3) := by decide +kernel
theorem dX1_lengthTo_91 : decode cX1_lengthTo 91 = .ok (.sipush 255, 3) := by decide +kernel
theorem dX1_lengthTo_94 : decode cX1_lengthTo 94 = .ok (.iload 8, 2) := by decide +kernel
theorem dX1_lengthTo_96 : decode cX1_lengthTo 96 = .ok (.isub, 1) := by decide +kernel
theorem dX1_lengthTo_97 : decode cX1_lengthTo 97 = .ok (.goto 5, 3) := by decide +kernel
theorem dX1_lengthTo_100 : decode cX1_lengthTo 100 = .ok (.iload 8, 2) := by decide +kernel
theorem dX1_lengthTo_102 : decode cX1_lengthTo 102 = .ok (.istore_n 3, 1) := by decide +kernel
theorem dX1_lengthTo_103 : decode cX1_lengthTo 103 = .ok (.iload 5, 2) := by decide +kernel
theorem dX1_lengthTo_105 : decode cX1_lengthTo 105 = .ok (.iconst 2, 1) := by decide +kernel
theorem dX1_lengthTo_106 : decode cX1_lengthTo 106 = .ok (.idiv, 1) := by decide +kernel
theorem dX1_lengthTo_107 : decode cX1_lengthTo 107 = .ok (.istore 5, 2) := by decide +kernel
theorem dX1_lengthTo_109 : decode cX1_lengthTo 109 = .ok (.goto (-97), 3) := by decide +kernel
theorem dX1_lengthTo_112 : decode cX1_lengthTo 112 = .ok (.iload 4, 2) := by decide +kernel
theorem dX1_lengthTo_114 : decode cX1_lengthTo 114 = .ok (.ireturn, 1) := by decide +kernel
theorem dX1_quarter_0 : decode cX1_quarter 0 = .ok (.iload_n 0, 1) := by decide +kernel
theorem dX1_quarter_1 : decode cX1_quarter 1 = .ok (.ifCond .eq 13, 3) := by decide +kernel
theorem dX1_quarter_4 : decode cX1_quarter 4 = .ok (.iload_n 1, 1) := by decide +kernel
theorem dX1_quarter_5 : decode cX1_quarter 5 = .ok (.ifCond .eq 7, 3) := by decide +kernel
theorem dX1_quarter_8 : decode cX1_quarter 8 = .ok (.iconst 2, 1) := by decide +kernel
theorem dX1_quarter_9 : decode cX1_quarter 9 = .ok (.goto 4, 3) := by decide +kernel
theorem dX1_quarter_12 : decode cX1_quarter 12 = .ok (.iconst 3, 1) := by decide +kernel
theorem dX1_quarter_13 : decode cX1_quarter 13 = .ok (.ireturn, 1) := by decide +kernel
theorem dX1_quarter_14 : decode cX1_quarter 14 = .ok (.iload_n 1, 1) := by decide +kernel
theorem dX1_quarter_15 : decode cX1_quarter 15 = .ok (.ifCond .eq 7, 3) := by decide +kernel
theorem dX1_quarter_18 : decode cX1_quarter 18 = .ok (.iconst 1, 1) := by decide +kernel
theorem dX1_quarter_19 : decode cX1_quarter 19 = .ok (.goto 4, 3) := by decide +kernel
theorem dX1_quarter_22 : decode cX1_quarter 22 = .ok (.iconst 0, 1) := by decide +kernel
theorem dX1_quarter_23 : decode cX1_quarter 23 = .ok (.ireturn, 1) := by decide +kernel
theorem dX2_init_0 : decode cX2_init 0 = .ok (.aload_n 0, 1) := by decide +kernel
theorem dX2_init_1 : decode cX2_init 1 = .ok (.invokespecial 3, 3) := by decide +kernel
theorem dX2_init_4 : decode cX2_init 4 = .ok (.aload_n 0, 1) := by decide +kernel
theorem dX2_init_5 : decode cX2_init 5 = .ok (.bipush 100, 2) := by decide +kernel
theorem dX2_init_7 : decode cX2_init 7 = .ok (.newarray .int, 2) := by decide +kernel
theorem dX2_init_9 : decode cX2_init 9 = .ok (.putfield 9, 3) := by decide +kernel
theorem dX2_init_12 : decode cX2_init 12 = .ok (.aload_n 0, 1) := by decide +kernel
theorem dX2_init_13 : decode cX2_init 13 = .ok (.bipush 100, 2) := by decide +kernel
theorem dX2_init_15 : decode cX2_init 15 = .ok (.newarray .int, 2) := by decide +kernel
theorem dX2_init_17 : decode cX2_init 17 = .ok (.putfield 15, 3) := by decide +kernel
theorem dX2_init_20 : decode cX2_init 20 = .ok (.aload_n 0, 1) := by decide +kernel
theorem dX2_init_21 : decode cX2_init 21 = .ok (.bipush 100, 2) := by decide +kernel
theorem dX2_init_23 : decode cX2_init 23 = .ok (.newarray .boolean, 2) := by decide +kernel
theorem dX2_init_25 : decode cX2_init 25 = .ok (.putfield 18, 3) := by decide +kernel
theorem dX2_init_28 : decode cX2_init 28 = .ok (.aload_n 0, 1) := by decide +kernel
theorem dX2_init_29 : decode cX2_init 29 = .ok (.bipush 60, 2) := by decide +kernel
theorem dX2_init_31 : decode cX2_init 31 = .ok (.newarray .int, 2) := by decide +kernel
theorem dX2_init_33 : decode cX2_init 33 = .ok (.putfield 22, 3) := by decide +kernel
theorem dX2_init_36 : decode cX2_init 36 = .ok (.return_, 1) := by decide +kernel
theorem dX2_size_0 : decode cX2_size 0 = .ok (.aload_n 0, 1) := by decide +kernel
theorem dX2_size_1 : decode cX2_size 1 = .ok (.getfield 25, 3) := by decide +kernel
theorem dX2_size_4 : decode cX2_size 4 = .ok (.ireturn, 1) := by decide +kernel
theorem dX2_added_0 : decode cX2_added 0 = .ok (.aload_n 0, 1) := by decide +kernel
theorem dX2_added_1 : decode cX2_added 1 = .ok (.getfield 29, 3) := by decide +kernel
theorem dX2_added_4 : decode cX2_added 4 = .ok (.ireturn, 1) := by decide +kernel
theorem dX2_hasRoom_0 : decode cX2_hasRoom 0 = .ok (.aload_n 0, 1) := by decide +kernel
theorem dX2_hasRoom_1 : decode cX2_hasRoom 1 = .ok (.getfield 29, 3) := by decide +kernel
theorem dX2_hasRoom_4 : decode cX2_hasRoom 4 = .ok (.bipush 100, 2) := by decide +kernel
theorem dX2_hasRoom_6 : decode cX2_hasRoom 6 = .ok (.if_icmp .ge 16, 3) := by decide +kernel
theorem dX2_hasRoom_9 : decode cX2_hasRoom 9 = .ok (.aload_n 0, 1) := by decide +kernel
theorem dX2_hasRoom_10 : decode cX2_hasRoom 10 = .ok (.getfield 25, 3) := by decide +kernel
theorem dX2_hasRoom_13 : decode cX2_hasRoom 13 = .ok (.bipush 60, 2) := by decide +kernel
theorem dX2_hasRoom_15 : decode cX2_hasRoom 15 = .ok (.if_icmp .ge 7, 3) := by decide +kernel
theorem dX2_hasRoom_18 : decode cX2_hasRoom 18 = .ok (.iconst 1, 1) := by decide +kernel
theorem dX2_hasRoom_19 : decode cX2_hasRoom 19 = .ok (.goto 4, 3) := by decide +kernel
theorem dX2_hasRoom_22 : decode cX2_hasRoom 22 = .ok (.iconst 0, 1) := by decide +kernel
theorem dX2_hasRoom_23 : decode cX2_hasRoom 23 = .ok (.ireturn, 1) := by decide +kernel
theorem dX2_has_0 : decode cX2_has 0 = .ok (.iload_n 1, 1) := by decide +kernel
theorem dX2_has_1 : decode cX2_has 1 = .ok (.ifCond .lt 25, 3) := by decide +kernel
theorem dX2_has_4 : decode cX2_has 4 = .ok (.iload_n 1, 1) := by decide +kernel
theorem dX2_has_5 : decode cX2_has 5 = .ok (.aload_n 0, 1) := by decide +kernel
theorem dX2_has_6 : decode cX2_has 6 = .ok (.getfield 18, 3) := by decide +kernel
theorem dX2_has_9 : decode cX2_has 9 = .ok (.arraylength, 1) := by decide +kernel
theorem dX2_has_10 : decode cX2_has 10 = .ok (.if_icmp .ge 16, 3) := by decide +kernel
theorem dX2_has_13 : decode cX2_has 13 = .ok (.aload_n 0, 1) := by decide +kernel
theorem dX2_has_14 : decode cX2_has 14 = .ok (.getfield 18, 3) := by decide +kernel
theorem dX2_has_17 : decode cX2_has 17 = .ok (.iload_n 1, 1) := by decide +kernel
theorem dX2_has_18 : decode cX2_has 18 = .ok (.baload, 1) := by decide +kernel
theorem dX2_has_19 : decode cX2_has 19 = .ok (.ifCond .eq 7, 3) := by decide +kernel
theorem dX2_has_22 : decode cX2_has 22 = .ok (.iconst 1, 1) := by decide +kernel
theorem dX2_has_23 : decode cX2_has 23 = .ok (.goto 4, 3) := by decide +kernel
theorem dX2_has_26 : decode cX2_has 26 = .ok (.iconst 0, 1) := by decide +kernel
theorem dX2_has_27 : decode cX2_has 27 = .ok (.ireturn, 1) := by decide +kernel
theorem dX2_areaOf_0 : decode cX2_areaOf 0 = .ok (.iload_n 1, 1) := by decide +kernel
theorem dX2_areaOf_1 : decode cX2_areaOf 1 = .ok (.ifCond .lt 21, 3) := by decide +kernel
theorem dX2_areaOf_4 : decode cX2_areaOf 4 = .ok (.iload_n 1, 1) := by decide +kernel
theorem dX2_areaOf_5 : decode cX2_areaOf 5 = .ok (.aload_n 0, 1) := by decide +kernel
theorem dX2_areaOf_6 : decode cX2_areaOf 6 = .ok (.getfield 9, 3) := by decide +kernel
theorem dX2_areaOf_9 : decode cX2_areaOf 9 = .ok (.arraylength, 1) := by decide +kernel
theorem dX2_areaOf_10 : decode cX2_areaOf 10 = .ok (.if_icmp .ge 12, 3) := by decide +kernel
theorem dX2_areaOf_13 : decode cX2_areaOf 13 = .ok (.aload_n 0, 1) := by decide +kernel
theorem dX2_areaOf_14 : decode cX2_areaOf 14 = .ok (.getfield 9, 3) := by decide +kernel
theorem dX2_areaOf_17 : decode cX2_areaOf 17 = .ok (.iload_n 1, 1) := by decide +kernel
theorem dX2_areaOf_18 : decode cX2_areaOf 18 = .ok (.iaload, 1) := by decide +kernel
theorem dX2_areaOf_19 : decode cX2_areaOf 19 = .ok (.goto 4, 3) := by decide +kernel
theorem dX2_areaOf_22 : decode cX2_areaOf 22 = .ok (.iconst 0, 1) := by decide +kernel
theorem dX2_areaOf_23 : decode cX2_areaOf 23 = .ok (.ireturn, 1) := by decide +kernel
theorem dX2_keyFor_0 : decode cX2_keyFor 0 = .ok (.iload_n 1, 1) := by decide +kernel
theorem dX2_keyFor_1 : decode cX2_keyFor 1 = .ok (.ifCond .lt 21, 3) := by decide +kernel
theorem dX2_keyFor_4 : decode cX2_keyFor 4 = .ok (.iload_n 1, 1) := by decide +kernel
theorem dX2_keyFor_5 : decode cX2_keyFor 5 = .ok (.aload_n 0, 1) := by decide +kernel
theorem dX2_keyFor_6 : decode cX2_keyFor 6 = .ok (.getfield 15, 3) := by decide +kernel
theorem dX2_keyFor_9 : decode cX2_keyFor 9 = .ok (.arraylength, 1) := by decide +kernel
theorem dX2_keyFor_10 : decode cX2_keyFor 10 = .ok (.if_icmp .ge 12, 3) := by decide +kernel
theorem dX2_keyFor_13 : decode cX2_keyFor 13 = .ok (.aload_n 0, 1) := by decide +kernel
theorem dX2_keyFor_14 : decode cX2_keyFor 14 = .ok (.getfield 15, 3) := by decide +kernel
theorem dX2_keyFor_17 : decode cX2_keyFor 17 = .ok (.iload_n 1, 1) := by decide +kernel
theorem dX2_keyFor_18 : decode cX2_keyFor 18 = .ok (.iaload, 1) := by decide +kernel
theorem dX2_keyFor_19 : decode cX2_keyFor 19 = .ok (.goto 4, 3) := by decide +kernel
theorem dX2_keyFor_22 : decode cX2_keyFor 22 = .ok (.iconst 0, 1) := by decide +kernel
theorem dX2_keyFor_23 : decode cX2_keyFor 23 = .ok (.ireturn, 1) := by decide +kernel
theorem dX2_numberAt_0 : decode cX2_numberAt 0 = .ok (.iload_n 1, 1) := by decide +kernel
theorem dX2_numberAt_1 : decode cX2_numberAt 1 = .ok (.ifCond .lt 29, 3) := by decide +kernel
theorem dX2_numberAt_4 : decode cX2_numberAt 4 = .ok (.iload_n 1, 1) := by decide +kernel
theorem dX2_numberAt_5 : decode cX2_numberAt 5 = .ok (.aload_n 0, 1) := by decide +kernel
theorem dX2_numberAt_6 : decode cX2_numberAt 6 = .ok (.getfield 22, 3) := by decide +kernel
theorem dX2_numberAt_9 : decode cX2_numberAt 9 = .ok (.arraylength, 1) := by decide +kernel
theorem dX2_numberAt_10 : decode cX2_numberAt 10 = .ok (.if_icmp .ge 20, 3) := by decide +kernel
theorem dX2_numberAt_13 : decode cX2_numberAt 13 = .ok (.iload_n 1, 1) := by decide +kernel
theorem dX2_numberAt_14 : decode cX2_numberAt 14 = .ok (.aload_n 0, 1) := by decide +kernel
theorem dX2_numberAt_15 : decode cX2_numberAt 15 = .ok (.getfield 25, 3) := by decide +kernel
theorem dX2_numberAt_18 : decode cX2_numberAt 18 = .ok (.if_icmp .ge 12, 3) := by decide +kernel
theorem dX2_numberAt_21 : decode cX2_numberAt 21 = .ok (.aload_n 0, 1) := by decide +kernel
theorem dX2_numberAt_22 : decode cX2_numberAt 22 = .ok (.getfield 22, 3) := by decide +kernel
theorem dX2_numberAt_25 : decode cX2_numberAt 25 = .ok (.iload_n 1, 1) := by decide +kernel
theorem dX2_numberAt_26 : decode cX2_numberAt 26 = .ok (.iaload, 1) := by decide +kernel
theorem dX2_numberAt_27 : decode cX2_numberAt 27 = .ok (.goto 4, 3) := by decide +kernel
theorem dX2_numberAt_30 : decode cX2_numberAt 30 = .ok (.iconst (-1), 1) := by decide +kernel
theorem dX2_numberAt_31 : decode cX2_numberAt 31 = .ok (.ireturn, 1) := by decide +kernel
set_option maxRecDepth 20000 in
theorem ggX2_areaAt_X2_numberAt : GoodIn wsX2_areaAt wsX2_numberAt := goodIn_r _ [5, 6, 7, 13, 14, 15, 16, 17, 18] (by decide +kernel) (by decide +kernel)
set_option maxRecDepth 20000 in
theorem gX2_areaAt_X2_numberAt : GoodIn wsX2_areaAt (wsV RX2 32 RX2 yX2_numberAt wsX2_numberAt) := goodIn_app (goodIn_of _ (by decide +kernel)) ggX2_areaAt_X2_numberAt
set_option maxRecDepth 20000 in
theorem ggX2_areaAt_X2_areaOf : GoodIn wsX2_areaAt wsX2_areaOf := goodIn_r _ [11, 12, 13, 14, 15, 16, 17, 18] (by decide +kernel) (by decide +kernel)
set_option maxRecDepth 20000 in
theorem gX2_areaAt_X2_areaOf : GoodIn wsX2_areaAt (wsV RX2 36 RX2 yX2_areaOf wsX2_areaOf) := goodIn_app (goodIn_of _ (by decide +kernel)) ggX2_areaAt_X2_areaOf
theorem dX2_areaAt_0 : decode cX2_areaAt 0 = .ok (.aload_n 0, 1) := by decide +kernel
theorem dX2_areaAt_1 : decode cX2_areaAt 1 = .ok (.aload_n 0, 1) := by decide +kernel
theorem dX2_areaAt_2 : decode cX2_areaAt 2 = .ok (.iload_n 1, 1) := by decide +kernel
theorem dX2_areaAt_3 : decode cX2_areaAt 3 = .ok (.invokevirtual 32, 3) := by decide +kernel
theorem dX2_areaAt_6 : decode cX2_areaAt 6 = .ok (.invokevirtual 36, 3) := by decide +kernel
theorem dX2_areaAt_9 : decode cX2_areaAt 9 = .ok (.ireturn, 1) := by decide +kernel
set_option maxRecDepth 20000 in
theorem ggX2_placeOf_X2_numberAt : GoodIn wsX2_placeOf wsX2_numberAt := goodIn_r _ [6, 7, 1, 8, 9, 10, 11, 12, 13] (by decide +kernel) (by decide +kernel)
set_option maxRecDepth 20000 in
theorem gX2_placeOf_X2_numberAt : GoodIn wsX2_placeOf (wsV RX2 32 RX2 yX2_numberAt wsX2_numberAt) := goodIn_app (goodIn_of _ (by decide +kernel)) ggX2_placeOf_X2_numberAt
theorem dX2_placeOf_0 : decode cX2_placeOf 0 = .ok (.iconst 0, 1) := by decide +kernel
theorem dX2_placeOf_1 : decode cX2_placeOf 1 = .ok (.istore_n 2, 1) := by decide +kernel
theorem dX2_placeOf_2 : decode cX2_placeOf 2 = .ok (.iload_n 2, 1) := by decide +kernel
theorem dX2_placeOf_3 : decode cX2_placeOf 3 = .ok (.aload_n 0, 1) := by decide +kernel
theorem dX2_placeOf_4 : decode cX2_placeOf 4 = .ok (.getfield 25, 3) := by decide +kernel
theorem dX2_placeOf_7 : decode cX2_placeOf 7 = .ok (.if_icmp .ge 20, 3) := by decide +kernel
theorem dX2_placeOf_10 : decode cX2_placeOf 10 = .ok (.aload_n 0, 1) := by decide +kernel
theorem dX2_placeOf_11 : decode cX2_placeOf 11 = .ok (.iload_n 2, 1) := by decide +kernel
theorem dX2_placeOf_12 : decode cX2_placeOf 12 = .ok (.invokevirtual 32, 3) := by decide +kernel
theorem dX2_placeOf_15 : decode cX2_placeOf 15 = .ok (.iload_n 1, 1) := by decide +kernel
theorem dX2_placeOf_16 : decode cX2_placeOf 16 = .ok (.if_icmp .ne 5, 3) := by decide +kernel
theorem dX2_placeOf_19 : decode cX2_placeOf 19 = .ok (.iload_n 2, 1) := by decide +kernel
theorem dX2_placeOf_20 : decode cX2_placeOf 20 = .ok (.ireturn, 1) := by decide +kernel
theorem dX2_placeOf_21 : decode cX2_placeOf 21 = .ok (.iinc 2 1, 3) := by decide +kernel
theorem dX2_placeOf_24 : decode cX2_placeOf 24 = .ok (.goto (-22), 3) := by decide +kernel
theorem dX2_placeOf_27 : decode cX2_placeOf 27 = .ok (.iconst (-1), 1) := by decide +kernel
theorem dX2_placeOf_28 : decode cX2_placeOf 28 = .ok (.ireturn, 1) := by decide +kernel
set_option maxRecDepth 20000 in
theorem ggX2_haveMet_X2_has : GoodIn wsX2_haveMet wsX2_has := goodIn_r _ [5, 6, 19, 20, 21, 22, 23, 24] (by decide +kernel) (by decide +kernel)
set_option maxRecDepth 20000 in
theorem gX2_haveMet_X2_has : GoodIn wsX2_haveMet (wsV RX2 39 RX2 yX2_has wsX2_has) := goodIn_app (goodIn_of _ (by decide +kernel)) ggX2_haveMet_X2_has
set_option maxRecDepth 20000 in
theorem ggX2_haveMet_X2_areaOf : GoodIn wsX2_haveMet wsX2_areaOf := goodIn_r _ [10, 11, 19, 20, 21, 22, 23, 24] (by decide +kernel) (by decide +kernel)
set_option maxRecDepth 20000 in
theorem gX2_haveMet_X2_areaOf : GoodIn wsX2_haveMet (wsV RX2 36 RX2 yX2_areaOf wsX2_areaOf) := goodIn_app (goodIn_of _ (by decide +kernel)) ggX2_haveMet_X2_areaOf
set_option maxRecDepth 20000 in
theorem ggX2_haveMet_X0_meet : GoodIn wsX2_haveMet wsX0_meet := goodIn_r _ [15, 16, 17, 14, 18] (by decide +kernel) (by decide +kernel)
set_option maxRecDepth 20000 in
theorem gX2_haveMet_X0_meet : GoodIn wsX2_haveMet (va_wsS RX2 43 yX0_meet wsX0_meet) := goodIn_app (goodIn_of _ (by decide +kernel)) ggX2_haveMet_X0_meet
theorem dX2_haveMet_0 : decode cX2_haveMet 0 = .ok (.aload_n 0, 1) := by decide +kernel
theorem dX2_haveMet_1 : decode cX2_haveMet 1 = .ok (.iload_n 1, 1) := by decide +kernel
theorem dX2_haveMet_2 : decode cX2_haveMet 2 = .ok (.invokevirtual 39, 3) := by decide +kernel
theorem dX2_haveMet_5 : decode cX2_haveMet 5 = .ok (.ifCond .eq 31, 3) := by decide +kernel
theorem dX2_haveMet_8 : decode cX2_haveMet 8 = .ok (.aload_n 0, 1) := by decide +kernel
theorem dX2_haveMet_9 : decode cX2_haveMet 9 = .ok (.iload_n 2, 1) := by decide +kernel
theorem dX2_haveMet_10 : decode cX2_haveMet 10 = .ok (.invokevirtual 39, 3) := by decide +kernel
theorem dX2_haveMet_13 : decode cX2_haveMet 13 = .ok (.ifCond .eq 23, 3) := by decide +kernel
theorem dX2_haveMet_16 : decode cX2_haveMet 16 = .ok (.aload_n 0, 1) := by decide +kernel
theorem dX2_haveMet_17 : decode cX2_haveMet 17 = .ok (.iload_n 1, 1) := by decide +kernel
theorem dX2_haveMet_18 : decode cX2_haveMet 18 = .ok (.invokevirtual 36, 3) := by decide +kernel
theorem dX2_haveMet_21 : decode cX2_haveMet 21 = .ok (.aload_n 0, 1) := by decide +kernel
theorem dX2_haveMet_22 : decode cX2_haveMet 22 = .ok (.iload_n 2, 1) := by decide +kernel
theorem dX2_haveMet_23 : decode cX2_haveMet 23 = .ok (.invokevirtual 36, 3) := by decide +kernel
theorem dX2_haveMet_26 : decode cX2_haveMet 26 = .ok (.invokestatic 43, 3) := by decide +kernel
theorem dX2_haveMet_29 : decode cX2_haveMet 29 = .ok (.ifCond .eq 7, 3) := by decide +kernel
theorem dX2_haveMet_32 : decode cX2_haveMet 32 = .ok (.iconst 1, 1) := by decide +kernel
theorem dX2_haveMet_33 : decode cX2_haveMet 33 = .ok (.goto 4, 3) := by decide +kernel
theorem dX2_haveMet_36 : decode cX2_haveMet 36 = .ok (.iconst 0, 1) := by decide +kernel
theorem dX2_haveMet_37 : decode cX2_haveMet 37 = .ok (.ireturn, 1) := by decide +kernel
set_option maxRecDepth 20000 in
theorem ggX2_putIn_X0_middleKey : GoodIn wsX2_putIn wsX0_middleKey := goodIn_r _ [8, 9, 10, 7, 11, 12, 13, 14, 15, 16, 17, 18] (by decide +kernel) (by decide +kernel)
set_option maxRecDepth 20000 in
theorem gX2_putIn_X0_middleKey : GoodIn wsX2_putIn (va_wsS RX2 49 yX0_middleKey wsX0_middleKey) := goodIn_app (goodIn_of _ (by decide +kernel)) ggX2_putIn_X0_middleKey
set_option maxRecDepth 20000 in
theorem ggX2_putIn_X2_putInOrder : GoodIn wsX2_putIn wsX2_putInOrder := goodIn_r _ [23, 24, 25, 26, 27, 22, 28, 29, 30, 31, 32, 33, 3, 34, 35, 36, 37, 38, 39, 40, 41, 42, 43] (by decide +kernel) (by decide +kernel)
set_option maxRecDepth 20000 in
theorem gX2_putIn_X2_putInOrder : GoodIn wsX2_putIn (wsV RX2 52 RX2 yX2_putInOrder wsX2_putInOrder) := goodIn_app (goodIn_of _ (by decide +kernel)) ggX2_putIn_X2_putInOrder
theorem dX2_putIn_0 : decode cX2_putIn 0 = .ok (.aload_n 0, 1) := by decide +kernel
theorem dX2_putIn_1 : decode cX2_putIn 1 = .ok (.getfield 29, 3) := by decide +kernel
theorem dX2_putIn_4 : decode cX2_putIn 4 = .ok (.istore_n 2, 1) := by decide +kernel
theorem dX2_putIn_5 : decode cX2_putIn 5 = .ok (.iload_n 2, 1) := by decide +kernel
theorem dX2_putIn_6 : decode cX2_putIn 6 = .ok (.ifCond .lt 30, 3) := by decide +kernel
theorem dX2_putIn_9 : decode cX2_putIn 9 = .ok (.iload_n 2, 1) := by decide +kernel
theorem dX2_putIn_10 : decode cX2_putIn 10 = .ok (.aload_n 0, 1) := by decide +kernel
theorem dX2_putIn_11 : decode cX2_putIn 11 = .ok (.getfield 9, 3) := by decide +kernel
theorem dX2_putIn_14 : decode cX2_putIn 14 = .ok (.arraylength, 1) := by decide +kernel
theorem dX2_putIn_15 : decode cX2_putIn 15 = .ok (.if_icmp .ge 21, 3) := by decide +kernel
theorem dX2_putIn_18 : decode cX2_putIn 18 = .ok (.iload_n 2, 1) := by decide +kernel
theorem dX2_putIn_19 : decode cX2_putIn 19 = .ok (.aload_n 0, 1) := by decide +kernel
theorem dX2_putIn_20 : decode cX2_putIn 20 = .ok (.getfield 15, 3) := by decide +kernel
theorem dX2_putIn_23 : decode cX2_putIn 23 = .ok (.arraylength, 1) := by decide +kernel
theorem dX2_putIn_24 : decode cX2_putIn 24 = .ok (.if_icmp .ge 12, 3) := by decide +kernel
theorem dX2_putIn_27 : decode cX2_putIn 27 = .ok (.iload_n 2, 1) := by decide +kernel
theorem dX2_putIn_28 : decode cX2_putIn 28 = .ok (.aload_n 0, 1) := by decide +kernel
theorem dX2_putIn_29 : decode cX2_putIn 29 = .ok (.getfield 18, 3) := by decide +kernel
theorem dX2_putIn_32 : decode cX2_putIn 32 = .ok (.arraylength, 1) := by decide +kernel
theorem dX2_putIn_33 : decode cX2_putIn 33 = .ok (.if_icmp .lt 5, 3) := by decide +kernel
theorem dX2_putIn_36 : decode cX2_putIn 36 = .ok (.iconst (-1), 1) := by decide +kernel
theorem dX2_putIn_37 : decode cX2_putIn 37 = .ok (.ireturn, 1) := by decide +kernel
theorem dX2_putIn_38 : decode cX2_putIn 38 = .ok (.aload_n 0, 1) := by decide +kernel
theorem dX2_putIn_39 : decode cX2_putIn 39 = .ok (.getfield 9, 3) := by decide +kernel
theorem dX2_putIn_42 : decode cX2_putIn 42 = .ok (.iload_n 2, 1) := by decide +kernel
theorem dX2_putIn_43 : decode cX2_putIn 43 = .ok (.iload_n 1, 1) := by decide +kernel
theorem dX2_putIn_44 : decode cX2_putIn 44 = .ok (.iastore, 1) := by decide +kernel
theorem dX2_putIn_45 : decode cX2_putIn 45 = .ok (.aload_n 0, 1) := by decide +kernel
theorem dX2_putIn_46 : decode cX2_putIn 46 = .ok (.getfield 15, 3) := by decide +kernel
theorem dX2_putIn_49 : decode cX2_putIn 49 = .ok (.iload_n 2, 1) := by decide +kernel
theorem dX2_putIn_50 : decode cX2_putIn 50 = .ok (.iload_n 1, 1) := by decide +kernel
theorem dX2_putIn_51 : decode cX2_putIn 51 = .ok (.invokestatic 49, 3) := by decide +kernel
theorem dX2_putIn_54 : decode cX2_putIn 54 = .ok (.iastore, 1) := by decide +kernel
theorem dX2_putIn_55 : decode cX2_putIn 55 = .ok (.aload_n 0, 1) := by decide +kernel
theorem dX2_putIn_56 : decode cX2_putIn 56 = .ok (.getfield 18, 3) := by decide +kernel
theorem dX2_putIn_59 : decode cX2_putIn 59 = .ok (.iload_n 2, 1) := by decide +kernel
theorem dX2_putIn_60 : decode cX2_putIn 60 = .ok (.iconst 1, 1) := by decide +kernel
theorem dX2_putIn_61 : decode cX2_putIn 61 = .ok (.bastore, 1) := by decide +kernel
theorem dX2_putIn_62 : decode cX2_putIn 62 = .ok (.aload_n 0, 1) := by decide +kernel
theorem dX2_putIn_63 : decode cX2_putIn 63 = .ok (.dup, 1) := by decide +kernel
theorem dX2_putIn_64 : decode cX2_putIn 64 = .ok (.getfield 29, 3) := by decide +kernel
theorem dX2_putIn_67 : decode cX2_putIn 67 = .ok (.iconst 1, 1) := by decide +kernel
theorem dX2_putIn_68 : decode cX2_putIn 68 = .ok (.iadd, 1) := by decide +kernel
theorem dX2_putIn_69 : decode cX2_putIn 69 = .ok (.putfield 29, 3) := by decide +kernel
theorem dX2_putIn_72 : decode cX2_putIn 72 = .ok (.aload_n 0, 1) := by decide +kernel
theorem dX2_putIn_73 : decode cX2_putIn 73 = .ok (.iload_n 2, 1) := by decide +kernel
theorem dX2_putIn_74 : decode cX2_putIn 74 = .ok (.invokevirtual 52, 3) := by decide +kernel
theorem dX2_putIn_77 : decode cX2_putIn 77 = .ok (.iload_n 2, 1) := by decide +kernel
theorem dX2_putIn_78 : decode cX2_putIn 78 = .ok (.ireturn, 1) := by decide +kernel
set_option maxRecDepth 20000 in
theorem ggX2_putInOrder_X2_numberAt : GoodIn wsX2_putInOrder wsX2_numberAt := goodIn_r _ [6, 7, 1, 17, 18, 19, 20, 21, 22] (by decide +kernel) (by decide +kernel)
set_option maxRecDepth 20000 in
theorem gX2_putInOrder_X2_numberAt : GoodIn wsX2_putInOrder (wsV RX2 32 RX2 yX2_numberAt wsX2_numberAt) := goodIn_app (goodIn_of _ (by decide +kernel)) ggX2_putInOrder_X2_numberAt
set_option maxRecDepth 20000 in
theorem ggX2_putInOrder_X2_keyFor : GoodIn wsX2_putInOrder wsX2_keyFor := goodIn_r _ [11, 12, 17, 18, 19, 20, 21, 22] (by decide +kernel) (by decide +kernel)
set_option maxRecDepth 20000 in
theorem gX2_putInOrder_X2_keyFor : GoodIn wsX2_putInOrder (wsV RX2 56 RX2 yX2_keyFor wsX2_keyFor) := goodIn_app (goodIn_of _ (by decide +kernel)) ggX2_putInOrder_X2_keyFor
set_option maxRecDepth 20000 in
theorem ggX2_putInOrder_X2_setOrder : GoodIn wsX2_putInOrder wsX2_setOrder := goodIn_r _ [16, 7, 17, 18, 19, 20, 21, 22] (by decide +kernel) (by decide +kernel)
set_option maxRecDepth 20000 in
theorem gX2_putInOrder_X2_setOrder : GoodIn wsX2_putInOrder (wsV RX2 59 RX2 yX2_setOrder wsX2_setOrder) := goodIn_app (goodIn_of _ (by decide +kernel)) ggX2_putInOrder_X2_setOrder
theorem dX2_putInOrder_0 : decode cX2_putInOrder 0 = .ok (.iconst 0, 1) := by decide +kernel
theorem dX2_putInOrder_1 : decode cX2_putInOrder 1 = .ok (.istore_n 2, 1) := by decide +kernel
theorem dX2_putInOrder_2 : decode cX2_putInOrder 2 = .ok (.iload_n 2, 1) := by decide +kernel
theorem dX2_putInOrder_3 : decode cX2_putInOrder 3 = .ok (.aload_n 0, 1) := by decide +kernel
theorem dX2_putInOrder_4 : decode cX2_putInOrder 4 = .ok (.getfield 25, 3) := by decide +kernel
theorem dX2_putInOrder_7 : decode cX2_putInOrder 7 = .ok (.if_icmp .ge 26, 3) := by decide +kernel
theorem dX2_putInOrder_10 : decode cX2_putInOrder 10 = .ok (.aload_n 0, 1) := by decide +kernel
theorem dX2_putInOrder_11 : decode cX2_putInOrder 11 = .ok (.aload_n 0, 1) := by decide +kernel
theorem dX2_putInOrder_12 : decode cX2_putInOrder 12 = .ok (.iload_n 2, 1) := by decide +kernel
theorem dX2_putInOrder_13 : decode cX2_putInOrder 13 = .ok (.invokevirtual 32, 3) := by decide +kernel
theorem dX2_putInOrder_16 : decode cX2_putInOrder 16 = .ok (.invokevirtual 56, 3) := by decide +kernel
theorem dX2_putInOrder_19 : decode cX2_putInOrder 19 = .ok (.aload_n 0, 1) := by decide +kernel
theorem dX2_putInOrder_20 : decode cX2_putInOrder 20 = .ok (.iload_n 1, 1) := by decide +kernel
theorem dX2_putInOrder_21 : decode cX2_putInOrder 21 = .ok (.invokevirtual 56, 3) := by decide +kernel
theorem dX2_putInOrder_24 : decode cX2_putInOrder 24 = .ok (.if_icmp .gt 9, 3) := by decide +kernel
theorem dX2_putInOrder_27 : decode cX2_putInOrder 27 = .ok (.iinc 2 1, 3) := by decide +kernel
theorem dX2_putInOrder_30 : decode cX2_putInOrder 30 = .ok (.goto (-28), 3) := by decide +kernel
theorem dX2_putInOrder_33 : decode cX2_putInOrder 33 = .ok (.aload_n 0, 1) := by decide +kernel
theorem dX2_putInOrder_34 : decode cX2_putInOrder 34 = .ok (.dup, 1) := by decide +kernel
theorem dX2_putInOrder_35 : decode cX2_putInOrder 35 = .ok (.getfield 25, 3) := by decide +kernel
theorem dX2_putInOrder_38 : decode cX2_putInOrder 38 = .ok (.iconst 1, 1) := by decide +kernel
theorem dX2_putInOrder_39 : decode cX2_putInOrder 39 = .ok (.iadd, 1) := by decide +kernel
theorem dX2_putInOrder_40 : decode cX2_putInOrder 40 = .ok (.putfield 25, 3) := by decide +kernel
theorem dX2_putInOrder_43 : decode cX2_putInOrder 43 = .ok (.aload_n 0, 1) := by decide +kernel
theorem dX2_putInOrder_44 : decode cX2_putInOrder 44 = .ok (.getfield 25, 3) := by decide +kernel
theorem dX2_putInOrder_47 : decode cX2_putInOrder 47 = .ok (.iconst 1, 1) := by decide +kernel
theorem dX2_putInOrder_48 : decode cX2_putInOrder 48 = .ok (.isub, 1) := by decide +kernel
theorem dX2_putInOrder_49 : decode cX2_putInOrder 49 = .ok (.istore_n 3, 1) := by decide +kernel
theorem dX2_putInOrder_50 : decode cX2_putInOrder 50 = .ok (.iload_n 3, 1) := by decide +kernel
theorem dX2_putInOrder_51 : decode cX2_putInOrder 51 = .ok (.iload_n 2, 1) := by decide +kernel
theorem dX2_putInOrder_52 : decode cX2_putInOrder 52 = .ok (.if_icmp .le 21, 3) := by decide +kernel
theorem dX2_putInOrder_55 : decode cX2_putInOrder 55 = .ok (.aload_n 0, 1) := by decide +kernel
theorem dX2_putInOrder_56 : decode cX2_putInOrder 56 = .ok (.iload_n 3, 1) := by decide +kernel
theorem dX2_putInOrder_57 : decode cX2_putInOrder 57 = .ok (.aload_n 0, 1) := by decide +kernel
theorem dX2_putInOrder_58 : decode cX2_putInOrder 58 = .ok (.iload_n 3, 1) := by decide +kernel
theorem dX2_putInOrder_59 : decode cX2_putInOrder 59 = .ok (.iconst 1, 1) := by decide +kernel
theorem dX2_putInOrder_60 : decode cX2_putInOrder 60 = .ok (.isub, 1) := by decide +kernel
theorem dX2_putInOrder_61 : decode cX2_putInOrder 61 = .ok (.invokevirtual 32, 3) := by decide +kernel
theorem dX2_putInOrder_64 : decode cX2_putInOrder 64 = .ok (.invokevirtual 59, 3) := by decide +kernel
theorem dX2_putInOrder_67 : decode cX2_putInOrder 67 = .ok (.iinc 3 (-1), 3) := by decide +kernel
theorem dX2_putInOrder_70 : decode cX2_putInOrder 70 = .ok (.goto (-20), 3) := by decide +kernel
theorem dX2_putInOrder_73 : decode cX2_putInOrder 73 = .ok (.aload_n 0, 1) := by decide +kernel
theorem dX2_putInOrder_74 : decode cX2_putInOrder 74 = .ok (.iload_n 2, 1) := by decide +kernel
theorem dX2_putInOrder_75 : decode cX2_putInOrder 75 = .ok (.iload_n 1, 1) := by decide +kernel
theorem dX2_putInOrder_76 : decode cX2_putInOrder 76 = .ok (.invokevirtual 59, 3) := by decide +kernel
theorem dX2_putInOrder_79 : decode cX2_putInOrder 79 = .ok (.return_, 1) := by decide +kernel
set_option maxRecDepth 20000 in
theorem ggX2_takeOut_X2_placeOf : GoodIn wsX2_takeOut wsX2_placeOf := goodIn_r _ [7, 2, 8, 9, 10, 6, 11, 12, 21, 22, 23, 24, 25, 26] (by decide +kernel) (by decide +kernel)
set_option maxRecDepth 20000 in
theorem gX2_takeOut_X2_placeOf : GoodIn wsX2_takeOut (wsV RX2 63 RX2 yX2_placeOf wsX2_placeOf) := goodIn_app (goodIn_of _ (by decide +kernel)) ggX2_takeOut_X2_placeOf
set_option maxRecDepth 20000 in
theorem ggX2_takeOut_X2_has : GoodIn wsX2_takeOut wsX2_has := goodIn_r _ [16, 1, 21, 22, 23, 24, 25, 26] (by decide +kernel) (by decide +kernel)
set_option maxRecDepth 20000 in
theorem gX2_takeOut_X2_has : GoodIn wsX2_takeOut (wsV RX2 39 RX2 yX2_has wsX2_has) := goodIn_app (goodIn_of _ (by decide +kernel)) ggX2_takeOut_X2_has
set_option maxRecDepth 20000 in
theorem ggX2_takeOut_X2_numberAt : GoodIn wsX2_takeOut wsX2_numberAt := goodIn_r _ [11, 12, 2, 21, 22, 23, 24, 25, 26] (by decide +kernel) (by decide +kernel)
set_option maxRecDepth 20000 in
theorem gX2_takeOut_X2_numberAt : GoodIn wsX2_takeOut (wsV RX2 32 RX2 yX2_numberAt wsX2_numberAt) := goodIn_app (goodIn_of _ (by decide +kernel)) ggX2_takeOut_X2_numberAt
set_option maxRecDepth 20000 in
theorem ggX2_takeOut_X2_setOrder : GoodIn wsX2_takeOut wsX2_setOrder := goodIn_r _ [20, 12, 21, 22, 23, 24, 25, 26] (by decide +kernel) (by decide +kernel)
set_option maxRecDepth 20000 in
theorem gX2_takeOut_X2_setOrder : GoodIn wsX2_takeOut (wsV RX2 59 RX2 yX2_setOrder wsX2_setOrder) := goodIn_app (goodIn_of _ (by decide +kernel)) ggX2_takeOut_X2_setOrder
theorem dX2_takeOut_0 : decode cX2_takeOut 0 = .ok (.aload_n 0, 1) := by decide +kernel
theorem dX2_takeOut_1 : decode cX2_takeOut 1 = .ok (.iload_n 1, 1) := by decide +kernel
theorem dX2_takeOut_2 : decode cX2_takeOut 2 = .ok (.invokevirtual 63, 3) := by decide +kernel
theorem dX2_takeOut_5 : decode cX2_takeOut 5 = .ok (.istore_n 2, 1) := by decide +kernel
theorem dX2_takeOut_6 : decode cX2_takeOut 6 = .ok (.iload_n 2, 1) := by decide +kernel
theorem dX2_takeOut_7 : decode cX2_takeOut 7 = .ok (.ifCond .lt 11, 3) := by decide +kernel
theorem dX2_takeOut_10 : decode cX2_takeOut 10 = .ok (.aload_n 0, 1) := by decide +kernel
theorem dX2_takeOut_11 : decode cX2_takeOut 11 = .ok (.iload_n 1, 1) := by decide +kernel
theorem dX2_takeOut_12 : decode cX2_takeOut 12 = .ok (.invokevirtual 39, 3) := by decide +kernel
theorem dX2_takeOut_15 : decode cX2_takeOut 15 = .ok (.ifCond .ne 4, 3) := by decide +kernel
theorem dX2_takeOut_18 : decode cX2_takeOut 18 = .ok (.return_, 1) := by decide +kernel
theorem dX2_takeOut_19 : decode cX2_takeOut 19 = .ok (.aload_n 0, 1) := by decide +kernel
theorem dX2_takeOut_20 : decode cX2_takeOut 20 = .ok (.getfield 18, 3) := by decide +kernel
theorem dX2_takeOut_23 : decode cX2_takeOut 23 = .ok (.iload_n 1, 1) := by decide +kernel
theorem dX2_takeOut_24 : decode cX2_takeOut 24 = .ok (.iconst 0, 1) := by decide +kernel
theorem dX2_takeOut_25 : decode cX2_takeOut 25 = .ok (.bastore, 1) := by decide +kernel
theorem dX2_takeOut_26 : decode cX2_takeOut 26 = .ok (.iload_n 2, 1) := by decide +kernel
theorem dX2_takeOut_27 : decode cX2_takeOut 27 = .ok (.istore_n 3, 1) := by decide +kernel
theorem dX2_takeOut_28 : decode cX2_takeOut 28 = .ok (.iload_n 3, 1) := by decide +kernel
theorem dX2_takeOut_29 : decode cX2_takeOut 29 = .ok (.aload_n 0, 1) := by decide +kernel
theorem dX2_takeOut_30 : decode cX2_takeOut 30 = .ok (.getfield 25, 3) := by decide +kernel
theorem dX2_takeOut_33 : decode cX2_takeOut 33 = .ok (.iconst 1, 1) := by decide +kernel
theorem dX2_takeOut_34 : decode cX2_takeOut 34 = .ok (.isub, 1) := by decide +kernel
theorem dX2_takeOut_35 : decode cX2_takeOut 35 = .ok (.if_icmp .ge 21, 3) := by decide +kernel
theorem dX2_takeOut_38 : decode cX2_takeOut 38 = .ok (.aload_n 0, 1) := by decide +kernel
theorem dX2_takeOut_39 : decode cX2_takeOut 39 = .ok (.iload_n 3, 1) := by decide +kernel
theorem dX2_takeOut_40 : decode cX2_takeOut 40 = .ok (.aload_n 0, 1) := by decide +kernel
theorem dX2_takeOut_41 : decode cX2_takeOut 41 = .ok (.iload_n 3, 1) := by decide +kernel
theorem dX2_takeOut_42 : decode cX2_takeOut 42 = .ok (.iconst 1, 1) := by decide +kernel
theorem dX2_takeOut_43 : decode cX2_takeOut 43 = .ok (.iadd, 1) := by decide +kernel
theorem dX2_takeOut_44 : decode cX2_takeOut 44 = .ok (.invokevirtual 32, 3) := by decide +kernel
theorem dX2_takeOut_47 : decode cX2_takeOut 47 = .ok (.invokevirtual 59, 3) := by decide +kernel
theorem dX2_takeOut_50 : decode cX2_takeOut 50 = .ok (.iinc 3 1, 3) := by decide +kernel
theorem dX2_takeOut_53 : decode cX2_takeOut 53 = .ok (.goto (-25), 3) := by decide +kernel
theorem dX2_takeOut_56 : decode cX2_takeOut 56 = .ok (.aload_n 0, 1) := by decide +kernel
theorem dX2_takeOut_57 : decode cX2_takeOut 57 = .ok (.dup, 1) := by decide +kernel
theorem dX2_takeOut_58 : decode cX2_takeOut 58 = .ok (.getfield 25, 3) := by decide +kernel
theorem dX2_takeOut_61 : decode cX2_takeOut 61 = .ok (.iconst 1, 1) := by decide +kernel
theorem dX2_takeOut_62 : decode cX2_takeOut 62 = .ok (.isub, 1) := by decide +kernel
theorem dX2_takeOut_63 : decode cX2_takeOut 63 = .ok (.putfield 25, 3) := by decide +kernel
theorem dX2_takeOut_66 : decode cX2_takeOut 66 = .ok (.return_, 1) := by decide +kernel
theorem dX2_setOrder_0 : decode cX2_setOrder 0 = .ok (.iload_n 1, 1) := by decide +kernel
theorem dX2_setOrder_1 : decode cX2_setOrder 1 = .ok (.ifCond .lt 19, 3) := by decide +kernel
theorem dX2_setOrder_4 : decode cX2_setOrder 4 = .ok (.iload_n 1, 1) := by decide +kernel
theorem dX2_setOrder_5 : decode cX2_setOrder 5 = .ok (.aload_n 0, 1) := by decide +kernel
theorem dX2_setOrder_6 : decode cX2_setOrder 6 = .ok (.getfield 22, 3) := by decide +kernel
theorem dX2_setOrder_9 : decode cX2_setOrder 9 = .ok (.arraylength, 1) := by decide +kernel
theorem dX2_setOrder_10 : decode cX2_setOrder 10 = .ok (.if_icmp .ge 10, 3) := by decide +kernel
theorem dX2_setOrder_13 : decode cX2_setOrder 13 = .ok (.aload_n 0, 1) := by decide +kernel
theorem dX2_setOrder_14 : decode cX2_setOrder 14 = .ok (.getfield 22, 3) := by decide +kernel
theorem dX2_setOrder_17 : decode cX2_setOrder 17 = .ok (.iload_n 1, 1) := by decide +kernel
theorem dX2_setOrder_18 : decode cX2_setOrder 18 = .ok (.iload_n 2, 1) := by decide +kernel
theorem dX2_setOrder_19 : decode cX2_setOrder 19 = .ok (.iastore, 1) := by decide +kernel
theorem dX2_setOrder_20 : decode cX2_setOrder 20 = .ok (.return_, 1) := by decide +kernel
theorem dX3_init_0 : decode cX3_init 0 = .ok (.aload_n 0, 1) := by decide +kernel
theorem dX3_init_1 : decode cX3_init 1 = .ok (.invokespecial 3, 3) := by decide +kernel
theorem dX3_init_4 : decode cX3_init 4 = .ok (.aload_n 0, 1) := by decide +kernel
theorem dX3_init_5 : decode cX3_init 5 = .ok (.sipush 480, 3) := by decide +kernel
theorem dX3_init_8 : decode cX3_init 8 = .ok (.newarray .int, 2) := by decide +kernel
theorem dX3_init_10 : decode cX3_init 10 = .ok (.putfield 11, 3) := by decide +kernel
theorem dX3_init_13 : decode cX3_init 13 = .ok (.aload_n 0, 1) := by decide +kernel
theorem dX3_init_14 : decode cX3_init 14 = .ok (.bipush 8, 2) := by decide +kernel
theorem dX3_init_16 : decode cX3_init 16 = .ok (.newarray .int, 2) := by decide +kernel
theorem dX3_init_18 : decode cX3_init 18 = .ok (.putfield 15, 3) := by decide +kernel
theorem dX3_init_21 : decode cX3_init 21 = .ok (.return_, 1) := by decide +kernel
theorem dX3_height_0 : decode cX3_height 0 = .ok (.aload_n 0, 1) := by decide +kernel
theorem dX3_height_1 : decode cX3_height 1 = .ok (.getfield 18, 3) := by decide +kernel
theorem dX3_height_4 : decode cX3_height 4 = .ok (.ireturn, 1) := by decide +kernel
theorem dX3_hasLevel_0 : decode cX3_hasLevel 0 = .ok (.iload_n 1, 1) := by decide +kernel
theorem dX3_hasLevel_1 : decode cX3_hasLevel 1 = .ok (.ifCond .lt 15, 3) := by decide +kernel
theorem dX3_hasLevel_4 : decode cX3_hasLevel 4 = .ok (.iload_n 1, 1) := by decide +kernel
theorem dX3_hasLevel_5 : decode cX3_hasLevel 5 = .ok (.aload_n 0, 1) := by decide +kernel
theorem dX3_hasLevel_6 : decode cX3_hasLevel 6 = .ok (.getfield 18, 3) := by decide +kernel
theorem dX3_hasLevel_9 : decode cX3_hasLevel 9 = .ok (.if_icmp .ge 7, 3) := by decide +kernel
theorem dX3_hasLevel_12 : decode cX3_hasLevel 12 = .ok (.iconst 1, 1) := by decide +kernel
theorem dX3_hasLevel_13 : decode cX3_hasLevel 13 = .ok (.goto 4, 3) := by decide +kernel
theorem dX3_hasLevel_16 : decode cX3_hasLevel 16 = .ok (.iconst 0, 1) := by decide +kernel
theorem dX3_hasLevel_17 : decode cX3_hasLevel 17 = .ok (.ireturn, 1) := by decide +kernel
theorem dX3_width_0 : decode cX3_width 0 = .ok (.iload_n 1, 1) := by decide +kernel
theorem dX3_width_1 : decode cX3_width 1 = .ok (.ifCond .lt 29, 3) := by decide +kernel
theorem dX3_width_4 : decode cX3_width 4 = .ok (.iload_n 1, 1) := by decide +kernel
theorem dX3_width_5 : decode cX3_width 5 = .ok (.aload_n 0, 1) := by decide +kernel
theorem dX3_width_6 : decode cX3_width 6 = .ok (.getfield 18, 3) := by decide +kernel
theorem dX3_width_9 : decode cX3_width 9 = .ok (.if_icmp .ge 21, 3) := by decide +kernel
theorem dX3_width_12 : decode cX3_width 12 = .ok (.iload_n 1, 1) := by decide +kernel
theorem dX3_width_13 : decode cX3_width 13 = .ok (.aload_n 0, 1) := by decide +kernel
theorem dX3_width_14 : decode cX3_width 14 = .ok (.getfield 15, 3) := by decide +kernel
theorem dX3_width_17 : decode cX3_width 17 = .ok (.arraylength, 1) := by decide +kernel
theorem dX3_width_18 : decode cX3_width 18 = .ok (.if_icmp .ge 12, 3) := by decide +kernel
theorem dX3_width_21 : decode cX3_width 21 = .ok (.aload_n 0, 1) := by decide +kernel
theorem dX3_width_22 : decode cX3_width 22 = .ok (.getfield 15, 3) := by decide +kernel
theorem dX3_width_25 : decode cX3_width 25 = .ok (.iload_n 1, 1) := by decide +kernel
theorem dX3_width_26 : decode cX3_width 26 = .ok (.iaload, 1) := by decide +kernel
theorem dX3_width_27 : decode cX3_width 27 = .ok (.goto 4, 3) := by decide +kernel
theorem dX3_width_30 : decode cX3_width 30 = .ok (.iconst 0, 1) := by decide +kernel
theorem dX3_width_31 : decode cX3_width 31 = .ok (.ireturn, 1) := by decide +kernel
theorem dX3_hasNode_0 : decode cX3_hasNode 0 = .ok (.iload_n 1, 1) := by decide +kernel
theorem dX3_hasNode_1 : decode cX3_hasNode 1 = .ok (.ifCond .lt 38, 3) := by decide +kernel
theorem dX3_hasNode_4 : decode cX3_hasNode 4 = .ok (.iload_n 1, 1) := by decide +kernel
theorem dX3_hasNode_5 : decode cX3_hasNode 5 = .ok (.aload_n 0, 1) := by decide +kernel
theorem dX3_hasNode_6 : decode cX3_hasNode 6 = .ok (.getfield 18, 3) := by decide +kernel
theorem dX3_hasNode_9 : decode cX3_hasNode 9 = .ok (.if_icmp .ge 30, 3) := by decide +kernel
theorem dX3_hasNode_12 : decode cX3_hasNode 12 = .ok (.iload_n 1, 1) := by decide +kernel
theorem dX3_hasNode_13 : decode cX3_hasNode 13 = .ok (.aload_n 0, 1) := by decide +kernel
theorem dX3_hasNode_14 : decode cX3_hasNode 14 = .ok (.getfield 15, 3) := by decide +kernel
theorem dX3_hasNode_17 : decode cX3_hasNode 17 = .ok (.arraylength, 1) := by decide +kernel
theorem dX3_hasNode_18 : decode cX3_hasNode 18 = .ok (.if_icmp .ge 21, 3) := by decide +kernel
theorem dX3_hasNode_21 : decode cX3_hasNode 21 = .ok (.iload_n 2, 1) := by decide +kernel
theorem dX3_hasNode_22 : decode cX3_hasNode 22 = .ok (.ifCond .lt 17, 3) := by decide +kernel
theorem dX3_hasNode_25 : decode cX3_hasNode 25 = .ok (.iload_n 2, 1) := by decide +kernel
theorem dX3_hasNode_26 : decode cX3_hasNode 26 = .ok (.aload_n 0, 1) := by decide +kernel
theorem dX3_hasNode_27 : decode cX3_hasNode 27 = .ok (.getfield 15, 3) := by decide +kernel
theorem dX3_hasNode_30 : decode cX3_hasNode 30 = .ok (.iload_n 1, 1) := by decide +kernel
theorem dX3_hasNode_31 : decode cX3_hasNode 31 = .ok (.iaload, 1) := by decide +kernel
theorem dX3_hasNode_32 : decode cX3_hasNode 32 = .ok (.if_icmp .ge 7, 3) := by decide +kernel
theorem dX3_hasNode_35 : decode cX3_hasNode 35 = .ok (.iconst 1, 1) := by decide +kernel
theorem dX3_hasNode_36 : decode cX3_hasNode 36 = .ok (.goto 4, 3) := by decide +kernel
theorem dX3_hasNode_39 : decode cX3_hasNode 39 = .ok (.iconst 0, 1) := by decide +kernel
theorem dX3_hasNode_40 : decode cX3_hasNode 40 = .ok (.ireturn, 1) := by decide +kernel
set_option maxRecDepth 20000 in
theorem ggX3_load_X3_hasNode : GoodIn wsX3_load wsX3_hasNode := goodIn_r _ [6, 7, 8, 9, 10, 11] (by decide +kernel) (by decide +kernel)
set_option maxRecDepth 20000 in
theorem gX3_load_X3_hasNode : GoodIn wsX3_load (wsV RX3 22 RX3 yX3_hasNode wsX3_hasNode) := goodIn_app (goodIn_of _ (by decide +kernel)) ggX3_load_X3_hasNode
theorem dX3_load_0 : decode cX3_load 0 = .ok (.iload_n 1, 1) := by decide +kernel
theorem dX3_load_1 : decode cX3_load 1 = .ok (.bipush 60, 2) := by decide +kernel
theorem dX3_load_3 : decode cX3_load 3 = .ok (.imul, 1) := by decide +kernel
theorem dX3_load_4 : decode cX3_load 4 = .ok (.iload_n 2, 1) := by decide +kernel
theorem dX3_load_5 : decode cX3_load 5 = .ok (.iadd, 1) := by decide +kernel
theorem dX3_load_6 : decode cX3_load 6 = .ok (.istore_n 3, 1) := by decide +kernel
theorem dX3_load_7 : decode cX3_load 7 = .ok (.aload_n 0, 1) := by decide +kernel
theorem dX3_load_8 : decode cX3_load 8 = .ok (.iload_n 1, 1) := by decide +kernel
theorem dX3_load_9 : decode cX3_load 9 = .ok (.iload_n 2, 1) := by decide +kernel
theorem dX3_load_10 : decode cX3_load 10 = .ok (.invokevirtual 22, 3) := by decide +kernel
theorem dX3_load_13 : decode cX3_load 13 = .ok (.ifCond .eq 25, 3) := by decide +kernel
theorem dX3_load_16 : decode cX3_load 16 = .ok (.iload_n 3, 1) := by decide +kernel
theorem dX3_load_17 : decode cX3_load 17 = .ok (.ifCond .lt 21, 3) := by decide +kernel
theorem dX3_load_20 : decode cX3_load 20 = .ok (.iload_n 3, 1) := by decide +kernel
theorem dX3_load_21 : decode cX3_load 21 = .ok (.aload_n 0, 1) := by decide +kernel
theorem dX3_load_22 : decode cX3_load 22 = .ok (.getfield 11, 3) := by decide +kernel
theorem dX3_load_25 : decode cX3_load 25 = .ok (.arraylength, 1) := by decide +kernel
theorem dX3_load_26 : decode cX3_load 26 = .ok (.if_icmp .ge 12, 3) := by decide +kernel
theorem dX3_load_29 : decode cX3_load 29 = .ok (.aload_n 0, 1) := by decide +kernel
theorem dX3_load_30 : decode cX3_load 30 = .ok (.getfield 11, 3) := by decide +kernel
theorem dX3_load_33 : decode cX3_load 33 = .ok (.iload_n 3, 1) := by decide +kernel
theorem dX3_load_34 : decode cX3_load 34 = .ok (.iaload, 1) := by decide +kernel
theorem dX3_load_35 : decode cX3_load 35 = .ok (.goto 4, 3) := by decide +kernel
theorem dX3_load_38 : decode cX3_load 38 = .ok (.iconst 0, 1) := by decide +kernel
theorem dX3_load_39 : decode cX3_load 39 = .ok (.ireturn, 1) := by decide +kernel
set_option maxRecDepth 20000 in
theorem ggX3_setLoad_X3_hasNode : GoodIn wsX3_setLoad wsX3_hasNode := goodIn_r _ [6, 7, 8, 9, 10, 11] (by decide +kernel) (by decide +kernel)
set_option maxRecDepth 20000 in
theorem gX3_setLoad_X3_hasNode : GoodIn wsX3_setLoad (wsV RX3 22 RX3 yX3_hasNode wsX3_hasNode) := goodIn_app (goodIn_of _ (by decide +kernel)) ggX3_setLoad_X3_hasNode
theorem dX3_setLoad_0 : decode cX3_setLoad 0 = .ok (.iload_n 1, 1) := by decide +kernel
theorem dX3_setLoad_1 : decode cX3_setLoad 1 = .ok (.bipush 60, 2) := by decide +kernel
theorem dX3_setLoad_3 : decode cX3_setLoad 3 = .ok (.imul, 1) := by decide +kernel
theorem dX3_setLoad_4 : decode cX3_setLoad 4 = .ok (.iload_n 2, 1) := by decide +kernel
theorem dX3_setLoad_5 : decode cX3_setLoad 5 = .ok (.iadd, 1) := by decide +kernel
theorem dX3_setLoad_6 : decode cX3_setLoad 6 = .ok (.istore 4, 2) := by decide +kernel
theorem dX3_setLoad_8 : decode cX3_setLoad 8 = .ok (.aload_n 0, 1) := by decide +kernel
theorem dX3_setLoad_9 : decode cX3_setLoad 9 = .ok (.iload_n 1, 1) := by decide +kernel
theorem dX3_setLoad_10 : decode cX3_setLoad 10 = .ok (.iload_n 2, 1) := by decide +kernel
theorem dX3_setLoad_11 : decode cX3_setLoad 11 = .ok (.invokevirtual 22, 3) := by decide +kernel
theorem dX3_setLoad_14 : decode cX3_setLoad 14 = .ok (.ifCond .eq 26, 3) := by decide +kernel
theorem dX3_setLoad_17 : decode cX3_setLoad 17 = .ok (.iload 4, 2) := by decide +kernel
theorem dX3_setLoad_19 : decode cX3_setLoad 19 = .ok (.ifCond .lt 21, 3) := by decide +kernel
theorem dX3_setLoad_22 : decode cX3_setLoad 22 = .ok (.iload 4, 2) := by decide +kernel
theorem dX3_setLoad_24 : decode cX3_setLoad 24 = .ok (.aload_n 0, 1) := by decide +kernel
theorem dX3_setLoad_25 : decode cX3_setLoad 25 = .ok (.getfield 11, 3) := by decide +kernel
theorem dX3_setLoad_28 : decode cX3_setLoad 28 = .ok (.arraylength, 1) := by decide +kernel
theorem dX3_setLoad_29 : decode cX3_setLoad 29 = .ok (.if_icmp .ge 11, 3) := by decide +kernel
theorem dX3_setLoad_32 : decode cX3_setLoad 32 = .ok (.aload_n 0, 1) := by decide +kernel
theorem dX3_setLoad_33 : decode cX3_setLoad 33 = .ok (.getfield 11, 3) := by decide +kernel
theorem dX3_setLoad_36 : decode cX3_setLoad 36 = .ok (.iload 4, 2) := by decide +kernel
theorem dX3_setLoad_38 : decode cX3_setLoad 38 = .ok (.iload_n 3, 1) := by decide +kernel
theorem dX3_setLoad_39 : decode cX3_setLoad 39 = .ok (.iastore, 1) := by decide +kernel
theorem dX3_setLoad_40 : decode cX3_setLoad 40 = .ok (.return_, 1) := by decide +kernel
theorem dX3_setWidth_0 : decode cX3_setWidth 0 = .ok (.iload_n 1, 1) := by decide +kernel
theorem dX3_setWidth_1 : decode cX3_setWidth 1 = .ok (.ifCond .lt 19, 3) := by decide +kernel
theorem dX3_setWidth_4 : decode cX3_setWidth 4 = .ok (.iload_n 1, 1) := by decide +kernel
theorem dX3_setWidth_5 : decode cX3_setWidth 5 = .ok (.aload_n 0, 1) := by decide +kernel
theorem dX3_setWidth_6 : decode cX3_setWidth 6 = .ok (.getfield 15, 3) := by decide +kernel
theorem dX3_setWidth_9 : decode cX3_setWidth 9 = .ok (.arraylength, 1) := by decide +kernel
theorem dX3_setWidth_10 : decode cX3_setWidth 10 = .ok (.if_icmp .ge 10, 3) := by decide +kernel
theorem dX3_setWidth_13 : decode cX3_setWidth 13 = .ok (.aload_n 0, 1) := by decide +kernel
theorem dX3_setWidth_14 : decode cX3_setWidth 14 = .ok (.getfield 15, 3) := by decide +kernel
theorem dX3_setWidth_17 : decode cX3_setWidth 17 = .ok (.iload_n 1, 1) := by decide +kernel
theorem dX3_setWidth_18 : decode cX3_setWidth 18 = .ok (.iload_n 2, 1) := by decide +kernel
theorem dX3_setWidth_19 : decode cX3_setWidth 19 = .ok (.iastore, 1) := by decide +kernel
theorem dX3_setWidth_20 : decode cX3_setWidth 20 = .ok (.return_, 1) := by decide +kernel
set_option maxRecDepth 20000 in
theorem ggX3_entriesBefore_X3_width : GoodIn wsX3_entriesBefore wsX3_width := goodIn_r _ [5, 6, 7, 17, 18, 19] (by decide +kernel) (by decide +kernel)
set_option maxRecDepth 20000 in
theorem gX3_entriesBefore_X3_width : GoodIn wsX3_entriesBefore (wsV RX3 26 RX3 yX3_width wsX3_width) := goodIn_app (goodIn_of _ (by decide +kernel)) ggX3_entriesBefore_X3_width
set_option maxRecDepth 20000 in
theorem ggX3_entriesBefore_X3_load : GoodIn wsX3_entriesBefore wsX3_load := goodIn_r _ [11, 12, 13, 14, 15, 4, 16, 6, 7, 17, 18, 19] (by decide +kernel) (by decide +kernel)
set_option maxRecDepth 20000 in
theorem gX3_entriesBefore_X3_load : GoodIn wsX3_entriesBefore (wsV RX3 30 RX3 yX3_load wsX3_load) := goodIn_app (goodIn_of _ (by decide +kernel)) ggX3_entriesBefore_X3_load
theorem dX3_entriesBefore_0 : decode cX3_entriesBefore 0 = .ok (.iconst 0, 1) := by decide +kernel
theorem dX3_entriesBefore_1 : decode cX3_entriesBefore 1 = .ok (.istore_n 3, 1) := by decide +kernel
theorem dX3_entriesBefore_2 : decode cX3_entriesBefore 2 = .ok (.iconst 0, 1) := by decide +kernel
theorem dX3_entriesBefore_3 : decode cX3_entriesBefore 3 = .ok (.istore 4, 2) := by decide +kernel
theorem dX3_entriesBefore_5 : decode cX3_entriesBefore 5 = .ok (.iload 4, 2) := by decide +kernel
theorem dX3_entriesBefore_7 : decode cX3_entriesBefore 7 = .ok (.iload_n 2, 1) := by decide +kernel
theorem dX3_entriesBefore_8 : decode cX3_entriesBefore 8 = .ok (.if_icmp .ge 29, 3) := by decide +kernel
theorem dX3_entriesBefore_11 : decode cX3_entriesBefore 11 = .ok (.iload 4, 2) := by decide +kernel
theorem dX3_entriesBefore_13 : decode cX3_entriesBefore 13 = .ok (.aload_n 0, 1) := by decide +kernel
theorem dX3_entriesBefore_14 : decode cX3_entriesBefore 14 = .ok (.iload_n 1, 1) := by decide +kernel
theorem dX3_entriesBefore_15 : decode cX3_entriesBefore 15 = .ok (.invokevirtual 26, 3) := by decide +kernel
theorem dX3_entriesBefore_18 : decode cX3_entriesBefore 18 = .ok (.if_icmp .ge 19, 3) := by decide +kernel
theorem dX3_entriesBefore_21 : decode cX3_entriesBefore 21 = .ok (.iload_n 3, 1) := by decide +kernel
theorem dX3_entriesBefore_22 : decode cX3_entriesBefore 22 = .ok (.aload_n 0, 1) := by decide +kernel
theorem dX3_entriesBefore_23 : decode cX3_entriesBefore 23 = .ok (.iload_n 1, 1) := by decide +kernel
theorem dX3_entriesBefore_24 : decode cX3_entriesBefore 24 = .ok (.iload 4, 2) := by decide +kernel
theorem dX3_entriesBefore_26 : decode cX3_entriesBefore 26 = .ok (.invokevirtual 30, 3) := by decide +kernel
theorem dX3_entriesBefore_29 : decode cX3_entriesBefore 29 = .ok (.iadd, 1) := by decide +kernel
theorem dX3_entriesBefore_30 : decode cX3_entriesBefore 30 = .ok (.istore_n 3, 1) := by decide +kernel
theorem dX3_entriesBefore_31 : decode cX3_entriesBefore 31 = .ok (.iinc 4 1, 3) := by decide +kernel
theorem dX3_entriesBefore_34 : decode cX3_entriesBefore 34 = .ok (.goto (-29), 3) := by decide +kernel
theorem dX3_entriesBefore_37 : decode cX3_entriesBefore 37 = .ok (.iload_n 3, 1) := by decide +kernel
theorem dX3_entriesBefore_38 : decode cX3_entriesBefore 38 = .ok (.ireturn, 1) := by decide +kernel
set_option maxRecDepth 20000 in
theorem ggX3_boxesBefore_X3_entriesBefore : GoodIn wsX3_boxesBefore wsX3_entriesBefore := goodIn_r _ [5, 6, 7, 8, 4, 9, 10, 11, 12, 13, 14, 15, 16, 17, 18, 19, 20, 21, 22, 23] (by decide +kernel) (by decide +kernel)
set_option maxRecDepth 20000 in
theorem gX3_boxesBefore_X3_entriesBefore : GoodIn wsX3_boxesBefore (wsV RX3 34 RX3 yX3_entriesBefore wsX3_entriesBefore) := goodIn_app (goodIn_of _ (by decide +kernel)) ggX3_boxesBefore_X3_entriesBefore
theorem dX3_boxesBefore_0 : decode cX3_boxesBefore 0 = .ok (.iload_n 2, 1) := by decide +kernel
theorem dX3_boxesBefore_1 : decode cX3_boxesBefore 1 = .ok (.istore_n 3, 1) := by decide +kernel
theorem dX3_boxesBefore_2 : decode cX3_boxesBefore 2 = .ok (.iload_n 1, 1) := by decide +kernel
theorem dX3_boxesBefore_3 : decode cX3_boxesBefore 3 = .ok (.istore 4, 2) := by decide +kernel
theorem dX3_boxesBefore_5 : decode cX3_boxesBefore 5 = .ok (.iload 4, 2) := by decide +kernel
theorem dX3_boxesBefore_7 : decode cX3_boxesBefore 7 = .ok (.ifCond .lt 17, 3) := by decide +kernel
theorem dX3_boxesBefore_10 : decode cX3_boxesBefore 10 = .ok (.aload_n 0, 1) := by decide +kernel
theorem dX3_boxesBefore_11 : decode cX3_boxesBefore 11 = .ok (.iload 4, 2) := by decide +kernel
theorem dX3_boxesBefore_13 : decode cX3_boxesBefore 13 = .ok (.iload_n 3, 1) := by decide +kernel
theorem dX3_boxesBefore_14 : decode cX3_boxesBefore 14 = .ok (.invokevirtual 34, 3) := by decide +kernel
theorem dX3_boxesBefore_17 : decode cX3_boxesBefore 17 = .ok (.istore_n 3, 1) := by decide +kernel
theorem dX3_boxesBefore_18 : decode cX3_boxesBefore 18 = .ok (.iinc 4 (-1), 3) := by decide +kernel
theorem dX3_boxesBefore_21 : decode cX3_boxesBefore 21 = .ok (.goto (-16), 3) := by decide +kernel
theorem dX3_boxesBefore_24 : decode cX3_boxesBefore 24 = .ok (.iload_n 3, 1) := by decide +kernel
theorem dX3_boxesBefore_25 : decode cX3_boxesBefore 25 = .ok (.ireturn, 1) := by decide +kernel
set_option maxRecDepth 20000 in
theorem ggX3_holder_X3_width : GoodIn wsX3_holder wsX3_width := goodIn_r _ [5, 6, 7, 17, 18, 19] (by decide +kernel) (by decide +kernel)
set_option maxRecDepth 20000 in
theorem gX3_holder_X3_width : GoodIn wsX3_holder (wsV RX3 26 RX3 yX3_width wsX3_width) := goodIn_app (goodIn_of _ (by decide +kernel)) ggX3_holder_X3_width
set_option maxRecDepth 20000 in
theorem ggX3_holder_X3_load : GoodIn wsX3_holder wsX3_load := goodIn_r _ [11, 12, 13, 14, 15, 4, 16, 6, 7, 17, 18, 19] (by decide +kernel) (by decide +kernel)
set_option maxRecDepth 20000 in
theorem gX3_holder_X3_load : GoodIn wsX3_holder (wsV RX3 30 RX3 yX3_load wsX3_load) := goodIn_app (goodIn_of _ (by decide +kernel)) ggX3_holder_X3_load
theorem dX3_holder_0 : decode cX3_holder 0 = .ok (.iconst 0, 1) := by decide +kernel
theorem dX3_holder_1 : decode cX3_holder 1 = .ok (.istore_n 3, 1) := by decide +kernel
theorem dX3_holder_2 : decode cX3_holder 2 = .ok (.iconst 0, 1) := by decide +kernel
theorem dX3_holder_3 : decode cX3_holder 3 = .ok (.istore 4, 2) := by decide +kernel
theorem dX3_holder_5 : decode cX3_holder 5 = .ok (.iload 4, 2) := by decide +kernel
theorem dX3_holder_7 : decode cX3_holder 7 = .ok (.aload_n 0, 1) := by decide +kernel
theorem dX3_holder_8 : decode cX3_holder 8 = .ok (.iload_n 1, 1) := by decide +kernel
theorem dX3_holder_9 : decode cX3_holder 9 = .ok (.invokevirtual 26, 3) := by decide +kernel
theorem dX3_holder_12 : decode cX3_holder 12 = .ok (.if_icmp .ge 27, 3) := by decide +kernel
theorem dX3_holder_15 : decode cX3_holder 15 = .ok (.iload_n 3, 1) := by decide +kernel
theorem dX3_holder_16 : decode cX3_holder 16 = .ok (.aload_n 0, 1) := by decide +kernel
theorem dX3_holder_17 : decode cX3_holder 17 = .ok (.iload_n 1, 1) := by decide +kernel
theorem dX3_holder_18 : decode cX3_holder 18 = .ok (.iload 4, 2) := by decide +kernel
theorem dX3_holder_20 : decode cX3_holder 20 = .ok (.invokevirtual 30, 3) := by decide +kernel
theorem dX3_holder_23 : decode cX3_holder 23 = .ok (.iadd, 1) := by decide +kernel
theorem dX3_holder_24 : decode cX3_holder 24 = .ok (.istore_n 3, 1) := by decide +kernel
theorem dX3_holder_25 : decode cX3_holder 25 = .ok (.iload_n 2, 1) := by decide +kernel
theorem dX3_holder_26 : decode cX3_holder 26 = .ok (.iload_n 3, 1) := by decide +kernel
theorem dX3_holder_27 : decode cX3_holder 27 = .ok (.if_icmp .ge 6, 3) := by decide +kernel
theorem dX3_holder_30 : decode cX3_holder 30 = .ok (.iload 4, 2) := by decide +kernel
theorem dX3_holder_32 : decode cX3_holder 32 = .ok (.ireturn, 1) := by decide +kernel
theorem dX3_holder_33 : decode cX3_holder 33 = .ok (.iinc 4 1, 3) := by decide +kernel
theorem dX3_holder_36 : decode cX3_holder 36 = .ok (.goto (-31), 3) := by decide +kernel
theorem dX3_holder_39 : decode cX3_holder 39 = .ok (.aload_n 0, 1) := by decide +kernel
theorem dX3_holder_40 : decode cX3_holder 40 = .ok (.iload_n 1, 1) := by decide +kernel
theorem dX3_holder_41 : decode cX3_holder 41 = .ok (.invokevirtual 26, 3) := by decide +kernel
theorem dX3_holder_44 : decode cX3_holder 44 = .ok (.iconst 1, 1) := by decide +kernel
theorem dX3_holder_45 : decode cX3_holder 45 = .ok (.isub, 1) := by decide +kernel
theorem dX3_holder_46 : decode cX3_holder 46 = .ok (.ireturn, 1) := by decide +kernel
set_option maxRecDepth 20000 in
theorem ggX3_parent_X3_hasLevel : GoodIn wsX3_parent wsX3_hasLevel := goodIn_r _ [5, 6, 25, 26, 27] (by decide +kernel) (by decide +kernel)
set_option maxRecDepth 20000 in
theorem gX3_parent_X3_hasLevel : GoodIn wsX3_parent (wsV RX3 37 RX3 yX3_hasLevel wsX3_hasLevel) := goodIn_app (goodIn_of _ (by decide +kernel)) ggX3_parent_X3_hasLevel
set_option maxRecDepth 20000 in
theorem ggX3_parent_X3_holder : GoodIn wsX3_parent wsX3_holder := goodIn_r _ [10, 11, 12, 13, 4, 14, 6, 15, 16, 17, 18, 19, 20, 21, 22, 23, 24, 25, 26, 27] (by decide +kernel) (by decide +kernel)
set_option maxRecDepth 20000 in
theorem gX3_parent_X3_holder : GoodIn wsX3_parent (wsV RX3 41 RX3 yX3_holder wsX3_holder) := goodIn_app (goodIn_of _ (by decide +kernel)) ggX3_parent_X3_holder
theorem dX3_parent_0 : decode cX3_parent 0 = .ok (.aload_n 0, 1) := by decide +kernel
theorem dX3_parent_1 : decode cX3_parent 1 = .ok (.iload_n 1, 1) := by decide +kernel
theorem dX3_parent_2 : decode cX3_parent 2 = .ok (.iconst 1, 1) := by decide +kernel
theorem dX3_parent_3 : decode cX3_parent 3 = .ok (.iadd, 1) := by decide +kernel
theorem dX3_parent_4 : decode cX3_parent 4 = .ok (.invokevirtual 37, 3) := by decide +kernel
theorem dX3_parent_7 : decode cX3_parent 7 = .ok (.ifCond .eq 14, 3) := by decide +kernel
theorem dX3_parent_10 : decode cX3_parent 10 = .ok (.aload_n 0, 1) := by decide +kernel
theorem dX3_parent_11 : decode cX3_parent 11 = .ok (.iload_n 1, 1) := by decide +kernel
theorem dX3_parent_12 : decode cX3_parent 12 = .ok (.iconst 1, 1) := by decide +kernel
theorem dX3_parent_13 : decode cX3_parent 13 = .ok (.iadd, 1) := by decide +kernel
theorem dX3_parent_14 : decode cX3_parent 14 = .ok (.iload_n 2, 1) := by decide +kernel
theorem dX3_parent_15 : decode cX3_parent 15 = .ok (.invokevirtual 41, 3) := by decide +kernel
theorem dX3_parent_18 : decode cX3_parent 18 = .ok (.goto 4, 3) := by decide +kernel
theorem dX3_parent_21 : decode cX3_parent 21 = .ok (.iconst (-1), 1) := by decide +kernel
theorem dX3_parent_22 : decode cX3_parent 22 = .ok (.ireturn, 1) := by decide +kernel
set_option maxRecDepth 20000 in
theorem ggX3_partner_X3_entriesBefore : GoodIn wsX3_partner wsX3_entriesBefore := goodIn_r _ [5, 6, 7, 8, 4, 9, 10, 11, 12, 13, 14, 15, 16, 17, 18, 19, 20, 21, 22, 23] (by decide +kernel) (by decide +kernel)
set_option maxRecDepth 20000 in
theorem gX3_partner_X3_entriesBefore : GoodIn wsX3_partner (wsV RX3 34 RX3 yX3_entriesBefore wsX3_entriesBefore) := goodIn_app (goodIn_of _ (by decide +kernel)) ggX3_partner_X3_entriesBefore
set_option maxRecDepth 20000 in
theorem ggX3_partner_X3_load : GoodIn wsX3_partner wsX3_load := goodIn_r _ [15, 16, 17, 18, 19, 4, 20, 10, 11, 21, 22, 23] (by decide +kernel) (by decide +kernel)
set_option maxRecDepth 20000 in
theorem gX3_partner_X3_load : GoodIn wsX3_partner (wsV RX3 30 RX3 yX3_load wsX3_load) := goodIn_app (goodIn_of _ (by decide +kernel)) ggX3_partner_X3_load
theorem dX3_partner_0 : decode cX3_partner 0 = .ok (.aload_n 0, 1) := by decide +kernel
theorem dX3_partner_1 : decode cX3_partner 1 = .ok (.iload_n 1, 1) := by decide +kernel
theorem dX3_partner_2 : decode cX3_partner 2 = .ok (.iconst 1, 1) := by decide +kernel
theorem dX3_partner_3 : decode cX3_partner 3 = .ok (.iadd, 1) := by decide +kernel
theorem dX3_partner_4 : decode cX3_partner 4 = .ok (.iload_n 3, 1) := by decide +kernel
theorem dX3_partner_5 : decode cX3_partner 5 = .ok (.invokevirtual 34, 3) := by decide +kernel
theorem dX3_partner_8 : decode cX3_partner 8 = .ok (.istore 4, 2) := by decide +kernel
theorem dX3_partner_10 : decode cX3_partner 10 = .ok (.iload 4, 2) := by decide +kernel
theorem dX3_partner_12 : decode cX3_partner 12 = .ok (.aload_n 0, 1) := by decide +kernel
theorem dX3_partner_13 : decode cX3_partner 13 = .ok (.iload_n 1, 1) := by decide +kernel
theorem dX3_partner_14 : decode cX3_partner 14 = .ok (.iconst 1, 1) := by decide +kernel
theorem dX3_partner_15 : decode cX3_partner 15 = .ok (.iadd, 1) := by decide +kernel
theorem dX3_partner_16 : decode cX3_partner 16 = .ok (.iload_n 3, 1) := by decide +kernel
theorem dX3_partner_17 : decode cX3_partner 17 = .ok (.invokevirtual 30, 3) := by decide +kernel
theorem dX3_partner_20 : decode cX3_partner 20 = .ok (.iadd, 1) := by decide +kernel
theorem dX3_partner_21 : decode cX3_partner 21 = .ok (.iconst 1, 1) := by decide +kernel
theorem dX3_partner_22 : decode cX3_partner 22 = .ok (.isub, 1) := by decide +kernel
theorem dX3_partner_23 : decode cX3_partner 23 = .ok (.istore 5, 2) := by decide +kernel
theorem dX3_partner_25 : decode cX3_partner 25 = .ok (.iload_n 2, 1) := by decide +kernel
theorem dX3_partner_26 : decode cX3_partner 26 = .ok (.iload 5, 2) := by decide +kernel
theorem dX3_partner_28 : decode cX3_partner 28 = .ok (.if_icmp .ge 7, 3) := by decide +kernel
theorem dX3_partner_31 : decode cX3_partner 31 = .ok (.iload_n 2, 1) := by decide +kernel
theorem dX3_partner_32 : decode cX3_partner 32 = .ok (.iconst 1, 1) := by decide +kernel
theorem dX3_partner_33 : decode cX3_partner 33 = .ok (.iadd, 1) := by decide +kernel
theorem dX3_partner_34 : decode cX3_partner 34 = .ok (.ireturn, 1) := by decide +kernel
theorem dX3_partner_35 : decode cX3_partner 35 = .ok (.iload_n 2, 1) := by decide +kernel
theorem dX3_partner_36 : decode cX3_partner 36 = .ok (.iload 4, 2) := by decide +kernel
theorem dX3_partner_38 : decode cX3_partner 38 = .ok (.if_icmp .le 15, 3) := by decide +kernel
theorem dX3_partner_41 : decode cX3_partner 41 = .ok (.iload_n 2, 1) := by decide +kernel
theorem dX3_partner_42 : decode cX3_partner 42 = .ok (.iload 5, 2) := by decide +kernel
theorem dX3_partner_44 : decode cX3_partner 44 = .ok (.if_icmp .gt 9, 3) := by decide +kernel
theorem dX3_partner_47 : decode cX3_partner 47 = .ok (.iload_n 2, 1) := by decide +kernel
theorem dX3_partner_48 : decode cX3_partner 48 = .ok (.iconst 1, 1) := by decide +kernel
theorem dX3_partner_49 : decode cX3_partner 49 = .ok (.isub, 1) := by decide +kernel
theorem dX3_partner_50 : decode cX3_partner 50 = .ok (.goto 4, 3) := by decide +kernel
theorem dX3_partner_53 : decode cX3_partner 53 = .ok (.iconst (-1), 1) := by decide +kernel
theorem dX3_partner_54 : decode cX3_partner 54 = .ok (.ireturn, 1) := by decide +kernel
set_option maxRecDepth 20000 in
theorem ggX3_grow_X3_addRoot : GoodIn wsX3_grow wsX3_addRoot := goodIn_r _ [6, 1, 7, 8, 9, 5, 10, 11, 12, 13, 14, 15, 16, 17, 18, 19, 20, 69, 70, 71] (by decide +kernel) (by decide +kernel)
set_option maxRecDepth 20000 in
theorem gX3_grow_X3_addRoot : GoodIn wsX3_grow (wsV RX3 44 RX3 yX3_addRoot wsX3_addRoot) := goodIn_app (goodIn_of _ (by decide +kernel)) ggX3_grow_X3_addRoot
set_option maxRecDepth 20000 in
theorem ggX3_grow_X3_holder : GoodIn wsX3_grow wsX3_holder := goodIn_r _ [24, 25, 26, 27, 5, 28, 1, 11, 29, 30, 31, 32, 16, 17, 18, 19, 20, 69, 70, 71] (by decide +kernel) (by decide +kernel)
set_option maxRecDepth 20000 in
theorem gX3_grow_X3_holder : GoodIn wsX3_grow (wsV RX3 41 RX3 yX3_holder wsX3_holder) := goodIn_app (goodIn_of _ (by decide +kernel)) ggX3_grow_X3_holder
set_option maxRecDepth 20000 in
theorem ggX3_grow_X3_load : GoodIn wsX3_grow wsX3_load := goodIn_r _ [32, 16, 17, 18, 19, 5, 20, 1, 11, 69, 70, 71] (by decide +kernel) (by decide +kernel)
set_option maxRecDepth 20000 in
theorem gX3_grow_X3_load : GoodIn wsX3_grow (wsV RX3 30 RX3 yX3_load wsX3_load) := goodIn_app (goodIn_of _ (by decide +kernel)) ggX3_grow_X3_load
set_option maxRecDepth 20000 in
theorem ggX3_grow_X3_setLoad : GoodIn wsX3_grow wsX3_setLoad := goodIn_r _ [15, 16, 17, 18, 19, 5, 20, 1, 11, 69, 70, 71] (by decide +kernel) (by decide +kernel)
set_option maxRecDepth 20000 in
theorem gX3_grow_X3_setLoad : GoodIn wsX3_grow (wsV RX3 48 RX3 yX3_setLoad wsX3_setLoad) := goodIn_app (goodIn_of _ (by decide +kernel)) ggX3_grow_X3_setLoad
set_option maxRecDepth 20000 in
theorem ggX3_grow_X3_parent : GoodIn wsX3_grow wsX3_parent := goodIn_r _ [36, 37, 38, 39, 5, 40, 1, 21, 22, 23, 24, 25, 26, 27, 28, 11, 29, 30, 31, 32, 16, 17, 18, 19, 20, 69, 70, 71] (by decide +kernel) (by decide +kernel)
set_option maxRecDepth 20000 in
theorem gX3_grow_X3_parent : GoodIn wsX3_grow (wsV RX3 52 RX3 yX3_parent wsX3_parent) := goodIn_app (goodIn_of _ (by decide +kernel)) ggX3_grow_X3_parent
set_option maxRecDepth 20000 in
theorem ggX3_grow_X3_relieve : GoodIn wsX3_grow wsX3_relieve := goodIn_r _ [44, 45, 46, 47, 48, 49, 50, 51, 5, 52, 53, 54, 55, 56, 25, 26, 27, 28, 1, 11, 29, 30, 31, 32, 16, 17, 18, 19, 20, 12, 13, 14, 15, 57, 58, 59, 60, 7, 8, 9, 10, 61, 62, 63, 64, 69, 70, 71] (by decide +kernel) (by decide +kernel)
set_option maxRecDepth 20000 in
theorem gX3_grow_X3_relieve : GoodIn wsX3_grow (wsV RX3 55 RX3 yX3_relieve wsX3_relieve) := goodIn_app (goodIn_of _ (by decide +kernel)) ggX3_grow_X3_relieve
set_option maxRecDepth 20000 in
theorem ggX3_grow_X3_gainEntry : GoodIn wsX3_grow wsX3_gainEntry := goodIn_r _ [68, 2, 3, 4, 5, 6, 1, 7, 8, 9, 10, 11, 12, 13, 14, 15, 16, 17, 18, 19, 20, 29, 30, 31, 32, 69, 70, 71] (by decide +kernel) (by decide +kernel)
set_option maxRecDepth 20000 in
theorem gX3_grow_X3_gainEntry : GoodIn wsX3_grow (wsV RX3 59 RX3 yX3_gainEntry wsX3_gainEntry) := goodIn_app (goodIn_of _ (by decide +kernel)) ggX3_grow_X3_gainEntry
theorem dX3_grow_0 : decode cX3_grow 0 = .ok (.aload_n 0, 1) := by decide +kernel
theorem dX3_grow_1 : decode cX3_grow 1 = .ok (.getfield 18, 3) := by decide +kernel
theorem dX3_grow_4 : decode cX3_grow 4 = .ok (.ifCond .ne 9, 3) := by decide +kernel
theorem dX3_grow_7 : decode cX3_grow 7 = .ok (.aload_n 0, 1) := by decide +kernel
theorem dX3_grow_8 : decode cX3_grow 8 = .ok (.iconst 1, 1) := by decide +kernel
theorem dX3_grow_9 : decode cX3_grow 9 = .ok (.invokevirtual 44, 3) := by decide +kernel
theorem dX3_grow_12 : decode cX3_grow 12 = .ok (.return_, 1) := by decide +kernel
theorem dX3_grow_13 : decode cX3_grow 13 = .ok (.aload_n 0, 1) := by decide +kernel
theorem dX3_grow_14 : decode cX3_grow 14 = .ok (.iconst 0, 1) := by decide +kernel
theorem dX3_grow_15 : decode cX3_grow 15 = .ok (.iload_n 1, 1) := by decide +kernel
theorem dX3_grow_16 : decode cX3_grow 16 = .ok (.invokevirtual 41, 3) := by decide +kernel
theorem dX3_grow_19 : decode cX3_grow 19 = .ok (.istore_n 2, 1) := by decide +kernel
theorem dX3_grow_20 : decode cX3_grow 20 = .ok (.aload_n 0, 1) := by decide +kernel
theorem dX3_grow_21 : decode cX3_grow 21 = .ok (.iconst 0, 1) := by decide +kernel
theorem dX3_grow_22 : decode cX3_grow 22 = .ok (.iload_n 2, 1) := by decide +kernel
theorem dX3_grow_23 : decode cX3_grow 23 = .ok (.aload_n 0, 1) := by decide +kernel
theorem dX3_grow_24 : decode cX3_grow 24 = .ok (.iconst 0, 1) := by decide +kernel
theorem dX3_grow_25 : decode cX3_grow 25 = .ok (.iload_n 2, 1) := by decide +kernel
theorem dX3_grow_26 : decode cX3_grow 26 = .ok (.invokevirtual 30, 3) := by decide +kernel
theorem dX3_grow_29 : decode cX3_grow 29 = .ok (.iconst 1, 1) := by decide +kernel
theorem dX3_grow_30 : decode cX3_grow 30 = .ok (.iadd, 1) := by decide +kernel
theorem dX3_grow_31 : decode cX3_grow 31 = .ok (.invokevirtual 48, 3) := by decide +kernel
theorem dX3_grow_34 : decode cX3_grow 34 = .ok (.iconst 0, 1) := by decide +kernel
theorem dX3_grow_35 : decode cX3_grow 35 = .ok (.istore_n 3, 1) := by decide +kernel
theorem dX3_grow_36 : decode cX3_grow 36 = .ok (.iload_n 3, 1) := by decide +kernel
theorem dX3_grow_37 : decode cX3_grow 37 = .ok (.bipush 8, 2) := by decide +kernel
theorem dX3_grow_39 : decode cX3_grow 39 = .ok (.if_icmp .ge 50, 3) := by decide +kernel
theorem dX3_grow_42 : decode cX3_grow 42 = .ok (.aload_n 0, 1) := by decide +kernel
theorem dX3_grow_43 : decode cX3_grow 43 = .ok (.iload_n 3, 1) := by decide +kernel
theorem dX3_grow_44 : decode cX3_grow 44 = .ok (.iload_n 2, 1) := by decide +kernel
theorem dX3_grow_45 : decode cX3_grow 45 = .ok (.invokevirtual 30, 3) := by decide +kernel
theorem dX3_grow_48 : decode cX3_grow 48 = .ok (.iconst 4, 1) := by decide +kernel
theorem dX3_grow_49 : decode cX3_grow 49 = .ok (.if_icmp .le 40, 3) := by decide +kernel
theorem dX3_grow_52 : decode cX3_grow 52 = .ok (.aload_n 0, 1) := by decide +kernel
theorem dX3_grow_53 : decode cX3_grow 53 = .ok (.iload_n 3, 1) := by decide +kernel
theorem dX3_grow_54 : decode cX3_grow 54 = .ok (.iload_n 2, 1) := by decide +kernel
theorem dX3_grow_55 : decode cX3_grow 55 = .ok (.invokevirtual 52, 3) := by decide +kernel
theorem dX3_grow_58 : decode cX3_grow 58 = .ok (.istore 4, 2) := by decide +kernel
theorem dX3_grow_60 : decode cX3_grow 60 = .ok (.aload_n 0, 1) := by decide +kernel
theorem dX3_grow_61 : decode cX3_grow 61 = .ok (.iload_n 3, 1) := by decide +kernel
theorem dX3_grow_62 : decode cX3_grow 62 = .ok (.iload_n 2, 1) := by decide +kernel
theorem dX3_grow_63 : decode cX3_grow 63 = .ok (.iload 4, 2) := by decide +kernel
theorem dX3_grow_65 : decode cX3_grow 65 = .ok (.invokevirtual 55, 3) := by decide +kernel
theorem dX3_grow_68 : decode cX3_grow 68 = .ok (.ifCond .eq 12, 3) := by decide +kernel
theorem dX3_grow_71 : decode cX3_grow 71 = .ok (.aload_n 0, 1) := by decide +kernel
theorem dX3_grow_72 : decode cX3_grow 72 = .ok (.iload_n 3, 1) := by decide +kernel
theorem dX3_grow_73 : decode cX3_grow 73 = .ok (.iconst 1, 1) := by decide +kernel
theorem dX3_grow_74 : decode cX3_grow 74 = .ok (.iadd, 1) := by decide +kernel
theorem dX3_grow_75 : decode cX3_grow 75 = .ok (.iload 4, 2) := by decide +kernel
theorem dX3_grow_77 : decode cX3_grow 77 = .ok (.invokevirtual 59, 3) := by decide +kernel
theorem dX3_grow_80 : decode cX3_grow 80 = .ok (.iload 4, 2) := by decide +kernel
theorem dX3_grow_82 : decode cX3_grow 82 = .ok (.istore_n 2, 1) := by decide +kernel
theorem dX3_grow_83 : decode cX3_grow 83 = .ok (.iinc 3 1, 3) := by decide +kernel
theorem dX3_grow_86 : decode cX3_grow 86 = .ok (.goto (-50), 3) := by decide +kernel
theorem dX3_grow_89 : decode cX3_grow 89 = .ok (.return_, 1) := by decide +kernel
set_option maxRecDepth 20000 in
theorem ggX3_gainEntry_X3_addRoot : GoodIn wsX3_gainEntry wsX3_addRoot := goodIn_r _ [5, 6, 7, 8, 9, 4, 10, 11, 12, 13, 14, 15, 16, 17, 18, 19, 20, 25, 26, 27] (by decide +kernel) (by decide +kernel)
set_option maxRecDepth 20000 in
theorem gX3_gainEntry_X3_addRoot : GoodIn wsX3_gainEntry (wsV RX3 44 RX3 yX3_addRoot wsX3_addRoot) := goodIn_app (goodIn_of _ (by decide +kernel)) ggX3_gainEntry_X3_addRoot
set_option maxRecDepth 20000 in
theorem ggX3_gainEntry_X3_load : GoodIn wsX3_gainEntry wsX3_load := goodIn_r _ [24, 16, 17, 18, 19, 4, 20, 6, 11, 25, 26, 27] (by decide +kernel) (by decide +kernel)
set_option maxRecDepth 20000 in
theorem gX3_gainEntry_X3_load : GoodIn wsX3_gainEntry (wsV RX3 30 RX3 yX3_load wsX3_load) := goodIn_app (goodIn_of _ (by decide +kernel)) ggX3_gainEntry_X3_load
set_option maxRecDepth 20000 in
theorem ggX3_gainEntry_X3_setLoad : GoodIn wsX3_gainEntry wsX3_setLoad := goodIn_r _ [15, 16, 17, 18, 19, 4, 20, 6, 11, 25, 26, 27] (by decide +kernel) (by decide +kernel)
set_option maxRecDepth 20000 in
theorem gX3_gainEntry_X3_setLoad : GoodIn wsX3_gainEntry (wsV RX3 48 RX3 yX3_setLoad wsX3_setLoad) := goodIn_app (goodIn_of _ (by decide +kernel)) ggX3_gainEntry_X3_setLoad
theorem dX3_gainEntry_0 : decode cX3_gainEntry 0 = .ok (.iload_n 2, 1) := by decide +kernel
theorem dX3_gainEntry_1 : decode cX3_gainEntry 1 = .ok (.ifCond .ge 11, 3) := by decide +kernel
theorem dX3_gainEntry_4 : decode cX3_gainEntry 4 = .ok (.aload_n 0, 1) := by decide +kernel
theorem dX3_gainEntry_5 : decode cX3_gainEntry 5 = .ok (.iconst 2, 1) := by decide +kernel
theorem dX3_gainEntry_6 : decode cX3_gainEntry 6 = .ok (.invokevirtual 44, 3) := by decide +kernel
theorem dX3_gainEntry_9 : decode cX3_gainEntry 9 = .ok (.goto 17, 3) := by decide +kernel
theorem dX3_gainEntry_12 : decode cX3_gainEntry 12 = .ok (.aload_n 0, 1) := by decide +kernel
theorem dX3_gainEntry_13 : decode cX3_gainEntry 13 = .ok (.iload_n 1, 1) := by decide +kernel
theorem dX3_gainEntry_14 : decode cX3_gainEntry 14 = .ok (.iload_n 2, 1) := by decide +kernel
theorem dX3_gainEntry_15 : decode cX3_gainEntry 15 = .ok (.aload_n 0, 1) := by decide +kernel
theorem dX3_gainEntry_16 : decode cX3_gainEntry 16 = .ok (.iload_n 1, 1) := by decide +kernel
theorem dX3_gainEntry_17 : decode cX3_gainEntry 17 = .ok (.iload_n 2, 1) := by decide +kernel
theorem dX3_gainEntry_18 : decode cX3_gainEntry 18 = .ok (.invokevirtual 30, 3) := by decide +kernel
theorem dX3_gainEntry_21 : decode cX3_gainEntry 21 = .ok (.iconst 1, 1) := by decide +kernel
theorem dX3_gainEntry_22 : decode cX3_gainEntry 22 = .ok (.iadd, 1) := by decide +kernel
theorem dX3_gainEntry_23 : decode cX3_gainEntry 23 = .ok (.invokevirtual 48, 3) := by decide +kernel
theorem dX3_gainEntry_26 : decode cX3_gainEntry 26 = .ok (.return_, 1) := by decide +kernel
set_option maxRecDepth 20000 in
theorem ggX3_addRoot_X3_setWidth : GoodIn wsX3_addRoot wsX3_setWidth := goodIn_r _ [6, 7, 17, 18, 19] (by decide +kernel) (by decide +kernel)
set_option maxRecDepth 20000 in
theorem gX3_addRoot_X3_setWidth : GoodIn wsX3_addRoot (wsV RX3 63 RX3 yX3_setWidth wsX3_setWidth) := goodIn_app (goodIn_of _ (by decide +kernel)) ggX3_addRoot_X3_setWidth
set_option maxRecDepth 20000 in
theorem ggX3_addRoot_X3_setLoad : GoodIn wsX3_addRoot wsX3_setLoad := goodIn_r _ [11, 12, 13, 14, 15, 5, 16, 1, 7, 17, 18, 19] (by decide +kernel) (by decide +kernel)
set_option maxRecDepth 20000 in
theorem gX3_addRoot_X3_setLoad : GoodIn wsX3_addRoot (wsV RX3 48 RX3 yX3_setLoad wsX3_setLoad) := goodIn_app (goodIn_of _ (by decide +kernel)) ggX3_addRoot_X3_setLoad
theorem dX3_addRoot_0 : decode cX3_addRoot 0 = .ok (.aload_n 0, 1) := by decide +kernel
theorem dX3_addRoot_1 : decode cX3_addRoot 1 = .ok (.getfield 18, 3) := by decide +kernel
theorem dX3_addRoot_4 : decode cX3_addRoot 4 = .ok (.bipush 8, 2) := by decide +kernel
theorem dX3_addRoot_6 : decode cX3_addRoot 6 = .ok (.if_icmp .ge 36, 3) := by decide +kernel
theorem dX3_addRoot_9 : decode cX3_addRoot 9 = .ok (.aload_n 0, 1) := by decide +kernel
theorem dX3_addRoot_10 : decode cX3_addRoot 10 = .ok (.dup, 1) := by decide +kernel
theorem dX3_addRoot_11 : decode cX3_addRoot 11 = .ok (.getfield 18, 3) := by decide +kernel
theorem dX3_addRoot_14 : decode cX3_addRoot 14 = .ok (.iconst 1, 1) := by decide +kernel
theorem dX3_addRoot_15 : decode cX3_addRoot 15 = .ok (.iadd, 1) := by decide +kernel
theorem dX3_addRoot_16 : decode cX3_addRoot 16 = .ok (.putfield 18, 3) := by decide +kernel
theorem dX3_addRoot_19 : decode cX3_addRoot 19 = .ok (.aload_n 0, 1) := by decide +kernel
theorem dX3_addRoot_20 : decode cX3_addRoot 20 = .ok (.aload_n 0, 1) := by decide +kernel
theorem dX3_addRoot_21 : decode cX3_addRoot 21 = .ok (.getfield 18, 3) := by decide +kernel
theorem dX3_addRoot_24 : decode cX3_addRoot 24 = .ok (.iconst 1, 1) := by decide +kernel
theorem dX3_addRoot_25 : decode cX3_addRoot 25 = .ok (.isub, 1) := by decide +kernel
theorem dX3_addRoot_26 : decode cX3_addRoot 26 = .ok (.iconst 1, 1) := by decide +kernel
theorem dX3_addRoot_27 : decode cX3_addRoot 27 = .ok (.invokevirtual 63, 3) := by decide +kernel
theorem dX3_addRoot_30 : decode cX3_addRoot 30 = .ok (.aload_n 0, 1) := by decide +kernel
theorem dX3_addRoot_31 : decode cX3_addRoot 31 = .ok (.aload_n 0, 1) := by decide +kernel
theorem dX3_addRoot_32 : decode cX3_addRoot 32 = .ok (.getfield 18, 3) := by decide +kernel
theorem dX3_addRoot_35 : decode cX3_addRoot 35 = .ok (.iconst 1, 1) := by decide +kernel
theorem dX3_addRoot_36 : decode cX3_addRoot 36 = .ok (.isub, 1) := by decide +kernel
theorem dX3_addRoot_37 : decode cX3_addRoot 37 = .ok (.iconst 0, 1) := by decide +kernel
theorem dX3_addRoot_38 : decode cX3_addRoot 38 = .ok (.iload_n 1, 1) := by decide +kernel
theorem dX3_addRoot_39 : decode cX3_addRoot 39 = .ok (.invokevirtual 48, 3) := by decide +kernel
theorem dX3_addRoot_42 : decode cX3_addRoot 42 = .ok (.return_, 1) := by decide +kernel
set_option maxRecDepth 20000 in
theorem ggX3_relieve_X3_partner : GoodIn wsX3_relieve wsX3_partner := goodIn_r _ [9, 10, 11, 12, 8, 13, 14, 15, 16, 17, 18, 19, 20, 21, 22, 23, 24, 25, 26, 27, 28, 45, 46, 47] (by decide +kernel) (by decide +kernel)
set_option maxRecDepth 20000 in
theorem gX3_relieve_X3_partner : GoodIn wsX3_relieve (wsV RX3 66 RX3 yX3_partner wsX3_partner) := goodIn_app (goodIn_of _ (by decide +kernel)) ggX3_relieve_X3_partner
set_option maxRecDepth 20000 in
theorem ggX3_relieve_X3_setLoad : GoodIn wsX3_relieve wsX3_setLoad := goodIn_r _ [32, 24, 25, 26, 27, 8, 28, 18, 19, 45, 46, 47] (by decide +kernel) (by decide +kernel)
set_option maxRecDepth 20000 in
theorem gX3_relieve_X3_setLoad : GoodIn wsX3_relieve (wsV RX3 48 RX3 yX3_setLoad wsX3_setLoad) := goodIn_app (goodIn_of _ (by decide +kernel)) ggX3_relieve_X3_setLoad
set_option maxRecDepth 20000 in
theorem ggX3_relieve_X3_insertNode : GoodIn wsX3_relieve wsX3_insertNode := goodIn_r _ [36, 14, 15, 16, 8, 17, 18, 19, 37, 38, 39, 40, 20, 21, 22, 23, 24, 25, 26, 27, 28, 29, 30, 31, 32, 45, 46, 47] (by decide +kernel) (by decide +kernel)
set_option maxRecDepth 20000 in
theorem gX3_relieve_X3_insertNode : GoodIn wsX3_relieve (wsV RX3 70 RX3 yX3_insertNode wsX3_insertNode) := goodIn_app (goodIn_of _ (by decide +kernel)) ggX3_relieve_X3_insertNode
set_option maxRecDepth 20000 in
theorem ggX3_relieve_X3_load : GoodIn wsX3_relieve wsX3_load := goodIn_r _ [23, 24, 25, 26, 27, 8, 28, 18, 19, 45, 46, 47] (by decide +kernel) (by decide +kernel)
set_option maxRecDepth 20000 in
theorem gX3_relieve_X3_load : GoodIn wsX3_relieve (wsV RX3 30 RX3 yX3_load wsX3_load) := goodIn_app (goodIn_of _ (by decide +kernel)) ggX3_relieve_X3_load
set_option maxRecDepth 20000 in
theorem ggX3_relieve_X3_halve : GoodIn wsX3_relieve wsX3_halve := goodIn_r _ [44, 20, 21, 22, 8, 23, 24, 25, 26, 27, 28, 18, 19, 29, 30, 31, 32, 45, 46, 47] (by decide +kernel) (by decide +kernel)
set_option maxRecDepth 20000 in
theorem gX3_relieve_X3_halve : GoodIn wsX3_relieve (wsV RX3 78 RX3 yX3_halve wsX3_halve) := goodIn_app (goodIn_of _ (by decide +kernel)) ggX3_relieve_X3_halve
theorem dX3_relieve_0 : decode cX3_relieve 0 = .ok (.aload_n 0, 1) := by decide +kernel
theorem dX3_relieve_1 : decode cX3_relieve 1 = .ok (.iload_n 1, 1) := by decide +kernel
theorem dX3_relieve_2 : decode cX3_relieve 2 = .ok (.iload_n 2, 1) := by decide +kernel
theorem dX3_relieve_3 : decode cX3_relieve 3 = .ok (.iload_n 3, 1) := by decide +kernel
theorem dX3_relieve_4 : decode cX3_relieve 4 = .ok (.invokevirtual 66, 3) := by decide +kernel
theorem dX3_relieve_7 : decode cX3_relieve 7 = .ok (.istore 4, 2) := by decide +kernel
theorem dX3_relieve_9 : decode cX3_relieve 9 = .ok (.iload 4, 2) := by decide +kernel
theorem dX3_relieve_11 : decode cX3_relieve 11 = .ok (.ifCond .ge 21, 3) := by decide +kernel
theorem dX3_relieve_14 : decode cX3_relieve 14 = .ok (.aload_n 0, 1) := by decide +kernel
theorem dX3_relieve_15 : decode cX3_relieve 15 = .ok (.iload_n 1, 1) := by decide +kernel
theorem dX3_relieve_16 : decode cX3_relieve 16 = .ok (.iload_n 2, 1) := by decide +kernel
theorem dX3_relieve_17 : decode cX3_relieve 17 = .ok (.iconst 3, 1) := by decide +kernel
theorem dX3_relieve_18 : decode cX3_relieve 18 = .ok (.invokevirtual 48, 3) := by decide +kernel
theorem dX3_relieve_21 : decode cX3_relieve 21 = .ok (.aload_n 0, 1) := by decide +kernel
theorem dX3_relieve_22 : decode cX3_relieve 22 = .ok (.iload_n 1, 1) := by decide +kernel
theorem dX3_relieve_23 : decode cX3_relieve 23 = .ok (.iload_n 2, 1) := by decide +kernel
theorem dX3_relieve_24 : decode cX3_relieve 24 = .ok (.iconst 1, 1) := by decide +kernel
theorem dX3_relieve_25 : decode cX3_relieve 25 = .ok (.iadd, 1) := by decide +kernel
theorem dX3_relieve_26 : decode cX3_relieve 26 = .ok (.iconst 2, 1) := by decide +kernel
theorem dX3_relieve_27 : decode cX3_relieve 27 = .ok (.invokevirtual 70, 3) := by decide +kernel
theorem dX3_relieve_30 : decode cX3_relieve 30 = .ok (.iconst 1, 1) := by decide +kernel
theorem dX3_relieve_31 : decode cX3_relieve 31 = .ok (.ireturn, 1) := by decide +kernel
theorem dX3_relieve_32 : decode cX3_relieve 32 = .ok (.iload_n 2, 1) := by decide +kernel
theorem dX3_relieve_33 : decode cX3_relieve 33 = .ok (.iload 4, 2) := by decide +kernel
theorem dX3_relieve_35 : decode cX3_relieve 35 = .ok (.invokestatic 73, 3) := by decide +kernel
theorem dX3_relieve_38 : decode cX3_relieve 38 = .ok (.istore 5, 2) := by decide +kernel
theorem dX3_relieve_40 : decode cX3_relieve 40 = .ok (.aload_n 0, 1) := by decide +kernel
theorem dX3_relieve_41 : decode cX3_relieve 41 = .ok (.iload_n 1, 1) := by decide +kernel
theorem dX3_relieve_42 : decode cX3_relieve 42 = .ok (.iload 4, 2) := by decide +kernel
theorem dX3_relieve_44 : decode cX3_relieve 44 = .ok (.invokevirtual 30, 3) := by decide +kernel
theorem dX3_relieve_47 : decode cX3_relieve 47 = .ok (.iconst 4, 1) := by decide +kernel
theorem dX3_relieve_48 : decode cX3_relieve 48 = .ok (.if_icmp .ge 12, 3) := by decide +kernel
theorem dX3_relieve_51 : decode cX3_relieve 51 = .ok (.aload_n 0, 1) := by decide +kernel
theorem dX3_relieve_52 : decode cX3_relieve 52 = .ok (.iload_n 1, 1) := by decide +kernel
theorem dX3_relieve_53 : decode cX3_relieve 53 = .ok (.iload 5, 2) := by decide +kernel
theorem dX3_relieve_55 : decode cX3_relieve 55 = .ok (.invokevirtual 78, 3) := by decide +kernel
theorem dX3_relieve_58 : decode cX3_relieve 58 = .ok (.iconst 0, 1) := by decide +kernel
theorem dX3_relieve_59 : decode cX3_relieve 59 = .ok (.ireturn, 1) := by decide +kernel
theorem dX3_relieve_60 : decode cX3_relieve 60 = .ok (.aload_n 0, 1) := by decide +kernel
theorem dX3_relieve_61 : decode cX3_relieve 61 = .ok (.iload_n 1, 1) := by decide +kernel
theorem dX3_relieve_62 : decode cX3_relieve 62 = .ok (.iload 5, 2) := by decide +kernel
theorem dX3_relieve_64 : decode cX3_relieve 64 = .ok (.iconst 3, 1) := by decide +kernel
theorem dX3_relieve_65 : decode cX3_relieve 65 = .ok (.invokevirtual 48, 3) := by decide +kernel
theorem dX3_relieve_68 : decode cX3_relieve 68 = .ok (.aload_n 0, 1) := by decide +kernel
theorem dX3_relieve_69 : decode cX3_relieve 69 = .ok (.iload_n 1, 1) := by decide +kernel
theorem dX3_relieve_70 : decode cX3_relieve 70 = .ok (.iload 5, 2) := by decide +kernel
theorem dX3_relieve_72 : decode cX3_relieve 72 = .ok (.iconst 1, 1) := by decide +kernel
theorem dX3_relieve_73 : decode cX3_relieve 73 = .ok (.iadd, 1) := by decide +kernel
theorem dX3_relieve_74 : decode cX3_relieve 74 = .ok (.iconst 3, 1) := by decide +kernel
theorem dX3_relieve_75 : decode cX3_relieve 75 = .ok (.invokevirtual 48, 3) := by decide +kernel
theorem dX3_relieve_78 : decode cX3_relieve 78 = .ok (.aload_n 0, 1) := by decide +kernel
theorem dX3_relieve_79 : decode cX3_relieve 79 = .ok (.iload_n 1, 1) := by decide +kernel
theorem dX3_relieve_80 : decode cX3_relieve 80 = .ok (.iload 5, 2) := by decide +kernel
theorem dX3_relieve_82 : decode cX3_relieve 82 = .ok (.iconst 2, 1) := by decide +kernel
theorem dX3_relieve_83 : decode cX3_relieve 83 = .ok (.iadd, 1) := by decide +kernel
theorem dX3_relieve_84 : decode cX3_relieve 84 = .ok (.iconst 3, 1) := by decide +kernel
theorem dX3_relieve_85 : decode cX3_relieve 85 = .ok (.invokevirtual 70, 3) := by decide +kernel
theorem dX3_relieve_88 : decode cX3_relieve 88 = .ok (.iconst 1, 1) := by decide +kernel
theorem dX3_relieve_89 : decode cX3_relieve 89 = .ok (.ireturn, 1) := by decide +kernel
set_option maxRecDepth 20000 in
theorem ggX3_halve_X3_load : GoodIn wsX3_halve wsX3_load := goodIn_r _ [5, 6, 7, 8, 9, 4, 10, 11, 12, 17, 18, 19] (by decide +kernel) (by decide +kernel)
set_option maxRecDepth 20000 in
theorem gX3_halve_X3_load : GoodIn wsX3_halve (wsV RX3 30 RX3 yX3_load wsX3_load) := goodIn_app (goodIn_of _ (by decide +kernel)) ggX3_halve_X3_load
set_option maxRecDepth 20000 in
theorem ggX3_halve_X3_setLoad : GoodIn wsX3_halve wsX3_setLoad := goodIn_r _ [16, 6, 7, 8, 9, 4, 10, 11, 12, 17, 18, 19] (by decide +kernel) (by decide +kernel)
set_option maxRecDepth 20000 in
theorem gX3_halve_X3_setLoad : GoodIn wsX3_halve (wsV RX3 48 RX3 yX3_setLoad wsX3_setLoad) := goodIn_app (goodIn_of _ (by decide +kernel)) ggX3_halve_X3_setLoad
theorem dX3_halve_0 : decode cX3_halve 0 = .ok (.aload_n 0, 1) := by decide +kernel
end
section
theorem dX3_halve_1 : decode cX3_halve 1 = .ok (.iload_n 1, 1) := by decide +kernel
theorem dX3_halve_2 : decode cX3_halve 2 = .ok (.iload_n 2, 1) := by decide +kernel
theorem dX3_halve_3 : decode cX3_halve 3 = .ok (.invokevirtual 30, 3) := by decide +kernel
theorem dX3_halve_6 : decode cX3_halve 6 = .ok (.aload_n 0, 1) := by decide +kernel
theorem dX3_halve_7 : decode cX3_halve 7 = .ok (.iload_n 1, 1) := by decide +kernel
theorem dX3_halve_8 : decode cX3_halve 8 = .ok (.iload_n 2, 1) := by decide +kernel
theorem dX3_halve_9 : decode cX3_halve 9 = .ok (.iconst 1, 1) := by decide +kernel
theorem dX3_halve_10 : decode cX3_halve 10 = .ok (.iadd, 1) := by decide +kernel
theorem dX3_halve_11 : decode cX3_halve 11 = .ok (.invokevirtual 30, 3) := by decide +kernel
theorem dX3_halve_14 : decode cX3_halve 14 = .ok (.iadd, 1) := by decide +kernel
theorem dX3_halve_15 : decode cX3_halve 15 = .ok (.istore_n 3, 1) := by decide +kernel
theorem dX3_halve_16 : decode cX3_halve 16 = .ok (.aload_n 0, 1) := by decide +kernel
theorem dX3_halve_17 : decode cX3_halve 17 = .ok (.iload_n 1, 1) := by decide +kernel
theorem dX3_halve_18 : decode cX3_halve 18 = .ok (.iload_n 2, 1) := by decide +kernel
theorem dX3_halve_19 : decode cX3_halve 19 = .ok (.iload_n 3, 1) := by decide +kernel
theorem dX3_halve_20 : decode cX3_halve 20 = .ok (.iconst 1, 1) := by decide +kernel
theorem dX3_halve_21 : decode cX3_halve 21 = .ok (.iadd, 1) := by decide +kernel
theorem dX3_halve_22 : decode cX3_halve 22 = .ok (.iconst 2, 1) := by decide +kernel
theorem dX3_halve_23 : decode cX3_halve 23 = .ok (.idiv, 1) := by decide +kernel
theorem dX3_halve_24 : decode cX3_halve 24 = .ok (.invokevirtual 48, 3) := by decide +kernel
theorem dX3_halve_27 : decode cX3_halve 27 = .ok (.aload_n 0, 1) := by decide +kernel
theorem dX3_halve_28 : decode cX3_halve 28 = .ok (.iload_n 1, 1) := by decide +kernel
theorem dX3_halve_29 : decode cX3_halve 29 = .ok (.iload_n 2, 1) := by decide +kernel
theorem dX3_halve_30 : decode cX3_halve 30 = .ok (.iconst 1, 1) := by decide +kernel
theorem dX3_halve_31 : decode cX3_halve 31 = .ok (.iadd, 1) := by decide +kernel
theorem dX3_halve_32 : decode cX3_halve 32 = .ok (.iload_n 3, 1) := by decide +kernel
theorem dX3_halve_33 : decode cX3_halve 33 = .ok (.iconst 2, 1) := by decide +kernel
theorem dX3_halve_34 : decode cX3_halve 34 = .ok (.idiv, 1) := by decide +kernel
theorem dX3_halve_35 : decode cX3_halve 35 = .ok (.invokevirtual 48, 3) := by decide +kernel
theorem dX3_halve_38 : decode cX3_halve 38 = .ok (.return_, 1) := by decide +kernel
set_option maxRecDepth 20000 in
theorem ggX3_shrink_X3_holder : GoodIn wsX3_shrink wsX3_holder := goodIn_r _ [6, 7, 8, 9, 5, 10, 1, 11, 12, 13, 14, 15, 16, 17, 18, 19, 20, 68, 69, 70] (by decide +kernel) (by decide +kernel)
set_option maxRecDepth 20000 in
theorem gX3_shrink_X3_holder : GoodIn wsX3_shrink (wsV RX3 41 RX3 yX3_holder wsX3_holder) := goodIn_app (goodIn_of _ (by decide +kernel)) ggX3_shrink_X3_holder
set_option maxRecDepth 20000 in
theorem ggX3_shrink_X3_load : GoodIn wsX3_shrink wsX3_load := goodIn_r _ [15, 16, 17, 18, 19, 5, 20, 1, 11, 68, 69, 70] (by decide +kernel) (by decide +kernel)
set_option maxRecDepth 20000 in
theorem gX3_shrink_X3_load : GoodIn wsX3_shrink (wsV RX3 30 RX3 yX3_load wsX3_load) := goodIn_app (goodIn_of _ (by decide +kernel)) ggX3_shrink_X3_load
set_option maxRecDepth 20000 in
theorem ggX3_shrink_X3_setLoad : GoodIn wsX3_shrink wsX3_setLoad := goodIn_r _ [24, 16, 17, 18, 19, 5, 20, 1, 11, 68, 69, 70] (by decide +kernel) (by decide +kernel)
set_option maxRecDepth 20000 in
theorem gX3_shrink_X3_setLoad : GoodIn wsX3_shrink (wsV RX3 48 RX3 yX3_setLoad wsX3_setLoad) := goodIn_app (goodIn_of _ (by decide +kernel)) ggX3_shrink_X3_setLoad
set_option maxRecDepth 20000 in
theorem ggX3_shrink_X3_parent : GoodIn wsX3_shrink wsX3_parent := goodIn_r _ [28, 29, 30, 31, 5, 32, 1, 2, 3, 4, 6, 7, 8, 9, 10, 11, 12, 13, 14, 15, 16, 17, 18, 19, 20, 68, 69, 70] (by decide +kernel) (by decide +kernel)
set_option maxRecDepth 20000 in
theorem gX3_shrink_X3_parent : GoodIn wsX3_shrink (wsV RX3 52 RX3 yX3_parent wsX3_parent) := goodIn_app (goodIn_of _ (by decide +kernel)) ggX3_shrink_X3_parent
set_option maxRecDepth 20000 in
theorem ggX3_shrink_X3_unite : GoodIn wsX3_shrink wsX3_unite := goodIn_r _ [36, 37, 38, 39, 40, 41, 42, 43, 5, 44, 45, 46, 47, 48, 7, 8, 9, 10, 1, 11, 12, 13, 14, 15, 16, 17, 18, 19, 20, 49, 50, 51, 52, 53, 54, 55, 21, 22, 23, 24, 56, 57, 58, 59, 60, 61, 62, 63, 68, 69, 70] (by decide +kernel) (by decide +kernel)
set_option maxRecDepth 20000 in
theorem gX3_shrink_X3_unite : GoodIn wsX3_shrink (wsV RX3 81 RX3 yX3_unite wsX3_unite) := goodIn_app (goodIn_of _ (by decide +kernel)) ggX3_shrink_X3_unite
set_option maxRecDepth 20000 in
theorem ggX3_shrink_X3_lowerRoot : GoodIn wsX3_shrink wsX3_lowerRoot := goodIn_r _ [67, 1, 12, 13, 14, 5, 15, 16, 17, 18, 19, 20, 11, 68, 69, 70] (by decide +kernel) (by decide +kernel)
set_option maxRecDepth 20000 in
theorem gX3_shrink_X3_lowerRoot : GoodIn wsX3_shrink (wsV RX3 84 RX3 yX3_lowerRoot wsX3_lowerRoot) := goodIn_app (goodIn_of _ (by decide +kernel)) ggX3_shrink_X3_lowerRoot
theorem dX3_shrink_0 : decode cX3_shrink 0 = .ok (.aload_n 0, 1) := by decide +kernel
theorem dX3_shrink_1 : decode cX3_shrink 1 = .ok (.iconst 0, 1) := by decide +kernel
theorem dX3_shrink_2 : decode cX3_shrink 2 = .ok (.iload_n 1, 1) := by decide +kernel
theorem dX3_shrink_3 : decode cX3_shrink 3 = .ok (.invokevirtual 41, 3) := by decide +kernel
theorem dX3_shrink_6 : decode cX3_shrink 6 = .ok (.istore_n 2, 1) := by decide +kernel
theorem dX3_shrink_7 : decode cX3_shrink 7 = .ok (.aload_n 0, 1) := by decide +kernel
theorem dX3_shrink_8 : decode cX3_shrink 8 = .ok (.iconst 0, 1) := by decide +kernel
theorem dX3_shrink_9 : decode cX3_shrink 9 = .ok (.iload_n 2, 1) := by decide +kernel
theorem dX3_shrink_10 : decode cX3_shrink 10 = .ok (.aload_n 0, 1) := by decide +kernel
theorem dX3_shrink_11 : decode cX3_shrink 11 = .ok (.iconst 0, 1) := by decide +kernel
theorem dX3_shrink_12 : decode cX3_shrink 12 = .ok (.iload_n 2, 1) := by decide +kernel
theorem dX3_shrink_13 : decode cX3_shrink 13 = .ok (.invokevirtual 30, 3) := by decide +kernel
theorem dX3_shrink_16 : decode cX3_shrink 16 = .ok (.iconst 1, 1) := by decide +kernel
theorem dX3_shrink_17 : decode cX3_shrink 17 = .ok (.isub, 1) := by decide +kernel
theorem dX3_shrink_18 : decode cX3_shrink 18 = .ok (.invokevirtual 48, 3) := by decide +kernel
theorem dX3_shrink_21 : decode cX3_shrink 21 = .ok (.iconst 1, 1) := by decide +kernel
theorem dX3_shrink_22 : decode cX3_shrink 22 = .ok (.istore_n 3, 1) := by decide +kernel
theorem dX3_shrink_23 : decode cX3_shrink 23 = .ok (.iconst 0, 1) := by decide +kernel
theorem dX3_shrink_24 : decode cX3_shrink 24 = .ok (.istore 4, 2) := by decide +kernel
theorem dX3_shrink_26 : decode cX3_shrink 26 = .ok (.iload_n 3, 1) := by decide +kernel
theorem dX3_shrink_27 : decode cX3_shrink 27 = .ok (.ifCond .eq 79, 3) := by decide +kernel
theorem dX3_shrink_30 : decode cX3_shrink 30 = .ok (.iload 4, 2) := by decide +kernel
theorem dX3_shrink_32 : decode cX3_shrink 32 = .ok (.aload_n 0, 1) := by decide +kernel
theorem dX3_shrink_33 : decode cX3_shrink 33 = .ok (.getfield 18, 3) := by decide +kernel
theorem dX3_shrink_36 : decode cX3_shrink 36 = .ok (.iconst 1, 1) := by decide +kernel
theorem dX3_shrink_37 : decode cX3_shrink 37 = .ok (.isub, 1) := by decide +kernel
theorem dX3_shrink_38 : decode cX3_shrink 38 = .ok (.if_icmp .ge 68, 3) := by decide +kernel
theorem dX3_shrink_41 : decode cX3_shrink 41 = .ok (.aload_n 0, 1) := by decide +kernel
theorem dX3_shrink_42 : decode cX3_shrink 42 = .ok (.iload 4, 2) := by decide +kernel
theorem dX3_shrink_44 : decode cX3_shrink 44 = .ok (.iload_n 2, 1) := by decide +kernel
theorem dX3_shrink_45 : decode cX3_shrink 45 = .ok (.invokevirtual 30, 3) := by decide +kernel
theorem dX3_shrink_48 : decode cX3_shrink 48 = .ok (.iconst 2, 1) := by decide +kernel
theorem dX3_shrink_49 : decode cX3_shrink 49 = .ok (.if_icmp .ge 57, 3) := by decide +kernel
theorem dX3_shrink_52 : decode cX3_shrink 52 = .ok (.aload_n 0, 1) := by decide +kernel
theorem dX3_shrink_53 : decode cX3_shrink 53 = .ok (.iload 4, 2) := by decide +kernel
theorem dX3_shrink_55 : decode cX3_shrink 55 = .ok (.iload_n 2, 1) := by decide +kernel
theorem dX3_shrink_56 : decode cX3_shrink 56 = .ok (.invokevirtual 52, 3) := by decide +kernel
theorem dX3_shrink_59 : decode cX3_shrink 59 = .ok (.istore 5, 2) := by decide +kernel
theorem dX3_shrink_61 : decode cX3_shrink 61 = .ok (.aload_n 0, 1) := by decide +kernel
theorem dX3_shrink_62 : decode cX3_shrink 62 = .ok (.iload 4, 2) := by decide +kernel
theorem dX3_shrink_64 : decode cX3_shrink 64 = .ok (.iload_n 2, 1) := by decide +kernel
theorem dX3_shrink_65 : decode cX3_shrink 65 = .ok (.iload 5, 2) := by decide +kernel
theorem dX3_shrink_67 : decode cX3_shrink 67 = .ok (.invokevirtual 81, 3) := by decide +kernel
theorem dX3_shrink_70 : decode cX3_shrink 70 = .ok (.istore_n 3, 1) := by decide +kernel
theorem dX3_shrink_71 : decode cX3_shrink 71 = .ok (.iload_n 3, 1) := by decide +kernel
theorem dX3_shrink_72 : decode cX3_shrink 72 = .ok (.ifCond .eq 25, 3) := by decide +kernel
theorem dX3_shrink_75 : decode cX3_shrink 75 = .ok (.aload_n 0, 1) := by decide +kernel
theorem dX3_shrink_76 : decode cX3_shrink 76 = .ok (.iload 4, 2) := by decide +kernel
theorem dX3_shrink_78 : decode cX3_shrink 78 = .ok (.iconst 1, 1) := by decide +kernel
theorem dX3_shrink_79 : decode cX3_shrink 79 = .ok (.iadd, 1) := by decide +kernel
theorem dX3_shrink_80 : decode cX3_shrink 80 = .ok (.iload 5, 2) := by decide +kernel
theorem dX3_shrink_82 : decode cX3_shrink 82 = .ok (.aload_n 0, 1) := by decide +kernel
theorem dX3_shrink_83 : decode cX3_shrink 83 = .ok (.iload 4, 2) := by decide +kernel
theorem dX3_shrink_85 : decode cX3_shrink 85 = .ok (.iconst 1, 1) := by decide +kernel
theorem dX3_shrink_86 : decode cX3_shrink 86 = .ok (.iadd, 1) := by decide +kernel
theorem dX3_shrink_87 : decode cX3_shrink 87 = .ok (.iload 5, 2) := by decide +kernel
theorem dX3_shrink_89 : decode cX3_shrink 89 = .ok (.invokevirtual 30, 3) := by decide +kernel
theorem dX3_shrink_92 : decode cX3_shrink 92 = .ok (.iconst 1, 1) := by decide +kernel
theorem dX3_shrink_93 : decode cX3_shrink 93 = .ok (.isub, 1) := by decide +kernel
theorem dX3_shrink_94 : decode cX3_shrink 94 = .ok (.invokevirtual 48, 3) := by decide +kernel
theorem dX3_shrink_97 : decode cX3_shrink 97 = .ok (.iload 5, 2) := by decide +kernel
theorem dX3_shrink_99 : decode cX3_shrink 99 = .ok (.istore_n 2, 1) := by decide +kernel
theorem dX3_shrink_100 : decode cX3_shrink 100 = .ok (.iinc 4 1, 3) := by decide +kernel
theorem dX3_shrink_103 : decode cX3_shrink 103 = .ok (.goto (-77), 3) := by decide +kernel
theorem dX3_shrink_106 : decode cX3_shrink 106 = .ok (.aload_n 0, 1) := by decide +kernel
theorem dX3_shrink_107 : decode cX3_shrink 107 = .ok (.invokevirtual 84, 3) := by decide +kernel
theorem dX3_shrink_110 : decode cX3_shrink 110 = .ok (.return_, 1) := by decide +kernel
set_option maxRecDepth 20000 in
theorem ggX3_unite_X3_partner : GoodIn wsX3_unite wsX3_partner := goodIn_r _ [9, 10, 11, 12, 8, 13, 14, 15, 16, 17, 18, 19, 20, 21, 22, 23, 24, 25, 26, 27, 28, 48, 49, 50] (by decide +kernel) (by decide +kernel)
set_option maxRecDepth 20000 in
theorem gX3_unite_X3_partner : GoodIn wsX3_unite (wsV RX3 66 RX3 yX3_partner wsX3_partner) := goodIn_app (goodIn_of _ (by decide +kernel)) ggX3_unite_X3_partner
set_option maxRecDepth 20000 in
theorem ggX3_unite_X3_load : GoodIn wsX3_unite wsX3_load := goodIn_r _ [23, 24, 25, 26, 27, 8, 28, 18, 19, 48, 49, 50] (by decide +kernel) (by decide +kernel)
set_option maxRecDepth 20000 in
theorem gX3_unite_X3_load : GoodIn wsX3_unite (wsV RX3 30 RX3 yX3_load wsX3_load) := goodIn_app (goodIn_of _ (by decide +kernel)) ggX3_unite_X3_load
set_option maxRecDepth 20000 in
theorem ggX3_unite_X3_deleteNode : GoodIn wsX3_unite wsX3_deleteNode := goodIn_r _ [32, 33, 34, 3, 35, 14, 15, 16, 8, 17, 18, 19, 20, 21, 22, 23, 24, 25, 26, 27, 28, 36, 37, 38, 39, 40, 41, 42, 43, 48, 49, 50] (by decide +kernel) (by decide +kernel)
set_option maxRecDepth 20000 in
theorem gX3_unite_X3_deleteNode : GoodIn wsX3_unite (wsV RX3 87 RX3 yX3_deleteNode wsX3_deleteNode) := goodIn_app (goodIn_of _ (by decide +kernel)) ggX3_unite_X3_deleteNode
set_option maxRecDepth 20000 in
theorem ggX3_unite_X3_halve : GoodIn wsX3_unite wsX3_halve := goodIn_r _ [47, 20, 21, 22, 8, 23, 24, 25, 26, 27, 28, 18, 19, 36, 37, 38, 39, 48, 49, 50] (by decide +kernel) (by decide +kernel)
set_option maxRecDepth 20000 in
theorem gX3_unite_X3_halve : GoodIn wsX3_unite (wsV RX3 78 RX3 yX3_halve wsX3_halve) := goodIn_app (goodIn_of _ (by decide +kernel)) ggX3_unite_X3_halve
set_option maxRecDepth 20000 in
theorem ggX3_unite_X3_setLoad : GoodIn wsX3_unite wsX3_setLoad := goodIn_r _ [39, 24, 25, 26, 27, 8, 28, 18, 19, 48, 49, 50] (by decide +kernel) (by decide +kernel)
set_option maxRecDepth 20000 in
theorem gX3_unite_X3_setLoad : GoodIn wsX3_unite (wsV RX3 48 RX3 yX3_setLoad wsX3_setLoad) := goodIn_app (goodIn_of _ (by decide +kernel)) ggX3_unite_X3_setLoad
theorem dX3_unite_0 : decode cX3_unite 0 = .ok (.aload_n 0, 1) := by decide +kernel
theorem dX3_unite_1 : decode cX3_unite 1 = .ok (.iload_n 1, 1) := by decide +kernel
theorem dX3_unite_2 : decode cX3_unite 2 = .ok (.iload_n 2, 1) := by decide +kernel
theorem dX3_unite_3 : decode cX3_unite 3 = .ok (.iload_n 3, 1) := by decide +kernel
theorem dX3_unite_4 : decode cX3_unite 4 = .ok (.invokevirtual 66, 3) := by decide +kernel
theorem dX3_unite_7 : decode cX3_unite 7 = .ok (.istore 4, 2) := by decide +kernel
theorem dX3_unite_9 : decode cX3_unite 9 = .ok (.iload 4, 2) := by decide +kernel
theorem dX3_unite_11 : decode cX3_unite 11 = .ok (.ifCond .ge 22, 3) := by decide +kernel
theorem dX3_unite_14 : decode cX3_unite 14 = .ok (.aload_n 0, 1) := by decide +kernel
theorem dX3_unite_15 : decode cX3_unite 15 = .ok (.iload_n 1, 1) := by decide +kernel
theorem dX3_unite_16 : decode cX3_unite 16 = .ok (.iload_n 2, 1) := by decide +kernel
theorem dX3_unite_17 : decode cX3_unite 17 = .ok (.invokevirtual 30, 3) := by decide +kernel
theorem dX3_unite_20 : decode cX3_unite 20 = .ok (.ifCond .le 5, 3) := by decide +kernel
theorem dX3_unite_23 : decode cX3_unite 23 = .ok (.iconst 0, 1) := by decide +kernel
theorem dX3_unite_24 : decode cX3_unite 24 = .ok (.ireturn, 1) := by decide +kernel
theorem dX3_unite_25 : decode cX3_unite 25 = .ok (.aload_n 0, 1) := by decide +kernel
theorem dX3_unite_26 : decode cX3_unite 26 = .ok (.iload_n 1, 1) := by decide +kernel
theorem dX3_unite_27 : decode cX3_unite 27 = .ok (.iload_n 2, 1) := by decide +kernel
theorem dX3_unite_28 : decode cX3_unite 28 = .ok (.invokevirtual 87, 3) := by decide +kernel
theorem dX3_unite_31 : decode cX3_unite 31 = .ok (.iconst 1, 1) := by decide +kernel
theorem dX3_unite_32 : decode cX3_unite 32 = .ok (.ireturn, 1) := by decide +kernel
theorem dX3_unite_33 : decode cX3_unite 33 = .ok (.iload_n 2, 1) := by decide +kernel
theorem dX3_unite_34 : decode cX3_unite 34 = .ok (.iload 4, 2) := by decide +kernel
theorem dX3_unite_36 : decode cX3_unite 36 = .ok (.invokestatic 73, 3) := by decide +kernel
theorem dX3_unite_39 : decode cX3_unite 39 = .ok (.istore 5, 2) := by decide +kernel
theorem dX3_unite_41 : decode cX3_unite 41 = .ok (.aload_n 0, 1) := by decide +kernel
theorem dX3_unite_42 : decode cX3_unite 42 = .ok (.iload_n 1, 1) := by decide +kernel
theorem dX3_unite_43 : decode cX3_unite 43 = .ok (.iload 5, 2) := by decide +kernel
theorem dX3_unite_45 : decode cX3_unite 45 = .ok (.invokevirtual 30, 3) := by decide +kernel
theorem dX3_unite_48 : decode cX3_unite 48 = .ok (.aload_n 0, 1) := by decide +kernel
theorem dX3_unite_49 : decode cX3_unite 49 = .ok (.iload_n 1, 1) := by decide +kernel
theorem dX3_unite_50 : decode cX3_unite 50 = .ok (.iload 5, 2) := by decide +kernel
theorem dX3_unite_52 : decode cX3_unite 52 = .ok (.iconst 1, 1) := by decide +kernel
theorem dX3_unite_53 : decode cX3_unite 53 = .ok (.iadd, 1) := by decide +kernel
theorem dX3_unite_54 : decode cX3_unite 54 = .ok (.invokevirtual 30, 3) := by decide +kernel
theorem dX3_unite_57 : decode cX3_unite 57 = .ok (.iadd, 1) := by decide +kernel
theorem dX3_unite_58 : decode cX3_unite 58 = .ok (.istore 6, 2) := by decide +kernel
theorem dX3_unite_60 : decode cX3_unite 60 = .ok (.iload 6, 2) := by decide +kernel
theorem dX3_unite_62 : decode cX3_unite 62 = .ok (.iconst 4, 1) := by decide +kernel
theorem dX3_unite_63 : decode cX3_unite 63 = .ok (.if_icmp .le 12, 3) := by decide +kernel
theorem dX3_unite_66 : decode cX3_unite 66 = .ok (.aload_n 0, 1) := by decide +kernel
theorem dX3_unite_67 : decode cX3_unite 67 = .ok (.iload_n 1, 1) := by decide +kernel
theorem dX3_unite_68 : decode cX3_unite 68 = .ok (.iload 5, 2) := by decide +kernel
theorem dX3_unite_70 : decode cX3_unite 70 = .ok (.invokevirtual 78, 3) := by decide +kernel
theorem dX3_unite_73 : decode cX3_unite 73 = .ok (.iconst 0, 1) := by decide +kernel
theorem dX3_unite_74 : decode cX3_unite 74 = .ok (.ireturn, 1) := by decide +kernel
theorem dX3_unite_75 : decode cX3_unite 75 = .ok (.aload_n 0, 1) := by decide +kernel
theorem dX3_unite_76 : decode cX3_unite 76 = .ok (.iload_n 1, 1) := by decide +kernel
theorem dX3_unite_77 : decode cX3_unite 77 = .ok (.iload 5, 2) := by decide +kernel
theorem dX3_unite_79 : decode cX3_unite 79 = .ok (.iload 6, 2) := by decide +kernel
theorem dX3_unite_81 : decode cX3_unite 81 = .ok (.invokevirtual 48, 3) := by decide +kernel
theorem dX3_unite_84 : decode cX3_unite 84 = .ok (.aload_n 0, 1) := by decide +kernel
theorem dX3_unite_85 : decode cX3_unite 85 = .ok (.iload_n 1, 1) := by decide +kernel
theorem dX3_unite_86 : decode cX3_unite 86 = .ok (.iload 5, 2) := by decide +kernel
theorem dX3_unite_88 : decode cX3_unite 88 = .ok (.iconst 1, 1) := by decide +kernel
theorem dX3_unite_89 : decode cX3_unite 89 = .ok (.iadd, 1) := by decide +kernel
theorem dX3_unite_90 : decode cX3_unite 90 = .ok (.invokevirtual 87, 3) := by decide +kernel
theorem dX3_unite_93 : decode cX3_unite 93 = .ok (.iconst 1, 1) := by decide +kernel
theorem dX3_unite_94 : decode cX3_unite 94 = .ok (.ireturn, 1) := by decide +kernel
set_option maxRecDepth 20000 in
theorem ggX3_lowerRoot_X3_load : GoodIn wsX3_lowerRoot wsX3_load := goodIn_r _ [6, 7, 8, 9, 10, 5, 11, 1, 12, 13, 14, 15] (by decide +kernel) (by decide +kernel)
set_option maxRecDepth 20000 in
theorem gX3_lowerRoot_X3_load : GoodIn wsX3_lowerRoot (wsV RX3 30 RX3 yX3_load wsX3_load) := goodIn_app (goodIn_of _ (by decide +kernel)) ggX3_lowerRoot_X3_load
theorem dX3_lowerRoot_0 : decode cX3_lowerRoot 0 = .ok (.aload_n 0, 1) := by decide +kernel
theorem dX3_lowerRoot_1 : decode cX3_lowerRoot 1 = .ok (.getfield 18, 3) := by decide +kernel
theorem dX3_lowerRoot_4 : decode cX3_lowerRoot 4 = .ok (.iconst 1, 1) := by decide +kernel
theorem dX3_lowerRoot_5 : decode cX3_lowerRoot 5 = .ok (.isub, 1) := by decide +kernel
theorem dX3_lowerRoot_6 : decode cX3_lowerRoot 6 = .ok (.istore_n 1, 1) := by decide +kernel
theorem dX3_lowerRoot_7 : decode cX3_lowerRoot 7 = .ok (.iload_n 1, 1) := by decide +kernel
theorem dX3_lowerRoot_8 : decode cX3_lowerRoot 8 = .ok (.ifCond .le 24, 3) := by decide +kernel
theorem dX3_lowerRoot_11 : decode cX3_lowerRoot 11 = .ok (.aload_n 0, 1) := by decide +kernel
theorem dX3_lowerRoot_12 : decode cX3_lowerRoot 12 = .ok (.iload_n 1, 1) := by decide +kernel
theorem dX3_lowerRoot_13 : decode cX3_lowerRoot 13 = .ok (.iconst 0, 1) := by decide +kernel
theorem dX3_lowerRoot_14 : decode cX3_lowerRoot 14 = .ok (.invokevirtual 30, 3) := by decide +kernel
theorem dX3_lowerRoot_17 : decode cX3_lowerRoot 17 = .ok (.iconst 1, 1) := by decide +kernel
theorem dX3_lowerRoot_18 : decode cX3_lowerRoot 18 = .ok (.if_icmp .ne 14, 3) := by decide +kernel
theorem dX3_lowerRoot_21 : decode cX3_lowerRoot 21 = .ok (.aload_n 0, 1) := by decide +kernel
theorem dX3_lowerRoot_22 : decode cX3_lowerRoot 22 = .ok (.iload_n 1, 1) := by decide +kernel
theorem dX3_lowerRoot_23 : decode cX3_lowerRoot 23 = .ok (.putfield 18, 3) := by decide +kernel
theorem dX3_lowerRoot_26 : decode cX3_lowerRoot 26 = .ok (.iinc 1 (-1), 3) := by decide +kernel
theorem dX3_lowerRoot_29 : decode cX3_lowerRoot 29 = .ok (.goto (-22), 3) := by decide +kernel
theorem dX3_lowerRoot_32 : decode cX3_lowerRoot 32 = .ok (.aload_n 0, 1) := by decide +kernel
theorem dX3_lowerRoot_33 : decode cX3_lowerRoot 33 = .ok (.aload_n 0, 1) := by decide +kernel
theorem dX3_lowerRoot_34 : decode cX3_lowerRoot 34 = .ok (.getfield 18, 3) := by decide +kernel
theorem dX3_lowerRoot_37 : decode cX3_lowerRoot 37 = .ok (.iconst 1, 1) := by decide +kernel
theorem dX3_lowerRoot_38 : decode cX3_lowerRoot 38 = .ok (.isub, 1) := by decide +kernel
theorem dX3_lowerRoot_39 : decode cX3_lowerRoot 39 = .ok (.iconst 0, 1) := by decide +kernel
theorem dX3_lowerRoot_40 : decode cX3_lowerRoot 40 = .ok (.invokevirtual 30, 3) := by decide +kernel
theorem dX3_lowerRoot_43 : decode cX3_lowerRoot 43 = .ok (.ifCond .ne 8, 3) := by decide +kernel
theorem dX3_lowerRoot_46 : decode cX3_lowerRoot 46 = .ok (.aload_n 0, 1) := by decide +kernel
theorem dX3_lowerRoot_47 : decode cX3_lowerRoot 47 = .ok (.iconst 0, 1) := by decide +kernel
theorem dX3_lowerRoot_48 : decode cX3_lowerRoot 48 = .ok (.putfield 18, 3) := by decide +kernel
theorem dX3_lowerRoot_51 : decode cX3_lowerRoot 51 = .ok (.return_, 1) := by decide +kernel
set_option maxRecDepth 20000 in
theorem ggX3_insertNode_X3_width : GoodIn wsX3_insertNode wsX3_width := goodIn_r _ [5, 6, 7, 25, 26, 27] (by decide +kernel) (by decide +kernel)
set_option maxRecDepth 20000 in
theorem gX3_insertNode_X3_width : GoodIn wsX3_insertNode (wsV RX3 26 RX3 yX3_width wsX3_width) := goodIn_app (goodIn_of _ (by decide +kernel)) ggX3_insertNode_X3_width
set_option maxRecDepth 20000 in
theorem ggX3_insertNode_X3_setWidth : GoodIn wsX3_insertNode wsX3_setWidth := goodIn_r _ [11, 7, 25, 26, 27] (by decide +kernel) (by decide +kernel)
set_option maxRecDepth 20000 in
theorem gX3_insertNode_X3_setWidth : GoodIn wsX3_insertNode (wsV RX3 63 RX3 yX3_setWidth wsX3_setWidth) := goodIn_app (goodIn_of _ (by decide +kernel)) ggX3_insertNode_X3_setWidth
set_option maxRecDepth 20000 in
theorem ggX3_insertNode_X3_load : GoodIn wsX3_insertNode wsX3_load := goodIn_r _ [15, 16, 17, 18, 19, 4, 20, 6, 7, 25, 26, 27] (by decide +kernel) (by decide +kernel)
set_option maxRecDepth 20000 in
theorem gX3_insertNode_X3_load : GoodIn wsX3_insertNode (wsV RX3 30 RX3 yX3_load wsX3_load) := goodIn_app (goodIn_of _ (by decide +kernel)) ggX3_insertNode_X3_load
set_option maxRecDepth 20000 in
theorem ggX3_insertNode_X3_setLoad : GoodIn wsX3_insertNode wsX3_setLoad := goodIn_r _ [24, 16, 17, 18, 19, 4, 20, 6, 7, 25, 26, 27] (by decide +kernel) (by decide +kernel)
set_option maxRecDepth 20000 in
theorem gX3_insertNode_X3_setLoad : GoodIn wsX3_insertNode (wsV RX3 48 RX3 yX3_setLoad wsX3_setLoad) := goodIn_app (goodIn_of _ (by decide +kernel)) ggX3_insertNode_X3_setLoad
theorem dX3_insertNode_0 : decode cX3_insertNode 0 = .ok (.aload_n 0, 1) := by decide +kernel
theorem dX3_insertNode_1 : decode cX3_insertNode 1 = .ok (.iload_n 1, 1) := by decide +kernel
theorem dX3_insertNode_2 : decode cX3_insertNode 2 = .ok (.invokevirtual 26, 3) := by decide +kernel
theorem dX3_insertNode_5 : decode cX3_insertNode 5 = .ok (.istore 4, 2) := by decide +kernel
theorem dX3_insertNode_7 : decode cX3_insertNode 7 = .ok (.iload 4, 2) := by decide +kernel
theorem dX3_insertNode_9 : decode cX3_insertNode 9 = .ok (.bipush 60, 2) := by decide +kernel
theorem dX3_insertNode_11 : decode cX3_insertNode 11 = .ok (.if_icmp .lt 4, 3) := by decide +kernel
theorem dX3_insertNode_14 : decode cX3_insertNode 14 = .ok (.return_, 1) := by decide +kernel
theorem dX3_insertNode_15 : decode cX3_insertNode 15 = .ok (.aload_n 0, 1) := by decide +kernel
theorem dX3_insertNode_16 : decode cX3_insertNode 16 = .ok (.iload_n 1, 1) := by decide +kernel
theorem dX3_insertNode_17 : decode cX3_insertNode 17 = .ok (.iload 4, 2) := by decide +kernel
theorem dX3_insertNode_19 : decode cX3_insertNode 19 = .ok (.iconst 1, 1) := by decide +kernel
theorem dX3_insertNode_20 : decode cX3_insertNode 20 = .ok (.iadd, 1) := by decide +kernel
theorem dX3_insertNode_21 : decode cX3_insertNode 21 = .ok (.invokevirtual 63, 3) := by decide +kernel
theorem dX3_insertNode_24 : decode cX3_insertNode 24 = .ok (.iload 4, 2) := by decide +kernel
theorem dX3_insertNode_26 : decode cX3_insertNode 26 = .ok (.istore 5, 2) := by decide +kernel
theorem dX3_insertNode_28 : decode cX3_insertNode 28 = .ok (.iload 5, 2) := by decide +kernel
theorem dX3_insertNode_30 : decode cX3_insertNode 30 = .ok (.iload_n 2, 1) := by decide +kernel
theorem dX3_insertNode_31 : decode cX3_insertNode 31 = .ok (.if_icmp .le 25, 3) := by decide +kernel
theorem dX3_insertNode_34 : decode cX3_insertNode 34 = .ok (.aload_n 0, 1) := by decide +kernel
theorem dX3_insertNode_35 : decode cX3_insertNode 35 = .ok (.iload_n 1, 1) := by decide +kernel
theorem dX3_insertNode_36 : decode cX3_insertNode 36 = .ok (.iload 5, 2) := by decide +kernel
theorem dX3_insertNode_38 : decode cX3_insertNode 38 = .ok (.aload_n 0, 1) := by decide +kernel
theorem dX3_insertNode_39 : decode cX3_insertNode 39 = .ok (.iload_n 1, 1) := by decide +kernel
theorem dX3_insertNode_40 : decode cX3_insertNode 40 = .ok (.iload 5, 2) := by decide +kernel
theorem dX3_insertNode_42 : decode cX3_insertNode 42 = .ok (.iconst 1, 1) := by decide +kernel
theorem dX3_insertNode_43 : decode cX3_insertNode 43 = .ok (.isub, 1) := by decide +kernel
theorem dX3_insertNode_44 : decode cX3_insertNode 44 = .ok (.invokevirtual 30, 3) := by decide +kernel
theorem dX3_insertNode_47 : decode cX3_insertNode 47 = .ok (.invokevirtual 48, 3) := by decide +kernel
theorem dX3_insertNode_50 : decode cX3_insertNode 50 = .ok (.iinc 5 (-1), 3) := by decide +kernel
theorem dX3_insertNode_53 : decode cX3_insertNode 53 = .ok (.goto (-25), 3) := by decide +kernel
theorem dX3_insertNode_56 : decode cX3_insertNode 56 = .ok (.aload_n 0, 1) := by decide +kernel
theorem dX3_insertNode_57 : decode cX3_insertNode 57 = .ok (.iload_n 1, 1) := by decide +kernel
theorem dX3_insertNode_58 : decode cX3_insertNode 58 = .ok (.iload_n 2, 1) := by decide +kernel
theorem dX3_insertNode_59 : decode cX3_insertNode 59 = .ok (.iload_n 3, 1) := by decide +kernel
theorem dX3_insertNode_60 : decode cX3_insertNode 60 = .ok (.invokevirtual 48, 3) := by decide +kernel
theorem dX3_insertNode_63 : decode cX3_insertNode 63 = .ok (.return_, 1) := by decide +kernel
set_option maxRecDepth 20000 in
theorem ggX3_deleteNode_X3_width : GoodIn wsX3_deleteNode wsX3_width := goodIn_r _ [9, 10, 11, 29, 30, 31] (by decide +kernel) (by decide +kernel)
set_option maxRecDepth 20000 in
theorem gX3_deleteNode_X3_width : GoodIn wsX3_deleteNode (wsV RX3 26 RX3 yX3_width wsX3_width) := goodIn_app (goodIn_of _ (by decide +kernel)) ggX3_deleteNode_X3_width
set_option maxRecDepth 20000 in
theorem ggX3_deleteNode_X3_load : GoodIn wsX3_deleteNode wsX3_load := goodIn_r _ [15, 16, 17, 18, 19, 8, 20, 10, 11, 29, 30, 31] (by decide +kernel) (by decide +kernel)
set_option maxRecDepth 20000 in
theorem gX3_deleteNode_X3_load : GoodIn wsX3_deleteNode (wsV RX3 30 RX3 yX3_load wsX3_load) := goodIn_app (goodIn_of _ (by decide +kernel)) ggX3_deleteNode_X3_load
set_option maxRecDepth 20000 in
theorem ggX3_deleteNode_X3_setLoad : GoodIn wsX3_deleteNode wsX3_setLoad := goodIn_r _ [24, 16, 17, 18, 19, 8, 20, 10, 11, 29, 30, 31] (by decide +kernel) (by decide +kernel)
set_option maxRecDepth 20000 in
theorem gX3_deleteNode_X3_setLoad : GoodIn wsX3_deleteNode (wsV RX3 48 RX3 yX3_setLoad wsX3_setLoad) := goodIn_app (goodIn_of _ (by decide +kernel)) ggX3_deleteNode_X3_setLoad
set_option maxRecDepth 20000 in
theorem ggX3_deleteNode_X3_setWidth : GoodIn wsX3_deleteNode wsX3_setWidth := goodIn_r _ [28, 11, 29, 30, 31] (by decide +kernel) (by decide +kernel)
set_option maxRecDepth 20000 in
theorem gX3_deleteNode_X3_setWidth : GoodIn wsX3_deleteNode (wsV RX3 63 RX3 yX3_setWidth wsX3_setWidth) := goodIn_app (goodIn_of _ (by decide +kernel)) ggX3_deleteNode_X3_setWidth
theorem dX3_deleteNode_0 : decode cX3_deleteNode 0 = .ok (.aload_n 0, 1) := by decide +kernel
theorem dX3_deleteNode_1 : decode cX3_deleteNode 1 = .ok (.iload_n 1, 1) := by decide +kernel
theorem dX3_deleteNode_2 : decode cX3_deleteNode 2 = .ok (.invokevirtual 26, 3) := by decide +kernel
theorem dX3_deleteNode_5 : decode cX3_deleteNode 5 = .ok (.istore_n 3, 1) := by decide +kernel
theorem dX3_deleteNode_6 : decode cX3_deleteNode 6 = .ok (.iload_n 2, 1) := by decide +kernel
theorem dX3_deleteNode_7 : decode cX3_deleteNode 7 = .ok (.istore 4, 2) := by decide +kernel
theorem dX3_deleteNode_9 : decode cX3_deleteNode 9 = .ok (.iload 4, 2) := by decide +kernel
theorem dX3_deleteNode_11 : decode cX3_deleteNode 11 = .ok (.iload_n 3, 1) := by decide +kernel
theorem dX3_deleteNode_12 : decode cX3_deleteNode 12 = .ok (.iconst 1, 1) := by decide +kernel
theorem dX3_deleteNode_13 : decode cX3_deleteNode 13 = .ok (.isub, 1) := by decide +kernel
theorem dX3_deleteNode_14 : decode cX3_deleteNode 14 = .ok (.if_icmp .ge 25, 3) := by decide +kernel
theorem dX3_deleteNode_17 : decode cX3_deleteNode 17 = .ok (.aload_n 0, 1) := by decide +kernel
theorem dX3_deleteNode_18 : decode cX3_deleteNode 18 = .ok (.iload_n 1, 1) := by decide +kernel
theorem dX3_deleteNode_19 : decode cX3_deleteNode 19 = .ok (.iload 4, 2) := by decide +kernel
theorem dX3_deleteNode_21 : decode cX3_deleteNode 21 = .ok (.aload_n 0, 1) := by decide +kernel
theorem dX3_deleteNode_22 : decode cX3_deleteNode 22 = .ok (.iload_n 1, 1) := by decide +kernel
theorem dX3_deleteNode_23 : decode cX3_deleteNode 23 = .ok (.iload 4, 2) := by decide +kernel
theorem dX3_deleteNode_25 : decode cX3_deleteNode 25 = .ok (.iconst 1, 1) := by decide +kernel
theorem dX3_deleteNode_26 : decode cX3_deleteNode 26 = .ok (.iadd, 1) := by decide +kernel
theorem dX3_deleteNode_27 : decode cX3_deleteNode 27 = .ok (.invokevirtual 30, 3) := by decide +kernel
theorem dX3_deleteNode_30 : decode cX3_deleteNode 30 = .ok (.invokevirtual 48, 3) := by decide +kernel
theorem dX3_deleteNode_33 : decode cX3_deleteNode 33 = .ok (.iinc 4 1, 3) := by decide +kernel
theorem dX3_deleteNode_36 : decode cX3_deleteNode 36 = .ok (.goto (-27), 3) := by decide +kernel
theorem dX3_deleteNode_39 : decode cX3_deleteNode 39 = .ok (.aload_n 0, 1) := by decide +kernel
theorem dX3_deleteNode_40 : decode cX3_deleteNode 40 = .ok (.iload_n 1, 1) := by decide +kernel
theorem dX3_deleteNode_41 : decode cX3_deleteNode 41 = .ok (.iconst 0, 1) := by decide +kernel
theorem dX3_deleteNode_42 : decode cX3_deleteNode 42 = .ok (.iload_n 3, 1) := by decide +kernel
theorem dX3_deleteNode_43 : decode cX3_deleteNode 43 = .ok (.iconst 1, 1) := by decide +kernel
theorem dX3_deleteNode_44 : decode cX3_deleteNode 44 = .ok (.isub, 1) := by decide +kernel
theorem dX3_deleteNode_45 : decode cX3_deleteNode 45 = .ok (.invokestatic 90, 3) := by decide +kernel
theorem dX3_deleteNode_48 : decode cX3_deleteNode 48 = .ok (.invokevirtual 63, 3) := by decide +kernel
theorem dX3_deleteNode_51 : decode cX3_deleteNode 51 = .ok (.return_, 1) := by decide +kernel
set_option maxRecDepth 20000 in
theorem ggX3_planAnew_X3_setWidth : GoodIn wsX3_planAnew wsX3_setWidth := goodIn_r _ [10, 11, 21, 22, 23] (by decide +kernel) (by decide +kernel)
set_option maxRecDepth 20000 in
theorem gX3_planAnew_X3_setWidth : GoodIn wsX3_planAnew (wsV RX3 63 RX3 yX3_setWidth wsX3_setWidth) := goodIn_app (goodIn_of _ (by decide +kernel)) ggX3_planAnew_X3_setWidth
set_option maxRecDepth 20000 in
theorem ggX3_planAnew_X3_setLoad : GoodIn wsX3_planAnew wsX3_setLoad := goodIn_r _ [15, 16, 17, 18, 19, 9, 20, 1, 11, 21, 22, 23] (by decide +kernel) (by decide +kernel)
set_option maxRecDepth 20000 in
theorem gX3_planAnew_X3_setLoad : GoodIn wsX3_planAnew (wsV RX3 48 RX3 yX3_setLoad wsX3_setLoad) := goodIn_app (goodIn_of _ (by decide +kernel)) ggX3_planAnew_X3_setLoad
theorem dX3_planAnew_0 : decode cX3_planAnew 0 = .ok (.aload_n 0, 1) := by decide +kernel
theorem dX3_planAnew_1 : decode cX3_planAnew 1 = .ok (.iconst 0, 1) := by decide +kernel
theorem dX3_planAnew_2 : decode cX3_planAnew 2 = .ok (.putfield 18, 3) := by decide +kernel
theorem dX3_planAnew_5 : decode cX3_planAnew 5 = .ok (.iload_n 1, 1) := by decide +kernel
theorem dX3_planAnew_6 : decode cX3_planAnew 6 = .ok (.istore_n 2, 1) := by decide +kernel
theorem dX3_planAnew_7 : decode cX3_planAnew 7 = .ok (.iconst 0, 1) := by decide +kernel
theorem dX3_planAnew_8 : decode cX3_planAnew 8 = .ok (.istore_n 3, 1) := by decide +kernel
theorem dX3_planAnew_9 : decode cX3_planAnew 9 = .ok (.iload_n 3, 1) := by decide +kernel
theorem dX3_planAnew_10 : decode cX3_planAnew 10 = .ok (.bipush 8, 2) := by decide +kernel
theorem dX3_planAnew_12 : decode cX3_planAnew 12 = .ok (.if_icmp .ge 82, 3) := by decide +kernel
theorem dX3_planAnew_15 : decode cX3_planAnew 15 = .ok (.iload_n 2, 1) := by decide +kernel
theorem dX3_planAnew_16 : decode cX3_planAnew 16 = .ok (.ifCond .le 78, 3) := by decide +kernel
theorem dX3_planAnew_19 : decode cX3_planAnew 19 = .ok (.iload_n 2, 1) := by decide +kernel
theorem dX3_planAnew_20 : decode cX3_planAnew 20 = .ok (.iconst 4, 1) := by decide +kernel
theorem dX3_planAnew_21 : decode cX3_planAnew 21 = .ok (.iadd, 1) := by decide +kernel
theorem dX3_planAnew_22 : decode cX3_planAnew 22 = .ok (.iconst 1, 1) := by decide +kernel
theorem dX3_planAnew_23 : decode cX3_planAnew 23 = .ok (.isub, 1) := by decide +kernel
theorem dX3_planAnew_24 : decode cX3_planAnew 24 = .ok (.iconst 4, 1) := by decide +kernel
theorem dX3_planAnew_25 : decode cX3_planAnew 25 = .ok (.idiv, 1) := by decide +kernel
theorem dX3_planAnew_26 : decode cX3_planAnew 26 = .ok (.istore 4, 2) := by decide +kernel
theorem dX3_planAnew_28 : decode cX3_planAnew 28 = .ok (.aload_n 0, 1) := by decide +kernel
theorem dX3_planAnew_29 : decode cX3_planAnew 29 = .ok (.iload_n 3, 1) := by decide +kernel
theorem dX3_planAnew_30 : decode cX3_planAnew 30 = .ok (.iconst 1, 1) := by decide +kernel
theorem dX3_planAnew_31 : decode cX3_planAnew 31 = .ok (.iadd, 1) := by decide +kernel
theorem dX3_planAnew_32 : decode cX3_planAnew 32 = .ok (.putfield 18, 3) := by decide +kernel
theorem dX3_planAnew_35 : decode cX3_planAnew 35 = .ok (.aload_n 0, 1) := by decide +kernel
theorem dX3_planAnew_36 : decode cX3_planAnew 36 = .ok (.iload_n 3, 1) := by decide +kernel
theorem dX3_planAnew_37 : decode cX3_planAnew 37 = .ok (.iload 4, 2) := by decide +kernel
theorem dX3_planAnew_39 : decode cX3_planAnew 39 = .ok (.invokevirtual 63, 3) := by decide +kernel
theorem dX3_planAnew_42 : decode cX3_planAnew 42 = .ok (.iconst 0, 1) := by decide +kernel
theorem dX3_planAnew_43 : decode cX3_planAnew 43 = .ok (.istore 5, 2) := by decide +kernel
theorem dX3_planAnew_45 : decode cX3_planAnew 45 = .ok (.iload 5, 2) := by decide +kernel
theorem dX3_planAnew_47 : decode cX3_planAnew 47 = .ok (.iload 4, 2) := by decide +kernel
theorem dX3_planAnew_49 : decode cX3_planAnew 49 = .ok (.if_icmp .ge 26, 3) := by decide +kernel
theorem dX3_planAnew_52 : decode cX3_planAnew 52 = .ok (.aload_n 0, 1) := by decide +kernel
theorem dX3_planAnew_53 : decode cX3_planAnew 53 = .ok (.iload_n 3, 1) := by decide +kernel
theorem dX3_planAnew_54 : decode cX3_planAnew 54 = .ok (.iload 5, 2) := by decide +kernel
theorem dX3_planAnew_56 : decode cX3_planAnew 56 = .ok (.iconst 4, 1) := by decide +kernel
theorem dX3_planAnew_57 : decode cX3_planAnew 57 = .ok (.iload_n 2, 1) := by decide +kernel
theorem dX3_planAnew_58 : decode cX3_planAnew 58 = .ok (.iload 5, 2) := by decide +kernel
theorem dX3_planAnew_60 : decode cX3_planAnew 60 = .ok (.iconst 4, 1) := by decide +kernel
theorem dX3_planAnew_61 : decode cX3_planAnew 61 = .ok (.imul, 1) := by decide +kernel
theorem dX3_planAnew_62 : decode cX3_planAnew 62 = .ok (.isub, 1) := by decide +kernel
theorem dX3_planAnew_63 : decode cX3_planAnew 63 = .ok (.invokestatic 73, 3) := by decide +kernel
theorem dX3_planAnew_66 : decode cX3_planAnew 66 = .ok (.invokevirtual 48, 3) := by decide +kernel
theorem dX3_planAnew_69 : decode cX3_planAnew 69 = .ok (.iinc 5 1, 3) := by decide +kernel
theorem dX3_planAnew_72 : decode cX3_planAnew 72 = .ok (.goto (-27), 3) := by decide +kernel
theorem dX3_planAnew_75 : decode cX3_planAnew 75 = .ok (.iload 4, 2) := by decide +kernel
theorem dX3_planAnew_77 : decode cX3_planAnew 77 = .ok (.iconst 1, 1) := by decide +kernel
theorem dX3_planAnew_78 : decode cX3_planAnew 78 = .ok (.if_icmp .le 8, 3) := by decide +kernel
theorem dX3_planAnew_81 : decode cX3_planAnew 81 = .ok (.iload 4, 2) := by decide +kernel
theorem dX3_planAnew_83 : decode cX3_planAnew 83 = .ok (.goto 4, 3) := by decide +kernel
theorem dX3_planAnew_86 : decode cX3_planAnew 86 = .ok (.iconst 0, 1) := by decide +kernel
theorem dX3_planAnew_87 : decode cX3_planAnew 87 = .ok (.istore_n 2, 1) := by decide +kernel
theorem dX3_planAnew_88 : decode cX3_planAnew 88 = .ok (.iinc 3 1, 3) := by decide +kernel
theorem dX3_planAnew_91 : decode cX3_planAnew 91 = .ok (.goto (-82), 3) := by decide +kernel
theorem dX3_planAnew_94 : decode cX3_planAnew 94 = .ok (.return_, 1) := by decide +kernel
set_option maxRecDepth 20000 in
theorem ggX4_init_X2_init : GoodIn wsX4_init wsX2_init := goodIn_r _ [15, 16, 2, 3, 4, 17, 18, 19, 20, 21, 30, 31, 32, 33, 34, 35] (by decide +kernel) (by decide +kernel)
set_option maxRecDepth 20000 in
theorem gX4_init_X2_init_n15 : GoodIn wsX4_init (wsX2_init) := ggX4_init_X2_init
set_option maxRecDepth 20000 in
theorem ggX4_init_X3_init : GoodIn wsX4_init wsX3_init := goodIn_r _ [23, 24, 2, 3, 4, 25, 26, 36, 37, 38] (by decide +kernel) (by decide +kernel)
set_option maxRecDepth 20000 in
theorem gX4_init_X3_init_n22 : GoodIn wsX4_init (wsX3_init) := ggX4_init_X3_init
theorem dX4_init_0 : decode cX4_init 0 = .ok (.aload_n 0, 1) := by decide +kernel
theorem dX4_init_1 : decode cX4_init 1 = .ok (.invokespecial 1, 3) := by decide +kernel
theorem dX4_init_4 : decode cX4_init 4 = .ok (.aload_n 0, 1) := by decide +kernel
theorem dX4_init_5 : decode cX4_init 5 = .ok (.bipush 60, 2) := by decide +kernel
theorem dX4_init_7 : decode cX4_init 7 = .ok (.newarray .int, 2) := by decide +kernel
theorem dX4_init_9 : decode cX4_init 9 = .ok (.putfield 9, 3) := by decide +kernel
theorem dX4_init_12 : decode cX4_init 12 = .ok (.aload_n 0, 1) := by decide +kernel
theorem dX4_init_13 : decode cX4_init 13 = .ok (.new 13, 3) := by decide +kernel
theorem dX4_init_16 : decode cX4_init 16 = .ok (.dup, 1) := by decide +kernel
theorem dX4_init_17 : decode cX4_init 17 = .ok (.invokespecial 15, 3) := by decide +kernel
theorem dX4_init_20 : decode cX4_init 20 = .ok (.putfield 16, 3) := by decide +kernel
theorem dX4_init_23 : decode cX4_init 23 = .ok (.aload_n 0, 1) := by decide +kernel
theorem dX4_init_24 : decode cX4_init 24 = .ok (.new 20, 3) := by decide +kernel
theorem dX4_init_27 : decode cX4_init 27 = .ok (.dup, 1) := by decide +kernel
theorem dX4_init_28 : decode cX4_init 28 = .ok (.invokespecial 22, 3) := by decide +kernel
theorem dX4_init_31 : decode cX4_init 31 = .ok (.putfield 23, 3) := by decide +kernel
theorem dX4_init_34 : decode cX4_init 34 = .ok (.return_, 1) := by decide +kernel
set_option maxRecDepth 20000 in
theorem ggX4_add_X4_checkSides : GoodIn wsX4_add wsX4_checkSides := goodIn_ca (goodIn_r _ [8, 9, 10, 11, 12, 7, 13] (by decide +kernel) (by decide +kernel)) (goodIn_sub (fun _ h => List.mem_cons_of_mem _ (List.mem_append_right _ h)) (by decide +kernel))
set_option maxRecDepth 20000 in
theorem gX4_add_X4_checkSides : GoodIn wsX4_add (va_wsS RX4 27 yX4_checkSides wsX4_checkSides) := goodIn_app (goodIn_of _ (by decide +kernel)) ggX4_add_X4_checkSides
set_option maxRecDepth 20000 in
theorem ggX4_add_X2_hasRoom : GoodIn wsX4_add wsX2_hasRoom := goodIn_r _ [18, 19, 20, 141, 142, 143, 144, 145, 146] (by decide +kernel) (by decide +kernel)
set_option maxRecDepth 20000 in
theorem gX4_add_X2_hasRoom : GoodIn wsX4_add (wsV RX4 31 RX2 yX2_hasRoom wsX2_hasRoom) := goodIn_app (goodIn_of _ (by decide +kernel)) ggX4_add_X2_hasRoom
set_option maxRecDepth 20000 in
theorem ggX4_add_X0_of : GoodIn wsX4_add wsX0_of := goodIn_r _ [24] (by decide +kernel) (by decide +kernel)
set_option maxRecDepth 20000 in
theorem gX4_add_X0_of : GoodIn wsX4_add (va_wsS RX4 42 yX0_of wsX0_of) := goodIn_app (goodIn_of _ (by decide +kernel)) ggX4_add_X0_of
set_option maxRecDepth 20000 in
theorem ggX4_add_X2_putIn : GoodIn wsX4_add wsX2_putIn := goodIn_r _ [28, 19, 29, 30, 31, 32, 33, 23, 34, 35, 36, 37, 38, 39, 40, 41, 42, 43, 44, 45, 46, 47, 17, 48, 20, 49, 50, 51, 52, 53, 54, 55, 56, 57, 58, 59, 60, 61, 141, 142, 143, 144, 145, 146] (by decide +kernel) (by decide +kernel)
set_option maxRecDepth 20000 in
theorem gX4_add_X2_putIn : GoodIn wsX4_add (wsV RX4 48 RX2 yX2_putIn wsX2_putIn) := goodIn_app (goodIn_of _ (by decide +kernel)) ggX4_add_X2_putIn
set_option maxRecDepth 20000 in
theorem ggX4_add_X2_placeOf : GoodIn wsX4_add wsX2_placeOf := goodIn_r _ [65, 20, 49, 50, 51, 17, 52, 53, 141, 142, 143, 144, 145, 146] (by decide +kernel) (by decide +kernel)
set_option maxRecDepth 20000 in
theorem gX4_add_X2_placeOf : GoodIn wsX4_add (wsV RX4 52 RX2 yX2_placeOf wsX2_placeOf) := goodIn_app (goodIn_of _ (by decide +kernel)) ggX4_add_X2_placeOf
set_option maxRecDepth 20000 in
theorem ggX4_add_X3_grow : GoodIn wsX4_add wsX3_grow := goodIn_r _ [70, 71, 72, 73, 74, 69, 75, 76, 77, 78, 79, 80, 81, 82, 83, 84, 85, 86, 87, 88, 89, 90, 91, 92, 93, 94, 95, 96, 97, 98, 99, 100, 101, 102, 103, 104, 105, 106, 107, 108, 109, 110, 111, 112, 113, 114, 115, 116, 117, 118, 119, 120, 121, 122, 123, 124, 125, 126, 127, 128, 129, 130, 131, 132, 133, 134, 135, 136, 137, 147, 148, 149] (by decide +kernel) (by decide +kernel)
set_option maxRecDepth 20000 in
theorem gX4_add_X3_grow : GoodIn wsX4_add (wsV RX4 55 RX3 yX3_grow wsX3_grow) := goodIn_app (goodIn_of _ (by decide +kernel)) ggX4_add_X3_grow
theorem dX4_add_0 : decode cX4_add 0 = .ok (.iload_n 1, 1) := by decide +kernel
theorem dX4_add_1 : decode cX4_add 1 = .ok (.iload_n 2, 1) := by decide +kernel
theorem dX4_add_2 : decode cX4_add 2 = .ok (.iload_n 3, 1) := by decide +kernel
theorem dX4_add_3 : decode cX4_add 3 = .ok (.iload 4, 2) := by decide +kernel
theorem dX4_add_5 : decode cX4_add 5 = .ok (.invokestatic 27, 3) := by decide +kernel
theorem dX4_add_8 : decode cX4_add 8 = .ok (.aload_n 0, 1) := by decide +kernel
theorem dX4_add_9 : decode cX4_add 9 = .ok (.getfield 16, 3) := by decide +kernel
theorem dX4_add_12 : decode cX4_add 12 = .ok (.invokevirtual 31, 3) := by decide +kernel
theorem dX4_add_15 : decode cX4_add 15 = .ok (.ifCond .ne 13, 3) := by decide +kernel
theorem dX4_add_18 : decode cX4_add 18 = .ok (.new 35, 3) := by decide +kernel
theorem dX4_add_21 : decode cX4_add 21 = .ok (.dup, 1) := by decide +kernel
theorem dX4_add_22 : decode cX4_add 22 = .ok (.ldc 37, 2) := by decide +kernel
theorem dX4_add_24 : decode cX4_add 24 = .ok (.invokespecial 39, 3) := by decide +kernel
theorem dX4_add_27 : decode cX4_add 27 = .ok (.athrow, 1) := by decide +kernel
theorem dX4_add_28 : decode cX4_add 28 = .ok (.aload_n 0, 1) := by decide +kernel
theorem dX4_add_29 : decode cX4_add 29 = .ok (.getfield 16, 3) := by decide +kernel
theorem dX4_add_32 : decode cX4_add 32 = .ok (.iload_n 1, 1) := by decide +kernel
theorem dX4_add_33 : decode cX4_add 33 = .ok (.iload_n 2, 1) := by decide +kernel
theorem dX4_add_34 : decode cX4_add 34 = .ok (.iload_n 3, 1) := by decide +kernel
theorem dX4_add_35 : decode cX4_add 35 = .ok (.iload 4, 2) := by decide +kernel
theorem dX4_add_37 : decode cX4_add 37 = .ok (.invokestatic 42, 3) := by decide +kernel
theorem dX4_add_40 : decode cX4_add 40 = .ok (.invokevirtual 48, 3) := by decide +kernel
theorem dX4_add_43 : decode cX4_add 43 = .ok (.istore 5, 2) := by decide +kernel
theorem dX4_add_45 : decode cX4_add 45 = .ok (.aload_n 0, 1) := by decide +kernel
theorem dX4_add_46 : decode cX4_add 46 = .ok (.getfield 23, 3) := by decide +kernel
theorem dX4_add_49 : decode cX4_add 49 = .ok (.aload_n 0, 1) := by decide +kernel
theorem dX4_add_50 : decode cX4_add 50 = .ok (.getfield 16, 3) := by decide +kernel
theorem dX4_add_53 : decode cX4_add 53 = .ok (.iload 5, 2) := by decide +kernel
theorem dX4_add_55 : decode cX4_add 55 = .ok (.invokevirtual 52, 3) := by decide +kernel
theorem dX4_add_58 : decode cX4_add 58 = .ok (.invokevirtual 55, 3) := by decide +kernel
theorem dX4_add_61 : decode cX4_add 61 = .ok (.iload 5, 2) := by decide +kernel
theorem dX4_add_63 : decode cX4_add 63 = .ok (.ireturn, 1) := by decide +kernel
set_option maxRecDepth 20000 in
theorem ggX4_remove_X4_checkBox : GoodIn wsX4_remove wsX4_checkBox := goodIn_ca (goodIn_r _ [7, 8, 9, 2, 10, 11, 12, 13, 14, 15, 111, 112, 113, 114, 115, 116, 117, 118, 119] (by decide +kernel) (by decide +kernel)) (goodIn_sub (fun _ h => List.mem_cons_of_mem _ (List.mem_append_right _ h)) (by decide +kernel))
set_option maxRecDepth 20000 in
theorem gX4_remove_X4_checkBox : GoodIn wsX4_remove (wsV RX4 59 RX4 yX4_checkBox wsX4_checkBox) := goodIn_app (goodIn_of _ (by decide +kernel)) ggX4_remove_X4_checkBox
set_option maxRecDepth 20000 in
theorem ggX4_remove_X2_placeOf : GoodIn wsX4_remove wsX2_placeOf := goodIn_r _ [19, 20, 21, 22, 23, 13, 24, 25, 114, 115, 116, 117, 118, 119] (by decide +kernel) (by decide +kernel)
set_option maxRecDepth 20000 in
theorem gX4_remove_X2_placeOf : GoodIn wsX4_remove (wsV RX4 52 RX2 yX2_placeOf wsX2_placeOf) := goodIn_app (goodIn_of _ (by decide +kernel)) ggX4_remove_X2_placeOf
set_option maxRecDepth 20000 in
theorem ggX4_remove_X3_shrink : GoodIn wsX4_remove wsX3_shrink := goodIn_r _ [30, 31, 32, 33, 34, 29, 35, 36, 37, 38, 39, 40, 41, 42, 43, 44, 45, 46, 47, 48, 49, 50, 51, 52, 53, 54, 55, 56, 57, 58, 59, 60, 61, 62, 63, 64, 65, 66, 67, 68, 69, 70, 71, 72, 73, 74, 75, 76, 77, 78, 79, 80, 81, 82, 83, 84, 85, 86, 87, 88, 89, 90, 91, 92, 93, 94, 95, 96, 120, 121, 122] (by decide +kernel) (by decide +kernel)
set_option maxRecDepth 20000 in
theorem gX4_remove_X3_shrink : GoodIn wsX4_remove (wsV RX4 62 RX3 yX3_shrink wsX3_shrink) := goodIn_app (goodIn_of _ (by decide +kernel)) ggX4_remove_X3_shrink
set_option maxRecDepth 20000 in
theorem ggX4_remove_X2_takeOut : GoodIn wsX4_remove wsX2_takeOut := goodIn_r _ [100, 15, 20, 101, 17, 18, 13, 19, 21, 22, 23, 24, 25, 102, 11, 12, 14, 103, 104, 105, 106, 114, 115, 116, 117, 118, 119] (by decide +kernel) (by decide +kernel)
set_option maxRecDepth 20000 in
theorem gX4_remove_X2_takeOut : GoodIn wsX4_remove (wsV RX4 65 RX2 yX2_takeOut wsX2_takeOut) := goodIn_app (goodIn_of _ (by decide +kernel)) ggX4_remove_X2_takeOut
set_option maxRecDepth 20000 in
theorem ggX4_remove_X2_size : GoodIn wsX4_remove wsX2_size := goodIn_r _ [110, 20, 114, 115, 116, 117, 118, 119] (by decide +kernel) (by decide +kernel)
set_option maxRecDepth 20000 in
theorem gX4_remove_X2_size : GoodIn wsX4_remove (wsV RX4 68 RX2 yX2_size wsX2_size) := goodIn_app (goodIn_of _ (by decide +kernel)) ggX4_remove_X2_size
theorem dX4_remove_0 : decode cX4_remove 0 = .ok (.aload_n 0, 1) := by decide +kernel
theorem dX4_remove_1 : decode cX4_remove 1 = .ok (.iload_n 1, 1) := by decide +kernel
theorem dX4_remove_2 : decode cX4_remove 2 = .ok (.invokevirtual 59, 3) := by decide +kernel
theorem dX4_remove_5 : decode cX4_remove 5 = .ok (.aload_n 0, 1) := by decide +kernel
theorem dX4_remove_6 : decode cX4_remove 6 = .ok (.getfield 23, 3) := by decide +kernel
theorem dX4_remove_9 : decode cX4_remove 9 = .ok (.aload_n 0, 1) := by decide +kernel
theorem dX4_remove_10 : decode cX4_remove 10 = .ok (.getfield 16, 3) := by decide +kernel
theorem dX4_remove_13 : decode cX4_remove 13 = .ok (.iload_n 1, 1) := by decide +kernel
theorem dX4_remove_14 : decode cX4_remove 14 = .ok (.invokevirtual 52, 3) := by decide +kernel
theorem dX4_remove_17 : decode cX4_remove 17 = .ok (.invokevirtual 62, 3) := by decide +kernel
theorem dX4_remove_20 : decode cX4_remove 20 = .ok (.aload_n 0, 1) := by decide +kernel
theorem dX4_remove_21 : decode cX4_remove 21 = .ok (.getfield 16, 3) := by decide +kernel
theorem dX4_remove_24 : decode cX4_remove 24 = .ok (.iload_n 1, 1) := by decide +kernel
theorem dX4_remove_25 : decode cX4_remove 25 = .ok (.invokevirtual 65, 3) := by decide +kernel
theorem dX4_remove_28 : decode cX4_remove 28 = .ok (.aload_n 0, 1) := by decide +kernel
theorem dX4_remove_29 : decode cX4_remove 29 = .ok (.getfield 16, 3) := by decide +kernel
theorem dX4_remove_32 : decode cX4_remove 32 = .ok (.invokevirtual 68, 3) := by decide +kernel
theorem dX4_remove_35 : decode cX4_remove 35 = .ok (.ireturn, 1) := by decide +kernel
set_option maxRecDepth 20000 in
theorem ggX4_pack_X2_size : GoodIn wsX4_pack wsX2_size := goodIn_r _ [7, 8, 40, 41, 42, 43, 44, 45] (by decide +kernel) (by decide +kernel)
set_option maxRecDepth 20000 in
theorem gX4_pack_X2_size : GoodIn wsX4_pack (wsV RX4 68 RX2 yX2_size wsX2_size) := goodIn_app (goodIn_of _ (by decide +kernel)) ggX4_pack_X2_size
set_option maxRecDepth 20000 in
theorem ggX4_pack_X3_planAnew : GoodIn wsX4_pack wsX3_planAnew := goodIn_r _ [13, 14, 15, 16, 17, 18, 19, 20, 21, 12, 22, 23, 24, 25, 26, 27, 28, 29, 30, 31, 32, 46, 47, 48] (by decide +kernel) (by decide +kernel)
set_option maxRecDepth 20000 in
theorem gX4_pack_X3_planAnew : GoodIn wsX4_pack (wsV RX4 72 RX3 yX3_planAnew wsX3_planAnew) := goodIn_app (goodIn_of _ (by decide +kernel)) ggX4_pack_X3_planAnew
set_option maxRecDepth 20000 in
theorem ggX4_pack_X3_width : GoodIn wsX4_pack wsX3_width := goodIn_r _ [36, 14, 23, 46, 47, 48] (by decide +kernel) (by decide +kernel)
set_option maxRecDepth 20000 in
theorem gX4_pack_X3_width : GoodIn wsX4_pack (wsV RX4 75 RX3 yX3_width wsX3_width) := goodIn_app (goodIn_of _ (by decide +kernel)) ggX4_pack_X3_width
theorem dX4_pack_0 : decode cX4_pack 0 = .ok (.aload_n 0, 1) := by decide +kernel
theorem dX4_pack_1 : decode cX4_pack 1 = .ok (.getfield 23, 3) := by decide +kernel
theorem dX4_pack_4 : decode cX4_pack 4 = .ok (.aload_n 0, 1) := by decide +kernel
theorem dX4_pack_5 : decode cX4_pack 5 = .ok (.getfield 16, 3) := by decide +kernel
theorem dX4_pack_8 : decode cX4_pack 8 = .ok (.invokevirtual 68, 3) := by decide +kernel
theorem dX4_pack_11 : decode cX4_pack 11 = .ok (.invokevirtual 72, 3) := by decide +kernel
theorem dX4_pack_14 : decode cX4_pack 14 = .ok (.aload_n 0, 1) := by decide +kernel
theorem dX4_pack_15 : decode cX4_pack 15 = .ok (.getfield 23, 3) := by decide +kernel
theorem dX4_pack_18 : decode cX4_pack 18 = .ok (.iconst 0, 1) := by decide +kernel
theorem dX4_pack_19 : decode cX4_pack 19 = .ok (.invokevirtual 75, 3) := by decide +kernel
theorem dX4_pack_22 : decode cX4_pack 22 = .ok (.ireturn, 1) := by decide +kernel
set_option maxRecDepth 20000 in
theorem ggX4_boxes_X2_size : GoodIn wsX4_boxes wsX2_size := goodIn_r _ [6, 7, 11, 12, 13, 14, 15, 16] (by decide +kernel) (by decide +kernel)
set_option maxRecDepth 20000 in
theorem gX4_boxes_X2_size : GoodIn wsX4_boxes (wsV RX4 68 RX2 yX2_size wsX2_size) := goodIn_app (goodIn_of _ (by decide +kernel)) ggX4_boxes_X2_size
theorem dX4_boxes_0 : decode cX4_boxes 0 = .ok (.aload_n 0, 1) := by decide +kernel
theorem dX4_boxes_1 : decode cX4_boxes 1 = .ok (.getfield 16, 3) := by decide +kernel
theorem dX4_boxes_4 : decode cX4_boxes 4 = .ok (.invokevirtual 68, 3) := by decide +kernel
theorem dX4_boxes_7 : decode cX4_boxes 7 = .ok (.ireturn, 1) := by decide +kernel
set_option maxRecDepth 20000 in
theorem ggX4_key_X4_checkPoint : GoodIn wsX4_key wsX4_checkPoint := goodIn_ca (goodIn_r _ [4, 5, 6, 7, 8, 3, 9] (by decide +kernel) (by decide +kernel)) (goodIn_sub (fun _ h => List.mem_cons_of_mem _ (List.mem_append_right _ h)) (by decide +kernel))
set_option maxRecDepth 20000 in
theorem gX4_key_X4_checkPoint : GoodIn wsX4_key (va_wsS RX4 78 yX4_checkPoint wsX4_checkPoint) := goodIn_app (goodIn_of _ (by decide +kernel)) ggX4_key_X4_checkPoint
set_option maxRecDepth 20000 in
theorem ggX4_key_X1_lengthTo : GoodIn wsX4_key wsX1_lengthTo := goodIn_r _ [13, 14, 15, 12, 16] (by decide +kernel) (by decide +kernel)
set_option maxRecDepth 20000 in
theorem gX4_key_X1_lengthTo : GoodIn wsX4_key (va_wsS RX4 82 yX1_lengthTo wsX1_lengthTo) := goodIn_app (goodIn_of _ (by decide +kernel)) ggX4_key_X1_lengthTo
theorem dX4_key_0 : decode cX4_key 0 = .ok (.iload_n 1, 1) := by decide +kernel
theorem dX4_key_1 : decode cX4_key 1 = .ok (.iload_n 2, 1) := by decide +kernel
theorem dX4_key_2 : decode cX4_key 2 = .ok (.invokestatic 78, 3) := by decide +kernel
theorem dX4_key_5 : decode cX4_key 5 = .ok (.iload_n 1, 1) := by decide +kernel
theorem dX4_key_6 : decode cX4_key 6 = .ok (.iload_n 2, 1) := by decide +kernel
theorem dX4_key_7 : decode cX4_key 7 = .ok (.invokestatic 82, 3) := by decide +kernel
theorem dX4_key_10 : decode cX4_key 10 = .ok (.ireturn, 1) := by decide +kernel
set_option maxRecDepth 20000 in
theorem ggX4_keyOf_X4_checkBox : GoodIn wsX4_keyOf wsX4_checkBox := goodIn_ca (goodIn_r _ [6, 7, 8, 1, 9, 10, 11, 12, 13, 14, 20, 21, 22, 23, 24, 25, 26, 27, 28] (by decide +kernel) (by decide +kernel)) (goodIn_sub (fun _ h => List.mem_cons_of_mem _ (List.mem_append_right _ h)) (by decide +kernel))
set_option maxRecDepth 20000 in
theorem gX4_keyOf_X4_checkBox : GoodIn wsX4_keyOf (wsV RX4 59 RX4 yX4_checkBox wsX4_checkBox) := goodIn_app (goodIn_of _ (by decide +kernel)) ggX4_keyOf_X4_checkBox
set_option maxRecDepth 20000 in
theorem ggX4_keyOf_X2_keyFor : GoodIn wsX4_keyOf wsX2_keyFor := goodIn_r _ [18, 19, 23, 24, 25, 26, 27, 28] (by decide +kernel) (by decide +kernel)
set_option maxRecDepth 20000 in
theorem gX4_keyOf_X2_keyFor : GoodIn wsX4_keyOf (wsV RX4 88 RX2 yX2_keyFor wsX2_keyFor) := goodIn_app (goodIn_of _ (by decide +kernel)) ggX4_keyOf_X2_keyFor
theorem dX4_keyOf_0 : decode cX4_keyOf 0 = .ok (.aload_n 0, 1) := by decide +kernel
theorem dX4_keyOf_1 : decode cX4_keyOf 1 = .ok (.iload_n 1, 1) := by decide +kernel
theorem dX4_keyOf_2 : decode cX4_keyOf 2 = .ok (.invokevirtual 59, 3) := by decide +kernel
theorem dX4_keyOf_5 : decode cX4_keyOf 5 = .ok (.aload_n 0, 1) := by decide +kernel
theorem dX4_keyOf_6 : decode cX4_keyOf 6 = .ok (.getfield 16, 3) := by decide +kernel
theorem dX4_keyOf_9 : decode cX4_keyOf 9 = .ok (.iload_n 1, 1) := by decide +kernel
theorem dX4_keyOf_10 : decode cX4_keyOf 10 = .ok (.invokevirtual 88, 3) := by decide +kernel
theorem dX4_keyOf_13 : decode cX4_keyOf 13 = .ok (.ireturn, 1) := by decide +kernel
set_option maxRecDepth 20000 in
theorem ggX4_sideOf_X4_checkSide : GoodIn wsX4_sideOf wsX4_checkSide := goodIn_ca (goodIn_r _ [5, 6, 7] (by decide +kernel) (by decide +kernel)) (goodIn_sub (fun _ h => List.mem_cons_of_mem _ (List.mem_append_left _ (List.mem_append_right _ h))) (by decide +kernel))
set_option maxRecDepth 20000 in
theorem gX4_sideOf_X4_checkSide : GoodIn wsX4_sideOf (va_wsS RX4 91 yX4_checkSide wsX4_checkSide) := goodIn_app (goodIn_of _ (by decide +kernel)) ggX4_sideOf_X4_checkSide
set_option maxRecDepth 20000 in
theorem ggX4_sideOf_X4_checkBox : GoodIn wsX4_sideOf wsX4_checkBox := goodIn_ca (goodIn_r _ [11, 12, 13, 1, 14, 15, 16, 17, 18, 19, 29, 30, 31, 32, 33, 34, 35, 36, 37] (by decide +kernel) (by decide +kernel)) (goodIn_sub (fun _ h => List.mem_cons_of_mem _ (List.mem_append_right _ h)) (by decide +kernel))
set_option maxRecDepth 20000 in
theorem gX4_sideOf_X4_checkBox : GoodIn wsX4_sideOf (wsV RX4 59 RX4 yX4_checkBox wsX4_checkBox) := goodIn_app (goodIn_of _ (by decide +kernel)) ggX4_sideOf_X4_checkBox
set_option maxRecDepth 20000 in
theorem ggX4_sideOf_X2_areaOf : GoodIn wsX4_sideOf wsX2_areaOf := goodIn_r _ [23, 24, 32, 33, 34, 35, 36, 37] (by decide +kernel) (by decide +kernel)
set_option maxRecDepth 20000 in
theorem gX4_sideOf_X2_areaOf : GoodIn wsX4_sideOf (wsV RX4 94 RX2 yX2_areaOf wsX2_areaOf) := goodIn_app (goodIn_of _ (by decide +kernel)) ggX4_sideOf_X2_areaOf
set_option maxRecDepth 20000 in
theorem ggX4_sideOf_X0_side : GoodIn wsX4_sideOf wsX0_side := goodIn_r _ [28] (by decide +kernel) (by decide +kernel)
set_option maxRecDepth 20000 in
theorem gX4_sideOf_X0_side : GoodIn wsX4_sideOf (va_wsS RX4 97 yX0_side wsX0_side) := goodIn_app (goodIn_of _ (by decide +kernel)) ggX4_sideOf_X0_side
theorem dX4_sideOf_0 : decode cX4_sideOf 0 = .ok (.iload_n 2, 1) := by decide +kernel
theorem dX4_sideOf_1 : decode cX4_sideOf 1 = .ok (.invokestatic 91, 3) := by decide +kernel
theorem dX4_sideOf_4 : decode cX4_sideOf 4 = .ok (.aload_n 0, 1) := by decide +kernel
theorem dX4_sideOf_5 : decode cX4_sideOf 5 = .ok (.iload_n 1, 1) := by decide +kernel
theorem dX4_sideOf_6 : decode cX4_sideOf 6 = .ok (.invokevirtual 59, 3) := by decide +kernel
theorem dX4_sideOf_9 : decode cX4_sideOf 9 = .ok (.aload_n 0, 1) := by decide +kernel
theorem dX4_sideOf_10 : decode cX4_sideOf 10 = .ok (.getfield 16, 3) := by decide +kernel
theorem dX4_sideOf_13 : decode cX4_sideOf 13 = .ok (.iload_n 1, 1) := by decide +kernel
theorem dX4_sideOf_14 : decode cX4_sideOf 14 = .ok (.invokevirtual 94, 3) := by decide +kernel
theorem dX4_sideOf_17 : decode cX4_sideOf 17 = .ok (.iload_n 2, 1) := by decide +kernel
theorem dX4_sideOf_18 : decode cX4_sideOf 18 = .ok (.invokestatic 97, 3) := by decide +kernel
theorem dX4_sideOf_21 : decode cX4_sideOf 21 = .ok (.ireturn, 1) := by decide +kernel
set_option maxRecDepth 20000 in
theorem ggX4_levels_X3_height : GoodIn wsX4_levels wsX3_height := goodIn_r _ [6, 7, 11, 12, 13] (by decide +kernel) (by decide +kernel)
set_option maxRecDepth 20000 in
theorem gX4_levels_X3_height : GoodIn wsX4_levels (wsV RX4 100 RX3 yX3_height wsX3_height) := goodIn_app (goodIn_of _ (by decide +kernel)) ggX4_levels_X3_height
theorem dX4_levels_0 : decode cX4_levels 0 = .ok (.aload_n 0, 1) := by decide +kernel
theorem dX4_levels_1 : decode cX4_levels 1 = .ok (.getfield 23, 3) := by decide +kernel
theorem dX4_levels_4 : decode cX4_levels 4 = .ok (.invokevirtual 100, 3) := by decide +kernel
theorem dX4_levels_7 : decode cX4_levels 7 = .ok (.ireturn, 1) := by decide +kernel
set_option maxRecDepth 20000 in
theorem ggX4_nodes_X3_hasLevel : GoodIn wsX4_nodes wsX3_hasLevel := goodIn_r _ [8, 9, 18, 19, 20] (by decide +kernel) (by decide +kernel)
set_option maxRecDepth 20000 in
theorem gX4_nodes_X3_hasLevel : GoodIn wsX4_nodes (wsV RX4 103 RX3 yX3_hasLevel wsX3_hasLevel) := goodIn_app (goodIn_of _ (by decide +kernel)) ggX4_nodes_X3_hasLevel
set_option maxRecDepth 20000 in
theorem ggX4_nodes_X3_width : GoodIn wsX4_nodes wsX3_width := goodIn_r _ [13, 9, 14, 18, 19, 20] (by decide +kernel) (by decide +kernel)
set_option maxRecDepth 20000 in
theorem gX4_nodes_X3_width : GoodIn wsX4_nodes (wsV RX4 75 RX3 yX3_width wsX3_width) := goodIn_app (goodIn_of _ (by decide +kernel)) ggX4_nodes_X3_width
theorem dX4_nodes_0 : decode cX4_nodes 0 = .ok (.aload_n 0, 1) := by decide +kernel
theorem dX4_nodes_1 : decode cX4_nodes 1 = .ok (.getfield 23, 3) := by decide +kernel
theorem dX4_nodes_4 : decode cX4_nodes 4 = .ok (.iload_n 1, 1) := by decide +kernel
theorem dX4_nodes_5 : decode cX4_nodes 5 = .ok (.invokevirtual 103, 3) := by decide +kernel
theorem dX4_nodes_8 : decode cX4_nodes 8 = .ok (.ifCond .ne 13, 3) := by decide +kernel
theorem dX4_nodes_11 : decode cX4_nodes 11 = .ok (.new 107, 3) := by decide +kernel
theorem dX4_nodes_14 : decode cX4_nodes 14 = .ok (.dup, 1) := by decide +kernel
theorem dX4_nodes_15 : decode cX4_nodes 15 = .ok (.ldc 109, 2) := by decide +kernel
theorem dX4_nodes_17 : decode cX4_nodes 17 = .ok (.invokespecial 111, 3) := by decide +kernel
theorem dX4_nodes_20 : decode cX4_nodes 20 = .ok (.athrow, 1) := by decide +kernel
theorem dX4_nodes_21 : decode cX4_nodes 21 = .ok (.aload_n 0, 1) := by decide +kernel
theorem dX4_nodes_22 : decode cX4_nodes 22 = .ok (.getfield 23, 3) := by decide +kernel
theorem dX4_nodes_25 : decode cX4_nodes 25 = .ok (.iload_n 1, 1) := by decide +kernel
theorem dX4_nodes_26 : decode cX4_nodes 26 = .ok (.invokevirtual 75, 3) := by decide +kernel
theorem dX4_nodes_29 : decode cX4_nodes 29 = .ok (.ireturn, 1) := by decide +kernel
set_option maxRecDepth 20000 in
theorem ggX4_entries_X4_checkNode : GoodIn wsX4_entries wsX4_checkNode := goodIn_ca (goodIn_r _ [6, 7, 8, 1, 9, 10, 11, 12, 13, 14, 15, 22, 23, 24, 25, 26, 27] (by decide +kernel) (by decide +kernel)) (goodIn_sub (fun _ h => List.mem_cons_of_mem _ (List.mem_append_right _ h)) (by decide +kernel))
set_option maxRecDepth 20000 in
theorem gX4_entries_X4_checkNode : GoodIn wsX4_entries (wsV RX4 112 RX4 yX4_checkNode wsX4_checkNode) := goodIn_app (goodIn_of _ (by decide +kernel)) ggX4_entries_X4_checkNode
set_option maxRecDepth 20000 in
theorem ggX4_entries_X3_load : GoodIn wsX4_entries wsX3_load := goodIn_r _ [19, 20, 21, 10, 11, 12, 13, 14, 15, 25, 26, 27] (by decide +kernel) (by decide +kernel)
set_option maxRecDepth 20000 in
theorem gX4_entries_X3_load : GoodIn wsX4_entries (wsV RX4 115 RX3 yX3_load wsX3_load) := goodIn_app (goodIn_of _ (by decide +kernel)) ggX4_entries_X3_load
theorem dX4_entries_0 : decode cX4_entries 0 = .ok (.aload_n 0, 1) := by decide +kernel
theorem dX4_entries_1 : decode cX4_entries 1 = .ok (.iload_n 1, 1) := by decide +kernel
theorem dX4_entries_2 : decode cX4_entries 2 = .ok (.iload_n 2, 1) := by decide +kernel
theorem dX4_entries_3 : decode cX4_entries 3 = .ok (.invokevirtual 112, 3) := by decide +kernel
theorem dX4_entries_6 : decode cX4_entries 6 = .ok (.aload_n 0, 1) := by decide +kernel
theorem dX4_entries_7 : decode cX4_entries 7 = .ok (.getfield 23, 3) := by decide +kernel
theorem dX4_entries_10 : decode cX4_entries 10 = .ok (.iload_n 1, 1) := by decide +kernel
theorem dX4_entries_11 : decode cX4_entries 11 = .ok (.iload_n 2, 1) := by decide +kernel
theorem dX4_entries_12 : decode cX4_entries 12 = .ok (.invokevirtual 115, 3) := by decide +kernel
theorem dX4_entries_15 : decode cX4_entries 15 = .ok (.ireturn, 1) := by decide +kernel
set_option maxRecDepth 20000 in
theorem ggX4_cover_X4_checkSide : GoodIn wsX4_cover wsX4_checkSide := goodIn_ca (goodIn_r _ [4, 5, 6] (by decide +kernel) (by decide +kernel)) (goodIn_sub (fun _ h => List.mem_cons_of_mem _ (List.mem_append_left _ (List.mem_append_right _ h))) (by decide +kernel))
set_option maxRecDepth 20000 in
theorem gX4_cover_X4_checkSide : GoodIn wsX4_cover (va_wsS RX4 91 yX4_checkSide wsX4_checkSide) := goodIn_app (goodIn_of _ (by decide +kernel)) ggX4_cover_X4_checkSide
set_option maxRecDepth 20000 in
theorem ggX4_cover_X4_checkNode : GoodIn wsX4_cover wsX4_checkNode := goodIn_ca (goodIn_r _ [10, 11, 12, 13, 14, 15, 16, 17, 18, 19, 20, 78, 79, 80, 81, 82, 83] (by decide +kernel) (by decide +kernel)) (goodIn_sub (fun _ h => List.mem_cons_of_mem _ (List.mem_append_right _ h)) (by decide +kernel))
set_option maxRecDepth 20000 in
theorem gX4_cover_X4_checkNode : GoodIn wsX4_cover (wsV RX4 112 RX4 yX4_checkNode wsX4_checkNode) := goodIn_app (goodIn_of _ (by decide +kernel)) ggX4_cover_X4_checkNode
set_option maxRecDepth 20000 in
theorem ggX4_cover_X4_coverOf : GoodIn wsX4_cover wsX4_coverOf := goodIn_r _ [24, 13, 25, 26, 27, 28, 17, 29, 30, 31, 32, 33, 34, 35, 36, 37, 19, 20, 38, 39, 40, 41, 42, 43, 15, 16, 18, 44, 45, 46, 47, 48, 49, 50, 51, 52, 53, 54, 55, 56, 57, 58, 59, 60, 61, 62, 63, 64, 65, 66, 67, 68, 69, 70, 71, 72, 73, 74, 75, 76, 78, 79, 80, 81, 82, 83, 84, 85, 86, 87, 88, 89] (by decide +kernel) (by decide +kernel)
set_option maxRecDepth 20000 in
theorem gX4_cover_X4_coverOf : GoodIn wsX4_cover (wsV RX4 118 RX4 yX4_coverOf wsX4_coverOf) := goodIn_app (goodIn_of _ (by decide +kernel)) ggX4_cover_X4_coverOf
set_option maxRecDepth 20000 in
theorem ggX4_cover_X0_side : GoodIn wsX4_cover wsX0_side := goodIn_r _ [73] (by decide +kernel) (by decide +kernel)
set_option maxRecDepth 20000 in
theorem gX4_cover_X0_side : GoodIn wsX4_cover (va_wsS RX4 97 yX0_side wsX0_side) := goodIn_app (goodIn_of _ (by decide +kernel)) ggX4_cover_X0_side
theorem dX4_cover_0 : decode cX4_cover 0 = .ok (.iload_n 3, 1) := by decide +kernel
theorem dX4_cover_1 : decode cX4_cover 1 = .ok (.invokestatic 91, 3) := by decide +kernel
theorem dX4_cover_4 : decode cX4_cover 4 = .ok (.aload_n 0, 1) := by decide +kernel
theorem dX4_cover_5 : decode cX4_cover 5 = .ok (.iload_n 1, 1) := by decide +kernel
theorem dX4_cover_6 : decode cX4_cover 6 = .ok (.iload_n 2, 1) := by decide +kernel
theorem dX4_cover_7 : decode cX4_cover 7 = .ok (.invokevirtual 112, 3) := by decide +kernel
theorem dX4_cover_10 : decode cX4_cover 10 = .ok (.aload_n 0, 1) := by decide +kernel
theorem dX4_cover_11 : decode cX4_cover 11 = .ok (.iload_n 1, 1) := by decide +kernel
theorem dX4_cover_12 : decode cX4_cover 12 = .ok (.iload_n 2, 1) := by decide +kernel
theorem dX4_cover_13 : decode cX4_cover 13 = .ok (.invokevirtual 118, 3) := by decide +kernel
theorem dX4_cover_16 : decode cX4_cover 16 = .ok (.iload_n 3, 1) := by decide +kernel
theorem dX4_cover_17 : decode cX4_cover 17 = .ok (.invokestatic 97, 3) := by decide +kernel
theorem dX4_cover_20 : decode cX4_cover 20 = .ok (.ireturn, 1) := by decide +kernel
set_option maxRecDepth 20000 in
theorem ggX4_leafOf_X4_checkBox : GoodIn wsX4_leafOf wsX4_checkBox := goodIn_ca (goodIn_r _ [7, 8, 9, 2, 10, 11, 12, 13, 14, 15, 46, 47, 48, 49, 50, 51, 52, 53, 54] (by decide +kernel) (by decide +kernel)) (goodIn_sub (fun _ h => List.mem_cons_of_mem _ (List.mem_append_right _ h)) (by decide +kernel))
set_option maxRecDepth 20000 in
theorem gX4_leafOf_X4_checkBox : GoodIn wsX4_leafOf (wsV RX4 59 RX4 yX4_checkBox wsX4_checkBox) := goodIn_app (goodIn_of _ (by decide +kernel)) ggX4_leafOf_X4_checkBox
set_option maxRecDepth 20000 in
theorem ggX4_leafOf_X2_placeOf : GoodIn wsX4_leafOf wsX2_placeOf := goodIn_r _ [19, 20, 21, 22, 23, 13, 24, 25, 49, 50, 51, 52, 53, 54] (by decide +kernel) (by decide +kernel)
set_option maxRecDepth 20000 in
theorem gX4_leafOf_X2_placeOf : GoodIn wsX4_leafOf (wsV RX4 52 RX2 yX2_placeOf wsX2_placeOf) := goodIn_app (goodIn_of _ (by decide +kernel)) ggX4_leafOf_X2_placeOf
set_option maxRecDepth 20000 in
theorem ggX4_leafOf_X3_holder : GoodIn wsX4_leafOf wsX3_holder := goodIn_r _ [30, 31, 32, 33, 29, 34, 35, 36, 37, 38, 39, 40, 41, 42, 43, 44, 45, 55, 56, 57] (by decide +kernel) (by decide +kernel)
set_option maxRecDepth 20000 in
theorem gX4_leafOf_X3_holder : GoodIn wsX4_leafOf (wsV RX4 121 RX3 yX3_holder wsX3_holder) := goodIn_app (goodIn_of _ (by decide +kernel)) ggX4_leafOf_X3_holder
theorem dX4_leafOf_0 : decode cX4_leafOf 0 = .ok (.aload_n 0, 1) := by decide +kernel
theorem dX4_leafOf_1 : decode cX4_leafOf 1 = .ok (.iload_n 1, 1) := by decide +kernel
theorem dX4_leafOf_2 : decode cX4_leafOf 2 = .ok (.invokevirtual 59, 3) := by decide +kernel
theorem dX4_leafOf_5 : decode cX4_leafOf 5 = .ok (.aload_n 0, 1) := by decide +kernel
theorem dX4_leafOf_6 : decode cX4_leafOf 6 = .ok (.getfield 23, 3) := by decide +kernel
theorem dX4_leafOf_9 : decode cX4_leafOf 9 = .ok (.iconst 0, 1) := by decide +kernel
theorem dX4_leafOf_10 : decode cX4_leafOf 10 = .ok (.aload_n 0, 1) := by decide +kernel
theorem dX4_leafOf_11 : decode cX4_leafOf 11 = .ok (.getfield 16, 3) := by decide +kernel
theorem dX4_leafOf_14 : decode cX4_leafOf 14 = .ok (.iload_n 1, 1) := by decide +kernel
theorem dX4_leafOf_15 : decode cX4_leafOf 15 = .ok (.invokevirtual 52, 3) := by decide +kernel
theorem dX4_leafOf_18 : decode cX4_leafOf 18 = .ok (.invokevirtual 121, 3) := by decide +kernel
theorem dX4_leafOf_21 : decode cX4_leafOf 21 = .ok (.ireturn, 1) := by decide +kernel
set_option maxRecDepth 20000 in
theorem ggX4_boxAt_X2_size : GoodIn wsX4_boxAt wsX2_size := goodIn_r _ [8, 9, 18, 19, 20, 21, 22, 23] (by decide +kernel) (by decide +kernel)
set_option maxRecDepth 20000 in
theorem gX4_boxAt_X2_size : GoodIn wsX4_boxAt (wsV RX4 68 RX2 yX2_size wsX2_size) := goodIn_app (goodIn_of _ (by decide +kernel)) ggX4_boxAt_X2_size
set_option maxRecDepth 20000 in
theorem ggX4_boxAt_X2_numberAt : GoodIn wsX4_boxAt wsX2_numberAt := goodIn_r _ [13, 14, 9, 18, 19, 20, 21, 22, 23] (by decide +kernel) (by decide +kernel)
set_option maxRecDepth 20000 in
theorem gX4_boxAt_X2_numberAt : GoodIn wsX4_boxAt (wsV RX4 126 RX2 yX2_numberAt wsX2_numberAt) := goodIn_app (goodIn_of _ (by decide +kernel)) ggX4_boxAt_X2_numberAt
theorem dX4_boxAt_0 : decode cX4_boxAt 0 = .ok (.iload_n 1, 1) := by decide +kernel
theorem dX4_boxAt_1 : decode cX4_boxAt 1 = .ok (.ifCond .lt 14, 3) := by decide +kernel
theorem dX4_boxAt_4 : decode cX4_boxAt 4 = .ok (.iload_n 1, 1) := by decide +kernel
theorem dX4_boxAt_5 : decode cX4_boxAt 5 = .ok (.aload_n 0, 1) := by decide +kernel
theorem dX4_boxAt_6 : decode cX4_boxAt 6 = .ok (.getfield 16, 3) := by decide +kernel
theorem dX4_boxAt_9 : decode cX4_boxAt 9 = .ok (.invokevirtual 68, 3) := by decide +kernel
theorem dX4_boxAt_12 : decode cX4_boxAt 12 = .ok (.if_icmp .lt 13, 3) := by decide +kernel
theorem dX4_boxAt_15 : decode cX4_boxAt 15 = .ok (.new 107, 3) := by decide +kernel
theorem dX4_boxAt_18 : decode cX4_boxAt 18 = .ok (.dup, 1) := by decide +kernel
theorem dX4_boxAt_19 : decode cX4_boxAt 19 = .ok (.ldc 124, 2) := by decide +kernel
theorem dX4_boxAt_21 : decode cX4_boxAt 21 = .ok (.invokespecial 111, 3) := by decide +kernel
theorem dX4_boxAt_24 : decode cX4_boxAt 24 = .ok (.athrow, 1) := by decide +kernel
theorem dX4_boxAt_25 : decode cX4_boxAt 25 = .ok (.aload_n 0, 1) := by decide +kernel
theorem dX4_boxAt_26 : decode cX4_boxAt 26 = .ok (.getfield 16, 3) := by decide +kernel
theorem dX4_boxAt_29 : decode cX4_boxAt 29 = .ok (.iload_n 1, 1) := by decide +kernel
theorem dX4_boxAt_30 : decode cX4_boxAt 30 = .ok (.invokevirtual 126, 3) := by decide +kernel
theorem dX4_boxAt_33 : decode cX4_boxAt 33 = .ok (.ireturn, 1) := by decide +kernel
set_option maxRecDepth 20000 in
theorem ggX4_tightness_X3_width : GoodIn wsX4_tightness wsX3_width := goodIn_r _ [9, 10, 11, 78, 79, 80] (by decide +kernel) (by decide +kernel)
set_option maxRecDepth 20000 in
theorem gX4_tightness_X3_width : GoodIn wsX4_tightness (wsV RX4 75 RX3 yX3_width wsX3_width) := goodIn_app (goodIn_of _ (by decide +kernel)) ggX4_tightness_X3_width
set_option maxRecDepth 20000 in
theorem ggX4_tightness_X4_coverOf : GoodIn wsX4_tightness wsX4_coverOf := goodIn_r _ [16, 3, 4, 17, 18, 19, 8, 20, 21, 22, 23, 24, 25, 6, 7, 9, 10, 11, 26, 27, 28, 29, 30, 31, 32, 33, 34, 35, 36, 37, 38, 39, 40, 41, 42, 43, 44, 45, 46, 47, 48, 49, 50, 51, 52, 53, 54, 55, 56, 57, 58, 59, 60, 61, 62, 63, 64, 65, 66, 67, 75, 76, 77, 78, 79, 80, 81, 82, 83, 84, 85, 86] (by decide +kernel) (by decide +kernel)
set_option maxRecDepth 20000 in
theorem gX4_tightness_X4_coverOf : GoodIn wsX4_tightness (wsV RX4 118 RX4 yX4_coverOf wsX4_coverOf) := goodIn_app (goodIn_of _ (by decide +kernel)) ggX4_tightness_X4_coverOf
set_option maxRecDepth 20000 in
theorem ggX4_tightness_X0_points : GoodIn wsX4_tightness wsX0_points := goodIn_r _ [70, 62, 63, 53, 64] (by decide +kernel) (by decide +kernel)
set_option maxRecDepth 20000 in
theorem gX4_tightness_X0_points : GoodIn wsX4_tightness (va_wsS RX4 129 yX0_points wsX0_points) := goodIn_app (goodIn_of _ (by decide +kernel)) ggX4_tightness_X0_points
set_option maxRecDepth 20000 in
theorem ggX4_tightness_X2_size : GoodIn wsX4_tightness wsX2_size := goodIn_r _ [74, 45, 81, 82, 83, 84, 85, 86] (by decide +kernel) (by decide +kernel)
set_option maxRecDepth 20000 in
theorem gX4_tightness_X2_size : GoodIn wsX4_tightness (wsV RX4 68 RX2 yX2_size wsX2_size) := goodIn_app (goodIn_of _ (by decide +kernel)) ggX4_tightness_X2_size
set_option maxRecDepth 20000 in
theorem ggX4_tightness_X2_areaAt : GoodIn wsX4_tightness wsX2_areaAt := goodIn_r _ [39, 40, 41, 42, 38, 43, 44, 45, 46, 47, 48, 49, 50, 81, 82, 83, 84, 85, 86] (by decide +kernel) (by decide +kernel)
set_option maxRecDepth 20000 in
theorem gX4_tightness_X2_areaAt : GoodIn wsX4_tightness (wsV RX4 134 RX2 yX2_areaAt wsX2_areaAt) := goodIn_app (goodIn_of _ (by decide +kernel)) ggX4_tightness_X2_areaAt
theorem dX4_tightness_0 : decode cX4_tightness 0 = .ok (.iconst 0, 1) := by decide +kernel
theorem dX4_tightness_1 : decode cX4_tightness 1 = .ok (.istore_n 1, 1) := by decide +kernel
theorem dX4_tightness_2 : decode cX4_tightness 2 = .ok (.iconst 0, 1) := by decide +kernel
theorem dX4_tightness_3 : decode cX4_tightness 3 = .ok (.istore_n 2, 1) := by decide +kernel
theorem dX4_tightness_4 : decode cX4_tightness 4 = .ok (.iload_n 2, 1) := by decide +kernel
theorem dX4_tightness_5 : decode cX4_tightness 5 = .ok (.aload_n 0, 1) := by decide +kernel
theorem dX4_tightness_6 : decode cX4_tightness 6 = .ok (.getfield 23, 3) := by decide +kernel
theorem dX4_tightness_9 : decode cX4_tightness 9 = .ok (.iconst 0, 1) := by decide +kernel
theorem dX4_tightness_10 : decode cX4_tightness 10 = .ok (.invokevirtual 75, 3) := by decide +kernel
theorem dX4_tightness_13 : decode cX4_tightness 13 = .ok (.if_icmp .ge 21, 3) := by decide +kernel
theorem dX4_tightness_16 : decode cX4_tightness 16 = .ok (.iload_n 1, 1) := by decide +kernel
theorem dX4_tightness_17 : decode cX4_tightness 17 = .ok (.aload_n 0, 1) := by decide +kernel
theorem dX4_tightness_18 : decode cX4_tightness 18 = .ok (.iconst 0, 1) := by decide +kernel
theorem dX4_tightness_19 : decode cX4_tightness 19 = .ok (.iload_n 2, 1) := by decide +kernel
theorem dX4_tightness_20 : decode cX4_tightness 20 = .ok (.invokevirtual 118, 3) := by decide +kernel
theorem dX4_tightness_23 : decode cX4_tightness 23 = .ok (.invokestatic 129, 3) := by decide +kernel
theorem dX4_tightness_26 : decode cX4_tightness 26 = .ok (.iadd, 1) := by decide +kernel
theorem dX4_tightness_27 : decode cX4_tightness 27 = .ok (.istore_n 1, 1) := by decide +kernel
theorem dX4_tightness_28 : decode cX4_tightness 28 = .ok (.iinc 2 1, 3) := by decide +kernel
theorem dX4_tightness_31 : decode cX4_tightness 31 = .ok (.goto (-27), 3) := by decide +kernel
theorem dX4_tightness_34 : decode cX4_tightness 34 = .ok (.iload_n 1, 1) := by decide +kernel
theorem dX4_tightness_35 : decode cX4_tightness 35 = .ok (.ifCond .gt 13, 3) := by decide +kernel
theorem dX4_tightness_38 : decode cX4_tightness 38 = .ok (.new 35, 3) := by decide +kernel
theorem dX4_tightness_41 : decode cX4_tightness 41 = .ok (.dup, 1) := by decide +kernel
theorem dX4_tightness_42 : decode cX4_tightness 42 = .ok (.ldc 132, 2) := by decide +kernel
theorem dX4_tightness_44 : decode cX4_tightness 44 = .ok (.invokespecial 39, 3) := by decide +kernel
theorem dX4_tightness_47 : decode cX4_tightness 47 = .ok (.athrow, 1) := by decide +kernel
theorem dX4_tightness_48 : decode cX4_tightness 48 = .ok (.iconst 0, 1) := by decide +kernel
theorem dX4_tightness_49 : decode cX4_tightness 49 = .ok (.istore_n 2, 1) := by decide +kernel
theorem dX4_tightness_50 : decode cX4_tightness 50 = .ok (.iconst 0, 1) := by decide +kernel
theorem dX4_tightness_51 : decode cX4_tightness 51 = .ok (.istore_n 3, 1) := by decide +kernel
theorem dX4_tightness_52 : decode cX4_tightness 52 = .ok (.iload_n 3, 1) := by decide +kernel
theorem dX4_tightness_53 : decode cX4_tightness 53 = .ok (.aload_n 0, 1) := by decide +kernel
theorem dX4_tightness_54 : decode cX4_tightness 54 = .ok (.getfield 16, 3) := by decide +kernel
theorem dX4_tightness_57 : decode cX4_tightness 57 = .ok (.invokevirtual 68, 3) := by decide +kernel
theorem dX4_tightness_60 : decode cX4_tightness 60 = .ok (.if_icmp .ge 23, 3) := by decide +kernel
theorem dX4_tightness_63 : decode cX4_tightness 63 = .ok (.iload_n 2, 1) := by decide +kernel
theorem dX4_tightness_64 : decode cX4_tightness 64 = .ok (.aload_n 0, 1) := by decide +kernel
theorem dX4_tightness_65 : decode cX4_tightness 65 = .ok (.getfield 16, 3) := by decide +kernel
theorem dX4_tightness_68 : decode cX4_tightness 68 = .ok (.iload_n 3, 1) := by decide +kernel
theorem dX4_tightness_69 : decode cX4_tightness 69 = .ok (.invokevirtual 134, 3) := by decide +kernel
theorem dX4_tightness_72 : decode cX4_tightness 72 = .ok (.invokestatic 129, 3) := by decide +kernel
theorem dX4_tightness_75 : decode cX4_tightness 75 = .ok (.iadd, 1) := by decide +kernel
theorem dX4_tightness_76 : decode cX4_tightness 76 = .ok (.istore_n 2, 1) := by decide +kernel
theorem dX4_tightness_77 : decode cX4_tightness 77 = .ok (.iinc 3 1, 3) := by decide +kernel
theorem dX4_tightness_80 : decode cX4_tightness 80 = .ok (.goto (-28), 3) := by decide +kernel
theorem dX4_tightness_83 : decode cX4_tightness 83 = .ok (.iload_n 2, 1) := by decide +kernel
theorem dX4_tightness_84 : decode cX4_tightness 84 = .ok (.i2f, 1) := by decide +kernel
theorem dX4_tightness_85 : decode cX4_tightness 85 = .ok (.iload_n 1, 1) := by decide +kernel
theorem dX4_tightness_86 : decode cX4_tightness 86 = .ok (.i2f, 1) := by decide +kernel
theorem dX4_tightness_87 : decode cX4_tightness 87 = .ok (.fdiv, 1) := by decide +kernel
theorem dX4_tightness_88 : decode cX4_tightness 88 = .ok (.freturn, 1) := by decide +kernel
set_option maxRecDepth 20000 in
theorem ggX4_count_X4_checkSides : GoodIn wsX4_count wsX4_checkSides := goodIn_ca (goodIn_r _ [5, 6, 7, 8, 9, 4, 10] (by decide +kernel) (by decide +kernel)) (goodIn_sub (fun _ h => List.mem_cons_of_mem _ (List.mem_append_right _ h)) (by decide +kernel))
set_option maxRecDepth 20000 in
theorem gX4_count_X4_checkSides : GoodIn wsX4_count (va_wsS RX4 27 yX4_checkSides wsX4_checkSides) := goodIn_app (goodIn_of _ (by decide +kernel)) ggX4_count_X4_checkSides
set_option maxRecDepth 20000 in
theorem ggX4_count_X0_of : GoodIn wsX4_count wsX0_of := goodIn_r _ [14] (by decide +kernel) (by decide +kernel)
set_option maxRecDepth 20000 in
theorem gX4_count_X0_of : GoodIn wsX4_count (va_wsS RX4 42 yX0_of wsX0_of) := goodIn_app (goodIn_of _ (by decide +kernel)) ggX4_count_X0_of
set_option maxRecDepth 20000 in
theorem ggX4_count_X2_size : GoodIn wsX4_count wsX2_size := goodIn_r _ [19, 20, 44, 45, 46, 47, 48, 49] (by decide +kernel) (by decide +kernel)
set_option maxRecDepth 20000 in
theorem gX4_count_X2_size : GoodIn wsX4_count (wsV RX4 68 RX2 yX2_size wsX2_size) := goodIn_app (goodIn_of _ (by decide +kernel)) ggX4_count_X2_size
set_option maxRecDepth 20000 in
theorem ggX4_count_X2_areaAt : GoodIn wsX4_count wsX2_areaAt := goodIn_r _ [24, 25, 26, 27, 18, 28, 29, 20, 30, 31, 32, 33, 34, 44, 45, 46, 47, 48, 49] (by decide +kernel) (by decide +kernel)
set_option maxRecDepth 20000 in
theorem gX4_count_X2_areaAt : GoodIn wsX4_count (wsV RX4 134 RX2 yX2_areaAt wsX2_areaAt) := goodIn_app (goodIn_of _ (by decide +kernel)) ggX4_count_X2_areaAt
set_option maxRecDepth 20000 in
theorem ggX4_count_X0_meet : GoodIn wsX4_count wsX0_meet := goodIn_r _ [37, 38, 39, 13, 40] (by decide +kernel) (by decide +kernel)
set_option maxRecDepth 20000 in
theorem gX4_count_X0_meet : GoodIn wsX4_count (va_wsS RX4 137 yX0_meet wsX0_meet) := goodIn_app (goodIn_of _ (by decide +kernel)) ggX4_count_X0_meet
theorem dX4_count_0 : decode cX4_count 0 = .ok (.iload_n 1, 1) := by decide +kernel
theorem dX4_count_1 : decode cX4_count 1 = .ok (.iload_n 2, 1) := by decide +kernel
theorem dX4_count_2 : decode cX4_count 2 = .ok (.iload_n 3, 1) := by decide +kernel
theorem dX4_count_3 : decode cX4_count 3 = .ok (.iload 4, 2) := by decide +kernel
theorem dX4_count_5 : decode cX4_count 5 = .ok (.invokestatic 27, 3) := by decide +kernel
theorem dX4_count_8 : decode cX4_count 8 = .ok (.iload_n 1, 1) := by decide +kernel
theorem dX4_count_9 : decode cX4_count 9 = .ok (.iload_n 2, 1) := by decide +kernel
theorem dX4_count_10 : decode cX4_count 10 = .ok (.iload_n 3, 1) := by decide +kernel
theorem dX4_count_11 : decode cX4_count 11 = .ok (.iload 4, 2) := by decide +kernel
theorem dX4_count_13 : decode cX4_count 13 = .ok (.invokestatic 42, 3) := by decide +kernel
theorem dX4_count_16 : decode cX4_count 16 = .ok (.istore 5, 2) := by decide +kernel
theorem dX4_count_18 : decode cX4_count 18 = .ok (.iconst 0, 1) := by decide +kernel
theorem dX4_count_19 : decode cX4_count 19 = .ok (.istore 6, 2) := by decide +kernel
theorem dX4_count_21 : decode cX4_count 21 = .ok (.iconst 0, 1) := by decide +kernel
theorem dX4_count_22 : decode cX4_count 22 = .ok (.istore 7, 2) := by decide +kernel
theorem dX4_count_24 : decode cX4_count 24 = .ok (.iload 7, 2) := by decide +kernel
theorem dX4_count_26 : decode cX4_count 26 = .ok (.aload_n 0, 1) := by decide +kernel
theorem dX4_count_27 : decode cX4_count 27 = .ok (.getfield 16, 3) := by decide +kernel
theorem dX4_count_30 : decode cX4_count 30 = .ok (.invokevirtual 68, 3) := by decide +kernel
theorem dX4_count_33 : decode cX4_count 33 = .ok (.if_icmp .ge 29, 3) := by decide +kernel
theorem dX4_count_36 : decode cX4_count 36 = .ok (.aload_n 0, 1) := by decide +kernel
theorem dX4_count_37 : decode cX4_count 37 = .ok (.getfield 16, 3) := by decide +kernel
theorem dX4_count_40 : decode cX4_count 40 = .ok (.iload 7, 2) := by decide +kernel
theorem dX4_count_42 : decode cX4_count 42 = .ok (.invokevirtual 134, 3) := by decide +kernel
theorem dX4_count_45 : decode cX4_count 45 = .ok (.iload 5, 2) := by decide +kernel
theorem dX4_count_47 : decode cX4_count 47 = .ok (.invokestatic 137, 3) := by decide +kernel
theorem dX4_count_50 : decode cX4_count 50 = .ok (.ifCond .eq 6, 3) := by decide +kernel
theorem dX4_count_53 : decode cX4_count 53 = .ok (.iinc 6 1, 3) := by decide +kernel
theorem dX4_count_56 : decode cX4_count 56 = .ok (.iinc 7 1, 3) := by decide +kernel
theorem dX4_count_59 : decode cX4_count 59 = .ok (.goto (-35), 3) := by decide +kernel
theorem dX4_count_62 : decode cX4_count 62 = .ok (.iload 6, 2) := by decide +kernel
theorem dX4_count_64 : decode cX4_count 64 = .ok (.ireturn, 1) := by decide +kernel
set_option maxRecDepth 20000 in
theorem ggX4_found_X4_checkSides : GoodIn wsX4_found wsX4_checkSides := goodIn_ca (goodIn_r _ [7, 8, 9, 10, 11, 6, 12] (by decide +kernel) (by decide +kernel)) (goodIn_sub (fun _ h => List.mem_cons_of_mem _ (List.mem_append_right _ h)) (by decide +kernel))
set_option maxRecDepth 20000 in
theorem gX4_found_X4_checkSides : GoodIn wsX4_found (va_wsS RX4 27 yX4_checkSides wsX4_checkSides) := goodIn_app (goodIn_of _ (by decide +kernel)) ggX4_found_X4_checkSides
set_option maxRecDepth 20000 in
theorem ggX4_found_X0_of : GoodIn wsX4_found wsX0_of := goodIn_r _ [16] (by decide +kernel) (by decide +kernel)
set_option maxRecDepth 20000 in
theorem gX4_found_X0_of : GoodIn wsX4_found (va_wsS RX4 42 yX0_of wsX0_of) := goodIn_app (goodIn_of _ (by decide +kernel)) ggX4_found_X0_of
set_option maxRecDepth 20000 in
theorem ggX4_found_X2_size : GoodIn wsX4_found wsX2_size := goodIn_r _ [21, 22, 47, 48, 49, 50, 51, 52] (by decide +kernel) (by decide +kernel)
set_option maxRecDepth 20000 in
theorem gX4_found_X2_size : GoodIn wsX4_found (wsV RX4 68 RX2 yX2_size wsX2_size) := goodIn_app (goodIn_of _ (by decide +kernel)) ggX4_found_X2_size
set_option maxRecDepth 20000 in
theorem ggX4_found_X2_areaAt : GoodIn wsX4_found wsX2_areaAt := goodIn_r _ [26, 27, 28, 29, 20, 30, 31, 22, 32, 33, 34, 35, 36, 47, 48, 49, 50, 51, 52] (by decide +kernel) (by decide +kernel)
set_option maxRecDepth 20000 in
theorem gX4_found_X2_areaAt : GoodIn wsX4_found (wsV RX4 134 RX2 yX2_areaAt wsX2_areaAt) := goodIn_app (goodIn_of _ (by decide +kernel)) ggX4_found_X2_areaAt
set_option maxRecDepth 20000 in
theorem ggX4_found_X0_meet : GoodIn wsX4_found wsX0_meet := goodIn_r _ [39, 40, 41, 15, 42] (by decide +kernel) (by decide +kernel)
set_option maxRecDepth 20000 in
theorem gX4_found_X0_meet : GoodIn wsX4_found (va_wsS RX4 137 yX0_meet wsX0_meet) := goodIn_app (goodIn_of _ (by decide +kernel)) ggX4_found_X0_meet
set_option maxRecDepth 20000 in
theorem ggX4_found_X2_numberAt : GoodIn wsX4_found wsX2_numberAt := goodIn_r _ [30, 31, 22, 47, 48, 49, 50, 51, 52] (by decide +kernel) (by decide +kernel)
set_option maxRecDepth 20000 in
theorem gX4_found_X2_numberAt : GoodIn wsX4_found (wsV RX4 126 RX2 yX2_numberAt wsX2_numberAt) := goodIn_app (goodIn_of _ (by decide +kernel)) ggX4_found_X2_numberAt
theorem dX4_found_0 : decode cX4_found 0 = .ok (.iload_n 1, 1) := by decide +kernel
theorem dX4_found_1 : decode cX4_found 1 = .ok (.iload_n 2, 1) := by decide +kernel
theorem dX4_found_2 : decode cX4_found 2 = .ok (.iload_n 3, 1) := by decide +kernel
theorem dX4_found_3 : decode cX4_found 3 = .ok (.iload 4, 2) := by decide +kernel
theorem dX4_found_5 : decode cX4_found 5 = .ok (.invokestatic 27, 3) := by decide +kernel
theorem dX4_found_8 : decode cX4_found 8 = .ok (.iload_n 1, 1) := by decide +kernel
theorem dX4_found_9 : decode cX4_found 9 = .ok (.iload_n 2, 1) := by decide +kernel
theorem dX4_found_10 : decode cX4_found 10 = .ok (.iload_n 3, 1) := by decide +kernel
theorem dX4_found_11 : decode cX4_found 11 = .ok (.iload 4, 2) := by decide +kernel
theorem dX4_found_13 : decode cX4_found 13 = .ok (.invokestatic 42, 3) := by decide +kernel
theorem dX4_found_16 : decode cX4_found 16 = .ok (.istore 6, 2) := by decide +kernel
theorem dX4_found_18 : decode cX4_found 18 = .ok (.iconst 0, 1) := by decide +kernel
theorem dX4_found_19 : decode cX4_found 19 = .ok (.istore 7, 2) := by decide +kernel
theorem dX4_found_21 : decode cX4_found 21 = .ok (.iconst 0, 1) := by decide +kernel
theorem dX4_found_22 : decode cX4_found 22 = .ok (.istore 8, 2) := by decide +kernel
theorem dX4_found_24 : decode cX4_found 24 = .ok (.iload 8, 2) := by decide +kernel
theorem dX4_found_26 : decode cX4_found 26 = .ok (.aload_n 0, 1) := by decide +kernel
theorem dX4_found_27 : decode cX4_found 27 = .ok (.getfield 16, 3) := by decide +kernel
theorem dX4_found_30 : decode cX4_found 30 = .ok (.invokevirtual 68, 3) := by decide +kernel
theorem dX4_found_33 : decode cX4_found 33 = .ok (.if_icmp .ge 46, 3) := by decide +kernel
theorem dX4_found_36 : decode cX4_found 36 = .ok (.aload_n 0, 1) := by decide +kernel
theorem dX4_found_37 : decode cX4_found 37 = .ok (.getfield 16, 3) := by decide +kernel
theorem dX4_found_40 : decode cX4_found 40 = .ok (.iload 8, 2) := by decide +kernel
theorem dX4_found_42 : decode cX4_found 42 = .ok (.invokevirtual 134, 3) := by decide +kernel
theorem dX4_found_45 : decode cX4_found 45 = .ok (.iload 6, 2) := by decide +kernel
theorem dX4_found_47 : decode cX4_found 47 = .ok (.invokestatic 137, 3) := by decide +kernel
theorem dX4_found_50 : decode cX4_found 50 = .ok (.ifCond .eq 23, 3) := by decide +kernel
theorem dX4_found_53 : decode cX4_found 53 = .ok (.iload 7, 2) := by decide +kernel
theorem dX4_found_55 : decode cX4_found 55 = .ok (.iload 5, 2) := by decide +kernel
theorem dX4_found_57 : decode cX4_found 57 = .ok (.if_icmp .ne 13, 3) := by decide +kernel
theorem dX4_found_60 : decode cX4_found 60 = .ok (.aload_n 0, 1) := by decide +kernel
theorem dX4_found_61 : decode cX4_found 61 = .ok (.getfield 16, 3) := by decide +kernel
theorem dX4_found_64 : decode cX4_found 64 = .ok (.iload 8, 2) := by decide +kernel
theorem dX4_found_66 : decode cX4_found 66 = .ok (.invokevirtual 126, 3) := by decide +kernel
theorem dX4_found_69 : decode cX4_found 69 = .ok (.ireturn, 1) := by decide +kernel
theorem dX4_found_70 : decode cX4_found 70 = .ok (.iinc 7 1, 3) := by decide +kernel
theorem dX4_found_73 : decode cX4_found 73 = .ok (.iinc 8 1, 3) := by decide +kernel
theorem dX4_found_76 : decode cX4_found 76 = .ok (.goto (-52), 3) := by decide +kernel
theorem dX4_found_79 : decode cX4_found 79 = .ok (.new 107, 3) := by decide +kernel
theorem dX4_found_82 : decode cX4_found 82 = .ok (.dup, 1) := by decide +kernel
theorem dX4_found_83 : decode cX4_found 83 = .ok (.ldc 124, 2) := by decide +kernel
theorem dX4_found_85 : decode cX4_found 85 = .ok (.invokespecial 111, 3) := by decide +kernel
theorem dX4_found_88 : decode cX4_found 88 = .ok (.athrow, 1) := by decide +kernel
set_option maxRecDepth 20000 in
theorem ggX4_visits_X4_checkSides : GoodIn wsX4_visits wsX4_checkSides := goodIn_ca (goodIn_r _ [5, 6, 7, 8, 9, 4, 10] (by decide +kernel) (by decide +kernel)) (goodIn_sub (fun _ h => List.mem_cons_of_mem _ (List.mem_append_right _ h)) (by decide +kernel))
set_option maxRecDepth 20000 in
theorem gX4_visits_X4_checkSides : GoodIn wsX4_visits (va_wsS RX4 27 yX4_checkSides wsX4_checkSides) := goodIn_app (goodIn_of _ (by decide +kernel)) ggX4_visits_X4_checkSides
set_option maxRecDepth 20000 in
theorem ggX4_visits_X0_of : GoodIn wsX4_visits wsX0_of := goodIn_r _ [14] (by decide +kernel) (by decide +kernel)
set_option maxRecDepth 20000 in
theorem gX4_visits_X0_of : GoodIn wsX4_visits (va_wsS RX4 42 yX0_of wsX0_of) := goodIn_app (goodIn_of _ (by decide +kernel)) ggX4_visits_X0_of
set_option maxRecDepth 20000 in
theorem ggX4_visits_X3_height : GoodIn wsX4_visits wsX3_height := goodIn_r _ [19, 20, 85, 86, 87] (by decide +kernel) (by decide +kernel)
set_option maxRecDepth 20000 in
theorem gX4_visits_X3_height : GoodIn wsX4_visits (wsV RX4 100 RX3 yX3_height wsX3_height) := goodIn_app (goodIn_of _ (by decide +kernel)) ggX4_visits_X3_height
set_option maxRecDepth 20000 in
theorem ggX4_visits_X3_width : GoodIn wsX4_visits wsX3_width := goodIn_r _ [24, 20, 25, 85, 86, 87] (by decide +kernel) (by decide +kernel)
set_option maxRecDepth 20000 in
theorem gX4_visits_X3_width : GoodIn wsX4_visits (wsV RX4 75 RX3 yX3_width wsX3_width) := goodIn_app (goodIn_of _ (by decide +kernel)) ggX4_visits_X3_width
set_option maxRecDepth 20000 in
theorem ggX4_visits_X4_coverOf : GoodIn wsX4_visits wsX4_coverOf := goodIn_r _ [29, 1, 30, 31, 32, 33, 18, 34, 35, 36, 37, 38, 39, 22, 23, 24, 20, 25, 40, 41, 42, 43, 44, 45, 46, 47, 48, 49, 50, 51, 52, 53, 54, 55, 56, 57, 58, 59, 60, 61, 62, 63, 64, 65, 66, 13, 67, 68, 69, 70, 71, 72, 73, 74, 75, 76, 77, 78, 12, 14, 82, 83, 84, 85, 86, 87, 88, 89, 90, 91, 92, 93] (by decide +kernel) (by decide +kernel)
set_option maxRecDepth 20000 in
theorem gX4_visits_X4_coverOf : GoodIn wsX4_visits (wsV RX4 118 RX4 yX4_coverOf wsX4_coverOf) := goodIn_app (goodIn_of _ (by decide +kernel)) ggX4_visits_X4_coverOf
set_option maxRecDepth 20000 in
theorem ggX4_visits_X0_meet : GoodIn wsX4_visits wsX0_meet := goodIn_r _ [81, 75, 76, 13, 77] (by decide +kernel) (by decide +kernel)
set_option maxRecDepth 20000 in
theorem gX4_visits_X0_meet : GoodIn wsX4_visits (va_wsS RX4 137 yX0_meet wsX0_meet) := goodIn_app (goodIn_of _ (by decide +kernel)) ggX4_visits_X0_meet
theorem dX4_visits_0 : decode cX4_visits 0 = .ok (.iload_n 1, 1) := by decide +kernel
theorem dX4_visits_1 : decode cX4_visits 1 = .ok (.iload_n 2, 1) := by decide +kernel
theorem dX4_visits_2 : decode cX4_visits 2 = .ok (.iload_n 3, 1) := by decide +kernel
theorem dX4_visits_3 : decode cX4_visits 3 = .ok (.iload 4, 2) := by decide +kernel
theorem dX4_visits_5 : decode cX4_visits 5 = .ok (.invokestatic 27, 3) := by decide +kernel
theorem dX4_visits_8 : decode cX4_visits 8 = .ok (.iload_n 1, 1) := by decide +kernel
theorem dX4_visits_9 : decode cX4_visits 9 = .ok (.iload_n 2, 1) := by decide +kernel
theorem dX4_visits_10 : decode cX4_visits 10 = .ok (.iload_n 3, 1) := by decide +kernel
theorem dX4_visits_11 : decode cX4_visits 11 = .ok (.iload 4, 2) := by decide +kernel
theorem dX4_visits_13 : decode cX4_visits 13 = .ok (.invokestatic 42, 3) := by decide +kernel
theorem dX4_visits_16 : decode cX4_visits 16 = .ok (.istore 5, 2) := by decide +kernel
theorem dX4_visits_18 : decode cX4_visits 18 = .ok (.iconst 0, 1) := by decide +kernel
theorem dX4_visits_19 : decode cX4_visits 19 = .ok (.istore 6, 2) := by decide +kernel
theorem dX4_visits_21 : decode cX4_visits 21 = .ok (.iconst 0, 1) := by decide +kernel
theorem dX4_visits_22 : decode cX4_visits 22 = .ok (.istore 7, 2) := by decide +kernel
theorem dX4_visits_24 : decode cX4_visits 24 = .ok (.iload 7, 2) := by decide +kernel
theorem dX4_visits_26 : decode cX4_visits 26 = .ok (.aload_n 0, 1) := by decide +kernel
theorem dX4_visits_27 : decode cX4_visits 27 = .ok (.getfield 23, 3) := by decide +kernel
theorem dX4_visits_30 : decode cX4_visits 30 = .ok (.invokevirtual 100, 3) := by decide +kernel
theorem dX4_visits_33 : decode cX4_visits 33 = .ok (.if_icmp .ge 51, 3) := by decide +kernel
theorem dX4_visits_36 : decode cX4_visits 36 = .ok (.iconst 0, 1) := by decide +kernel
theorem dX4_visits_37 : decode cX4_visits 37 = .ok (.istore 8, 2) := by decide +kernel
theorem dX4_visits_39 : decode cX4_visits 39 = .ok (.iload 8, 2) := by decide +kernel
theorem dX4_visits_41 : decode cX4_visits 41 = .ok (.aload_n 0, 1) := by decide +kernel
theorem dX4_visits_42 : decode cX4_visits 42 = .ok (.getfield 23, 3) := by decide +kernel
theorem dX4_visits_45 : decode cX4_visits 45 = .ok (.iload 7, 2) := by decide +kernel
theorem dX4_visits_47 : decode cX4_visits 47 = .ok (.invokevirtual 75, 3) := by decide +kernel
theorem dX4_visits_50 : decode cX4_visits 50 = .ok (.if_icmp .ge 28, 3) := by decide +kernel
theorem dX4_visits_53 : decode cX4_visits 53 = .ok (.aload_n 0, 1) := by decide +kernel
theorem dX4_visits_54 : decode cX4_visits 54 = .ok (.iload 7, 2) := by decide +kernel
theorem dX4_visits_56 : decode cX4_visits 56 = .ok (.iload 8, 2) := by decide +kernel
theorem dX4_visits_58 : decode cX4_visits 58 = .ok (.invokevirtual 118, 3) := by decide +kernel
theorem dX4_visits_61 : decode cX4_visits 61 = .ok (.iload 5, 2) := by decide +kernel
theorem dX4_visits_63 : decode cX4_visits 63 = .ok (.invokestatic 137, 3) := by decide +kernel
theorem dX4_visits_66 : decode cX4_visits 66 = .ok (.ifCond .eq 6, 3) := by decide +kernel
theorem dX4_visits_69 : decode cX4_visits 69 = .ok (.iinc 6 1, 3) := by decide +kernel
theorem dX4_visits_72 : decode cX4_visits 72 = .ok (.iinc 8 1, 3) := by decide +kernel
theorem dX4_visits_75 : decode cX4_visits 75 = .ok (.goto (-36), 3) := by decide +kernel
theorem dX4_visits_78 : decode cX4_visits 78 = .ok (.iinc 7 1, 3) := by decide +kernel
theorem dX4_visits_81 : decode cX4_visits 81 = .ok (.goto (-57), 3) := by decide +kernel
theorem dX4_visits_84 : decode cX4_visits 84 = .ok (.iload 6, 2) := by decide +kernel
theorem dX4_visits_86 : decode cX4_visits 86 = .ok (.ireturn, 1) := by decide +kernel
set_option maxRecDepth 20000 in
theorem ggX4_nearest_X4_checkPoint : GoodIn wsX4_nearest wsX4_checkPoint := goodIn_ca (goodIn_r _ [7, 8, 9, 10, 11, 6, 12] (by decide +kernel) (by decide +kernel)) (goodIn_sub (fun _ h => List.mem_cons_of_mem _ (List.mem_append_right _ h)) (by decide +kernel))
set_option maxRecDepth 20000 in
theorem gX4_nearest_X4_checkPoint : GoodIn wsX4_nearest (va_wsS RX4 78 yX4_checkPoint wsX4_checkPoint) := goodIn_app (goodIn_of _ (by decide +kernel)) ggX4_nearest_X4_checkPoint
set_option maxRecDepth 20000 in
theorem ggX4_nearest_X4_rankByDistance : GoodIn wsX4_nearest wsX4_rankByDistance := goodIn_r _ [16, 17, 3, 18, 19, 20, 21, 22, 23, 24, 25, 26, 27, 28, 29, 30, 31, 32, 33, 34, 35, 36, 37, 38, 39, 40, 41, 42, 43, 44, 45, 46, 47, 48, 49, 50, 51, 52, 57, 58, 59, 60, 61, 62, 63, 64, 65] (by decide +kernel) (by decide +kernel)
set_option maxRecDepth 20000 in
theorem gX4_nearest_X4_rankByDistance : GoodIn wsX4_nearest (wsV RX4 141 RX4 yX4_rankByDistance wsX4_rankByDistance) := goodIn_app (goodIn_of _ (by decide +kernel)) ggX4_nearest_X4_rankByDistance
set_option maxRecDepth 20000 in
theorem ggX4_nearest_X2_size : GoodIn wsX4_nearest wsX2_size := goodIn_r _ [22, 23, 60, 61, 62, 63, 64, 65] (by decide +kernel) (by decide +kernel)
set_option maxRecDepth 20000 in
theorem gX4_nearest_X2_size : GoodIn wsX4_nearest (wsV RX4 68 RX2 yX2_size wsX2_size) := goodIn_app (goodIn_of _ (by decide +kernel)) ggX4_nearest_X2_size
set_option maxRecDepth 20000 in
theorem ggX4_nearest_X4_ranksBefore : GoodIn wsX4_nearest wsX4_ranksBefore := goodIn_r _ [56, 17, 3, 18, 19, 20, 21, 22, 23, 57, 58, 59, 60, 61, 62, 63, 64, 65] (by decide +kernel) (by decide +kernel)
set_option maxRecDepth 20000 in
theorem gX4_nearest_X4_ranksBefore : GoodIn wsX4_nearest (wsV RX4 144 RX4 yX4_ranksBefore wsX4_ranksBefore) := goodIn_app (goodIn_of _ (by decide +kernel)) ggX4_nearest_X4_ranksBefore
set_option maxRecDepth 20000 in
theorem ggX4_nearest_X2_numberAt : GoodIn wsX4_nearest wsX2_numberAt := goodIn_r _ [31, 32, 23, 60, 61, 62, 63, 64, 65] (by decide +kernel) (by decide +kernel)
set_option maxRecDepth 20000 in
theorem gX4_nearest_X2_numberAt : GoodIn wsX4_nearest (wsV RX4 126 RX2 yX2_numberAt wsX2_numberAt) := goodIn_app (goodIn_of _ (by decide +kernel)) ggX4_nearest_X2_numberAt
theorem dX4_nearest_0 : decode cX4_nearest 0 = .ok (.iload_n 1, 1) := by decide +kernel
theorem dX4_nearest_1 : decode cX4_nearest 1 = .ok (.iload_n 2, 1) := by decide +kernel
theorem dX4_nearest_2 : decode cX4_nearest 2 = .ok (.invokestatic 78, 3) := by decide +kernel
theorem dX4_nearest_5 : decode cX4_nearest 5 = .ok (.aload_n 0, 1) := by decide +kernel
theorem dX4_nearest_6 : decode cX4_nearest 6 = .ok (.iload_n 1, 1) := by decide +kernel
theorem dX4_nearest_7 : decode cX4_nearest 7 = .ok (.iload_n 2, 1) := by decide +kernel
theorem dX4_nearest_8 : decode cX4_nearest 8 = .ok (.invokevirtual 141, 3) := by decide +kernel
theorem dX4_nearest_11 : decode cX4_nearest 11 = .ok (.iconst 0, 1) := by decide +kernel
theorem dX4_nearest_12 : decode cX4_nearest 12 = .ok (.istore 4, 2) := by decide +kernel
theorem dX4_nearest_14 : decode cX4_nearest 14 = .ok (.iload 4, 2) := by decide +kernel
theorem dX4_nearest_16 : decode cX4_nearest 16 = .ok (.aload_n 0, 1) := by decide +kernel
theorem dX4_nearest_17 : decode cX4_nearest 17 = .ok (.getfield 16, 3) := by decide +kernel
theorem dX4_nearest_20 : decode cX4_nearest 20 = .ok (.invokevirtual 68, 3) := by decide +kernel
theorem dX4_nearest_23 : decode cX4_nearest 23 = .ok (.if_icmp .ge 29, 3) := by decide +kernel
theorem dX4_nearest_26 : decode cX4_nearest 26 = .ok (.aload_n 0, 1) := by decide +kernel
theorem dX4_nearest_27 : decode cX4_nearest 27 = .ok (.iload 4, 2) := by decide +kernel
theorem dX4_nearest_29 : decode cX4_nearest 29 = .ok (.invokevirtual 144, 3) := by decide +kernel
theorem dX4_nearest_32 : decode cX4_nearest 32 = .ok (.iload_n 3, 1) := by decide +kernel
theorem dX4_nearest_33 : decode cX4_nearest 33 = .ok (.if_icmp .ne 13, 3) := by decide +kernel
theorem dX4_nearest_36 : decode cX4_nearest 36 = .ok (.aload_n 0, 1) := by decide +kernel
theorem dX4_nearest_37 : decode cX4_nearest 37 = .ok (.getfield 16, 3) := by decide +kernel
theorem dX4_nearest_40 : decode cX4_nearest 40 = .ok (.iload 4, 2) := by decide +kernel
theorem dX4_nearest_42 : decode cX4_nearest 42 = .ok (.invokevirtual 126, 3) := by decide +kernel
theorem dX4_nearest_45 : decode cX4_nearest 45 = .ok (.ireturn, 1) := by decide +kernel
theorem dX4_nearest_46 : decode cX4_nearest 46 = .ok (.iinc 4 1, 3) := by decide +kernel
theorem dX4_nearest_49 : decode cX4_nearest 49 = .ok (.goto (-35), 3) := by decide +kernel
theorem dX4_nearest_52 : decode cX4_nearest 52 = .ok (.new 107, 3) := by decide +kernel
theorem dX4_nearest_55 : decode cX4_nearest 55 = .ok (.dup, 1) := by decide +kernel
theorem dX4_nearest_56 : decode cX4_nearest 56 = .ok (.ldc 124, 2) := by decide +kernel
theorem dX4_nearest_58 : decode cX4_nearest 58 = .ok (.invokespecial 111, 3) := by decide +kernel
theorem dX4_nearest_61 : decode cX4_nearest 61 = .ok (.athrow, 1) := by decide +kernel
set_option maxRecDepth 20000 in
theorem ggX4_distance_X4_checkPoint : GoodIn wsX4_distance wsX4_checkPoint := goodIn_ca (goodIn_r _ [5, 6, 7, 8, 9, 4, 10] (by decide +kernel) (by decide +kernel)) (goodIn_sub (fun _ h => List.mem_cons_of_mem _ (List.mem_append_left _ (List.mem_append_right _ h))) (by decide +kernel))
set_option maxRecDepth 20000 in
theorem gX4_distance_X4_checkPoint : GoodIn wsX4_distance (va_wsS RX4 78 yX4_checkPoint wsX4_checkPoint) := goodIn_app (goodIn_of _ (by decide +kernel)) ggX4_distance_X4_checkPoint
set_option maxRecDepth 20000 in
theorem ggX4_distance_X4_checkBox : GoodIn wsX4_distance wsX4_checkBox := goodIn_ca (goodIn_r _ [14, 15, 16, 1, 17, 18, 19, 20, 21, 22, 42, 43, 44, 45, 46, 47, 48, 49, 50] (by decide +kernel) (by decide +kernel)) (goodIn_sub (fun _ h => List.mem_cons_of_mem _ (List.mem_append_right _ h)) (by decide +kernel))
set_option maxRecDepth 20000 in
theorem gX4_distance_X4_checkBox : GoodIn wsX4_distance (wsV RX4 59 RX4 yX4_checkBox wsX4_checkBox) := goodIn_app (goodIn_of _ (by decide +kernel)) ggX4_distance_X4_checkBox
set_option maxRecDepth 20000 in
theorem ggX4_distance_X2_areaOf : GoodIn wsX4_distance wsX2_areaOf := goodIn_r _ [26, 27, 45, 46, 47, 48, 49, 50] (by decide +kernel) (by decide +kernel)
set_option maxRecDepth 20000 in
theorem gX4_distance_X2_areaOf : GoodIn wsX4_distance (wsV RX4 94 RX2 yX2_areaOf wsX2_areaOf) := goodIn_app (goodIn_of _ (by decide +kernel)) ggX4_distance_X2_areaOf
set_option maxRecDepth 20000 in
theorem ggX4_distance_X0_distanceFrom : GoodIn wsX4_distance wsX0_distanceFrom := goodIn_r _ [31, 32, 33, 30, 34, 35, 36, 37, 38, 39, 40, 41] (by decide +kernel) (by decide +kernel)
set_option maxRecDepth 20000 in
theorem gX4_distance_X0_distanceFrom : GoodIn wsX4_distance (va_wsS RX4 147 yX0_distanceFrom wsX0_distanceFrom) := goodIn_app (goodIn_of _ (by decide +kernel)) ggX4_distance_X0_distanceFrom
theorem dX4_distance_0 : decode cX4_distance 0 = .ok (.iload_n 1, 1) := by decide +kernel
theorem dX4_distance_1 : decode cX4_distance 1 = .ok (.iload_n 2, 1) := by decide +kernel
theorem dX4_distance_2 : decode cX4_distance 2 = .ok (.invokestatic 78, 3) := by decide +kernel
theorem dX4_distance_5 : decode cX4_distance 5 = .ok (.aload_n 0, 1) := by decide +kernel
theorem dX4_distance_6 : decode cX4_distance 6 = .ok (.iload_n 3, 1) := by decide +kernel
theorem dX4_distance_7 : decode cX4_distance 7 = .ok (.invokevirtual 59, 3) := by decide +kernel
theorem dX4_distance_10 : decode cX4_distance 10 = .ok (.aload_n 0, 1) := by decide +kernel
theorem dX4_distance_11 : decode cX4_distance 11 = .ok (.getfield 16, 3) := by decide +kernel
theorem dX4_distance_14 : decode cX4_distance 14 = .ok (.iload_n 3, 1) := by decide +kernel
theorem dX4_distance_15 : decode cX4_distance 15 = .ok (.invokevirtual 94, 3) := by decide +kernel
theorem dX4_distance_18 : decode cX4_distance 18 = .ok (.iload_n 1, 1) := by decide +kernel
theorem dX4_distance_19 : decode cX4_distance 19 = .ok (.iload_n 2, 1) := by decide +kernel
theorem dX4_distance_20 : decode cX4_distance 20 = .ok (.invokestatic 147, 3) := by decide +kernel
theorem dX4_distance_23 : decode cX4_distance 23 = .ok (.ireturn, 1) := by decide +kernel
set_option maxRecDepth 20000 in
theorem ggX4_pairs_X2_added : GoodIn wsX4_pairs wsX2_added := goodIn_r _ [6, 7, 32, 33, 34, 35, 36, 37] (by decide +kernel) (by decide +kernel)
set_option maxRecDepth 20000 in
theorem gX4_pairs_X2_added : GoodIn wsX4_pairs (wsV RX4 151 RX2 yX2_added wsX2_added) := goodIn_app (goodIn_of _ (by decide +kernel)) ggX4_pairs_X2_added
set_option maxRecDepth 20000 in
theorem ggX4_pairs_X2_haveMet : GoodIn wsX4_pairs wsX2_haveMet := goodIn_r _ [11, 12, 13, 14, 5, 15, 16, 17, 18, 19, 20, 21, 22, 23, 24, 25, 26, 27, 28, 32, 33, 34, 35, 36, 37] (by decide +kernel) (by decide +kernel)
set_option maxRecDepth 20000 in
theorem gX4_pairs_X2_haveMet : GoodIn wsX4_pairs (wsV RX4 154 RX2 yX2_haveMet wsX2_haveMet) := goodIn_app (goodIn_of _ (by decide +kernel)) ggX4_pairs_X2_haveMet
theorem dX4_pairs_0 : decode cX4_pairs 0 = .ok (.iconst 0, 1) := by decide +kernel
theorem dX4_pairs_1 : decode cX4_pairs 1 = .ok (.istore_n 1, 1) := by decide +kernel
theorem dX4_pairs_2 : decode cX4_pairs 2 = .ok (.iconst 0, 1) := by decide +kernel
theorem dX4_pairs_3 : decode cX4_pairs 3 = .ok (.istore_n 2, 1) := by decide +kernel
theorem dX4_pairs_4 : decode cX4_pairs 4 = .ok (.iload_n 2, 1) := by decide +kernel
theorem dX4_pairs_5 : decode cX4_pairs 5 = .ok (.aload_n 0, 1) := by decide +kernel
theorem dX4_pairs_6 : decode cX4_pairs 6 = .ok (.getfield 16, 3) := by decide +kernel
theorem dX4_pairs_9 : decode cX4_pairs 9 = .ok (.invokevirtual 151, 3) := by decide +kernel
theorem dX4_pairs_12 : decode cX4_pairs 12 = .ok (.if_icmp .ge 45, 3) := by decide +kernel
theorem dX4_pairs_15 : decode cX4_pairs 15 = .ok (.iload_n 2, 1) := by decide +kernel
theorem dX4_pairs_16 : decode cX4_pairs 16 = .ok (.iconst 1, 1) := by decide +kernel
theorem dX4_pairs_17 : decode cX4_pairs 17 = .ok (.iadd, 1) := by decide +kernel
theorem dX4_pairs_18 : decode cX4_pairs 18 = .ok (.istore_n 3, 1) := by decide +kernel
theorem dX4_pairs_19 : decode cX4_pairs 19 = .ok (.iload_n 3, 1) := by decide +kernel
theorem dX4_pairs_20 : decode cX4_pairs 20 = .ok (.aload_n 0, 1) := by decide +kernel
theorem dX4_pairs_21 : decode cX4_pairs 21 = .ok (.getfield 16, 3) := by decide +kernel
theorem dX4_pairs_24 : decode cX4_pairs 24 = .ok (.invokevirtual 151, 3) := by decide +kernel
theorem dX4_pairs_27 : decode cX4_pairs 27 = .ok (.if_icmp .ge 24, 3) := by decide +kernel
theorem dX4_pairs_30 : decode cX4_pairs 30 = .ok (.aload_n 0, 1) := by decide +kernel
theorem dX4_pairs_31 : decode cX4_pairs 31 = .ok (.getfield 16, 3) := by decide +kernel
theorem dX4_pairs_34 : decode cX4_pairs 34 = .ok (.iload_n 2, 1) := by decide +kernel
theorem dX4_pairs_35 : decode cX4_pairs 35 = .ok (.iload_n 3, 1) := by decide +kernel
theorem dX4_pairs_36 : decode cX4_pairs 36 = .ok (.invokevirtual 154, 3) := by decide +kernel
theorem dX4_pairs_39 : decode cX4_pairs 39 = .ok (.ifCond .eq 6, 3) := by decide +kernel
theorem dX4_pairs_42 : decode cX4_pairs 42 = .ok (.iinc 1 1, 3) := by decide +kernel
theorem dX4_pairs_45 : decode cX4_pairs 45 = .ok (.iinc 3 1, 3) := by decide +kernel
theorem dX4_pairs_48 : decode cX4_pairs 48 = .ok (.goto (-29), 3) := by decide +kernel
theorem dX4_pairs_51 : decode cX4_pairs 51 = .ok (.iinc 2 1, 3) := by decide +kernel
theorem dX4_pairs_54 : decode cX4_pairs 54 = .ok (.goto (-50), 3) := by decide +kernel
theorem dX4_pairs_57 : decode cX4_pairs 57 = .ok (.iload_n 1, 1) := by decide +kernel
theorem dX4_pairs_58 : decode cX4_pairs 58 = .ok (.ireturn, 1) := by decide +kernel
set_option maxRecDepth 20000 in
theorem ggX4_pair_X2_added : GoodIn wsX4_pair wsX2_added := goodIn_r _ [8, 9, 34, 35, 36, 37, 38, 39] (by decide +kernel) (by decide +kernel)
set_option maxRecDepth 20000 in
theorem gX4_pair_X2_added : GoodIn wsX4_pair (wsV RX4 151 RX2 yX2_added wsX2_added) := goodIn_app (goodIn_of _ (by decide +kernel)) ggX4_pair_X2_added
set_option maxRecDepth 20000 in
theorem ggX4_pair_X2_haveMet : GoodIn wsX4_pair wsX2_haveMet := goodIn_r _ [13, 14, 15, 16, 7, 17, 18, 19, 20, 21, 22, 23, 24, 25, 26, 27, 28, 29, 30, 34, 35, 36, 37, 38, 39] (by decide +kernel) (by decide +kernel)
set_option maxRecDepth 20000 in
theorem gX4_pair_X2_haveMet : GoodIn wsX4_pair (wsV RX4 154 RX2 yX2_haveMet wsX2_haveMet) := goodIn_app (goodIn_of _ (by decide +kernel)) ggX4_pair_X2_haveMet
theorem dX4_pair_0 : decode cX4_pair 0 = .ok (.iconst 0, 1) := by decide +kernel
theorem dX4_pair_1 : decode cX4_pair 1 = .ok (.istore_n 2, 1) := by decide +kernel
theorem dX4_pair_2 : decode cX4_pair 2 = .ok (.iconst 0, 1) := by decide +kernel
theorem dX4_pair_3 : decode cX4_pair 3 = .ok (.istore_n 3, 1) := by decide +kernel
theorem dX4_pair_4 : decode cX4_pair 4 = .ok (.iload_n 3, 1) := by decide +kernel
theorem dX4_pair_5 : decode cX4_pair 5 = .ok (.aload_n 0, 1) := by decide +kernel
theorem dX4_pair_6 : decode cX4_pair 6 = .ok (.getfield 16, 3) := by decide +kernel
theorem dX4_pair_9 : decode cX4_pair 9 = .ok (.invokevirtual 151, 3) := by decide +kernel
theorem dX4_pair_12 : decode cX4_pair 12 = .ok (.if_icmp .ge 61, 3) := by decide +kernel
theorem dX4_pair_15 : decode cX4_pair 15 = .ok (.iload_n 3, 1) := by decide +kernel
theorem dX4_pair_16 : decode cX4_pair 16 = .ok (.iconst 1, 1) := by decide +kernel
theorem dX4_pair_17 : decode cX4_pair 17 = .ok (.iadd, 1) := by decide +kernel
theorem dX4_pair_18 : decode cX4_pair 18 = .ok (.istore 4, 2) := by decide +kernel
theorem dX4_pair_20 : decode cX4_pair 20 = .ok (.iload 4, 2) := by decide +kernel
theorem dX4_pair_22 : decode cX4_pair 22 = .ok (.aload_n 0, 1) := by decide +kernel
theorem dX4_pair_23 : decode cX4_pair 23 = .ok (.getfield 16, 3) := by decide +kernel
theorem dX4_pair_26 : decode cX4_pair 26 = .ok (.invokevirtual 151, 3) := by decide +kernel
theorem dX4_pair_29 : decode cX4_pair 29 = .ok (.if_icmp .ge 38, 3) := by decide +kernel
theorem dX4_pair_32 : decode cX4_pair 32 = .ok (.aload_n 0, 1) := by decide +kernel
theorem dX4_pair_33 : decode cX4_pair 33 = .ok (.getfield 16, 3) := by decide +kernel
theorem dX4_pair_36 : decode cX4_pair 36 = .ok (.iload_n 3, 1) := by decide +kernel
theorem dX4_pair_37 : decode cX4_pair 37 = .ok (.iload 4, 2) := by decide +kernel
theorem dX4_pair_39 : decode cX4_pair 39 = .ok (.invokevirtual 154, 3) := by decide +kernel
theorem dX4_pair_42 : decode cX4_pair 42 = .ok (.ifCond .eq 19, 3) := by decide +kernel
theorem dX4_pair_45 : decode cX4_pair 45 = .ok (.iload_n 2, 1) := by decide +kernel
theorem dX4_pair_46 : decode cX4_pair 46 = .ok (.iload_n 1, 1) := by decide +kernel
theorem dX4_pair_47 : decode cX4_pair 47 = .ok (.if_icmp .ne 11, 3) := by decide +kernel
theorem dX4_pair_50 : decode cX4_pair 50 = .ok (.bipush 100, 2) := by decide +kernel
theorem dX4_pair_52 : decode cX4_pair 52 = .ok (.iload_n 3, 1) := by decide +kernel
theorem dX4_pair_53 : decode cX4_pair 53 = .ok (.imul, 1) := by decide +kernel
theorem dX4_pair_54 : decode cX4_pair 54 = .ok (.iload 4, 2) := by decide +kernel
theorem dX4_pair_56 : decode cX4_pair 56 = .ok (.iadd, 1) := by decide +kernel
theorem dX4_pair_57 : decode cX4_pair 57 = .ok (.ireturn, 1) := by decide +kernel
theorem dX4_pair_58 : decode cX4_pair 58 = .ok (.iinc 2 1, 3) := by decide +kernel
theorem dX4_pair_61 : decode cX4_pair 61 = .ok (.iinc 4 1, 3) := by decide +kernel
theorem dX4_pair_64 : decode cX4_pair 64 = .ok (.goto (-44), 3) := by decide +kernel
theorem dX4_pair_67 : decode cX4_pair 67 = .ok (.iinc 3 1, 3) := by decide +kernel
theorem dX4_pair_70 : decode cX4_pair 70 = .ok (.goto (-66), 3) := by decide +kernel
theorem dX4_pair_73 : decode cX4_pair 73 = .ok (.new 107, 3) := by decide +kernel
theorem dX4_pair_76 : decode cX4_pair 76 = .ok (.dup, 1) := by decide +kernel
theorem dX4_pair_77 : decode cX4_pair 77 = .ok (.ldc 124, 2) := by decide +kernel
theorem dX4_pair_79 : decode cX4_pair 79 = .ok (.invokespecial 111, 3) := by decide +kernel
theorem dX4_pair_82 : decode cX4_pair 82 = .ok (.athrow, 1) := by decide +kernel
theorem dX4_isCoordinate_0 : decode cX4_isCoordinate 0 = .ok (.iload_n 0, 1) := by decide +kernel
theorem dX4_isCoordinate_1 : decode cX4_isCoordinate 1 = .ok (.ifCond .lt 14, 3) := by decide +kernel
theorem dX4_isCoordinate_4 : decode cX4_isCoordinate 4 = .ok (.iload_n 0, 1) := by decide +kernel
theorem dX4_isCoordinate_5 : decode cX4_isCoordinate 5 = .ok (.sipush 255, 3) := by decide +kernel
theorem dX4_isCoordinate_8 : decode cX4_isCoordinate 8 = .ok (.if_icmp .gt 7, 3) := by decide +kernel
theorem dX4_isCoordinate_11 : decode cX4_isCoordinate 11 = .ok (.iconst 1, 1) := by decide +kernel
theorem dX4_isCoordinate_12 : decode cX4_isCoordinate 12 = .ok (.goto 4, 3) := by decide +kernel
theorem dX4_isCoordinate_15 : decode cX4_isCoordinate 15 = .ok (.iconst 0, 1) := by decide +kernel
theorem dX4_isCoordinate_16 : decode cX4_isCoordinate 16 = .ok (.ireturn, 1) := by decide +kernel
set_option maxRecDepth 20000 in
theorem ggX4_checkPoint_X4_isCoordinate : GoodIn wsX4_checkPoint wsX4_isCoordinate := goodIn_r _ [6] (by decide +kernel) (by decide +kernel)
set_option maxRecDepth 20000 in
theorem gX4_checkPoint_X4_isCoordinate : GoodIn wsX4_checkPoint (va_wsS RX4 157 yX4_isCoordinate wsX4_isCoordinate) := goodIn_app (goodIn_of _ (by decide +kernel)) ggX4_checkPoint_X4_isCoordinate
theorem dX4_checkPoint_0 : decode cX4_checkPoint 0 = .ok (.iload_n 0, 1) := by decide +kernel
theorem dX4_checkPoint_1 : decode cX4_checkPoint 1 = .ok (.invokestatic 157, 3) := by decide +kernel
theorem dX4_checkPoint_4 : decode cX4_checkPoint 4 = .ok (.ifCond .eq 10, 3) := by decide +kernel
theorem dX4_checkPoint_7 : decode cX4_checkPoint 7 = .ok (.iload_n 1, 1) := by decide +kernel
theorem dX4_checkPoint_8 : decode cX4_checkPoint 8 = .ok (.invokestatic 157, 3) := by decide +kernel
theorem dX4_checkPoint_11 : decode cX4_checkPoint 11 = .ok (.ifCond .ne 13, 3) := by decide +kernel
theorem dX4_checkPoint_14 : decode cX4_checkPoint 14 = .ok (.new 160, 3) := by decide +kernel
theorem dX4_checkPoint_17 : decode cX4_checkPoint 17 = .ok (.dup, 1) := by decide +kernel
theorem dX4_checkPoint_18 : decode cX4_checkPoint 18 = .ok (.ldc 162, 2) := by decide +kernel
theorem dX4_checkPoint_20 : decode cX4_checkPoint 20 = .ok (.invokespecial 164, 3) := by decide +kernel
theorem dX4_checkPoint_23 : decode cX4_checkPoint 23 = .ok (.athrow, 1) := by decide +kernel
theorem dX4_checkPoint_24 : decode cX4_checkPoint 24 = .ok (.return_, 1) := by decide +kernel
set_option maxRecDepth 20000 in
theorem ggX4_checkSides_X4_isCoordinate : GoodIn wsX4_checkSides wsX4_isCoordinate := goodIn_r _ [6] (by decide +kernel) (by decide +kernel)
set_option maxRecDepth 20000 in
theorem gX4_checkSides_X4_isCoordinate : GoodIn wsX4_checkSides (va_wsS RX4 157 yX4_isCoordinate wsX4_isCoordinate) := goodIn_app (goodIn_of _ (by decide +kernel)) ggX4_checkSides_X4_isCoordinate
theorem dX4_checkSides_0 : decode cX4_checkSides 0 = .ok (.iload_n 0, 1) := by decide +kernel
theorem dX4_checkSides_1 : decode cX4_checkSides 1 = .ok (.invokestatic 157, 3) := by decide +kernel
theorem dX4_checkSides_4 : decode cX4_checkSides 4 = .ok (.ifCond .eq 34, 3) := by decide +kernel
theorem dX4_checkSides_7 : decode cX4_checkSides 7 = .ok (.iload_n 1, 1) := by decide +kernel
theorem dX4_checkSides_8 : decode cX4_checkSides 8 = .ok (.invokestatic 157, 3) := by decide +kernel
theorem dX4_checkSides_11 : decode cX4_checkSides 11 = .ok (.ifCond .eq 27, 3) := by decide +kernel
end
section
theorem dX4_checkSides_14 : decode cX4_checkSides 14 = .ok (.iload_n 2, 1) := by decide +kernel
theorem dX4_checkSides_15 : decode cX4_checkSides 15 = .ok (.invokestatic 157, 3) := by decide +kernel
theorem dX4_checkSides_18 : decode cX4_checkSides 18 = .ok (.ifCond .eq 20, 3) := by decide +kernel
theorem dX4_checkSides_21 : decode cX4_checkSides 21 = .ok (.iload_n 3, 1) := by decide +kernel
theorem dX4_checkSides_22 : decode cX4_checkSides 22 = .ok (.invokestatic 157, 3) := by decide +kernel
theorem dX4_checkSides_25 : decode cX4_checkSides 25 = .ok (.ifCond .eq 13, 3) := by decide +kernel
theorem dX4_checkSides_28 : decode cX4_checkSides 28 = .ok (.iload_n 0, 1) := by decide +kernel
theorem dX4_checkSides_29 : decode cX4_checkSides 29 = .ok (.iload_n 2, 1) := by decide +kernel
theorem dX4_checkSides_30 : decode cX4_checkSides 30 = .ok (.if_icmp .gt 8, 3) := by decide +kernel
theorem dX4_checkSides_33 : decode cX4_checkSides 33 = .ok (.iload_n 1, 1) := by decide +kernel
theorem dX4_checkSides_34 : decode cX4_checkSides 34 = .ok (.iload_n 3, 1) := by decide +kernel
theorem dX4_checkSides_35 : decode cX4_checkSides 35 = .ok (.if_icmp .le 13, 3) := by decide +kernel
theorem dX4_checkSides_38 : decode cX4_checkSides 38 = .ok (.new 160, 3) := by decide +kernel
theorem dX4_checkSides_41 : decode cX4_checkSides 41 = .ok (.dup, 1) := by decide +kernel
theorem dX4_checkSides_42 : decode cX4_checkSides 42 = .ok (.ldc 165, 2) := by decide +kernel
theorem dX4_checkSides_44 : decode cX4_checkSides 44 = .ok (.invokespecial 164, 3) := by decide +kernel
theorem dX4_checkSides_47 : decode cX4_checkSides 47 = .ok (.athrow, 1) := by decide +kernel
theorem dX4_checkSides_48 : decode cX4_checkSides 48 = .ok (.return_, 1) := by decide +kernel
theorem dX4_checkSide_0 : decode cX4_checkSide 0 = .ok (.iload_n 0, 1) := by decide +kernel
theorem dX4_checkSide_1 : decode cX4_checkSide 1 = .ok (.ifCond .lt 8, 3) := by decide +kernel
theorem dX4_checkSide_4 : decode cX4_checkSide 4 = .ok (.iload_n 0, 1) := by decide +kernel
theorem dX4_checkSide_5 : decode cX4_checkSide 5 = .ok (.iconst 3, 1) := by decide +kernel
theorem dX4_checkSide_6 : decode cX4_checkSide 6 = .ok (.if_icmp .le 13, 3) := by decide +kernel
theorem dX4_checkSide_9 : decode cX4_checkSide 9 = .ok (.new 160, 3) := by decide +kernel
theorem dX4_checkSide_12 : decode cX4_checkSide 12 = .ok (.dup, 1) := by decide +kernel
theorem dX4_checkSide_13 : decode cX4_checkSide 13 = .ok (.ldc 167, 2) := by decide +kernel
theorem dX4_checkSide_15 : decode cX4_checkSide 15 = .ok (.invokespecial 164, 3) := by decide +kernel
theorem dX4_checkSide_18 : decode cX4_checkSide 18 = .ok (.athrow, 1) := by decide +kernel
theorem dX4_checkSide_19 : decode cX4_checkSide 19 = .ok (.return_, 1) := by decide +kernel
set_option maxRecDepth 20000 in
theorem ggX4_checkBox_X2_has : GoodIn wsX4_checkBox wsX2_has := goodIn_r _ [8, 9, 13, 14, 15, 16, 17, 18] (by decide +kernel) (by decide +kernel)
set_option maxRecDepth 20000 in
theorem gX4_checkBox_X2_has : GoodIn wsX4_checkBox (wsV RX4 169 RX2 yX2_has wsX2_has) := goodIn_app (goodIn_of _ (by decide +kernel)) ggX4_checkBox_X2_has
theorem dX4_checkBox_0 : decode cX4_checkBox 0 = .ok (.aload_n 0, 1) := by decide +kernel
theorem dX4_checkBox_1 : decode cX4_checkBox 1 = .ok (.getfield 16, 3) := by decide +kernel
theorem dX4_checkBox_4 : decode cX4_checkBox 4 = .ok (.iload_n 1, 1) := by decide +kernel
theorem dX4_checkBox_5 : decode cX4_checkBox 5 = .ok (.invokevirtual 169, 3) := by decide +kernel
theorem dX4_checkBox_8 : decode cX4_checkBox 8 = .ok (.ifCond .ne 13, 3) := by decide +kernel
theorem dX4_checkBox_11 : decode cX4_checkBox 11 = .ok (.new 107, 3) := by decide +kernel
theorem dX4_checkBox_14 : decode cX4_checkBox 14 = .ok (.dup, 1) := by decide +kernel
theorem dX4_checkBox_15 : decode cX4_checkBox 15 = .ok (.ldc 172, 2) := by decide +kernel
theorem dX4_checkBox_17 : decode cX4_checkBox 17 = .ok (.invokespecial 111, 3) := by decide +kernel
theorem dX4_checkBox_20 : decode cX4_checkBox 20 = .ok (.athrow, 1) := by decide +kernel
theorem dX4_checkBox_21 : decode cX4_checkBox 21 = .ok (.return_, 1) := by decide +kernel
set_option maxRecDepth 20000 in
theorem ggX4_checkNode_X3_hasNode : GoodIn wsX4_checkNode wsX3_hasNode := goodIn_r _ [8, 9, 10, 14, 15, 16] (by decide +kernel) (by decide +kernel)
set_option maxRecDepth 20000 in
theorem gX4_checkNode_X3_hasNode : GoodIn wsX4_checkNode (wsV RX4 174 RX3 yX3_hasNode wsX3_hasNode) := goodIn_app (goodIn_of _ (by decide +kernel)) ggX4_checkNode_X3_hasNode
theorem dX4_checkNode_0 : decode cX4_checkNode 0 = .ok (.aload_n 0, 1) := by decide +kernel
theorem dX4_checkNode_1 : decode cX4_checkNode 1 = .ok (.getfield 23, 3) := by decide +kernel
theorem dX4_checkNode_4 : decode cX4_checkNode 4 = .ok (.iload_n 1, 1) := by decide +kernel
theorem dX4_checkNode_5 : decode cX4_checkNode 5 = .ok (.iload_n 2, 1) := by decide +kernel
theorem dX4_checkNode_6 : decode cX4_checkNode 6 = .ok (.invokevirtual 174, 3) := by decide +kernel
theorem dX4_checkNode_9 : decode cX4_checkNode 9 = .ok (.ifCond .ne 13, 3) := by decide +kernel
theorem dX4_checkNode_12 : decode cX4_checkNode 12 = .ok (.new 107, 3) := by decide +kernel
theorem dX4_checkNode_15 : decode cX4_checkNode 15 = .ok (.dup, 1) := by decide +kernel
theorem dX4_checkNode_16 : decode cX4_checkNode 16 = .ok (.ldc 177, 2) := by decide +kernel
theorem dX4_checkNode_18 : decode cX4_checkNode 18 = .ok (.invokespecial 111, 3) := by decide +kernel
theorem dX4_checkNode_21 : decode cX4_checkNode 21 = .ok (.athrow, 1) := by decide +kernel
theorem dX4_checkNode_22 : decode cX4_checkNode 22 = .ok (.return_, 1) := by decide +kernel
set_option maxRecDepth 20000 in
theorem ggX4_coverOf_X3_boxesBefore : GoodIn wsX4_coverOf wsX3_boxesBefore := goodIn_r _ [7, 8, 9, 10, 6, 11, 12, 13, 14, 15, 16, 17, 18, 19, 20, 21, 22, 23, 24, 25, 26, 63, 64, 65] (by decide +kernel) (by decide +kernel)
set_option maxRecDepth 20000 in
theorem gX4_coverOf_X3_boxesBefore : GoodIn wsX4_coverOf (wsV RX4 179 RX3 yX3_boxesBefore wsX3_boxesBefore) := goodIn_app (goodIn_of _ (by decide +kernel)) ggX4_coverOf_X3_boxesBefore
set_option maxRecDepth 20000 in
theorem ggX4_coverOf_X2_areaAt : GoodIn wsX4_coverOf wsX2_areaAt := goodIn_r _ [31, 32, 33, 34, 30, 35, 36, 37, 38, 39, 40, 41, 42, 66, 67, 68, 69, 70, 71] (by decide +kernel) (by decide +kernel)
set_option maxRecDepth 20000 in
theorem gX4_coverOf_X2_areaAt : GoodIn wsX4_coverOf (wsV RX4 134 RX2 yX2_areaAt wsX2_areaAt) := goodIn_app (goodIn_of _ (by decide +kernel)) ggX4_coverOf_X2_areaAt
set_option maxRecDepth 20000 in
theorem ggX4_coverOf_X0_around : GoodIn wsX4_coverOf wsX0_around := goodIn_r _ [46, 47, 48, 49, 50, 51, 52, 53, 54, 55, 45, 56, 57, 58, 59] (by decide +kernel) (by decide +kernel)
set_option maxRecDepth 20000 in
theorem gX4_coverOf_X0_around : GoodIn wsX4_coverOf (va_wsS RX4 182 yX0_around wsX0_around) := goodIn_app (goodIn_of _ (by decide +kernel)) ggX4_coverOf_X0_around
theorem dX4_coverOf_0 : decode cX4_coverOf 0 = .ok (.aload_n 0, 1) := by decide +kernel
theorem dX4_coverOf_1 : decode cX4_coverOf 1 = .ok (.getfield 23, 3) := by decide +kernel
theorem dX4_coverOf_4 : decode cX4_coverOf 4 = .ok (.iload_n 1, 1) := by decide +kernel
theorem dX4_coverOf_5 : decode cX4_coverOf 5 = .ok (.iload_n 2, 1) := by decide +kernel
theorem dX4_coverOf_6 : decode cX4_coverOf 6 = .ok (.invokevirtual 179, 3) := by decide +kernel
theorem dX4_coverOf_9 : decode cX4_coverOf 9 = .ok (.istore_n 3, 1) := by decide +kernel
theorem dX4_coverOf_10 : decode cX4_coverOf 10 = .ok (.aload_n 0, 1) := by decide +kernel
theorem dX4_coverOf_11 : decode cX4_coverOf 11 = .ok (.getfield 23, 3) := by decide +kernel
theorem dX4_coverOf_14 : decode cX4_coverOf 14 = .ok (.iload_n 1, 1) := by decide +kernel
theorem dX4_coverOf_15 : decode cX4_coverOf 15 = .ok (.iload_n 2, 1) := by decide +kernel
theorem dX4_coverOf_16 : decode cX4_coverOf 16 = .ok (.iconst 1, 1) := by decide +kernel
theorem dX4_coverOf_17 : decode cX4_coverOf 17 = .ok (.iadd, 1) := by decide +kernel
theorem dX4_coverOf_18 : decode cX4_coverOf 18 = .ok (.invokevirtual 179, 3) := by decide +kernel
theorem dX4_coverOf_21 : decode cX4_coverOf 21 = .ok (.istore 4, 2) := by decide +kernel
theorem dX4_coverOf_23 : decode cX4_coverOf 23 = .ok (.aload_n 0, 1) := by decide +kernel
theorem dX4_coverOf_24 : decode cX4_coverOf 24 = .ok (.getfield 16, 3) := by decide +kernel
theorem dX4_coverOf_27 : decode cX4_coverOf 27 = .ok (.iload_n 3, 1) := by decide +kernel
theorem dX4_coverOf_28 : decode cX4_coverOf 28 = .ok (.invokevirtual 134, 3) := by decide +kernel
theorem dX4_coverOf_31 : decode cX4_coverOf 31 = .ok (.istore 5, 2) := by decide +kernel
theorem dX4_coverOf_33 : decode cX4_coverOf 33 = .ok (.iload_n 3, 1) := by decide +kernel
theorem dX4_coverOf_34 : decode cX4_coverOf 34 = .ok (.iconst 1, 1) := by decide +kernel
theorem dX4_coverOf_35 : decode cX4_coverOf 35 = .ok (.iadd, 1) := by decide +kernel
theorem dX4_coverOf_36 : decode cX4_coverOf 36 = .ok (.istore 6, 2) := by decide +kernel
theorem dX4_coverOf_38 : decode cX4_coverOf 38 = .ok (.iload 6, 2) := by decide +kernel
theorem dX4_coverOf_40 : decode cX4_coverOf 40 = .ok (.iload 4, 2) := by decide +kernel
theorem dX4_coverOf_42 : decode cX4_coverOf 42 = .ok (.if_icmp .ge 25, 3) := by decide +kernel
theorem dX4_coverOf_45 : decode cX4_coverOf 45 = .ok (.iload 5, 2) := by decide +kernel
theorem dX4_coverOf_47 : decode cX4_coverOf 47 = .ok (.aload_n 0, 1) := by decide +kernel
theorem dX4_coverOf_48 : decode cX4_coverOf 48 = .ok (.getfield 16, 3) := by decide +kernel
theorem dX4_coverOf_51 : decode cX4_coverOf 51 = .ok (.iload 6, 2) := by decide +kernel
theorem dX4_coverOf_53 : decode cX4_coverOf 53 = .ok (.invokevirtual 134, 3) := by decide +kernel
theorem dX4_coverOf_56 : decode cX4_coverOf 56 = .ok (.invokestatic 182, 3) := by decide +kernel
theorem dX4_coverOf_59 : decode cX4_coverOf 59 = .ok (.istore 5, 2) := by decide +kernel
theorem dX4_coverOf_61 : decode cX4_coverOf 61 = .ok (.iinc 6 1, 3) := by decide +kernel
theorem dX4_coverOf_64 : decode cX4_coverOf 64 = .ok (.goto (-26), 3) := by decide +kernel
theorem dX4_coverOf_67 : decode cX4_coverOf 67 = .ok (.iload 5, 2) := by decide +kernel
theorem dX4_coverOf_69 : decode cX4_coverOf 69 = .ok (.ireturn, 1) := by decide +kernel
set_option maxRecDepth 20000 in
theorem ggX4_rankByDistance_X2_size : GoodIn wsX4_rankByDistance wsX2_size := goodIn_r _ [7, 8, 41, 42, 43, 44, 45, 46] (by decide +kernel) (by decide +kernel)
set_option maxRecDepth 20000 in
theorem gX4_rankByDistance_X2_size : GoodIn wsX4_rankByDistance (wsV RX4 68 RX2 yX2_size wsX2_size) := goodIn_app (goodIn_of _ (by decide +kernel)) ggX4_rankByDistance_X2_size
set_option maxRecDepth 20000 in
theorem ggX4_rankByDistance_X2_areaAt : GoodIn wsX4_rankByDistance wsX2_areaAt := goodIn_r _ [12, 13, 14, 15, 6, 16, 17, 8, 18, 19, 20, 21, 22, 41, 42, 43, 44, 45, 46] (by decide +kernel) (by decide +kernel)
set_option maxRecDepth 20000 in
theorem gX4_rankByDistance_X2_areaAt : GoodIn wsX4_rankByDistance (wsV RX4 134 RX2 yX2_areaAt wsX2_areaAt) := goodIn_app (goodIn_of _ (by decide +kernel)) ggX4_rankByDistance_X2_areaAt
set_option maxRecDepth 20000 in
theorem ggX4_rankByDistance_X0_distanceFrom : GoodIn wsX4_rankByDistance wsX0_distanceFrom := goodIn_r _ [26, 27, 28, 25, 29, 30, 31, 32, 33, 34, 35, 36] (by decide +kernel) (by decide +kernel)
set_option maxRecDepth 20000 in
theorem gX4_rankByDistance_X0_distanceFrom : GoodIn wsX4_rankByDistance (va_wsS RX4 147 yX0_distanceFrom wsX0_distanceFrom) := goodIn_app (goodIn_of _ (by decide +kernel)) ggX4_rankByDistance_X0_distanceFrom
set_option maxRecDepth 20000 in
theorem ggX4_rankByDistance_X2_numberAt : GoodIn wsX4_rankByDistance wsX2_numberAt := goodIn_r _ [16, 17, 8, 41, 42, 43, 44, 45, 46] (by decide +kernel) (by decide +kernel)
set_option maxRecDepth 20000 in
theorem gX4_rankByDistance_X2_numberAt : GoodIn wsX4_rankByDistance (wsV RX4 126 RX2 yX2_numberAt wsX2_numberAt) := goodIn_app (goodIn_of _ (by decide +kernel)) ggX4_rankByDistance_X2_numberAt
theorem dX4_rankByDistance_0 : decode cX4_rankByDistance 0 = .ok (.iconst 0, 1) := by decide +kernel
theorem dX4_rankByDistance_1 : decode cX4_rankByDistance 1 = .ok (.istore_n 3, 1) := by decide +kernel
theorem dX4_rankByDistance_2 : decode cX4_rankByDistance 2 = .ok (.iload_n 3, 1) := by decide +kernel
theorem dX4_rankByDistance_3 : decode cX4_rankByDistance 3 = .ok (.aload_n 0, 1) := by decide +kernel
theorem dX4_rankByDistance_4 : decode cX4_rankByDistance 4 = .ok (.getfield 9, 3) := by decide +kernel
theorem dX4_rankByDistance_7 : decode cX4_rankByDistance 7 = .ok (.arraylength, 1) := by decide +kernel
theorem dX4_rankByDistance_8 : decode cX4_rankByDistance 8 = .ok (.if_icmp .ge 55, 3) := by decide +kernel
theorem dX4_rankByDistance_11 : decode cX4_rankByDistance 11 = .ok (.iload_n 3, 1) := by decide +kernel
theorem dX4_rankByDistance_12 : decode cX4_rankByDistance 12 = .ok (.aload_n 0, 1) := by decide +kernel
theorem dX4_rankByDistance_13 : decode cX4_rankByDistance 13 = .ok (.getfield 16, 3) := by decide +kernel
theorem dX4_rankByDistance_16 : decode cX4_rankByDistance 16 = .ok (.invokevirtual 68, 3) := by decide +kernel
theorem dX4_rankByDistance_19 : decode cX4_rankByDistance 19 = .ok (.if_icmp .ge 44, 3) := by decide +kernel
theorem dX4_rankByDistance_22 : decode cX4_rankByDistance 22 = .ok (.aload_n 0, 1) := by decide +kernel
theorem dX4_rankByDistance_23 : decode cX4_rankByDistance 23 = .ok (.getfield 16, 3) := by decide +kernel
theorem dX4_rankByDistance_26 : decode cX4_rankByDistance 26 = .ok (.iload_n 3, 1) := by decide +kernel
theorem dX4_rankByDistance_27 : decode cX4_rankByDistance 27 = .ok (.invokevirtual 134, 3) := by decide +kernel
theorem dX4_rankByDistance_30 : decode cX4_rankByDistance 30 = .ok (.iload_n 1, 1) := by decide +kernel
theorem dX4_rankByDistance_31 : decode cX4_rankByDistance 31 = .ok (.iload_n 2, 1) := by decide +kernel
theorem dX4_rankByDistance_32 : decode cX4_rankByDistance 32 = .ok (.invokestatic 147, 3) := by decide +kernel
theorem dX4_rankByDistance_35 : decode cX4_rankByDistance 35 = .ok (.istore 4, 2) := by decide +kernel
theorem dX4_rankByDistance_37 : decode cX4_rankByDistance 37 = .ok (.aload_n 0, 1) := by decide +kernel
theorem dX4_rankByDistance_38 : decode cX4_rankByDistance 38 = .ok (.getfield 9, 3) := by decide +kernel
theorem dX4_rankByDistance_41 : decode cX4_rankByDistance 41 = .ok (.iload_n 3, 1) := by decide +kernel
theorem dX4_rankByDistance_42 : decode cX4_rankByDistance 42 = .ok (.iload 4, 2) := by decide +kernel
theorem dX4_rankByDistance_44 : decode cX4_rankByDistance 44 = .ok (.bipush 100, 2) := by decide +kernel
theorem dX4_rankByDistance_46 : decode cX4_rankByDistance 46 = .ok (.imul, 1) := by decide +kernel
theorem dX4_rankByDistance_47 : decode cX4_rankByDistance 47 = .ok (.aload_n 0, 1) := by decide +kernel
theorem dX4_rankByDistance_48 : decode cX4_rankByDistance 48 = .ok (.getfield 16, 3) := by decide +kernel
theorem dX4_rankByDistance_51 : decode cX4_rankByDistance 51 = .ok (.iload_n 3, 1) := by decide +kernel
theorem dX4_rankByDistance_52 : decode cX4_rankByDistance 52 = .ok (.invokevirtual 126, 3) := by decide +kernel
theorem dX4_rankByDistance_55 : decode cX4_rankByDistance 55 = .ok (.iadd, 1) := by decide +kernel
theorem dX4_rankByDistance_56 : decode cX4_rankByDistance 56 = .ok (.iastore, 1) := by decide +kernel
theorem dX4_rankByDistance_57 : decode cX4_rankByDistance 57 = .ok (.iinc 3 1, 3) := by decide +kernel
theorem dX4_rankByDistance_60 : decode cX4_rankByDistance 60 = .ok (.goto (-58), 3) := by decide +kernel
theorem dX4_rankByDistance_63 : decode cX4_rankByDistance 63 = .ok (.return_, 1) := by decide +kernel
set_option maxRecDepth 20000 in
theorem ggX4_ranksBefore_X2_size : GoodIn wsX4_ranksBefore wsX2_size := goodIn_r _ [7, 8, 12, 13, 14, 15, 16, 17] (by decide +kernel) (by decide +kernel)
set_option maxRecDepth 20000 in
theorem gX4_ranksBefore_X2_size : GoodIn wsX4_ranksBefore (wsV RX4 68 RX2 yX2_size wsX2_size) := goodIn_app (goodIn_of _ (by decide +kernel)) ggX4_ranksBefore_X2_size
theorem dX4_ranksBefore_0 : decode cX4_ranksBefore 0 = .ok (.iload_n 1, 1) := by decide +kernel
theorem dX4_ranksBefore_1 : decode cX4_ranksBefore 1 = .ok (.ifCond .lt 12, 3) := by decide +kernel
theorem dX4_ranksBefore_4 : decode cX4_ranksBefore 4 = .ok (.iload_n 1, 1) := by decide +kernel
theorem dX4_ranksBefore_5 : decode cX4_ranksBefore 5 = .ok (.aload_n 0, 1) := by decide +kernel
theorem dX4_ranksBefore_6 : decode cX4_ranksBefore 6 = .ok (.getfield 9, 3) := by decide +kernel
theorem dX4_ranksBefore_9 : decode cX4_ranksBefore 9 = .ok (.arraylength, 1) := by decide +kernel
theorem dX4_ranksBefore_10 : decode cX4_ranksBefore 10 = .ok (.if_icmp .lt 5, 3) := by decide +kernel
theorem dX4_ranksBefore_13 : decode cX4_ranksBefore 13 = .ok (.iconst (-1), 1) := by decide +kernel
theorem dX4_ranksBefore_14 : decode cX4_ranksBefore 14 = .ok (.ireturn, 1) := by decide +kernel
theorem dX4_ranksBefore_15 : decode cX4_ranksBefore 15 = .ok (.aload_n 0, 1) := by decide +kernel
theorem dX4_ranksBefore_16 : decode cX4_ranksBefore 16 = .ok (.getfield 9, 3) := by decide +kernel
theorem dX4_ranksBefore_19 : decode cX4_ranksBefore 19 = .ok (.iload_n 1, 1) := by decide +kernel
theorem dX4_ranksBefore_20 : decode cX4_ranksBefore 20 = .ok (.iaload, 1) := by decide +kernel
theorem dX4_ranksBefore_21 : decode cX4_ranksBefore 21 = .ok (.istore_n 2, 1) := by decide +kernel
theorem dX4_ranksBefore_22 : decode cX4_ranksBefore 22 = .ok (.iconst 0, 1) := by decide +kernel
theorem dX4_ranksBefore_23 : decode cX4_ranksBefore 23 = .ok (.istore_n 3, 1) := by decide +kernel
theorem dX4_ranksBefore_24 : decode cX4_ranksBefore 24 = .ok (.iconst 0, 1) := by decide +kernel
theorem dX4_ranksBefore_25 : decode cX4_ranksBefore 25 = .ok (.istore 4, 2) := by decide +kernel
theorem dX4_ranksBefore_27 : decode cX4_ranksBefore 27 = .ok (.iload 4, 2) := by decide +kernel
theorem dX4_ranksBefore_29 : decode cX4_ranksBefore 29 = .ok (.aload_n 0, 1) := by decide +kernel
theorem dX4_ranksBefore_30 : decode cX4_ranksBefore 30 = .ok (.getfield 9, 3) := by decide +kernel
theorem dX4_ranksBefore_33 : decode cX4_ranksBefore 33 = .ok (.arraylength, 1) := by decide +kernel
theorem dX4_ranksBefore_34 : decode cX4_ranksBefore 34 = .ok (.if_icmp .ge 35, 3) := by decide +kernel
theorem dX4_ranksBefore_37 : decode cX4_ranksBefore 37 = .ok (.iload 4, 2) := by decide +kernel
theorem dX4_ranksBefore_39 : decode cX4_ranksBefore 39 = .ok (.aload_n 0, 1) := by decide +kernel
theorem dX4_ranksBefore_40 : decode cX4_ranksBefore 40 = .ok (.getfield 16, 3) := by decide +kernel
theorem dX4_ranksBefore_43 : decode cX4_ranksBefore 43 = .ok (.invokevirtual 68, 3) := by decide +kernel
theorem dX4_ranksBefore_46 : decode cX4_ranksBefore 46 = .ok (.if_icmp .ge 23, 3) := by decide +kernel
theorem dX4_ranksBefore_49 : decode cX4_ranksBefore 49 = .ok (.aload_n 0, 1) := by decide +kernel
theorem dX4_ranksBefore_50 : decode cX4_ranksBefore 50 = .ok (.getfield 9, 3) := by decide +kernel
theorem dX4_ranksBefore_53 : decode cX4_ranksBefore 53 = .ok (.iload 4, 2) := by decide +kernel
theorem dX4_ranksBefore_55 : decode cX4_ranksBefore 55 = .ok (.iaload, 1) := by decide +kernel
theorem dX4_ranksBefore_56 : decode cX4_ranksBefore 56 = .ok (.iload_n 2, 1) := by decide +kernel
theorem dX4_ranksBefore_57 : decode cX4_ranksBefore 57 = .ok (.if_icmp .ge 6, 3) := by decide +kernel
theorem dX4_ranksBefore_60 : decode cX4_ranksBefore 60 = .ok (.iinc 3 1, 3) := by decide +kernel
theorem dX4_ranksBefore_63 : decode cX4_ranksBefore 63 = .ok (.iinc 4 1, 3) := by decide +kernel
theorem dX4_ranksBefore_66 : decode cX4_ranksBefore 66 = .ok (.goto (-39), 3) := by decide +kernel
theorem dX4_ranksBefore_69 : decode cX4_ranksBefore 69 = .ok (.iload_n 3, 1) := by decide +kernel
theorem dX4_ranksBefore_70 : decode cX4_ranksBefore 70 = .ok (.ireturn, 1) := by decide +kernel
theorem dX5_init_0 : decode cX5_init 0 = .ok (.aload_n 0, 1) := by decide +kernel
theorem dX5_init_1 : decode cX5_init 1 = .ok (.invokespecial 1, 3) := by decide +kernel
theorem dX5_init_4 : decode cX5_init 4 = .ok (.aload_n 0, 1) := by decide +kernel
theorem dX5_init_5 : decode cX5_init 5 = .ok (.sipush 400, 3) := by decide +kernel
theorem dX5_init_8 : decode cX5_init 8 = .ok (.newarray .int, 2) := by decide +kernel
theorem dX5_init_10 : decode cX5_init 10 = .ok (.putfield 7, 3) := by decide +kernel
theorem dX5_init_13 : decode cX5_init 13 = .ok (.aload_n 0, 1) := by decide +kernel
theorem dX5_init_14 : decode cX5_init 14 = .ok (.bipush 100, 2) := by decide +kernel
theorem dX5_init_16 : decode cX5_init 16 = .ok (.newarray .int, 2) := by decide +kernel
theorem dX5_init_18 : decode cX5_init 18 = .ok (.putfield 13, 3) := by decide +kernel
theorem dX5_init_21 : decode cX5_init 21 = .ok (.aload_n 0, 1) := by decide +kernel
theorem dX5_init_22 : decode cX5_init 22 = .ok (.bipush 100, 2) := by decide +kernel
theorem dX5_init_24 : decode cX5_init 24 = .ok (.newarray .boolean, 2) := by decide +kernel
theorem dX5_init_26 : decode cX5_init 26 = .ok (.putfield 16, 3) := by decide +kernel
theorem dX5_init_29 : decode cX5_init 29 = .ok (.aload_n 0, 1) := by decide +kernel
theorem dX5_init_30 : decode cX5_init 30 = .ok (.bipush 61, 2) := by decide +kernel
theorem dX5_init_32 : decode cX5_init 32 = .ok (.newarray .int, 2) := by decide +kernel
theorem dX5_init_34 : decode cX5_init 34 = .ok (.putfield 20, 3) := by decide +kernel
theorem dX5_init_37 : decode cX5_init 37 = .ok (.aload_n 0, 1) := by decide +kernel
theorem dX5_init_38 : decode cX5_init 38 = .ok (.bipush 16, 2) := by decide +kernel
theorem dX5_init_40 : decode cX5_init 40 = .ok (.newarray .int, 2) := by decide +kernel
theorem dX5_init_42 : decode cX5_init 42 = .ok (.putfield 23, 3) := by decide +kernel
theorem dX5_init_45 : decode cX5_init 45 = .ok (.aload_n 0, 1) := by decide +kernel
theorem dX5_init_46 : decode cX5_init 46 = .ok (.sipush 1024, 3) := by decide +kernel
theorem dX5_init_49 : decode cX5_init 49 = .ok (.newarray .int, 2) := by decide +kernel
theorem dX5_init_51 : decode cX5_init 51 = .ok (.putfield 26, 3) := by decide +kernel
theorem dX5_init_54 : decode cX5_init 54 = .ok (.return_, 1) := by decide +kernel
theorem dX5_thrown_0 : decode cX5_thrown 0 = .ok (.aload_n 0, 1) := by decide +kernel
theorem dX5_thrown_1 : decode cX5_thrown 1 = .ok (.getfield 29, 3) := by decide +kernel
theorem dX5_thrown_4 : decode cX5_thrown 4 = .ok (.ireturn, 1) := by decide +kernel
theorem dX5_fails_0 : decode cX5_fails 0 = .ok (.aload_n 0, 1) := by decide +kernel
theorem dX5_fails_1 : decode cX5_fails 1 = .ok (.iload_n 1, 1) := by decide +kernel
theorem dX5_fails_2 : decode cX5_fails 2 = .ok (.putfield 29, 3) := by decide +kernel
theorem dX5_fails_5 : decode cX5_fails 5 = .ok (.iload_n 1, 1) := by decide +kernel
theorem dX5_fails_6 : decode cX5_fails 6 = .ok (.ifCond .le 7, 3) := by decide +kernel
theorem dX5_fails_9 : decode cX5_fails 9 = .ok (.iconst 1, 1) := by decide +kernel
theorem dX5_fails_10 : decode cX5_fails 10 = .ok (.goto 4, 3) := by decide +kernel
theorem dX5_fails_13 : decode cX5_fails 13 = .ok (.iconst 0, 1) := by decide +kernel
theorem dX5_fails_14 : decode cX5_fails 14 = .ok (.ireturn, 1) := by decide +kernel
theorem dX5_tells_0 : decode cX5_tells 0 = .ok (.aload_n 0, 1) := by decide +kernel
theorem dX5_tells_1 : decode cX5_tells 1 = .ok (.iconst 0, 1) := by decide +kernel
theorem dX5_tells_2 : decode cX5_tells 2 = .ok (.putfield 29, 3) := by decide +kernel
theorem dX5_tells_5 : decode cX5_tells 5 = .ok (.iload_n 1, 1) := by decide +kernel
theorem dX5_tells_6 : decode cX5_tells 6 = .ok (.ireturn, 1) := by decide +kernel
theorem dX5_isPoint_0 : decode cX5_isPoint 0 = .ok (.iload_n 0, 1) := by decide +kernel
theorem dX5_isPoint_1 : decode cX5_isPoint 1 = .ok (.ifCond .lt 25, 3) := by decide +kernel
theorem dX5_isPoint_4 : decode cX5_isPoint 4 = .ok (.iload_n 0, 1) := by decide +kernel
theorem dX5_isPoint_5 : decode cX5_isPoint 5 = .ok (.sipush 256, 3) := by decide +kernel
theorem dX5_isPoint_8 : decode cX5_isPoint 8 = .ok (.if_icmp .ge 18, 3) := by decide +kernel
theorem dX5_isPoint_11 : decode cX5_isPoint 11 = .ok (.iload_n 1, 1) := by decide +kernel
theorem dX5_isPoint_12 : decode cX5_isPoint 12 = .ok (.ifCond .lt 14, 3) := by decide +kernel
theorem dX5_isPoint_15 : decode cX5_isPoint 15 = .ok (.iload_n 1, 1) := by decide +kernel
theorem dX5_isPoint_16 : decode cX5_isPoint 16 = .ok (.sipush 256, 3) := by decide +kernel
theorem dX5_isPoint_19 : decode cX5_isPoint 19 = .ok (.if_icmp .ge 7, 3) := by decide +kernel
theorem dX5_isPoint_22 : decode cX5_isPoint 22 = .ok (.iconst 1, 1) := by decide +kernel
theorem dX5_isPoint_23 : decode cX5_isPoint 23 = .ok (.goto 4, 3) := by decide +kernel
theorem dX5_isPoint_26 : decode cX5_isPoint 26 = .ok (.iconst 0, 1) := by decide +kernel
theorem dX5_isPoint_27 : decode cX5_isPoint 27 = .ok (.ireturn, 1) := by decide +kernel
theorem dX5_isArea_0 : decode cX5_isArea 0 = .ok (.iload_n 0, 1) := by decide +kernel
theorem dX5_isArea_1 : decode cX5_isArea 1 = .ok (.ifCond .lt 35, 3) := by decide +kernel
theorem dX5_isArea_4 : decode cX5_isArea 4 = .ok (.iload_n 0, 1) := by decide +kernel
theorem dX5_isArea_5 : decode cX5_isArea 5 = .ok (.iload_n 2, 1) := by decide +kernel
theorem dX5_isArea_6 : decode cX5_isArea 6 = .ok (.if_icmp .gt 30, 3) := by decide +kernel
theorem dX5_isArea_9 : decode cX5_isArea 9 = .ok (.iload_n 2, 1) := by decide +kernel
theorem dX5_isArea_10 : decode cX5_isArea 10 = .ok (.sipush 256, 3) := by decide +kernel
theorem dX5_isArea_13 : decode cX5_isArea 13 = .ok (.if_icmp .ge 23, 3) := by decide +kernel
theorem dX5_isArea_16 : decode cX5_isArea 16 = .ok (.iload_n 1, 1) := by decide +kernel
theorem dX5_isArea_17 : decode cX5_isArea 17 = .ok (.ifCond .lt 19, 3) := by decide +kernel
theorem dX5_isArea_20 : decode cX5_isArea 20 = .ok (.iload_n 1, 1) := by decide +kernel
theorem dX5_isArea_21 : decode cX5_isArea 21 = .ok (.iload_n 3, 1) := by decide +kernel
theorem dX5_isArea_22 : decode cX5_isArea 22 = .ok (.if_icmp .gt 14, 3) := by decide +kernel
theorem dX5_isArea_25 : decode cX5_isArea 25 = .ok (.iload_n 3, 1) := by decide +kernel
theorem dX5_isArea_26 : decode cX5_isArea 26 = .ok (.sipush 256, 3) := by decide +kernel
theorem dX5_isArea_29 : decode cX5_isArea 29 = .ok (.if_icmp .ge 7, 3) := by decide +kernel
theorem dX5_isArea_32 : decode cX5_isArea 32 = .ok (.iconst 1, 1) := by decide +kernel
theorem dX5_isArea_33 : decode cX5_isArea 33 = .ok (.goto 4, 3) := by decide +kernel
theorem dX5_isArea_36 : decode cX5_isArea 36 = .ok (.iconst 0, 1) := by decide +kernel
theorem dX5_isArea_37 : decode cX5_isArea 37 = .ok (.ireturn, 1) := by decide +kernel
theorem dX5_is_0 : decode cX5_is 0 = .ok (.iload_n 1, 1) := by decide +kernel
theorem dX5_is_1 : decode cX5_is 1 = .ok (.ifCond .lt 24, 3) := by decide +kernel
theorem dX5_is_4 : decode cX5_is 4 = .ok (.iload_n 1, 1) := by decide +kernel
theorem dX5_is_5 : decode cX5_is 5 = .ok (.aload_n 0, 1) := by decide +kernel
theorem dX5_is_6 : decode cX5_is 6 = .ok (.getfield 33, 3) := by decide +kernel
theorem dX5_is_9 : decode cX5_is 9 = .ok (.if_icmp .ge 16, 3) := by decide +kernel
theorem dX5_is_12 : decode cX5_is 12 = .ok (.aload_n 0, 1) := by decide +kernel
theorem dX5_is_13 : decode cX5_is 13 = .ok (.getfield 16, 3) := by decide +kernel
theorem dX5_is_16 : decode cX5_is 16 = .ok (.iload_n 1, 1) := by decide +kernel
theorem dX5_is_17 : decode cX5_is 17 = .ok (.baload, 1) := by decide +kernel
theorem dX5_is_18 : decode cX5_is 18 = .ok (.ifCond .eq 7, 3) := by decide +kernel
theorem dX5_is_21 : decode cX5_is 21 = .ok (.iconst 1, 1) := by decide +kernel
theorem dX5_is_22 : decode cX5_is 22 = .ok (.goto 4, 3) := by decide +kernel
theorem dX5_is_25 : decode cX5_is 25 = .ok (.iconst 0, 1) := by decide +kernel
theorem dX5_is_26 : decode cX5_is 26 = .ok (.ireturn, 1) := by decide +kernel
theorem dX5_keyAt_0 : decode cX5_keyAt 0 = .ok (.iload_n 0, 1) := by decide +kernel
theorem dX5_keyAt_1 : decode cX5_keyAt 1 = .ok (.istore_n 2, 1) := by decide +kernel
theorem dX5_keyAt_2 : decode cX5_keyAt 2 = .ok (.iload_n 1, 1) := by decide +kernel
theorem dX5_keyAt_3 : decode cX5_keyAt 3 = .ok (.istore_n 3, 1) := by decide +kernel
theorem dX5_keyAt_4 : decode cX5_keyAt 4 = .ok (.iconst 0, 1) := by decide +kernel
theorem dX5_keyAt_5 : decode cX5_keyAt 5 = .ok (.istore 4, 2) := by decide +kernel
theorem dX5_keyAt_7 : decode cX5_keyAt 7 = .ok (.sipush 128, 3) := by decide +kernel
theorem dX5_keyAt_10 : decode cX5_keyAt 10 = .ok (.istore 5, 2) := by decide +kernel
theorem dX5_keyAt_12 : decode cX5_keyAt 12 = .ok (.iload 5, 2) := by decide +kernel
theorem dX5_keyAt_14 : decode cX5_keyAt 14 = .ok (.ifCond .le 122, 3) := by decide +kernel
theorem dX5_keyAt_17 : decode cX5_keyAt 17 = .ok (.iload_n 2, 1) := by decide +kernel
theorem dX5_keyAt_18 : decode cX5_keyAt 18 = .ok (.iload 5, 2) := by decide +kernel
theorem dX5_keyAt_20 : decode cX5_keyAt 20 = .ok (.iand, 1) := by decide +kernel
theorem dX5_keyAt_21 : decode cX5_keyAt 21 = .ok (.ifCond .le 7, 3) := by decide +kernel
theorem dX5_keyAt_24 : decode cX5_keyAt 24 = .ok (.iconst 1, 1) := by decide +kernel
theorem dX5_keyAt_25 : decode cX5_keyAt 25 = .ok (.goto 4, 3) := by decide +kernel
theorem dX5_keyAt_28 : decode cX5_keyAt 28 = .ok (.iconst 0, 1) := by decide +kernel
theorem dX5_keyAt_29 : decode cX5_keyAt 29 = .ok (.istore 6, 2) := by decide +kernel
theorem dX5_keyAt_31 : decode cX5_keyAt 31 = .ok (.iload_n 3, 1) := by decide +kernel
theorem dX5_keyAt_32 : decode cX5_keyAt 32 = .ok (.iload 5, 2) := by decide +kernel
theorem dX5_keyAt_34 : decode cX5_keyAt 34 = .ok (.iand, 1) := by decide +kernel
theorem dX5_keyAt_35 : decode cX5_keyAt 35 = .ok (.ifCond .le 7, 3) := by decide +kernel
theorem dX5_keyAt_38 : decode cX5_keyAt 38 = .ok (.iconst 1, 1) := by decide +kernel
theorem dX5_keyAt_39 : decode cX5_keyAt 39 = .ok (.goto 4, 3) := by decide +kernel
theorem dX5_keyAt_42 : decode cX5_keyAt 42 = .ok (.iconst 0, 1) := by decide +kernel
theorem dX5_keyAt_43 : decode cX5_keyAt 43 = .ok (.istore 7, 2) := by decide +kernel
theorem dX5_keyAt_45 : decode cX5_keyAt 45 = .ok (.iload 4, 2) := by decide +kernel
theorem dX5_keyAt_47 : decode cX5_keyAt 47 = .ok (.iload 5, 2) := by decide +kernel
theorem dX5_keyAt_49 : decode cX5_keyAt 49 = .ok (.iload 5, 2) := by decide +kernel
theorem dX5_keyAt_51 : decode cX5_keyAt 51 = .ok (.imul, 1) := by decide +kernel
theorem dX5_keyAt_52 : decode cX5_keyAt 52 = .ok (.iload 6, 2) := by decide +kernel
theorem dX5_keyAt_54 : decode cX5_keyAt 54 = .ok (.ifCond .eq 16, 3) := by decide +kernel
theorem dX5_keyAt_57 : decode cX5_keyAt 57 = .ok (.iload 7, 2) := by decide +kernel
theorem dX5_keyAt_59 : decode cX5_keyAt 59 = .ok (.ifCond .eq 7, 3) := by decide +kernel
theorem dX5_keyAt_62 : decode cX5_keyAt 62 = .ok (.iconst 2, 1) := by decide +kernel
theorem dX5_keyAt_63 : decode cX5_keyAt 63 = .ok (.goto 17, 3) := by decide +kernel
theorem dX5_keyAt_66 : decode cX5_keyAt 66 = .ok (.iconst 3, 1) := by decide +kernel
theorem dX5_keyAt_67 : decode cX5_keyAt 67 = .ok (.goto 13, 3) := by decide +kernel
theorem dX5_keyAt_70 : decode cX5_keyAt 70 = .ok (.iload 7, 2) := by decide +kernel
theorem dX5_keyAt_72 : decode cX5_keyAt 72 = .ok (.ifCond .eq 7, 3) := by decide +kernel
theorem dX5_keyAt_75 : decode cX5_keyAt 75 = .ok (.iconst 1, 1) := by decide +kernel
theorem dX5_keyAt_76 : decode cX5_keyAt 76 = .ok (.goto 4, 3) := by decide +kernel
theorem dX5_keyAt_79 : decode cX5_keyAt 79 = .ok (.iconst 0, 1) := by decide +kernel
theorem dX5_keyAt_80 : decode cX5_keyAt 80 = .ok (.imul, 1) := by decide +kernel
theorem dX5_keyAt_81 : decode cX5_keyAt 81 = .ok (.iadd, 1) := by decide +kernel
theorem dX5_keyAt_82 : decode cX5_keyAt 82 = .ok (.istore 4, 2) := by decide +kernel
theorem dX5_keyAt_84 : decode cX5_keyAt 84 = .ok (.iload 7, 2) := by decide +kernel
theorem dX5_keyAt_86 : decode cX5_keyAt 86 = .ok (.ifCond .ne 41, 3) := by decide +kernel
theorem dX5_keyAt_89 : decode cX5_keyAt 89 = .ok (.iload 6, 2) := by decide +kernel
theorem dX5_keyAt_91 : decode cX5_keyAt 91 = .ok (.ifCond .eq 11, 3) := by decide +kernel
theorem dX5_keyAt_94 : decode cX5_keyAt 94 = .ok (.sipush 255, 3) := by decide +kernel
theorem dX5_keyAt_97 : decode cX5_keyAt 97 = .ok (.iload_n 2, 1) := by decide +kernel
theorem dX5_keyAt_98 : decode cX5_keyAt 98 = .ok (.isub, 1) := by decide +kernel
theorem dX5_keyAt_99 : decode cX5_keyAt 99 = .ok (.goto 4, 3) := by decide +kernel
theorem dX5_keyAt_102 : decode cX5_keyAt 102 = .ok (.iload_n 2, 1) := by decide +kernel
theorem dX5_keyAt_103 : decode cX5_keyAt 103 = .ok (.istore 8, 2) := by decide +kernel
theorem dX5_keyAt_105 : decode cX5_keyAt 105 = .ok (.iload 6, 2) := by decide +kernel
theorem dX5_keyAt_107 : decode cX5_keyAt 107 = .ok (.ifCond .eq 11, 3) := by decide +kernel
theorem dX5_keyAt_110 : decode cX5_keyAt 110 = .ok (.sipush 255, 3) := by decide +kernel
theorem dX5_keyAt_113 : decode cX5_keyAt 113 = .ok (.iload_n 3, 1) := by decide +kernel
theorem dX5_keyAt_114 : decode cX5_keyAt 114 = .ok (.isub, 1) := by decide +kernel
theorem dX5_keyAt_115 : decode cX5_keyAt 115 = .ok (.goto 4, 3) := by decide +kernel
theorem dX5_keyAt_118 : decode cX5_keyAt 118 = .ok (.iload_n 3, 1) := by decide +kernel
theorem dX5_keyAt_119 : decode cX5_keyAt 119 = .ok (.istore 9, 2) := by decide +kernel
theorem dX5_keyAt_121 : decode cX5_keyAt 121 = .ok (.iload 9, 2) := by decide +kernel
theorem dX5_keyAt_123 : decode cX5_keyAt 123 = .ok (.istore_n 2, 1) := by decide +kernel
theorem dX5_keyAt_124 : decode cX5_keyAt 124 = .ok (.iload 8, 2) := by decide +kernel
theorem dX5_keyAt_126 : decode cX5_keyAt 126 = .ok (.istore_n 3, 1) := by decide +kernel
theorem dX5_keyAt_127 : decode cX5_keyAt 127 = .ok (.iload 5, 2) := by decide +kernel
theorem dX5_keyAt_129 : decode cX5_keyAt 129 = .ok (.iconst 2, 1) := by decide +kernel
theorem dX5_keyAt_130 : decode cX5_keyAt 130 = .ok (.idiv, 1) := by decide +kernel
theorem dX5_keyAt_131 : decode cX5_keyAt 131 = .ok (.istore 5, 2) := by decide +kernel
theorem dX5_keyAt_133 : decode cX5_keyAt 133 = .ok (.goto (-121), 3) := by decide +kernel
theorem dX5_keyAt_136 : decode cX5_keyAt 136 = .ok (.iload 4, 2) := by decide +kernel
theorem dX5_keyAt_138 : decode cX5_keyAt 138 = .ok (.ireturn, 1) := by decide +kernel
theorem dX5_many_0 : decode cX5_many 0 = .ok (.aload_n 0, 1) := by decide +kernel
theorem dX5_many_1 : decode cX5_many 1 = .ok (.getfield 26, 3) := by decide +kernel
theorem dX5_many_4 : decode cX5_many 4 = .ok (.bipush 64, 2) := by decide +kernel
theorem dX5_many_6 : decode cX5_many 6 = .ok (.iload_n 1, 1) := by decide +kernel
theorem dX5_many_7 : decode cX5_many 7 = .ok (.imul, 1) := by decide +kernel
theorem dX5_many_8 : decode cX5_many 8 = .ok (.iload_n 2, 1) := by decide +kernel
theorem dX5_many_9 : decode cX5_many 9 = .ok (.iadd, 1) := by decide +kernel
theorem dX5_many_10 : decode cX5_many 10 = .ok (.iaload, 1) := by decide +kernel
theorem dX5_many_11 : decode cX5_many 11 = .ok (.ireturn, 1) := by decide +kernel
set_option maxRecDepth 20000 in
theorem ggX5_ahead_X5_many : GoodIn wsX5_ahead wsX5_many := goodIn_r _ [5, 6, 7, 8, 9, 10, 11, 12, 13, 14, 15, 16, 17, 18, 19, 20, 21, 22] (by decide +kernel) (by decide +kernel)
set_option maxRecDepth 20000 in
theorem gX5_ahead_X5_many : GoodIn wsX5_ahead (wsV RX5 36 RX5 yX5_many wsX5_many) := goodIn_app (goodIn_of _ (by decide +kernel)) ggX5_ahead_X5_many
theorem dX5_ahead_0 : decode cX5_ahead 0 = .ok (.iconst 0, 1) := by decide +kernel
theorem dX5_ahead_1 : decode cX5_ahead 1 = .ok (.istore_n 3, 1) := by decide +kernel
theorem dX5_ahead_2 : decode cX5_ahead 2 = .ok (.iconst 0, 1) := by decide +kernel
theorem dX5_ahead_3 : decode cX5_ahead 3 = .ok (.istore 4, 2) := by decide +kernel
theorem dX5_ahead_5 : decode cX5_ahead 5 = .ok (.iload 4, 2) := by decide +kernel
theorem dX5_ahead_7 : decode cX5_ahead 7 = .ok (.iload_n 2, 1) := by decide +kernel
theorem dX5_ahead_8 : decode cX5_ahead 8 = .ok (.if_icmp .ge 19, 3) := by decide +kernel
theorem dX5_ahead_11 : decode cX5_ahead 11 = .ok (.iload_n 3, 1) := by decide +kernel
theorem dX5_ahead_12 : decode cX5_ahead 12 = .ok (.aload_n 0, 1) := by decide +kernel
theorem dX5_ahead_13 : decode cX5_ahead 13 = .ok (.iload_n 1, 1) := by decide +kernel
theorem dX5_ahead_14 : decode cX5_ahead 14 = .ok (.iload 4, 2) := by decide +kernel
theorem dX5_ahead_16 : decode cX5_ahead 16 = .ok (.invokevirtual 36, 3) := by decide +kernel
theorem dX5_ahead_19 : decode cX5_ahead 19 = .ok (.iadd, 1) := by decide +kernel
theorem dX5_ahead_20 : decode cX5_ahead 20 = .ok (.istore_n 3, 1) := by decide +kernel
theorem dX5_ahead_21 : decode cX5_ahead 21 = .ok (.iinc 4 1, 3) := by decide +kernel
theorem dX5_ahead_24 : decode cX5_ahead 24 = .ok (.goto (-19), 3) := by decide +kernel
theorem dX5_ahead_27 : decode cX5_ahead 27 = .ok (.iload_n 3, 1) := by decide +kernel
theorem dX5_ahead_28 : decode cX5_ahead 28 = .ok (.ireturn, 1) := by decide +kernel
set_option maxRecDepth 20000 in
theorem ggX5_above_X5_ahead : GoodIn wsX5_above wsX5_ahead := goodIn_r _ [5, 6, 7, 8, 4, 9, 10, 11, 12, 13, 14, 15, 16, 17, 18, 19, 20, 21, 22, 23, 24, 25, 26] (by decide +kernel) (by decide +kernel)
set_option maxRecDepth 20000 in
theorem gX5_above_X5_ahead : GoodIn wsX5_above (wsV RX5 40 RX5 yX5_ahead wsX5_ahead) := goodIn_app (goodIn_of _ (by decide +kernel)) ggX5_above_X5_ahead
theorem dX5_above_0 : decode cX5_above 0 = .ok (.iconst 0, 1) := by decide +kernel
theorem dX5_above_1 : decode cX5_above 1 = .ok (.istore_n 3, 1) := by decide +kernel
theorem dX5_above_2 : decode cX5_above 2 = .ok (.aload_n 0, 1) := by decide +kernel
theorem dX5_above_3 : decode cX5_above 3 = .ok (.iload_n 1, 1) := by decide +kernel
theorem dX5_above_4 : decode cX5_above 4 = .ok (.iconst 1, 1) := by decide +kernel
theorem dX5_above_5 : decode cX5_above 5 = .ok (.iadd, 1) := by decide +kernel
theorem dX5_above_6 : decode cX5_above 6 = .ok (.iload_n 3, 1) := by decide +kernel
theorem dX5_above_7 : decode cX5_above 7 = .ok (.iconst 1, 1) := by decide +kernel
theorem dX5_above_8 : decode cX5_above 8 = .ok (.iadd, 1) := by decide +kernel
theorem dX5_above_9 : decode cX5_above 9 = .ok (.invokevirtual 40, 3) := by decide +kernel
theorem dX5_above_12 : decode cX5_above 12 = .ok (.iload_n 2, 1) := by decide +kernel
theorem dX5_above_13 : decode cX5_above 13 = .ok (.if_icmp .gt 9, 3) := by decide +kernel
theorem dX5_above_16 : decode cX5_above 16 = .ok (.iinc 3 1, 3) := by decide +kernel
theorem dX5_above_19 : decode cX5_above 19 = .ok (.goto (-17), 3) := by decide +kernel
theorem dX5_above_22 : decode cX5_above 22 = .ok (.iload_n 3, 1) := by decide +kernel
theorem dX5_above_23 : decode cX5_above 23 = .ok (.ireturn, 1) := by decide +kernel
set_option maxRecDepth 20000 in
theorem ggX5_partner_X5_above : GoodIn wsX5_partner wsX5_above := goodIn_r _ [6, 7, 8, 9, 5, 10, 11, 12, 13, 14, 15, 16, 17, 18, 19, 20, 21, 22, 23, 24, 25, 26, 27, 28, 29, 30, 31] (by decide +kernel) (by decide +kernel)
set_option maxRecDepth 20000 in
theorem gX5_partner_X5_above : GoodIn wsX5_partner (wsV RX5 46 RX5 yX5_above wsX5_above) := goodIn_app (goodIn_of _ (by decide +kernel)) ggX5_partner_X5_above
set_option maxRecDepth 20000 in
theorem ggX5_partner_X5_ahead : GoodIn wsX5_partner wsX5_ahead := goodIn_r _ [10, 11, 12, 13, 5, 14, 15, 16, 17, 18, 19, 20, 21, 22, 23, 24, 25, 26, 27, 28, 29, 30, 31] (by decide +kernel) (by decide +kernel)
set_option maxRecDepth 20000 in
theorem gX5_partner_X5_ahead : GoodIn wsX5_partner (wsV RX5 40 RX5 yX5_ahead wsX5_ahead) := goodIn_app (goodIn_of _ (by decide +kernel)) ggX5_partner_X5_ahead
set_option maxRecDepth 20000 in
theorem ggX5_partner_X5_many : GoodIn wsX5_partner wsX5_many := goodIn_r _ [14, 15, 16, 17, 18, 19, 20, 21, 22, 23, 24, 25, 26, 27, 28, 29, 30, 31] (by decide +kernel) (by decide +kernel)
set_option maxRecDepth 20000 in
theorem gX5_partner_X5_many : GoodIn wsX5_partner (wsV RX5 36 RX5 yX5_many wsX5_many) := goodIn_app (goodIn_of _ (by decide +kernel)) ggX5_partner_X5_many
theorem dX5_partner_0 : decode cX5_partner 0 = .ok (.iload_n 1, 1) := by decide +kernel
theorem dX5_partner_1 : decode cX5_partner 1 = .ok (.aload_n 0, 1) := by decide +kernel
theorem dX5_partner_2 : decode cX5_partner 2 = .ok (.getfield 43, 3) := by decide +kernel
theorem dX5_partner_5 : decode cX5_partner 5 = .ok (.iconst 1, 1) := by decide +kernel
theorem dX5_partner_6 : decode cX5_partner 6 = .ok (.isub, 1) := by decide +kernel
theorem dX5_partner_7 : decode cX5_partner 7 = .ok (.if_icmp .ne 5, 3) := by decide +kernel
theorem dX5_partner_10 : decode cX5_partner 10 = .ok (.iload_n 2, 1) := by decide +kernel
theorem dX5_partner_11 : decode cX5_partner 11 = .ok (.ireturn, 1) := by decide +kernel
theorem dX5_partner_12 : decode cX5_partner 12 = .ok (.aload_n 0, 1) := by decide +kernel
theorem dX5_partner_13 : decode cX5_partner 13 = .ok (.iload_n 1, 1) := by decide +kernel
theorem dX5_partner_14 : decode cX5_partner 14 = .ok (.iload_n 2, 1) := by decide +kernel
theorem dX5_partner_15 : decode cX5_partner 15 = .ok (.invokevirtual 46, 3) := by decide +kernel
theorem dX5_partner_18 : decode cX5_partner 18 = .ok (.istore_n 3, 1) := by decide +kernel
theorem dX5_partner_19 : decode cX5_partner 19 = .ok (.aload_n 0, 1) := by decide +kernel
theorem dX5_partner_20 : decode cX5_partner 20 = .ok (.iload_n 1, 1) := by decide +kernel
theorem dX5_partner_21 : decode cX5_partner 21 = .ok (.iconst 1, 1) := by decide +kernel
theorem dX5_partner_22 : decode cX5_partner 22 = .ok (.iadd, 1) := by decide +kernel
theorem dX5_partner_23 : decode cX5_partner 23 = .ok (.iload_n 3, 1) := by decide +kernel
theorem dX5_partner_24 : decode cX5_partner 24 = .ok (.invokevirtual 40, 3) := by decide +kernel
theorem dX5_partner_27 : decode cX5_partner 27 = .ok (.istore 4, 2) := by decide +kernel
theorem dX5_partner_29 : decode cX5_partner 29 = .ok (.iload 4, 2) := by decide +kernel
theorem dX5_partner_31 : decode cX5_partner 31 = .ok (.aload_n 0, 1) := by decide +kernel
theorem dX5_partner_32 : decode cX5_partner 32 = .ok (.iload_n 1, 1) := by decide +kernel
theorem dX5_partner_33 : decode cX5_partner 33 = .ok (.iconst 1, 1) := by decide +kernel
theorem dX5_partner_34 : decode cX5_partner 34 = .ok (.iadd, 1) := by decide +kernel
theorem dX5_partner_35 : decode cX5_partner 35 = .ok (.iload_n 3, 1) := by decide +kernel
theorem dX5_partner_36 : decode cX5_partner 36 = .ok (.invokevirtual 36, 3) := by decide +kernel
theorem dX5_partner_39 : decode cX5_partner 39 = .ok (.iadd, 1) := by decide +kernel
theorem dX5_partner_40 : decode cX5_partner 40 = .ok (.istore 5, 2) := by decide +kernel
theorem dX5_partner_42 : decode cX5_partner 42 = .ok (.iload_n 2, 1) := by decide +kernel
theorem dX5_partner_43 : decode cX5_partner 43 = .ok (.iconst 1, 1) := by decide +kernel
theorem dX5_partner_44 : decode cX5_partner 44 = .ok (.iadd, 1) := by decide +kernel
theorem dX5_partner_45 : decode cX5_partner 45 = .ok (.iload 5, 2) := by decide +kernel
theorem dX5_partner_47 : decode cX5_partner 47 = .ok (.if_icmp .ge 9, 3) := by decide +kernel
theorem dX5_partner_50 : decode cX5_partner 50 = .ok (.iload_n 2, 1) := by decide +kernel
theorem dX5_partner_51 : decode cX5_partner 51 = .ok (.iconst 1, 1) := by decide +kernel
theorem dX5_partner_52 : decode cX5_partner 52 = .ok (.iadd, 1) := by decide +kernel
theorem dX5_partner_53 : decode cX5_partner 53 = .ok (.goto 16, 3) := by decide +kernel
theorem dX5_partner_56 : decode cX5_partner 56 = .ok (.iload_n 2, 1) := by decide +kernel
theorem dX5_partner_57 : decode cX5_partner 57 = .ok (.iload 4, 2) := by decide +kernel
theorem dX5_partner_59 : decode cX5_partner 59 = .ok (.if_icmp .le 9, 3) := by decide +kernel
theorem dX5_partner_62 : decode cX5_partner 62 = .ok (.iload_n 2, 1) := by decide +kernel
theorem dX5_partner_63 : decode cX5_partner 63 = .ok (.iconst 1, 1) := by decide +kernel
theorem dX5_partner_64 : decode cX5_partner 64 = .ok (.isub, 1) := by decide +kernel
theorem dX5_partner_65 : decode cX5_partner 65 = .ok (.goto 4, 3) := by decide +kernel
theorem dX5_partner_68 : decode cX5_partner 68 = .ok (.iload_n 2, 1) := by decide +kernel
theorem dX5_partner_69 : decode cX5_partner 69 = .ok (.ireturn, 1) := by decide +kernel
theorem dX5_enters_0 : decode cX5_enters 0 = .ok (.bipush 64, 2) := by decide +kernel
theorem dX5_enters_2 : decode cX5_enters 2 = .ok (.iload_n 1, 1) := by decide +kernel
theorem dX5_enters_3 : decode cX5_enters 3 = .ok (.imul, 1) := by decide +kernel
theorem dX5_enters_4 : decode cX5_enters 4 = .ok (.aload_n 0, 1) := by decide +kernel
theorem dX5_enters_5 : decode cX5_enters 5 = .ok (.getfield 23, 3) := by decide +kernel
theorem dX5_enters_8 : decode cX5_enters 8 = .ok (.iload_n 1, 1) := by decide +kernel
theorem dX5_enters_9 : decode cX5_enters 9 = .ok (.iaload, 1) := by decide +kernel
theorem dX5_enters_10 : decode cX5_enters 10 = .ok (.iadd, 1) := by decide +kernel
theorem dX5_enters_11 : decode cX5_enters 11 = .ok (.istore 4, 2) := by decide +kernel
theorem dX5_enters_13 : decode cX5_enters 13 = .ok (.iload 4, 2) := by decide +kernel
theorem dX5_enters_15 : decode cX5_enters 15 = .ok (.bipush 64, 2) := by decide +kernel
theorem dX5_enters_17 : decode cX5_enters 17 = .ok (.iload_n 1, 1) := by decide +kernel
theorem dX5_enters_18 : decode cX5_enters 18 = .ok (.imul, 1) := by decide +kernel
theorem dX5_enters_19 : decode cX5_enters 19 = .ok (.iload_n 2, 1) := by decide +kernel
theorem dX5_enters_20 : decode cX5_enters 20 = .ok (.iadd, 1) := by decide +kernel
theorem dX5_enters_21 : decode cX5_enters 21 = .ok (.if_icmp .le 25, 3) := by decide +kernel
theorem dX5_enters_24 : decode cX5_enters 24 = .ok (.aload_n 0, 1) := by decide +kernel
theorem dX5_enters_25 : decode cX5_enters 25 = .ok (.getfield 26, 3) := by decide +kernel
theorem dX5_enters_28 : decode cX5_enters 28 = .ok (.iload 4, 2) := by decide +kernel
theorem dX5_enters_30 : decode cX5_enters 30 = .ok (.aload_n 0, 1) := by decide +kernel
theorem dX5_enters_31 : decode cX5_enters 31 = .ok (.getfield 26, 3) := by decide +kernel
theorem dX5_enters_34 : decode cX5_enters 34 = .ok (.iload 4, 2) := by decide +kernel
theorem dX5_enters_36 : decode cX5_enters 36 = .ok (.iconst 1, 1) := by decide +kernel
theorem dX5_enters_37 : decode cX5_enters 37 = .ok (.isub, 1) := by decide +kernel
theorem dX5_enters_38 : decode cX5_enters 38 = .ok (.iaload, 1) := by decide +kernel
theorem dX5_enters_39 : decode cX5_enters 39 = .ok (.iastore, 1) := by decide +kernel
theorem dX5_enters_40 : decode cX5_enters 40 = .ok (.iinc 4 (-1), 3) := by decide +kernel
theorem dX5_enters_43 : decode cX5_enters 43 = .ok (.goto (-30), 3) := by decide +kernel
theorem dX5_enters_46 : decode cX5_enters 46 = .ok (.aload_n 0, 1) := by decide +kernel
theorem dX5_enters_47 : decode cX5_enters 47 = .ok (.getfield 26, 3) := by decide +kernel
theorem dX5_enters_50 : decode cX5_enters 50 = .ok (.bipush 64, 2) := by decide +kernel
theorem dX5_enters_52 : decode cX5_enters 52 = .ok (.iload_n 1, 1) := by decide +kernel
theorem dX5_enters_53 : decode cX5_enters 53 = .ok (.imul, 1) := by decide +kernel
theorem dX5_enters_54 : decode cX5_enters 54 = .ok (.iload_n 2, 1) := by decide +kernel
theorem dX5_enters_55 : decode cX5_enters 55 = .ok (.iadd, 1) := by decide +kernel
theorem dX5_enters_56 : decode cX5_enters 56 = .ok (.iload_n 3, 1) := by decide +kernel
theorem dX5_enters_57 : decode cX5_enters 57 = .ok (.iastore, 1) := by decide +kernel
theorem dX5_enters_58 : decode cX5_enters 58 = .ok (.aload_n 0, 1) := by decide +kernel
theorem dX5_enters_59 : decode cX5_enters 59 = .ok (.getfield 23, 3) := by decide +kernel
theorem dX5_enters_62 : decode cX5_enters 62 = .ok (.iload_n 1, 1) := by decide +kernel
theorem dX5_enters_63 : decode cX5_enters 63 = .ok (.dup2, 1) := by decide +kernel
theorem dX5_enters_64 : decode cX5_enters 64 = .ok (.iaload, 1) := by decide +kernel
theorem dX5_enters_65 : decode cX5_enters 65 = .ok (.iconst 1, 1) := by decide +kernel
theorem dX5_enters_66 : decode cX5_enters 66 = .ok (.iadd, 1) := by decide +kernel
theorem dX5_enters_67 : decode cX5_enters 67 = .ok (.iastore, 1) := by decide +kernel
theorem dX5_enters_68 : decode cX5_enters 68 = .ok (.return_, 1) := by decide +kernel
theorem dX5_goes_0 : decode cX5_goes 0 = .ok (.aload_n 0, 1) := by decide +kernel
theorem dX5_goes_1 : decode cX5_goes 1 = .ok (.getfield 23, 3) := by decide +kernel
theorem dX5_goes_4 : decode cX5_goes 4 = .ok (.iload_n 1, 1) := by decide +kernel
theorem dX5_goes_5 : decode cX5_goes 5 = .ok (.dup2, 1) := by decide +kernel
theorem dX5_goes_6 : decode cX5_goes 6 = .ok (.iaload, 1) := by decide +kernel
theorem dX5_goes_7 : decode cX5_goes 7 = .ok (.iconst 1, 1) := by decide +kernel
theorem dX5_goes_8 : decode cX5_goes 8 = .ok (.isub, 1) := by decide +kernel
theorem dX5_goes_9 : decode cX5_goes 9 = .ok (.iastore, 1) := by decide +kernel
theorem dX5_goes_10 : decode cX5_goes 10 = .ok (.bipush 64, 2) := by decide +kernel
theorem dX5_goes_12 : decode cX5_goes 12 = .ok (.iload_n 1, 1) := by decide +kernel
theorem dX5_goes_13 : decode cX5_goes 13 = .ok (.imul, 1) := by decide +kernel
theorem dX5_goes_14 : decode cX5_goes 14 = .ok (.iload_n 2, 1) := by decide +kernel
theorem dX5_goes_15 : decode cX5_goes 15 = .ok (.iadd, 1) := by decide +kernel
theorem dX5_goes_16 : decode cX5_goes 16 = .ok (.istore_n 3, 1) := by decide +kernel
theorem dX5_goes_17 : decode cX5_goes 17 = .ok (.iload_n 3, 1) := by decide +kernel
theorem dX5_goes_18 : decode cX5_goes 18 = .ok (.bipush 64, 2) := by decide +kernel
theorem dX5_goes_20 : decode cX5_goes 20 = .ok (.iload_n 1, 1) := by decide +kernel
theorem dX5_goes_21 : decode cX5_goes 21 = .ok (.imul, 1) := by decide +kernel
theorem dX5_goes_22 : decode cX5_goes 22 = .ok (.aload_n 0, 1) := by decide +kernel
theorem dX5_goes_23 : decode cX5_goes 23 = .ok (.getfield 23, 3) := by decide +kernel
theorem dX5_goes_26 : decode cX5_goes 26 = .ok (.iload_n 1, 1) := by decide +kernel
theorem dX5_goes_27 : decode cX5_goes 27 = .ok (.iaload, 1) := by decide +kernel
theorem dX5_goes_28 : decode cX5_goes 28 = .ok (.iadd, 1) := by decide +kernel
theorem dX5_goes_29 : decode cX5_goes 29 = .ok (.if_icmp .ge 23, 3) := by decide +kernel
theorem dX5_goes_32 : decode cX5_goes 32 = .ok (.aload_n 0, 1) := by decide +kernel
theorem dX5_goes_33 : decode cX5_goes 33 = .ok (.getfield 26, 3) := by decide +kernel
theorem dX5_goes_36 : decode cX5_goes 36 = .ok (.iload_n 3, 1) := by decide +kernel
theorem dX5_goes_37 : decode cX5_goes 37 = .ok (.aload_n 0, 1) := by decide +kernel
theorem dX5_goes_38 : decode cX5_goes 38 = .ok (.getfield 26, 3) := by decide +kernel
theorem dX5_goes_41 : decode cX5_goes 41 = .ok (.iload_n 3, 1) := by decide +kernel
theorem dX5_goes_42 : decode cX5_goes 42 = .ok (.iconst 1, 1) := by decide +kernel
theorem dX5_goes_43 : decode cX5_goes 43 = .ok (.iadd, 1) := by decide +kernel
theorem dX5_goes_44 : decode cX5_goes 44 = .ok (.iaload, 1) := by decide +kernel
theorem dX5_goes_45 : decode cX5_goes 45 = .ok (.iastore, 1) := by decide +kernel
theorem dX5_goes_46 : decode cX5_goes 46 = .ok (.iinc 3 1, 3) := by decide +kernel
theorem dX5_goes_49 : decode cX5_goes 49 = .ok (.goto (-32), 3) := by decide +kernel
theorem dX5_goes_52 : decode cX5_goes 52 = .ok (.return_, 1) := by decide +kernel
set_option maxRecDepth 20000 in
theorem ggX5_shares_X5_many : GoodIn wsX5_shares wsX5_many := goodIn_r _ [6, 1, 7, 8, 9, 10, 11, 12, 13, 14, 15, 16, 17, 18, 19, 20, 21, 22] (by decide +kernel) (by decide +kernel)
set_option maxRecDepth 20000 in
theorem gX5_shares_X5_many : GoodIn wsX5_shares (wsV RX5 36 RX5 yX5_many wsX5_many) := goodIn_app (goodIn_of _ (by decide +kernel)) ggX5_shares_X5_many
theorem dX5_shares_0 : decode cX5_shares 0 = .ok (.aload_n 0, 1) := by decide +kernel
theorem dX5_shares_1 : decode cX5_shares 1 = .ok (.iload_n 1, 1) := by decide +kernel
theorem dX5_shares_2 : decode cX5_shares 2 = .ok (.iload_n 2, 1) := by decide +kernel
theorem dX5_shares_3 : decode cX5_shares 3 = .ok (.invokevirtual 36, 3) := by decide +kernel
theorem dX5_shares_6 : decode cX5_shares 6 = .ok (.aload_n 0, 1) := by decide +kernel
theorem dX5_shares_7 : decode cX5_shares 7 = .ok (.iload_n 1, 1) := by decide +kernel
theorem dX5_shares_8 : decode cX5_shares 8 = .ok (.iload_n 2, 1) := by decide +kernel
theorem dX5_shares_9 : decode cX5_shares 9 = .ok (.iconst 1, 1) := by decide +kernel
theorem dX5_shares_10 : decode cX5_shares 10 = .ok (.iadd, 1) := by decide +kernel
theorem dX5_shares_11 : decode cX5_shares 11 = .ok (.invokevirtual 36, 3) := by decide +kernel
theorem dX5_shares_14 : decode cX5_shares 14 = .ok (.iadd, 1) := by decide +kernel
theorem dX5_shares_15 : decode cX5_shares 15 = .ok (.istore_n 3, 1) := by decide +kernel
theorem dX5_shares_16 : decode cX5_shares 16 = .ok (.aload_n 0, 1) := by decide +kernel
theorem dX5_shares_17 : decode cX5_shares 17 = .ok (.getfield 26, 3) := by decide +kernel
theorem dX5_shares_20 : decode cX5_shares 20 = .ok (.bipush 64, 2) := by decide +kernel
theorem dX5_shares_22 : decode cX5_shares 22 = .ok (.iload_n 1, 1) := by decide +kernel
theorem dX5_shares_23 : decode cX5_shares 23 = .ok (.imul, 1) := by decide +kernel
theorem dX5_shares_24 : decode cX5_shares 24 = .ok (.iload_n 2, 1) := by decide +kernel
theorem dX5_shares_25 : decode cX5_shares 25 = .ok (.iadd, 1) := by decide +kernel
theorem dX5_shares_26 : decode cX5_shares 26 = .ok (.iload_n 3, 1) := by decide +kernel
theorem dX5_shares_27 : decode cX5_shares 27 = .ok (.iconst 1, 1) := by decide +kernel
theorem dX5_shares_28 : decode cX5_shares 28 = .ok (.iadd, 1) := by decide +kernel
theorem dX5_shares_29 : decode cX5_shares 29 = .ok (.iconst 2, 1) := by decide +kernel
theorem dX5_shares_30 : decode cX5_shares 30 = .ok (.idiv, 1) := by decide +kernel
theorem dX5_shares_31 : decode cX5_shares 31 = .ok (.iastore, 1) := by decide +kernel
theorem dX5_shares_32 : decode cX5_shares 32 = .ok (.aload_n 0, 1) := by decide +kernel
theorem dX5_shares_33 : decode cX5_shares 33 = .ok (.getfield 26, 3) := by decide +kernel
theorem dX5_shares_36 : decode cX5_shares 36 = .ok (.bipush 64, 2) := by decide +kernel
theorem dX5_shares_38 : decode cX5_shares 38 = .ok (.iload_n 1, 1) := by decide +kernel
theorem dX5_shares_39 : decode cX5_shares 39 = .ok (.imul, 1) := by decide +kernel
theorem dX5_shares_40 : decode cX5_shares 40 = .ok (.iload_n 2, 1) := by decide +kernel
theorem dX5_shares_41 : decode cX5_shares 41 = .ok (.iadd, 1) := by decide +kernel
theorem dX5_shares_42 : decode cX5_shares 42 = .ok (.iconst 1, 1) := by decide +kernel
theorem dX5_shares_43 : decode cX5_shares 43 = .ok (.iadd, 1) := by decide +kernel
theorem dX5_shares_44 : decode cX5_shares 44 = .ok (.iload_n 3, 1) := by decide +kernel
theorem dX5_shares_45 : decode cX5_shares 45 = .ok (.iconst 2, 1) := by decide +kernel
theorem dX5_shares_46 : decode cX5_shares 46 = .ok (.idiv, 1) := by decide +kernel
theorem dX5_shares_47 : decode cX5_shares 47 = .ok (.iastore, 1) := by decide +kernel
theorem dX5_shares_48 : decode cX5_shares 48 = .ok (.return_, 1) := by decide +kernel
set_option maxRecDepth 20000 in
theorem ggX5_grows_X5_many : GoodIn wsX5_grows wsX5_many := goodIn_r _ [8, 1, 29, 30, 31, 32, 33, 34, 35, 36, 37, 38, 39, 40, 41, 42, 43, 44] (by decide +kernel) (by decide +kernel)
set_option maxRecDepth 20000 in
theorem gX5_grows_X5_many : GoodIn wsX5_grows (wsV RX5 36 RX5 yX5_many wsX5_many) := goodIn_app (goodIn_of _ (by decide +kernel)) ggX5_grows_X5_many
set_option maxRecDepth 20000 in
theorem ggX5_grows_X5_partner : GoodIn wsX5_grows wsX5_partner := goodIn_r _ [12, 2, 13, 14, 15, 7, 16, 17, 18, 19, 20, 4, 5, 6, 8, 1, 29, 30, 31, 32, 33, 34, 35, 36, 37, 38, 39, 40, 41, 42, 43, 44] (by decide +kernel) (by decide +kernel)
set_option maxRecDepth 20000 in
theorem gX5_grows_X5_partner : GoodIn wsX5_grows (wsV RX5 49 RX5 yX5_partner wsX5_partner) := goodIn_app (goodIn_of _ (by decide +kernel)) ggX5_grows_X5_partner
set_option maxRecDepth 20000 in
theorem ggX5_grows_X5_above : GoodIn wsX5_grows wsX5_above := goodIn_r _ [16, 17, 18, 19, 7, 20, 4, 5, 6, 8, 1, 29, 30, 31, 32, 33, 34, 35, 36, 37, 38, 39, 40, 41, 42, 43, 44] (by decide +kernel) (by decide +kernel)
set_option maxRecDepth 20000 in
theorem gX5_grows_X5_above : GoodIn wsX5_grows (wsV RX5 46 RX5 yX5_above wsX5_above) := goodIn_app (goodIn_of _ (by decide +kernel)) ggX5_grows_X5_above
set_option maxRecDepth 20000 in
theorem ggX5_grows_X5_enters : GoodIn wsX5_grows wsX5_enters := goodIn_r _ [24, 3, 1, 29, 30, 31, 32, 33, 34, 35, 36, 37, 38, 39, 40, 41, 42, 43, 44] (by decide +kernel) (by decide +kernel)
set_option maxRecDepth 20000 in
theorem gX5_grows_X5_enters : GoodIn wsX5_grows (wsV RX5 52 RX5 yX5_enters wsX5_enters) := goodIn_app (goodIn_of _ (by decide +kernel)) ggX5_grows_X5_enters
set_option maxRecDepth 20000 in
theorem ggX5_grows_X5_shares : GoodIn wsX5_grows wsX5_shares := goodIn_r _ [28, 1, 4, 5, 6, 7, 8, 29, 30, 31, 32, 33, 34, 35, 36, 37, 38, 39, 40, 41, 42, 43, 44] (by decide +kernel) (by decide +kernel)
set_option maxRecDepth 20000 in
theorem gX5_grows_X5_shares : GoodIn wsX5_grows (wsV RX5 56 RX5 yX5_shares wsX5_shares) := goodIn_app (goodIn_of _ (by decide +kernel)) ggX5_grows_X5_shares
theorem dX5_grows_0 : decode cX5_grows 0 = .ok (.iload_n 1, 1) := by decide +kernel
theorem dX5_grows_1 : decode cX5_grows 1 = .ok (.istore_n 3, 1) := by decide +kernel
theorem dX5_grows_2 : decode cX5_grows 2 = .ok (.iload_n 2, 1) := by decide +kernel
theorem dX5_grows_3 : decode cX5_grows 3 = .ok (.istore 4, 2) := by decide +kernel
theorem dX5_grows_5 : decode cX5_grows 5 = .ok (.aload_n 0, 1) := by decide +kernel
theorem dX5_grows_6 : decode cX5_grows 6 = .ok (.getfield 26, 3) := by decide +kernel
theorem dX5_grows_9 : decode cX5_grows 9 = .ok (.bipush 64, 2) := by decide +kernel
theorem dX5_grows_11 : decode cX5_grows 11 = .ok (.iload_n 3, 1) := by decide +kernel
theorem dX5_grows_12 : decode cX5_grows 12 = .ok (.imul, 1) := by decide +kernel
theorem dX5_grows_13 : decode cX5_grows 13 = .ok (.iload 4, 2) := by decide +kernel
theorem dX5_grows_15 : decode cX5_grows 15 = .ok (.iadd, 1) := by decide +kernel
theorem dX5_grows_16 : decode cX5_grows 16 = .ok (.dup2, 1) := by decide +kernel
theorem dX5_grows_17 : decode cX5_grows 17 = .ok (.iaload, 1) := by decide +kernel
theorem dX5_grows_18 : decode cX5_grows 18 = .ok (.iconst 1, 1) := by decide +kernel
theorem dX5_grows_19 : decode cX5_grows 19 = .ok (.iadd, 1) := by decide +kernel
theorem dX5_grows_20 : decode cX5_grows 20 = .ok (.iastore, 1) := by decide +kernel
theorem dX5_grows_21 : decode cX5_grows 21 = .ok (.aload_n 0, 1) := by decide +kernel
theorem dX5_grows_22 : decode cX5_grows 22 = .ok (.iload_n 3, 1) := by decide +kernel
theorem dX5_grows_23 : decode cX5_grows 23 = .ok (.iload 4, 2) := by decide +kernel
theorem dX5_grows_25 : decode cX5_grows 25 = .ok (.invokevirtual 36, 3) := by decide +kernel
theorem dX5_grows_28 : decode cX5_grows 28 = .ok (.iconst 4, 1) := by decide +kernel
theorem dX5_grows_29 : decode cX5_grows 29 = .ok (.if_icmp .le 7, 3) := by decide +kernel
theorem dX5_grows_32 : decode cX5_grows 32 = .ok (.iconst 1, 1) := by decide +kernel
theorem dX5_grows_33 : decode cX5_grows 33 = .ok (.goto 4, 3) := by decide +kernel
theorem dX5_grows_36 : decode cX5_grows 36 = .ok (.iconst 0, 1) := by decide +kernel
theorem dX5_grows_37 : decode cX5_grows 37 = .ok (.istore 5, 2) := by decide +kernel
theorem dX5_grows_39 : decode cX5_grows 39 = .ok (.iload 5, 2) := by decide +kernel
theorem dX5_grows_41 : decode cX5_grows 41 = .ok (.ifCond .eq 254, 3) := by decide +kernel
theorem dX5_grows_44 : decode cX5_grows 44 = .ok (.aload_n 0, 1) := by decide +kernel
theorem dX5_grows_45 : decode cX5_grows 45 = .ok (.iload_n 3, 1) := by decide +kernel
theorem dX5_grows_46 : decode cX5_grows 46 = .ok (.iload 4, 2) := by decide +kernel
theorem dX5_grows_48 : decode cX5_grows 48 = .ok (.invokevirtual 49, 3) := by decide +kernel
theorem dX5_grows_51 : decode cX5_grows 51 = .ok (.istore 6, 2) := by decide +kernel
theorem dX5_grows_53 : decode cX5_grows 53 = .ok (.iload 6, 2) := by decide +kernel
theorem dX5_grows_55 : decode cX5_grows 55 = .ok (.iload 4, 2) := by decide +kernel
theorem dX5_grows_57 : decode cX5_grows 57 = .ok (.if_icmp .ge 8, 3) := by decide +kernel
theorem dX5_grows_60 : decode cX5_grows 60 = .ok (.iload 6, 2) := by decide +kernel
theorem dX5_grows_62 : decode cX5_grows 62 = .ok (.goto 5, 3) := by decide +kernel
theorem dX5_grows_65 : decode cX5_grows 65 = .ok (.iload 4, 2) := by decide +kernel
theorem dX5_grows_67 : decode cX5_grows 67 = .ok (.istore 7, 2) := by decide +kernel
theorem dX5_grows_69 : decode cX5_grows 69 = .ok (.iload_n 3, 1) := by decide +kernel
theorem dX5_grows_70 : decode cX5_grows 70 = .ok (.aload_n 0, 1) := by decide +kernel
theorem dX5_grows_71 : decode cX5_grows 71 = .ok (.getfield 43, 3) := by decide +kernel
theorem dX5_grows_74 : decode cX5_grows 74 = .ok (.iconst 1, 1) := by decide +kernel
theorem dX5_grows_75 : decode cX5_grows 75 = .ok (.isub, 1) := by decide +kernel
theorem dX5_grows_76 : decode cX5_grows 76 = .ok (.if_icmp .ne 7, 3) := by decide +kernel
theorem dX5_grows_79 : decode cX5_grows 79 = .ok (.iconst 0, 1) := by decide +kernel
theorem dX5_grows_80 : decode cX5_grows 80 = .ok (.goto 10, 3) := by decide +kernel
theorem dX5_grows_83 : decode cX5_grows 83 = .ok (.aload_n 0, 1) := by decide +kernel
theorem dX5_grows_84 : decode cX5_grows 84 = .ok (.iload_n 3, 1) := by decide +kernel
theorem dX5_grows_85 : decode cX5_grows 85 = .ok (.iload 4, 2) := by decide +kernel
theorem dX5_grows_87 : decode cX5_grows 87 = .ok (.invokevirtual 46, 3) := by decide +kernel
theorem dX5_grows_90 : decode cX5_grows 90 = .ok (.istore 8, 2) := by decide +kernel
theorem dX5_grows_92 : decode cX5_grows 92 = .ok (.iload 6, 2) := by decide +kernel
theorem dX5_grows_94 : decode cX5_grows 94 = .ok (.iload 4, 2) := by decide +kernel
theorem dX5_grows_96 : decode cX5_grows 96 = .ok (.if_icmp .eq 14, 3) := by decide +kernel
theorem dX5_grows_99 : decode cX5_grows 99 = .ok (.aload_n 0, 1) := by decide +kernel
theorem dX5_grows_100 : decode cX5_grows 100 = .ok (.iload_n 3, 1) := by decide +kernel
theorem dX5_grows_101 : decode cX5_grows 101 = .ok (.iload 6, 2) := by decide +kernel
theorem dX5_grows_103 : decode cX5_grows 103 = .ok (.invokevirtual 36, 3) := by decide +kernel
theorem dX5_grows_106 : decode cX5_grows 106 = .ok (.iconst 4, 1) := by decide +kernel
theorem dX5_grows_107 : decode cX5_grows 107 = .ok (.if_icmp .ne 7, 3) := by decide +kernel
theorem dX5_grows_110 : decode cX5_grows 110 = .ok (.iconst 1, 1) := by decide +kernel
theorem dX5_grows_111 : decode cX5_grows 111 = .ok (.goto 4, 3) := by decide +kernel
theorem dX5_grows_114 : decode cX5_grows 114 = .ok (.iconst 0, 1) := by decide +kernel
theorem dX5_grows_115 : decode cX5_grows 115 = .ok (.istore 5, 2) := by decide +kernel
theorem dX5_grows_117 : decode cX5_grows 117 = .ok (.iload 6, 2) := by decide +kernel
theorem dX5_grows_119 : decode cX5_grows 119 = .ok (.iload 4, 2) := by decide +kernel
theorem dX5_grows_121 : decode cX5_grows 121 = .ok (.if_icmp .ne 29, 3) := by decide +kernel
theorem dX5_grows_124 : decode cX5_grows 124 = .ok (.aload_n 0, 1) := by decide +kernel
theorem dX5_grows_125 : decode cX5_grows 125 = .ok (.getfield 26, 3) := by decide +kernel
theorem dX5_grows_128 : decode cX5_grows 128 = .ok (.bipush 64, 2) := by decide +kernel
theorem dX5_grows_130 : decode cX5_grows 130 = .ok (.iload_n 3, 1) := by decide +kernel
theorem dX5_grows_131 : decode cX5_grows 131 = .ok (.imul, 1) := by decide +kernel
theorem dX5_grows_132 : decode cX5_grows 132 = .ok (.iload 4, 2) := by decide +kernel
theorem dX5_grows_134 : decode cX5_grows 134 = .ok (.iadd, 1) := by decide +kernel
theorem dX5_grows_135 : decode cX5_grows 135 = .ok (.iconst 3, 1) := by decide +kernel
theorem dX5_grows_136 : decode cX5_grows 136 = .ok (.iastore, 1) := by decide +kernel
theorem dX5_grows_137 : decode cX5_grows 137 = .ok (.aload_n 0, 1) := by decide +kernel
theorem dX5_grows_138 : decode cX5_grows 138 = .ok (.iload_n 3, 1) := by decide +kernel
theorem dX5_grows_139 : decode cX5_grows 139 = .ok (.iload 4, 2) := by decide +kernel
theorem dX5_grows_141 : decode cX5_grows 141 = .ok (.iconst 1, 1) := by decide +kernel
theorem dX5_grows_142 : decode cX5_grows 142 = .ok (.iadd, 1) := by decide +kernel
theorem dX5_grows_143 : decode cX5_grows 143 = .ok (.iconst 2, 1) := by decide +kernel
theorem dX5_grows_144 : decode cX5_grows 144 = .ok (.invokevirtual 52, 3) := by decide +kernel
theorem dX5_grows_147 : decode cX5_grows 147 = .ok (.goto 56, 3) := by decide +kernel
theorem dX5_grows_150 : decode cX5_grows 150 = .ok (.iload 5, 2) := by decide +kernel
theorem dX5_grows_152 : decode cX5_grows 152 = .ok (.ifCond .eq 44, 3) := by decide +kernel
theorem dX5_grows_155 : decode cX5_grows 155 = .ok (.aload_n 0, 1) := by decide +kernel
theorem dX5_grows_156 : decode cX5_grows 156 = .ok (.getfield 26, 3) := by decide +kernel
theorem dX5_grows_159 : decode cX5_grows 159 = .ok (.bipush 64, 2) := by decide +kernel
theorem dX5_grows_161 : decode cX5_grows 161 = .ok (.iload_n 3, 1) := by decide +kernel
theorem dX5_grows_162 : decode cX5_grows 162 = .ok (.imul, 1) := by decide +kernel
theorem dX5_grows_163 : decode cX5_grows 163 = .ok (.iload 7, 2) := by decide +kernel
theorem dX5_grows_165 : decode cX5_grows 165 = .ok (.iadd, 1) := by decide +kernel
theorem dX5_grows_166 : decode cX5_grows 166 = .ok (.iconst 3, 1) := by decide +kernel
theorem dX5_grows_167 : decode cX5_grows 167 = .ok (.iastore, 1) := by decide +kernel
theorem dX5_grows_168 : decode cX5_grows 168 = .ok (.aload_n 0, 1) := by decide +kernel
theorem dX5_grows_169 : decode cX5_grows 169 = .ok (.getfield 26, 3) := by decide +kernel
theorem dX5_grows_172 : decode cX5_grows 172 = .ok (.bipush 64, 2) := by decide +kernel
theorem dX5_grows_174 : decode cX5_grows 174 = .ok (.iload_n 3, 1) := by decide +kernel
theorem dX5_grows_175 : decode cX5_grows 175 = .ok (.imul, 1) := by decide +kernel
theorem dX5_grows_176 : decode cX5_grows 176 = .ok (.iload 7, 2) := by decide +kernel
theorem dX5_grows_178 : decode cX5_grows 178 = .ok (.iadd, 1) := by decide +kernel
theorem dX5_grows_179 : decode cX5_grows 179 = .ok (.iconst 1, 1) := by decide +kernel
theorem dX5_grows_180 : decode cX5_grows 180 = .ok (.iadd, 1) := by decide +kernel
theorem dX5_grows_181 : decode cX5_grows 181 = .ok (.iconst 3, 1) := by decide +kernel
theorem dX5_grows_182 : decode cX5_grows 182 = .ok (.iastore, 1) := by decide +kernel
theorem dX5_grows_183 : decode cX5_grows 183 = .ok (.aload_n 0, 1) := by decide +kernel
theorem dX5_grows_184 : decode cX5_grows 184 = .ok (.iload_n 3, 1) := by decide +kernel
theorem dX5_grows_185 : decode cX5_grows 185 = .ok (.iload 7, 2) := by decide +kernel
theorem dX5_grows_187 : decode cX5_grows 187 = .ok (.iconst 2, 1) := by decide +kernel
theorem dX5_grows_188 : decode cX5_grows 188 = .ok (.iadd, 1) := by decide +kernel
theorem dX5_grows_189 : decode cX5_grows 189 = .ok (.iconst 3, 1) := by decide +kernel
theorem dX5_grows_190 : decode cX5_grows 190 = .ok (.invokevirtual 52, 3) := by decide +kernel
theorem dX5_grows_193 : decode cX5_grows 193 = .ok (.goto 10, 3) := by decide +kernel
theorem dX5_grows_196 : decode cX5_grows 196 = .ok (.aload_n 0, 1) := by decide +kernel
theorem dX5_grows_197 : decode cX5_grows 197 = .ok (.iload_n 3, 1) := by decide +kernel
theorem dX5_grows_198 : decode cX5_grows 198 = .ok (.iload 7, 2) := by decide +kernel
theorem dX5_grows_200 : decode cX5_grows 200 = .ok (.invokevirtual 56, 3) := by decide +kernel
theorem dX5_grows_203 : decode cX5_grows 203 = .ok (.iload 5, 2) := by decide +kernel
theorem dX5_grows_205 : decode cX5_grows 205 = .ok (.ifCond .eq 87, 3) := by decide +kernel
theorem dX5_grows_208 : decode cX5_grows 208 = .ok (.iload_n 3, 1) := by decide +kernel
theorem dX5_grows_209 : decode cX5_grows 209 = .ok (.aload_n 0, 1) := by decide +kernel
theorem dX5_grows_210 : decode cX5_grows 210 = .ok (.getfield 43, 3) := by decide +kernel
theorem dX5_grows_213 : decode cX5_grows 213 = .ok (.iconst 1, 1) := by decide +kernel
theorem dX5_grows_214 : decode cX5_grows 214 = .ok (.isub, 1) := by decide +kernel
theorem dX5_grows_215 : decode cX5_grows 215 = .ok (.if_icmp .ne 36, 3) := by decide +kernel
theorem dX5_grows_218 : decode cX5_grows 218 = .ok (.aload_n 0, 1) := by decide +kernel
theorem dX5_grows_219 : decode cX5_grows 219 = .ok (.getfield 23, 3) := by decide +kernel
theorem dX5_grows_222 : decode cX5_grows 222 = .ok (.aload_n 0, 1) := by decide +kernel
theorem dX5_grows_223 : decode cX5_grows 223 = .ok (.getfield 43, 3) := by decide +kernel
theorem dX5_grows_226 : decode cX5_grows 226 = .ok (.iconst 1, 1) := by decide +kernel
theorem dX5_grows_227 : decode cX5_grows 227 = .ok (.iastore, 1) := by decide +kernel
theorem dX5_grows_228 : decode cX5_grows 228 = .ok (.aload_n 0, 1) := by decide +kernel
theorem dX5_grows_229 : decode cX5_grows 229 = .ok (.getfield 26, 3) := by decide +kernel
theorem dX5_grows_232 : decode cX5_grows 232 = .ok (.bipush 64, 2) := by decide +kernel
theorem dX5_grows_234 : decode cX5_grows 234 = .ok (.aload_n 0, 1) := by decide +kernel
theorem dX5_grows_235 : decode cX5_grows 235 = .ok (.getfield 43, 3) := by decide +kernel
theorem dX5_grows_238 : decode cX5_grows 238 = .ok (.imul, 1) := by decide +kernel
theorem dX5_grows_239 : decode cX5_grows 239 = .ok (.iconst 1, 1) := by decide +kernel
theorem dX5_grows_240 : decode cX5_grows 240 = .ok (.iastore, 1) := by decide +kernel
theorem dX5_grows_241 : decode cX5_grows 241 = .ok (.aload_n 0, 1) := by decide +kernel
theorem dX5_grows_242 : decode cX5_grows 242 = .ok (.dup, 1) := by decide +kernel
theorem dX5_grows_243 : decode cX5_grows 243 = .ok (.getfield 43, 3) := by decide +kernel
theorem dX5_grows_246 : decode cX5_grows 246 = .ok (.iconst 1, 1) := by decide +kernel
theorem dX5_grows_247 : decode cX5_grows 247 = .ok (.iadd, 1) := by decide +kernel
theorem dX5_grows_248 : decode cX5_grows 248 = .ok (.putfield 43, 3) := by decide +kernel
theorem dX5_grows_251 : decode cX5_grows 251 = .ok (.iinc 3 1, 3) := by decide +kernel
theorem dX5_grows_254 : decode cX5_grows 254 = .ok (.iload 8, 2) := by decide +kernel
theorem dX5_grows_256 : decode cX5_grows 256 = .ok (.istore 4, 2) := by decide +kernel
theorem dX5_grows_258 : decode cX5_grows 258 = .ok (.aload_n 0, 1) := by decide +kernel
theorem dX5_grows_259 : decode cX5_grows 259 = .ok (.getfield 26, 3) := by decide +kernel
theorem dX5_grows_262 : decode cX5_grows 262 = .ok (.bipush 64, 2) := by decide +kernel
theorem dX5_grows_264 : decode cX5_grows 264 = .ok (.iload_n 3, 1) := by decide +kernel
theorem dX5_grows_265 : decode cX5_grows 265 = .ok (.imul, 1) := by decide +kernel
theorem dX5_grows_266 : decode cX5_grows 266 = .ok (.iload 4, 2) := by decide +kernel
theorem dX5_grows_268 : decode cX5_grows 268 = .ok (.iadd, 1) := by decide +kernel
theorem dX5_grows_269 : decode cX5_grows 269 = .ok (.dup2, 1) := by decide +kernel
theorem dX5_grows_270 : decode cX5_grows 270 = .ok (.iaload, 1) := by decide +kernel
theorem dX5_grows_271 : decode cX5_grows 271 = .ok (.iconst 1, 1) := by decide +kernel
theorem dX5_grows_272 : decode cX5_grows 272 = .ok (.iadd, 1) := by decide +kernel
theorem dX5_grows_273 : decode cX5_grows 273 = .ok (.iastore, 1) := by decide +kernel
theorem dX5_grows_274 : decode cX5_grows 274 = .ok (.aload_n 0, 1) := by decide +kernel
theorem dX5_grows_275 : decode cX5_grows 275 = .ok (.iload_n 3, 1) := by decide +kernel
theorem dX5_grows_276 : decode cX5_grows 276 = .ok (.iload 4, 2) := by decide +kernel
theorem dX5_grows_278 : decode cX5_grows 278 = .ok (.invokevirtual 36, 3) := by decide +kernel
theorem dX5_grows_281 : decode cX5_grows 281 = .ok (.iconst 4, 1) := by decide +kernel
theorem dX5_grows_282 : decode cX5_grows 282 = .ok (.if_icmp .le 7, 3) := by decide +kernel
theorem dX5_grows_285 : decode cX5_grows 285 = .ok (.iconst 1, 1) := by decide +kernel
theorem dX5_grows_286 : decode cX5_grows 286 = .ok (.goto 4, 3) := by decide +kernel
theorem dX5_grows_289 : decode cX5_grows 289 = .ok (.iconst 0, 1) := by decide +kernel
theorem dX5_grows_290 : decode cX5_grows 290 = .ok (.istore 5, 2) := by decide +kernel
theorem dX5_grows_292 : decode cX5_grows 292 = .ok (.goto (-253), 3) := by decide +kernel
theorem dX5_grows_295 : decode cX5_grows 295 = .ok (.return_, 1) := by decide +kernel
set_option maxRecDepth 20000 in
theorem ggX5_shrinks_X5_many : GoodIn wsX5_shrinks wsX5_many := goodIn_r _ [8, 1, 30, 31, 32, 33, 34, 35, 36, 37, 38, 39, 40, 41, 42, 43, 44, 45] (by decide +kernel) (by decide +kernel)
set_option maxRecDepth 20000 in
theorem gX5_shrinks_X5_many : GoodIn wsX5_shrinks (wsV RX5 36 RX5 yX5_many wsX5_many) := goodIn_app (goodIn_of _ (by decide +kernel)) ggX5_shrinks_X5_many
set_option maxRecDepth 20000 in
theorem ggX5_shrinks_X5_partner : GoodIn wsX5_shrinks wsX5_partner := goodIn_r _ [12, 2, 13, 14, 15, 7, 16, 17, 18, 19, 20, 4, 5, 6, 8, 1, 30, 31, 32, 33, 34, 35, 36, 37, 38, 39, 40, 41, 42, 43, 44, 45] (by decide +kernel) (by decide +kernel)
set_option maxRecDepth 20000 in
theorem gX5_shrinks_X5_partner : GoodIn wsX5_shrinks (wsV RX5 49 RX5 yX5_partner wsX5_partner) := goodIn_app (goodIn_of _ (by decide +kernel)) ggX5_shrinks_X5_partner
set_option maxRecDepth 20000 in
theorem ggX5_shrinks_X5_above : GoodIn wsX5_shrinks wsX5_above := goodIn_r _ [16, 17, 18, 19, 7, 20, 4, 5, 6, 8, 1, 30, 31, 32, 33, 34, 35, 36, 37, 38, 39, 40, 41, 42, 43, 44, 45] (by decide +kernel) (by decide +kernel)
set_option maxRecDepth 20000 in
theorem gX5_shrinks_X5_above : GoodIn wsX5_shrinks (wsV RX5 46 RX5 yX5_above wsX5_above) := goodIn_app (goodIn_of _ (by decide +kernel)) ggX5_shrinks_X5_above
set_option maxRecDepth 20000 in
theorem ggX5_shrinks_X5_goes : GoodIn wsX5_shrinks wsX5_goes := goodIn_r _ [24, 25, 1, 30, 31, 32, 33, 34, 35, 36, 37, 38, 39, 40, 41, 42, 43, 44, 45] (by decide +kernel) (by decide +kernel)
set_option maxRecDepth 20000 in
theorem gX5_shrinks_X5_goes : GoodIn wsX5_shrinks (wsV RX5 60 RX5 yX5_goes wsX5_goes) := goodIn_app (goodIn_of _ (by decide +kernel)) ggX5_shrinks_X5_goes
set_option maxRecDepth 20000 in
theorem ggX5_shrinks_X5_shares : GoodIn wsX5_shrinks wsX5_shares := goodIn_r _ [29, 1, 4, 5, 6, 7, 8, 30, 31, 32, 33, 34, 35, 36, 37, 38, 39, 40, 41, 42, 43, 44, 45] (by decide +kernel) (by decide +kernel)
set_option maxRecDepth 20000 in
theorem gX5_shrinks_X5_shares : GoodIn wsX5_shrinks (wsV RX5 56 RX5 yX5_shares wsX5_shares) := goodIn_app (goodIn_of _ (by decide +kernel)) ggX5_shrinks_X5_shares
theorem dX5_shrinks_0 : decode cX5_shrinks 0 = .ok (.iconst 0, 1) := by decide +kernel
theorem dX5_shrinks_1 : decode cX5_shrinks 1 = .ok (.istore_n 2, 1) := by decide +kernel
theorem dX5_shrinks_2 : decode cX5_shrinks 2 = .ok (.iload_n 1, 1) := by decide +kernel
theorem dX5_shrinks_3 : decode cX5_shrinks 3 = .ok (.istore_n 3, 1) := by decide +kernel
theorem dX5_shrinks_4 : decode cX5_shrinks 4 = .ok (.aload_n 0, 1) := by decide +kernel
theorem dX5_shrinks_5 : decode cX5_shrinks 5 = .ok (.getfield 26, 3) := by decide +kernel
theorem dX5_shrinks_8 : decode cX5_shrinks 8 = .ok (.iload_n 3, 1) := by decide +kernel
theorem dX5_shrinks_9 : decode cX5_shrinks 9 = .ok (.dup2, 1) := by decide +kernel
theorem dX5_shrinks_10 : decode cX5_shrinks 10 = .ok (.iaload, 1) := by decide +kernel
theorem dX5_shrinks_11 : decode cX5_shrinks 11 = .ok (.iconst 1, 1) := by decide +kernel
theorem dX5_shrinks_12 : decode cX5_shrinks 12 = .ok (.isub, 1) := by decide +kernel
theorem dX5_shrinks_13 : decode cX5_shrinks 13 = .ok (.iastore, 1) := by decide +kernel
theorem dX5_shrinks_14 : decode cX5_shrinks 14 = .ok (.iload_n 2, 1) := by decide +kernel
theorem dX5_shrinks_15 : decode cX5_shrinks 15 = .ok (.aload_n 0, 1) := by decide +kernel
theorem dX5_shrinks_16 : decode cX5_shrinks 16 = .ok (.getfield 43, 3) := by decide +kernel
theorem dX5_shrinks_19 : decode cX5_shrinks 19 = .ok (.iconst 1, 1) := by decide +kernel
theorem dX5_shrinks_20 : decode cX5_shrinks 20 = .ok (.isub, 1) := by decide +kernel
theorem dX5_shrinks_21 : decode cX5_shrinks 21 = .ok (.if_icmp .ge 17, 3) := by decide +kernel
theorem dX5_shrinks_24 : decode cX5_shrinks 24 = .ok (.aload_n 0, 1) := by decide +kernel
theorem dX5_shrinks_25 : decode cX5_shrinks 25 = .ok (.iload_n 2, 1) := by decide +kernel
theorem dX5_shrinks_26 : decode cX5_shrinks 26 = .ok (.iload_n 3, 1) := by decide +kernel
theorem dX5_shrinks_27 : decode cX5_shrinks 27 = .ok (.invokevirtual 36, 3) := by decide +kernel
theorem dX5_shrinks_30 : decode cX5_shrinks 30 = .ok (.iconst 2, 1) := by decide +kernel
theorem dX5_shrinks_31 : decode cX5_shrinks 31 = .ok (.if_icmp .ge 7, 3) := by decide +kernel
theorem dX5_shrinks_34 : decode cX5_shrinks 34 = .ok (.iconst 1, 1) := by decide +kernel
theorem dX5_shrinks_35 : decode cX5_shrinks 35 = .ok (.goto 4, 3) := by decide +kernel
theorem dX5_shrinks_38 : decode cX5_shrinks 38 = .ok (.iconst 0, 1) := by decide +kernel
theorem dX5_shrinks_39 : decode cX5_shrinks 39 = .ok (.istore 4, 2) := by decide +kernel
theorem dX5_shrinks_41 : decode cX5_shrinks 41 = .ok (.iload 4, 2) := by decide +kernel
theorem dX5_shrinks_43 : decode cX5_shrinks 43 = .ok (.ifCond .eq 196, 3) := by decide +kernel
theorem dX5_shrinks_46 : decode cX5_shrinks 46 = .ok (.aload_n 0, 1) := by decide +kernel
theorem dX5_shrinks_47 : decode cX5_shrinks 47 = .ok (.iload_n 2, 1) := by decide +kernel
theorem dX5_shrinks_48 : decode cX5_shrinks 48 = .ok (.iload_n 3, 1) := by decide +kernel
theorem dX5_shrinks_49 : decode cX5_shrinks 49 = .ok (.invokevirtual 49, 3) := by decide +kernel
theorem dX5_shrinks_52 : decode cX5_shrinks 52 = .ok (.istore 5, 2) := by decide +kernel
theorem dX5_shrinks_54 : decode cX5_shrinks 54 = .ok (.iload 5, 2) := by decide +kernel
theorem dX5_shrinks_56 : decode cX5_shrinks 56 = .ok (.iload_n 3, 1) := by decide +kernel
theorem dX5_shrinks_57 : decode cX5_shrinks 57 = .ok (.if_icmp .ge 8, 3) := by decide +kernel
theorem dX5_shrinks_60 : decode cX5_shrinks 60 = .ok (.iload 5, 2) := by decide +kernel
theorem dX5_shrinks_62 : decode cX5_shrinks 62 = .ok (.goto 4, 3) := by decide +kernel
theorem dX5_shrinks_65 : decode cX5_shrinks 65 = .ok (.iload_n 3, 1) := by decide +kernel
theorem dX5_shrinks_66 : decode cX5_shrinks 66 = .ok (.istore 6, 2) := by decide +kernel
theorem dX5_shrinks_68 : decode cX5_shrinks 68 = .ok (.aload_n 0, 1) := by decide +kernel
theorem dX5_shrinks_69 : decode cX5_shrinks 69 = .ok (.iload_n 2, 1) := by decide +kernel
theorem dX5_shrinks_70 : decode cX5_shrinks 70 = .ok (.iload_n 3, 1) := by decide +kernel
theorem dX5_shrinks_71 : decode cX5_shrinks 71 = .ok (.invokevirtual 46, 3) := by decide +kernel
theorem dX5_shrinks_74 : decode cX5_shrinks 74 = .ok (.istore 7, 2) := by decide +kernel
theorem dX5_shrinks_76 : decode cX5_shrinks 76 = .ok (.aload_n 0, 1) := by decide +kernel
theorem dX5_shrinks_77 : decode cX5_shrinks 77 = .ok (.iload_n 2, 1) := by decide +kernel
theorem dX5_shrinks_78 : decode cX5_shrinks 78 = .ok (.iload_n 3, 1) := by decide +kernel
theorem dX5_shrinks_79 : decode cX5_shrinks 79 = .ok (.invokevirtual 36, 3) := by decide +kernel
theorem dX5_shrinks_82 : decode cX5_shrinks 82 = .ok (.iload 5, 2) := by decide +kernel
theorem dX5_shrinks_84 : decode cX5_shrinks 84 = .ok (.iload_n 3, 1) := by decide +kernel
theorem dX5_shrinks_85 : decode cX5_shrinks 85 = .ok (.if_icmp .ne 7, 3) := by decide +kernel
theorem dX5_shrinks_88 : decode cX5_shrinks 88 = .ok (.iconst 0, 1) := by decide +kernel
theorem dX5_shrinks_89 : decode cX5_shrinks 89 = .ok (.goto 10, 3) := by decide +kernel
theorem dX5_shrinks_92 : decode cX5_shrinks 92 = .ok (.aload_n 0, 1) := by decide +kernel
theorem dX5_shrinks_93 : decode cX5_shrinks 93 = .ok (.iload_n 2, 1) := by decide +kernel
theorem dX5_shrinks_94 : decode cX5_shrinks 94 = .ok (.iload 5, 2) := by decide +kernel
theorem dX5_shrinks_96 : decode cX5_shrinks 96 = .ok (.invokevirtual 36, 3) := by decide +kernel
theorem dX5_shrinks_99 : decode cX5_shrinks 99 = .ok (.iadd, 1) := by decide +kernel
theorem dX5_shrinks_100 : decode cX5_shrinks 100 = .ok (.istore 8, 2) := by decide +kernel
theorem dX5_shrinks_102 : decode cX5_shrinks 102 = .ok (.iload 5, 2) := by decide +kernel
theorem dX5_shrinks_104 : decode cX5_shrinks 104 = .ok (.iload_n 3, 1) := by decide +kernel
theorem dX5_shrinks_105 : decode cX5_shrinks 105 = .ok (.if_icmp .ne 16, 3) := by decide +kernel
theorem dX5_shrinks_108 : decode cX5_shrinks 108 = .ok (.iload 8, 2) := by decide +kernel
theorem dX5_shrinks_110 : decode cX5_shrinks 110 = .ok (.ifCond .ne 7, 3) := by decide +kernel
theorem dX5_shrinks_113 : decode cX5_shrinks 113 = .ok (.iconst 1, 1) := by decide +kernel
theorem dX5_shrinks_114 : decode cX5_shrinks 114 = .ok (.goto 18, 3) := by decide +kernel
theorem dX5_shrinks_117 : decode cX5_shrinks 117 = .ok (.iconst 0, 1) := by decide +kernel
theorem dX5_shrinks_118 : decode cX5_shrinks 118 = .ok (.goto 14, 3) := by decide +kernel
theorem dX5_shrinks_121 : decode cX5_shrinks 121 = .ok (.iload 8, 2) := by decide +kernel
theorem dX5_shrinks_123 : decode cX5_shrinks 123 = .ok (.iconst 4, 1) := by decide +kernel
theorem dX5_shrinks_124 : decode cX5_shrinks 124 = .ok (.if_icmp .gt 7, 3) := by decide +kernel
theorem dX5_shrinks_127 : decode cX5_shrinks 127 = .ok (.iconst 1, 1) := by decide +kernel
theorem dX5_shrinks_128 : decode cX5_shrinks 128 = .ok (.goto 4, 3) := by decide +kernel
theorem dX5_shrinks_131 : decode cX5_shrinks 131 = .ok (.iconst 0, 1) := by decide +kernel
theorem dX5_shrinks_132 : decode cX5_shrinks 132 = .ok (.istore 4, 2) := by decide +kernel
theorem dX5_shrinks_134 : decode cX5_shrinks 134 = .ok (.iload 4, 2) := by decide +kernel
theorem dX5_shrinks_136 : decode cX5_shrinks 136 = .ok (.ifCond .eq 87, 3) := by decide +kernel
theorem dX5_shrinks_139 : decode cX5_shrinks 139 = .ok (.aload_n 0, 1) := by decide +kernel
theorem dX5_shrinks_140 : decode cX5_shrinks 140 = .ok (.getfield 26, 3) := by decide +kernel
theorem dX5_shrinks_143 : decode cX5_shrinks 143 = .ok (.bipush 64, 2) := by decide +kernel
theorem dX5_shrinks_145 : decode cX5_shrinks 145 = .ok (.iload_n 2, 1) := by decide +kernel
theorem dX5_shrinks_146 : decode cX5_shrinks 146 = .ok (.imul, 1) := by decide +kernel
theorem dX5_shrinks_147 : decode cX5_shrinks 147 = .ok (.iload 6, 2) := by decide +kernel
theorem dX5_shrinks_149 : decode cX5_shrinks 149 = .ok (.iadd, 1) := by decide +kernel
theorem dX5_shrinks_150 : decode cX5_shrinks 150 = .ok (.iload 8, 2) := by decide +kernel
theorem dX5_shrinks_152 : decode cX5_shrinks 152 = .ok (.iastore, 1) := by decide +kernel
theorem dX5_shrinks_153 : decode cX5_shrinks 153 = .ok (.aload_n 0, 1) := by decide +kernel
theorem dX5_shrinks_154 : decode cX5_shrinks 154 = .ok (.iload_n 2, 1) := by decide +kernel
theorem dX5_shrinks_155 : decode cX5_shrinks 155 = .ok (.iload 5, 2) := by decide +kernel
theorem dX5_shrinks_157 : decode cX5_shrinks 157 = .ok (.iload_n 3, 1) := by decide +kernel
theorem dX5_shrinks_158 : decode cX5_shrinks 158 = .ok (.if_icmp .ne 7, 3) := by decide +kernel
theorem dX5_shrinks_161 : decode cX5_shrinks 161 = .ok (.iload_n 3, 1) := by decide +kernel
theorem dX5_shrinks_162 : decode cX5_shrinks 162 = .ok (.goto 7, 3) := by decide +kernel
theorem dX5_shrinks_165 : decode cX5_shrinks 165 = .ok (.iload 6, 2) := by decide +kernel
theorem dX5_shrinks_167 : decode cX5_shrinks 167 = .ok (.iconst 1, 1) := by decide +kernel
theorem dX5_shrinks_168 : decode cX5_shrinks 168 = .ok (.iadd, 1) := by decide +kernel
theorem dX5_shrinks_169 : decode cX5_shrinks 169 = .ok (.invokevirtual 60, 3) := by decide +kernel
theorem dX5_shrinks_172 : decode cX5_shrinks 172 = .ok (.iinc 2 1, 3) := by decide +kernel
theorem dX5_shrinks_175 : decode cX5_shrinks 175 = .ok (.iload 7, 2) := by decide +kernel
theorem dX5_shrinks_177 : decode cX5_shrinks 177 = .ok (.istore_n 3, 1) := by decide +kernel
theorem dX5_shrinks_178 : decode cX5_shrinks 178 = .ok (.aload_n 0, 1) := by decide +kernel
theorem dX5_shrinks_179 : decode cX5_shrinks 179 = .ok (.getfield 26, 3) := by decide +kernel
theorem dX5_shrinks_182 : decode cX5_shrinks 182 = .ok (.bipush 64, 2) := by decide +kernel
theorem dX5_shrinks_184 : decode cX5_shrinks 184 = .ok (.iload_n 2, 1) := by decide +kernel
theorem dX5_shrinks_185 : decode cX5_shrinks 185 = .ok (.imul, 1) := by decide +kernel
theorem dX5_shrinks_186 : decode cX5_shrinks 186 = .ok (.iload_n 3, 1) := by decide +kernel
theorem dX5_shrinks_187 : decode cX5_shrinks 187 = .ok (.iadd, 1) := by decide +kernel
theorem dX5_shrinks_188 : decode cX5_shrinks 188 = .ok (.dup2, 1) := by decide +kernel
theorem dX5_shrinks_189 : decode cX5_shrinks 189 = .ok (.iaload, 1) := by decide +kernel
theorem dX5_shrinks_190 : decode cX5_shrinks 190 = .ok (.iconst 1, 1) := by decide +kernel
theorem dX5_shrinks_191 : decode cX5_shrinks 191 = .ok (.isub, 1) := by decide +kernel
theorem dX5_shrinks_192 : decode cX5_shrinks 192 = .ok (.iastore, 1) := by decide +kernel
theorem dX5_shrinks_193 : decode cX5_shrinks 193 = .ok (.iload_n 2, 1) := by decide +kernel
theorem dX5_shrinks_194 : decode cX5_shrinks 194 = .ok (.aload_n 0, 1) := by decide +kernel
theorem dX5_shrinks_195 : decode cX5_shrinks 195 = .ok (.getfield 43, 3) := by decide +kernel
theorem dX5_shrinks_198 : decode cX5_shrinks 198 = .ok (.iconst 1, 1) := by decide +kernel
theorem dX5_shrinks_199 : decode cX5_shrinks 199 = .ok (.isub, 1) := by decide +kernel
theorem dX5_shrinks_200 : decode cX5_shrinks 200 = .ok (.if_icmp .ge 17, 3) := by decide +kernel
theorem dX5_shrinks_203 : decode cX5_shrinks 203 = .ok (.aload_n 0, 1) := by decide +kernel
theorem dX5_shrinks_204 : decode cX5_shrinks 204 = .ok (.iload_n 2, 1) := by decide +kernel
theorem dX5_shrinks_205 : decode cX5_shrinks 205 = .ok (.iload_n 3, 1) := by decide +kernel
theorem dX5_shrinks_206 : decode cX5_shrinks 206 = .ok (.invokevirtual 36, 3) := by decide +kernel
theorem dX5_shrinks_209 : decode cX5_shrinks 209 = .ok (.iconst 2, 1) := by decide +kernel
theorem dX5_shrinks_210 : decode cX5_shrinks 210 = .ok (.if_icmp .ge 7, 3) := by decide +kernel
theorem dX5_shrinks_213 : decode cX5_shrinks 213 = .ok (.iconst 1, 1) := by decide +kernel
theorem dX5_shrinks_214 : decode cX5_shrinks 214 = .ok (.goto 4, 3) := by decide +kernel
theorem dX5_shrinks_217 : decode cX5_shrinks 217 = .ok (.iconst 0, 1) := by decide +kernel
theorem dX5_shrinks_218 : decode cX5_shrinks 218 = .ok (.istore 4, 2) := by decide +kernel
theorem dX5_shrinks_220 : decode cX5_shrinks 220 = .ok (.goto 16, 3) := by decide +kernel
theorem dX5_shrinks_223 : decode cX5_shrinks 223 = .ok (.iload 5, 2) := by decide +kernel
theorem dX5_shrinks_225 : decode cX5_shrinks 225 = .ok (.iload_n 3, 1) := by decide +kernel
theorem dX5_shrinks_226 : decode cX5_shrinks 226 = .ok (.if_icmp .eq 10, 3) := by decide +kernel
theorem dX5_shrinks_229 : decode cX5_shrinks 229 = .ok (.aload_n 0, 1) := by decide +kernel
theorem dX5_shrinks_230 : decode cX5_shrinks 230 = .ok (.iload_n 2, 1) := by decide +kernel
theorem dX5_shrinks_231 : decode cX5_shrinks 231 = .ok (.iload 6, 2) := by decide +kernel
theorem dX5_shrinks_233 : decode cX5_shrinks 233 = .ok (.invokevirtual 56, 3) := by decide +kernel
theorem dX5_shrinks_236 : decode cX5_shrinks 236 = .ok (.goto (-195), 3) := by decide +kernel
theorem dX5_shrinks_239 : decode cX5_shrinks 239 = .ok (.aload_n 0, 1) := by decide +kernel
theorem dX5_shrinks_240 : decode cX5_shrinks 240 = .ok (.getfield 43, 3) := by decide +kernel
theorem dX5_shrinks_243 : decode cX5_shrinks 243 = .ok (.iconst 1, 1) := by decide +kernel
theorem dX5_shrinks_244 : decode cX5_shrinks 244 = .ok (.if_icmp .le 31, 3) := by decide +kernel
theorem dX5_shrinks_247 : decode cX5_shrinks 247 = .ok (.aload_n 0, 1) := by decide +kernel
theorem dX5_shrinks_248 : decode cX5_shrinks 248 = .ok (.aload_n 0, 1) := by decide +kernel
theorem dX5_shrinks_249 : decode cX5_shrinks 249 = .ok (.getfield 43, 3) := by decide +kernel
theorem dX5_shrinks_252 : decode cX5_shrinks 252 = .ok (.iconst 1, 1) := by decide +kernel
theorem dX5_shrinks_253 : decode cX5_shrinks 253 = .ok (.isub, 1) := by decide +kernel
theorem dX5_shrinks_254 : decode cX5_shrinks 254 = .ok (.iconst 0, 1) := by decide +kernel
theorem dX5_shrinks_255 : decode cX5_shrinks 255 = .ok (.invokevirtual 36, 3) := by decide +kernel
theorem dX5_shrinks_258 : decode cX5_shrinks 258 = .ok (.iconst 1, 1) := by decide +kernel
theorem dX5_shrinks_259 : decode cX5_shrinks 259 = .ok (.if_icmp .ne 16, 3) := by decide +kernel
theorem dX5_shrinks_262 : decode cX5_shrinks 262 = .ok (.aload_n 0, 1) := by decide +kernel
theorem dX5_shrinks_263 : decode cX5_shrinks 263 = .ok (.dup, 1) := by decide +kernel
theorem dX5_shrinks_264 : decode cX5_shrinks 264 = .ok (.getfield 43, 3) := by decide +kernel
theorem dX5_shrinks_267 : decode cX5_shrinks 267 = .ok (.iconst 1, 1) := by decide +kernel
theorem dX5_shrinks_268 : decode cX5_shrinks 268 = .ok (.isub, 1) := by decide +kernel
theorem dX5_shrinks_269 : decode cX5_shrinks 269 = .ok (.putfield 43, 3) := by decide +kernel
theorem dX5_shrinks_272 : decode cX5_shrinks 272 = .ok (.goto (-33), 3) := by decide +kernel
theorem dX5_shrinks_275 : decode cX5_shrinks 275 = .ok (.aload_n 0, 1) := by decide +kernel
theorem dX5_shrinks_276 : decode cX5_shrinks 276 = .ok (.aload_n 0, 1) := by decide +kernel
theorem dX5_shrinks_277 : decode cX5_shrinks 277 = .ok (.getfield 63, 3) := by decide +kernel
theorem dX5_shrinks_280 : decode cX5_shrinks 280 = .ok (.ifCond .ne 7, 3) := by decide +kernel
theorem dX5_shrinks_283 : decode cX5_shrinks 283 = .ok (.iconst 0, 1) := by decide +kernel
theorem dX5_shrinks_284 : decode cX5_shrinks 284 = .ok (.goto 7, 3) := by decide +kernel
theorem dX5_shrinks_287 : decode cX5_shrinks 287 = .ok (.aload_n 0, 1) := by decide +kernel
theorem dX5_shrinks_288 : decode cX5_shrinks 288 = .ok (.getfield 43, 3) := by decide +kernel
theorem dX5_shrinks_291 : decode cX5_shrinks 291 = .ok (.putfield 43, 3) := by decide +kernel
theorem dX5_shrinks_294 : decode cX5_shrinks 294 = .ok (.return_, 1) := by decide +kernel
set_option maxRecDepth 20000 in
theorem ggX5_add_X5_isArea : GoodIn wsX5_add wsX5_isArea := goodIn_r _ [13] (by decide +kernel) (by decide +kernel)
set_option maxRecDepth 20000 in
theorem gX5_add_X5_isArea : GoodIn wsX5_add (va_wsS RX5 66 yX5_isArea wsX5_isArea) := goodIn_app (goodIn_of _ (by decide +kernel)) ggX5_add_X5_isArea
set_option maxRecDepth 20000 in
theorem ggX5_add_X5_fails : GoodIn wsX5_add wsX5_fails := goodIn_r _ [17, 18, 54, 55, 56, 57, 58, 59, 60, 61, 62, 63, 64, 65, 66, 67, 68, 69] (by decide +kernel) (by decide +kernel)
set_option maxRecDepth 20000 in
theorem gX5_add_X5_fails : GoodIn wsX5_add (wsV RX5 70 RX5 yX5_fails wsX5_fails) := goodIn_app (goodIn_of _ (by decide +kernel)) ggX5_add_X5_fails
set_option maxRecDepth 20000 in
theorem ggX5_add_X5_keyAt : GoodIn wsX5_add wsX5_keyAt := goodIn_r _ [21] (by decide +kernel) (by decide +kernel)
set_option maxRecDepth 20000 in
theorem gX5_add_X5_keyAt : GoodIn wsX5_add (va_wsS RX5 74 yX5_keyAt wsX5_keyAt) := goodIn_app (goodIn_of _ (by decide +kernel)) ggX5_add_X5_keyAt
set_option maxRecDepth 20000 in
theorem ggX5_add_X5_leafFor : GoodIn wsX5_add wsX5_leafFor := goodIn_r _ [25, 7, 8, 26, 27, 28, 12, 29, 30, 31, 32, 33, 9, 54, 55, 56, 57, 58, 59, 60, 61, 62, 63, 64, 65, 66, 67, 68, 69] (by decide +kernel) (by decide +kernel)
set_option maxRecDepth 20000 in
theorem gX5_add_X5_leafFor : GoodIn wsX5_add (wsV RX5 77 RX5 yX5_leafFor wsX5_leafFor) := goodIn_app (goodIn_of _ (by decide +kernel)) ggX5_add_X5_leafFor
set_option maxRecDepth 20000 in
theorem ggX5_add_X5_grows : GoodIn wsX5_add wsX5_grows := goodIn_r _ [37, 9, 7, 8, 30, 31, 32, 12, 33, 38, 39, 40, 41, 42, 43, 44, 45, 26, 27, 28, 29, 46, 47, 48, 49, 50, 51, 52, 53, 54, 55, 56, 57, 58, 59, 60, 61, 62, 63, 64, 65, 66, 67, 68, 69] (by decide +kernel) (by decide +kernel)
set_option maxRecDepth 20000 in
theorem gX5_add_X5_grows : GoodIn wsX5_add (wsV RX5 81 RX5 yX5_grows wsX5_grows) := goodIn_app (goodIn_of _ (by decide +kernel)) ggX5_add_X5_grows
theorem dX5_add_0 : decode cX5_add 0 = .ok (.aload_n 0, 1) := by decide +kernel
theorem dX5_add_1 : decode cX5_add 1 = .ok (.iload_n 1, 1) := by decide +kernel
theorem dX5_add_2 : decode cX5_add 2 = .ok (.iload_n 2, 1) := by decide +kernel
theorem dX5_add_3 : decode cX5_add 3 = .ok (.iload_n 3, 1) := by decide +kernel
theorem dX5_add_4 : decode cX5_add 4 = .ok (.iload 4, 2) := by decide +kernel
theorem dX5_add_6 : decode cX5_add 6 = .ok (.invokestatic 66, 3) := by decide +kernel
theorem dX5_add_9 : decode cX5_add 9 = .ok (.ifCond .ne 7, 3) := by decide +kernel
theorem dX5_add_12 : decode cX5_add 12 = .ok (.iconst 1, 1) := by decide +kernel
theorem dX5_add_13 : decode cX5_add 13 = .ok (.goto 26, 3) := by decide +kernel
theorem dX5_add_16 : decode cX5_add 16 = .ok (.aload_n 0, 1) := by decide +kernel
theorem dX5_add_17 : decode cX5_add 17 = .ok (.getfield 63, 3) := by decide +kernel
theorem dX5_add_20 : decode cX5_add 20 = .ok (.bipush 60, 2) := by decide +kernel
theorem dX5_add_22 : decode cX5_add 22 = .ok (.if_icmp .eq 12, 3) := by decide +kernel
theorem dX5_add_25 : decode cX5_add 25 = .ok (.aload_n 0, 1) := by decide +kernel
theorem dX5_add_26 : decode cX5_add 26 = .ok (.getfield 33, 3) := by decide +kernel
theorem dX5_add_29 : decode cX5_add 29 = .ok (.bipush 100, 2) := by decide +kernel
theorem dX5_add_31 : decode cX5_add 31 = .ok (.if_icmp .ne 7, 3) := by decide +kernel
theorem dX5_add_34 : decode cX5_add 34 = .ok (.iconst 2, 1) := by decide +kernel
theorem dX5_add_35 : decode cX5_add 35 = .ok (.goto 4, 3) := by decide +kernel
theorem dX5_add_38 : decode cX5_add 38 = .ok (.iconst 0, 1) := by decide +kernel
theorem dX5_add_39 : decode cX5_add 39 = .ok (.invokevirtual 70, 3) := by decide +kernel
theorem dX5_add_42 : decode cX5_add 42 = .ok (.ifCond .eq 5, 3) := by decide +kernel
theorem dX5_add_45 : decode cX5_add 45 = .ok (.iconst 0, 1) := by decide +kernel
theorem dX5_add_46 : decode cX5_add 46 = .ok (.ireturn, 1) := by decide +kernel
theorem dX5_add_47 : decode cX5_add 47 = .ok (.aload_n 0, 1) := by decide +kernel
theorem dX5_add_48 : decode cX5_add 48 = .ok (.getfield 7, 3) := by decide +kernel
theorem dX5_add_51 : decode cX5_add 51 = .ok (.iconst 4, 1) := by decide +kernel
theorem dX5_add_52 : decode cX5_add 52 = .ok (.aload_n 0, 1) := by decide +kernel
theorem dX5_add_53 : decode cX5_add 53 = .ok (.getfield 33, 3) := by decide +kernel
theorem dX5_add_56 : decode cX5_add 56 = .ok (.imul, 1) := by decide +kernel
theorem dX5_add_57 : decode cX5_add 57 = .ok (.iload_n 1, 1) := by decide +kernel
theorem dX5_add_58 : decode cX5_add 58 = .ok (.iastore, 1) := by decide +kernel
theorem dX5_add_59 : decode cX5_add 59 = .ok (.aload_n 0, 1) := by decide +kernel
theorem dX5_add_60 : decode cX5_add 60 = .ok (.getfield 7, 3) := by decide +kernel
theorem dX5_add_63 : decode cX5_add 63 = .ok (.iconst 4, 1) := by decide +kernel
theorem dX5_add_64 : decode cX5_add 64 = .ok (.aload_n 0, 1) := by decide +kernel
theorem dX5_add_65 : decode cX5_add 65 = .ok (.getfield 33, 3) := by decide +kernel
theorem dX5_add_68 : decode cX5_add 68 = .ok (.imul, 1) := by decide +kernel
theorem dX5_add_69 : decode cX5_add 69 = .ok (.iconst 1, 1) := by decide +kernel
theorem dX5_add_70 : decode cX5_add 70 = .ok (.iadd, 1) := by decide +kernel
theorem dX5_add_71 : decode cX5_add 71 = .ok (.iload_n 2, 1) := by decide +kernel
theorem dX5_add_72 : decode cX5_add 72 = .ok (.iastore, 1) := by decide +kernel
theorem dX5_add_73 : decode cX5_add 73 = .ok (.aload_n 0, 1) := by decide +kernel
theorem dX5_add_74 : decode cX5_add 74 = .ok (.getfield 7, 3) := by decide +kernel
theorem dX5_add_77 : decode cX5_add 77 = .ok (.iconst 4, 1) := by decide +kernel
theorem dX5_add_78 : decode cX5_add 78 = .ok (.aload_n 0, 1) := by decide +kernel
theorem dX5_add_79 : decode cX5_add 79 = .ok (.getfield 33, 3) := by decide +kernel
theorem dX5_add_82 : decode cX5_add 82 = .ok (.imul, 1) := by decide +kernel
theorem dX5_add_83 : decode cX5_add 83 = .ok (.iconst 2, 1) := by decide +kernel
theorem dX5_add_84 : decode cX5_add 84 = .ok (.iadd, 1) := by decide +kernel
theorem dX5_add_85 : decode cX5_add 85 = .ok (.iload_n 3, 1) := by decide +kernel
theorem dX5_add_86 : decode cX5_add 86 = .ok (.iastore, 1) := by decide +kernel
theorem dX5_add_87 : decode cX5_add 87 = .ok (.aload_n 0, 1) := by decide +kernel
theorem dX5_add_88 : decode cX5_add 88 = .ok (.getfield 7, 3) := by decide +kernel
theorem dX5_add_91 : decode cX5_add 91 = .ok (.iconst 4, 1) := by decide +kernel
theorem dX5_add_92 : decode cX5_add 92 = .ok (.aload_n 0, 1) := by decide +kernel
theorem dX5_add_93 : decode cX5_add 93 = .ok (.getfield 33, 3) := by decide +kernel
theorem dX5_add_96 : decode cX5_add 96 = .ok (.imul, 1) := by decide +kernel
theorem dX5_add_97 : decode cX5_add 97 = .ok (.iconst 3, 1) := by decide +kernel
theorem dX5_add_98 : decode cX5_add 98 = .ok (.iadd, 1) := by decide +kernel
theorem dX5_add_99 : decode cX5_add 99 = .ok (.iload 4, 2) := by decide +kernel
theorem dX5_add_101 : decode cX5_add 101 = .ok (.iastore, 1) := by decide +kernel
theorem dX5_add_102 : decode cX5_add 102 = .ok (.aload_n 0, 1) := by decide +kernel
theorem dX5_add_103 : decode cX5_add 103 = .ok (.getfield 13, 3) := by decide +kernel
theorem dX5_add_106 : decode cX5_add 106 = .ok (.aload_n 0, 1) := by decide +kernel
theorem dX5_add_107 : decode cX5_add 107 = .ok (.getfield 33, 3) := by decide +kernel
theorem dX5_add_110 : decode cX5_add 110 = .ok (.iload_n 1, 1) := by decide +kernel
theorem dX5_add_111 : decode cX5_add 111 = .ok (.iload_n 3, 1) := by decide +kernel
theorem dX5_add_112 : decode cX5_add 112 = .ok (.iadd, 1) := by decide +kernel
theorem dX5_add_113 : decode cX5_add 113 = .ok (.iconst 2, 1) := by decide +kernel
theorem dX5_add_114 : decode cX5_add 114 = .ok (.idiv, 1) := by decide +kernel
theorem dX5_add_115 : decode cX5_add 115 = .ok (.iload_n 2, 1) := by decide +kernel
theorem dX5_add_116 : decode cX5_add 116 = .ok (.iload 4, 2) := by decide +kernel
theorem dX5_add_118 : decode cX5_add 118 = .ok (.iadd, 1) := by decide +kernel
theorem dX5_add_119 : decode cX5_add 119 = .ok (.iconst 2, 1) := by decide +kernel
theorem dX5_add_120 : decode cX5_add 120 = .ok (.idiv, 1) := by decide +kernel
theorem dX5_add_121 : decode cX5_add 121 = .ok (.invokestatic 74, 3) := by decide +kernel
theorem dX5_add_124 : decode cX5_add 124 = .ok (.iastore, 1) := by decide +kernel
theorem dX5_add_125 : decode cX5_add 125 = .ok (.aload_n 0, 1) := by decide +kernel
theorem dX5_add_126 : decode cX5_add 126 = .ok (.getfield 16, 3) := by decide +kernel
theorem dX5_add_129 : decode cX5_add 129 = .ok (.aload_n 0, 1) := by decide +kernel
theorem dX5_add_130 : decode cX5_add 130 = .ok (.getfield 33, 3) := by decide +kernel
theorem dX5_add_133 : decode cX5_add 133 = .ok (.iconst 1, 1) := by decide +kernel
theorem dX5_add_134 : decode cX5_add 134 = .ok (.bastore, 1) := by decide +kernel
theorem dX5_add_135 : decode cX5_add 135 = .ok (.iconst 0, 1) := by decide +kernel
theorem dX5_add_136 : decode cX5_add 136 = .ok (.istore 5, 2) := by decide +kernel
theorem dX5_add_138 : decode cX5_add 138 = .ok (.iload 5, 2) := by decide +kernel
theorem dX5_add_140 : decode cX5_add 140 = .ok (.aload_n 0, 1) := by decide +kernel
theorem dX5_add_141 : decode cX5_add 141 = .ok (.getfield 63, 3) := by decide +kernel
theorem dX5_add_144 : decode cX5_add 144 = .ok (.if_icmp .ge 33, 3) := by decide +kernel
theorem dX5_add_147 : decode cX5_add 147 = .ok (.aload_n 0, 1) := by decide +kernel
theorem dX5_add_148 : decode cX5_add 148 = .ok (.getfield 13, 3) := by decide +kernel
theorem dX5_add_151 : decode cX5_add 151 = .ok (.aload_n 0, 1) := by decide +kernel
theorem dX5_add_152 : decode cX5_add 152 = .ok (.getfield 20, 3) := by decide +kernel
theorem dX5_add_155 : decode cX5_add 155 = .ok (.iload 5, 2) := by decide +kernel
theorem dX5_add_157 : decode cX5_add 157 = .ok (.iaload, 1) := by decide +kernel
theorem dX5_add_158 : decode cX5_add 158 = .ok (.iaload, 1) := by decide +kernel
theorem dX5_add_159 : decode cX5_add 159 = .ok (.aload_n 0, 1) := by decide +kernel
theorem dX5_add_160 : decode cX5_add 160 = .ok (.getfield 13, 3) := by decide +kernel
theorem dX5_add_163 : decode cX5_add 163 = .ok (.aload_n 0, 1) := by decide +kernel
theorem dX5_add_164 : decode cX5_add 164 = .ok (.getfield 33, 3) := by decide +kernel
theorem dX5_add_167 : decode cX5_add 167 = .ok (.iaload, 1) := by decide +kernel
theorem dX5_add_168 : decode cX5_add 168 = .ok (.if_icmp .gt 9, 3) := by decide +kernel
theorem dX5_add_171 : decode cX5_add 171 = .ok (.iinc 5 1, 3) := by decide +kernel
theorem dX5_add_174 : decode cX5_add 174 = .ok (.goto (-36), 3) := by decide +kernel
theorem dX5_add_177 : decode cX5_add 177 = .ok (.aload_n 0, 1) := by decide +kernel
theorem dX5_add_178 : decode cX5_add 178 = .ok (.iload 5, 2) := by decide +kernel
theorem dX5_add_180 : decode cX5_add 180 = .ok (.invokevirtual 77, 3) := by decide +kernel
theorem dX5_add_183 : decode cX5_add 183 = .ok (.istore 6, 2) := by decide +kernel
theorem dX5_add_185 : decode cX5_add 185 = .ok (.aload_n 0, 1) := by decide +kernel
theorem dX5_add_186 : decode cX5_add 186 = .ok (.getfield 63, 3) := by decide +kernel
theorem dX5_add_189 : decode cX5_add 189 = .ok (.istore 7, 2) := by decide +kernel
theorem dX5_add_191 : decode cX5_add 191 = .ok (.iload 7, 2) := by decide +kernel
theorem dX5_add_193 : decode cX5_add 193 = .ok (.iload 5, 2) := by decide +kernel
theorem dX5_add_195 : decode cX5_add 195 = .ok (.if_icmp .le 25, 3) := by decide +kernel
theorem dX5_add_198 : decode cX5_add 198 = .ok (.aload_n 0, 1) := by decide +kernel
theorem dX5_add_199 : decode cX5_add 199 = .ok (.getfield 20, 3) := by decide +kernel
theorem dX5_add_202 : decode cX5_add 202 = .ok (.iload 7, 2) := by decide +kernel
theorem dX5_add_204 : decode cX5_add 204 = .ok (.aload_n 0, 1) := by decide +kernel
theorem dX5_add_205 : decode cX5_add 205 = .ok (.getfield 20, 3) := by decide +kernel
theorem dX5_add_208 : decode cX5_add 208 = .ok (.iload 7, 2) := by decide +kernel
theorem dX5_add_210 : decode cX5_add 210 = .ok (.iconst 1, 1) := by decide +kernel
theorem dX5_add_211 : decode cX5_add 211 = .ok (.isub, 1) := by decide +kernel
theorem dX5_add_212 : decode cX5_add 212 = .ok (.iaload, 1) := by decide +kernel
theorem dX5_add_213 : decode cX5_add 213 = .ok (.iastore, 1) := by decide +kernel
theorem dX5_add_214 : decode cX5_add 214 = .ok (.iinc 7 (-1), 3) := by decide +kernel
theorem dX5_add_217 : decode cX5_add 217 = .ok (.goto (-26), 3) := by decide +kernel
theorem dX5_add_220 : decode cX5_add 220 = .ok (.aload_n 0, 1) := by decide +kernel
theorem dX5_add_221 : decode cX5_add 221 = .ok (.getfield 20, 3) := by decide +kernel
theorem dX5_add_224 : decode cX5_add 224 = .ok (.iload 5, 2) := by decide +kernel
theorem dX5_add_226 : decode cX5_add 226 = .ok (.aload_n 0, 1) := by decide +kernel
theorem dX5_add_227 : decode cX5_add 227 = .ok (.getfield 33, 3) := by decide +kernel
theorem dX5_add_230 : decode cX5_add 230 = .ok (.iastore, 1) := by decide +kernel
theorem dX5_add_231 : decode cX5_add 231 = .ok (.aload_n 0, 1) := by decide +kernel
theorem dX5_add_232 : decode cX5_add 232 = .ok (.dup, 1) := by decide +kernel
theorem dX5_add_233 : decode cX5_add 233 = .ok (.getfield 63, 3) := by decide +kernel
theorem dX5_add_236 : decode cX5_add 236 = .ok (.iconst 1, 1) := by decide +kernel
theorem dX5_add_237 : decode cX5_add 237 = .ok (.iadd, 1) := by decide +kernel
theorem dX5_add_238 : decode cX5_add 238 = .ok (.putfield 63, 3) := by decide +kernel
theorem dX5_add_241 : decode cX5_add 241 = .ok (.aload_n 0, 1) := by decide +kernel
theorem dX5_add_242 : decode cX5_add 242 = .ok (.dup, 1) := by decide +kernel
theorem dX5_add_243 : decode cX5_add 243 = .ok (.getfield 33, 3) := by decide +kernel
theorem dX5_add_246 : decode cX5_add 246 = .ok (.iconst 1, 1) := by decide +kernel
theorem dX5_add_247 : decode cX5_add 247 = .ok (.iadd, 1) := by decide +kernel
theorem dX5_add_248 : decode cX5_add 248 = .ok (.putfield 33, 3) := by decide +kernel
theorem dX5_add_251 : decode cX5_add 251 = .ok (.aload_n 0, 1) := by decide +kernel
theorem dX5_add_252 : decode cX5_add 252 = .ok (.getfield 43, 3) := by decide +kernel
theorem dX5_add_255 : decode cX5_add 255 = .ok (.ifCond .ne 25, 3) := by decide +kernel
theorem dX5_add_258 : decode cX5_add 258 = .ok (.aload_n 0, 1) := by decide +kernel
theorem dX5_add_259 : decode cX5_add 259 = .ok (.iconst 1, 1) := by decide +kernel
theorem dX5_add_260 : decode cX5_add 260 = .ok (.putfield 43, 3) := by decide +kernel
theorem dX5_add_263 : decode cX5_add 263 = .ok (.aload_n 0, 1) := by decide +kernel
theorem dX5_add_264 : decode cX5_add 264 = .ok (.getfield 23, 3) := by decide +kernel
theorem dX5_add_267 : decode cX5_add 267 = .ok (.iconst 0, 1) := by decide +kernel
theorem dX5_add_268 : decode cX5_add 268 = .ok (.iconst 1, 1) := by decide +kernel
theorem dX5_add_269 : decode cX5_add 269 = .ok (.iastore, 1) := by decide +kernel
theorem dX5_add_270 : decode cX5_add 270 = .ok (.aload_n 0, 1) := by decide +kernel
theorem dX5_add_271 : decode cX5_add 271 = .ok (.getfield 26, 3) := by decide +kernel
theorem dX5_add_274 : decode cX5_add 274 = .ok (.iconst 0, 1) := by decide +kernel
theorem dX5_add_275 : decode cX5_add 275 = .ok (.iconst 1, 1) := by decide +kernel
theorem dX5_add_276 : decode cX5_add 276 = .ok (.iastore, 1) := by decide +kernel
theorem dX5_add_277 : decode cX5_add 277 = .ok (.goto 10, 3) := by decide +kernel
theorem dX5_add_280 : decode cX5_add 280 = .ok (.aload_n 0, 1) := by decide +kernel
theorem dX5_add_281 : decode cX5_add 281 = .ok (.iconst 0, 1) := by decide +kernel
theorem dX5_add_282 : decode cX5_add 282 = .ok (.iload 6, 2) := by decide +kernel
theorem dX5_add_284 : decode cX5_add 284 = .ok (.invokevirtual 81, 3) := by decide +kernel
theorem dX5_add_287 : decode cX5_add 287 = .ok (.aload_n 0, 1) := by decide +kernel
theorem dX5_add_288 : decode cX5_add 288 = .ok (.getfield 33, 3) := by decide +kernel
theorem dX5_add_291 : decode cX5_add 291 = .ok (.iconst 1, 1) := by decide +kernel
theorem dX5_add_292 : decode cX5_add 292 = .ok (.isub, 1) := by decide +kernel
theorem dX5_add_293 : decode cX5_add 293 = .ok (.ireturn, 1) := by decide +kernel
set_option maxRecDepth 20000 in
theorem ggX5_leafFor_X5_ahead : GoodIn wsX5_leafFor wsX5_ahead := goodIn_r _ [7, 8, 9, 10, 6, 11, 12, 13, 14, 15, 16, 17, 18, 19, 20, 21, 22, 23, 24, 25, 26, 27, 28] (by decide +kernel) (by decide +kernel)
set_option maxRecDepth 20000 in
theorem gX5_leafFor_X5_ahead : GoodIn wsX5_leafFor (wsV RX5 40 RX5 yX5_ahead wsX5_ahead) := goodIn_app (goodIn_of _ (by decide +kernel)) ggX5_leafFor_X5_ahead
theorem dX5_leafFor_0 : decode cX5_leafFor 0 = .ok (.iconst 0, 1) := by decide +kernel
theorem dX5_leafFor_1 : decode cX5_leafFor 1 = .ok (.istore_n 2, 1) := by decide +kernel
theorem dX5_leafFor_2 : decode cX5_leafFor 2 = .ok (.aload_n 0, 1) := by decide +kernel
theorem dX5_leafFor_3 : decode cX5_leafFor 3 = .ok (.getfield 43, 3) := by decide +kernel
theorem dX5_leafFor_6 : decode cX5_leafFor 6 = .ok (.ifCond .le 33, 3) := by decide +kernel
theorem dX5_leafFor_9 : decode cX5_leafFor 9 = .ok (.iload_n 2, 1) := by decide +kernel
theorem dX5_leafFor_10 : decode cX5_leafFor 10 = .ok (.iconst 1, 1) := by decide +kernel
theorem dX5_leafFor_11 : decode cX5_leafFor 11 = .ok (.iadd, 1) := by decide +kernel
theorem dX5_leafFor_12 : decode cX5_leafFor 12 = .ok (.aload_n 0, 1) := by decide +kernel
theorem dX5_leafFor_13 : decode cX5_leafFor 13 = .ok (.getfield 23, 3) := by decide +kernel
theorem dX5_leafFor_16 : decode cX5_leafFor 16 = .ok (.iconst 0, 1) := by decide +kernel
theorem dX5_leafFor_17 : decode cX5_leafFor 17 = .ok (.iaload, 1) := by decide +kernel
theorem dX5_leafFor_18 : decode cX5_leafFor 18 = .ok (.if_icmp .ge 21, 3) := by decide +kernel
end
section
theorem dX5_leafFor_21 : decode cX5_leafFor 21 = .ok (.aload_n 0, 1) := by decide +kernel
theorem dX5_leafFor_22 : decode cX5_leafFor 22 = .ok (.iconst 0, 1) := by decide +kernel
theorem dX5_leafFor_23 : decode cX5_leafFor 23 = .ok (.iload_n 2, 1) := by decide +kernel
theorem dX5_leafFor_24 : decode cX5_leafFor 24 = .ok (.iconst 1, 1) := by decide +kernel
theorem dX5_leafFor_25 : decode cX5_leafFor 25 = .ok (.iadd, 1) := by decide +kernel
theorem dX5_leafFor_26 : decode cX5_leafFor 26 = .ok (.invokevirtual 40, 3) := by decide +kernel
theorem dX5_leafFor_29 : decode cX5_leafFor 29 = .ok (.iload_n 1, 1) := by decide +kernel
theorem dX5_leafFor_30 : decode cX5_leafFor 30 = .ok (.if_icmp .gt 9, 3) := by decide +kernel
theorem dX5_leafFor_33 : decode cX5_leafFor 33 = .ok (.iinc 2 1, 3) := by decide +kernel
theorem dX5_leafFor_36 : decode cX5_leafFor 36 = .ok (.goto (-34), 3) := by decide +kernel
theorem dX5_leafFor_39 : decode cX5_leafFor 39 = .ok (.iload_n 2, 1) := by decide +kernel
theorem dX5_leafFor_40 : decode cX5_leafFor 40 = .ok (.ireturn, 1) := by decide +kernel
theorem dX5_placeOf_0 : decode cX5_placeOf 0 = .ok (.iconst 0, 1) := by decide +kernel
theorem dX5_placeOf_1 : decode cX5_placeOf 1 = .ok (.istore_n 2, 1) := by decide +kernel
theorem dX5_placeOf_2 : decode cX5_placeOf 2 = .ok (.aload_n 0, 1) := by decide +kernel
theorem dX5_placeOf_3 : decode cX5_placeOf 3 = .ok (.getfield 20, 3) := by decide +kernel
theorem dX5_placeOf_6 : decode cX5_placeOf 6 = .ok (.iload_n 2, 1) := by decide +kernel
theorem dX5_placeOf_7 : decode cX5_placeOf 7 = .ok (.iaload, 1) := by decide +kernel
theorem dX5_placeOf_8 : decode cX5_placeOf 8 = .ok (.iload_n 1, 1) := by decide +kernel
theorem dX5_placeOf_9 : decode cX5_placeOf 9 = .ok (.if_icmp .eq 9, 3) := by decide +kernel
theorem dX5_placeOf_12 : decode cX5_placeOf 12 = .ok (.iinc 2 1, 3) := by decide +kernel
theorem dX5_placeOf_15 : decode cX5_placeOf 15 = .ok (.goto (-13), 3) := by decide +kernel
theorem dX5_placeOf_18 : decode cX5_placeOf 18 = .ok (.iload_n 2, 1) := by decide +kernel
theorem dX5_placeOf_19 : decode cX5_placeOf 19 = .ok (.ireturn, 1) := by decide +kernel
set_option maxRecDepth 20000 in
theorem ggX5_remove_X5_is : GoodIn wsX5_remove wsX5_is := goodIn_r _ [8, 9, 1, 54, 55, 56, 57, 58, 59, 60, 61, 62, 63, 64, 65, 66, 67, 68, 69] (by decide +kernel) (by decide +kernel)
set_option maxRecDepth 20000 in
theorem gX5_remove_X5_is : GoodIn wsX5_remove (wsV RX5 84 RX5 yX5_is wsX5_is) := goodIn_app (goodIn_of _ (by decide +kernel)) ggX5_remove_X5_is
set_option maxRecDepth 20000 in
theorem ggX5_remove_X5_fails : GoodIn wsX5_remove wsX5_fails := goodIn_r _ [13, 14, 54, 55, 56, 57, 58, 59, 60, 61, 62, 63, 64, 65, 66, 67, 68, 69] (by decide +kernel) (by decide +kernel)
set_option maxRecDepth 20000 in
theorem gX5_remove_X5_fails : GoodIn wsX5_remove (wsV RX5 70 RX5 yX5_fails wsX5_fails) := goodIn_app (goodIn_of _ (by decide +kernel)) ggX5_remove_X5_fails
set_option maxRecDepth 20000 in
theorem ggX5_remove_X5_placeOf : GoodIn wsX5_remove wsX5_placeOf := goodIn_r _ [18, 3, 54, 55, 56, 57, 58, 59, 60, 61, 62, 63, 64, 65, 66, 67, 68, 69] (by decide +kernel) (by decide +kernel)
set_option maxRecDepth 20000 in
theorem gX5_remove_X5_placeOf : GoodIn wsX5_remove (wsV RX5 87 RX5 yX5_placeOf wsX5_placeOf) := goodIn_app (goodIn_of _ (by decide +kernel)) ggX5_remove_X5_placeOf
set_option maxRecDepth 20000 in
theorem ggX5_remove_X5_leafFor : GoodIn wsX5_remove wsX5_leafFor := goodIn_r _ [22, 23, 24, 25, 26, 27, 7, 28, 29, 30, 31, 32, 33, 54, 55, 56, 57, 58, 59, 60, 61, 62, 63, 64, 65, 66, 67, 68, 69] (by decide +kernel) (by decide +kernel)
set_option maxRecDepth 20000 in
theorem gX5_remove_X5_leafFor : GoodIn wsX5_remove (wsV RX5 77 RX5 yX5_leafFor wsX5_leafFor) := goodIn_app (goodIn_of _ (by decide +kernel)) ggX5_remove_X5_leafFor
set_option maxRecDepth 20000 in
theorem ggX5_remove_X5_shrinks : GoodIn wsX5_remove wsX5_shrinks := goodIn_r _ [37, 33, 23, 2, 29, 30, 31, 7, 32, 38, 39, 40, 41, 42, 43, 44, 45, 25, 26, 27, 28, 46, 47, 48, 49, 24, 50, 51, 52, 53, 54, 55, 56, 57, 58, 59, 60, 61, 62, 63, 64, 65, 66, 67, 68, 69] (by decide +kernel) (by decide +kernel)
set_option maxRecDepth 20000 in
theorem gX5_remove_X5_shrinks : GoodIn wsX5_remove (wsV RX5 90 RX5 yX5_shrinks wsX5_shrinks) := goodIn_app (goodIn_of _ (by decide +kernel)) ggX5_remove_X5_shrinks
theorem dX5_remove_0 : decode cX5_remove 0 = .ok (.aload_n 0, 1) := by decide +kernel
theorem dX5_remove_1 : decode cX5_remove 1 = .ok (.aload_n 0, 1) := by decide +kernel
theorem dX5_remove_2 : decode cX5_remove 2 = .ok (.iload_n 1, 1) := by decide +kernel
theorem dX5_remove_3 : decode cX5_remove 3 = .ok (.invokevirtual 84, 3) := by decide +kernel
theorem dX5_remove_6 : decode cX5_remove 6 = .ok (.ifCond .eq 7, 3) := by decide +kernel
theorem dX5_remove_9 : decode cX5_remove 9 = .ok (.iconst 0, 1) := by decide +kernel
theorem dX5_remove_10 : decode cX5_remove 10 = .ok (.goto 4, 3) := by decide +kernel
theorem dX5_remove_13 : decode cX5_remove 13 = .ok (.iconst 1, 1) := by decide +kernel
theorem dX5_remove_14 : decode cX5_remove 14 = .ok (.invokevirtual 70, 3) := by decide +kernel
theorem dX5_remove_17 : decode cX5_remove 17 = .ok (.ifCond .eq 5, 3) := by decide +kernel
theorem dX5_remove_20 : decode cX5_remove 20 = .ok (.iconst 0, 1) := by decide +kernel
theorem dX5_remove_21 : decode cX5_remove 21 = .ok (.ireturn, 1) := by decide +kernel
theorem dX5_remove_22 : decode cX5_remove 22 = .ok (.aload_n 0, 1) := by decide +kernel
theorem dX5_remove_23 : decode cX5_remove 23 = .ok (.iload_n 1, 1) := by decide +kernel
theorem dX5_remove_24 : decode cX5_remove 24 = .ok (.invokevirtual 87, 3) := by decide +kernel
theorem dX5_remove_27 : decode cX5_remove 27 = .ok (.istore_n 2, 1) := by decide +kernel
theorem dX5_remove_28 : decode cX5_remove 28 = .ok (.aload_n 0, 1) := by decide +kernel
theorem dX5_remove_29 : decode cX5_remove 29 = .ok (.iload_n 2, 1) := by decide +kernel
theorem dX5_remove_30 : decode cX5_remove 30 = .ok (.invokevirtual 77, 3) := by decide +kernel
theorem dX5_remove_33 : decode cX5_remove 33 = .ok (.istore_n 3, 1) := by decide +kernel
theorem dX5_remove_34 : decode cX5_remove 34 = .ok (.aload_n 0, 1) := by decide +kernel
theorem dX5_remove_35 : decode cX5_remove 35 = .ok (.getfield 16, 3) := by decide +kernel
theorem dX5_remove_38 : decode cX5_remove 38 = .ok (.iload_n 1, 1) := by decide +kernel
theorem dX5_remove_39 : decode cX5_remove 39 = .ok (.iconst 0, 1) := by decide +kernel
theorem dX5_remove_40 : decode cX5_remove 40 = .ok (.bastore, 1) := by decide +kernel
theorem dX5_remove_41 : decode cX5_remove 41 = .ok (.aload_n 0, 1) := by decide +kernel
theorem dX5_remove_42 : decode cX5_remove 42 = .ok (.dup, 1) := by decide +kernel
theorem dX5_remove_43 : decode cX5_remove 43 = .ok (.getfield 63, 3) := by decide +kernel
theorem dX5_remove_46 : decode cX5_remove 46 = .ok (.iconst 1, 1) := by decide +kernel
theorem dX5_remove_47 : decode cX5_remove 47 = .ok (.isub, 1) := by decide +kernel
theorem dX5_remove_48 : decode cX5_remove 48 = .ok (.putfield 63, 3) := by decide +kernel
theorem dX5_remove_51 : decode cX5_remove 51 = .ok (.iload_n 2, 1) := by decide +kernel
theorem dX5_remove_52 : decode cX5_remove 52 = .ok (.istore 4, 2) := by decide +kernel
theorem dX5_remove_54 : decode cX5_remove 54 = .ok (.iload 4, 2) := by decide +kernel
theorem dX5_remove_56 : decode cX5_remove 56 = .ok (.aload_n 0, 1) := by decide +kernel
theorem dX5_remove_57 : decode cX5_remove 57 = .ok (.getfield 63, 3) := by decide +kernel
theorem dX5_remove_60 : decode cX5_remove 60 = .ok (.if_icmp .ge 25, 3) := by decide +kernel
theorem dX5_remove_63 : decode cX5_remove 63 = .ok (.aload_n 0, 1) := by decide +kernel
theorem dX5_remove_64 : decode cX5_remove 64 = .ok (.getfield 20, 3) := by decide +kernel
theorem dX5_remove_67 : decode cX5_remove 67 = .ok (.iload 4, 2) := by decide +kernel
theorem dX5_remove_69 : decode cX5_remove 69 = .ok (.aload_n 0, 1) := by decide +kernel
theorem dX5_remove_70 : decode cX5_remove 70 = .ok (.getfield 20, 3) := by decide +kernel
theorem dX5_remove_73 : decode cX5_remove 73 = .ok (.iload 4, 2) := by decide +kernel
theorem dX5_remove_75 : decode cX5_remove 75 = .ok (.iconst 1, 1) := by decide +kernel
theorem dX5_remove_76 : decode cX5_remove 76 = .ok (.iadd, 1) := by decide +kernel
theorem dX5_remove_77 : decode cX5_remove 77 = .ok (.iaload, 1) := by decide +kernel
theorem dX5_remove_78 : decode cX5_remove 78 = .ok (.iastore, 1) := by decide +kernel
theorem dX5_remove_79 : decode cX5_remove 79 = .ok (.iinc 4 1, 3) := by decide +kernel
theorem dX5_remove_82 : decode cX5_remove 82 = .ok (.goto (-28), 3) := by decide +kernel
theorem dX5_remove_85 : decode cX5_remove 85 = .ok (.aload_n 0, 1) := by decide +kernel
theorem dX5_remove_86 : decode cX5_remove 86 = .ok (.iload_n 3, 1) := by decide +kernel
theorem dX5_remove_87 : decode cX5_remove 87 = .ok (.invokevirtual 90, 3) := by decide +kernel
theorem dX5_remove_90 : decode cX5_remove 90 = .ok (.aload_n 0, 1) := by decide +kernel
theorem dX5_remove_91 : decode cX5_remove 91 = .ok (.getfield 63, 3) := by decide +kernel
theorem dX5_remove_94 : decode cX5_remove 94 = .ok (.ireturn, 1) := by decide +kernel
theorem dX5_pack_0 : decode cX5_pack 0 = .ok (.aload_n 0, 1) := by decide +kernel
theorem dX5_pack_1 : decode cX5_pack 1 = .ok (.iconst 0, 1) := by decide +kernel
theorem dX5_pack_2 : decode cX5_pack 2 = .ok (.putfield 29, 3) := by decide +kernel
theorem dX5_pack_5 : decode cX5_pack 5 = .ok (.aload_n 0, 1) := by decide +kernel
theorem dX5_pack_6 : decode cX5_pack 6 = .ok (.getfield 63, 3) := by decide +kernel
theorem dX5_pack_9 : decode cX5_pack 9 = .ok (.istore_n 1, 1) := by decide +kernel
theorem dX5_pack_10 : decode cX5_pack 10 = .ok (.aload_n 0, 1) := by decide +kernel
theorem dX5_pack_11 : decode cX5_pack 11 = .ok (.iconst 0, 1) := by decide +kernel
theorem dX5_pack_12 : decode cX5_pack 12 = .ok (.putfield 43, 3) := by decide +kernel
theorem dX5_pack_15 : decode cX5_pack 15 = .ok (.iload_n 1, 1) := by decide +kernel
theorem dX5_pack_16 : decode cX5_pack 16 = .ok (.iconst 1, 1) := by decide +kernel
theorem dX5_pack_17 : decode cX5_pack 17 = .ok (.if_icmp .gt 14, 3) := by decide +kernel
theorem dX5_pack_20 : decode cX5_pack 20 = .ok (.iload_n 1, 1) := by decide +kernel
theorem dX5_pack_21 : decode cX5_pack 21 = .ok (.ifCond .le 100, 3) := by decide +kernel
theorem dX5_pack_24 : decode cX5_pack 24 = .ok (.aload_n 0, 1) := by decide +kernel
theorem dX5_pack_25 : decode cX5_pack 25 = .ok (.getfield 43, 3) := by decide +kernel
theorem dX5_pack_28 : decode cX5_pack 28 = .ok (.ifCond .ne 93, 3) := by decide +kernel
theorem dX5_pack_31 : decode cX5_pack 31 = .ok (.aload_n 0, 1) := by decide +kernel
theorem dX5_pack_32 : decode cX5_pack 32 = .ok (.getfield 23, 3) := by decide +kernel
theorem dX5_pack_35 : decode cX5_pack 35 = .ok (.aload_n 0, 1) := by decide +kernel
theorem dX5_pack_36 : decode cX5_pack 36 = .ok (.getfield 43, 3) := by decide +kernel
theorem dX5_pack_39 : decode cX5_pack 39 = .ok (.iload_n 1, 1) := by decide +kernel
theorem dX5_pack_40 : decode cX5_pack 40 = .ok (.iconst 4, 1) := by decide +kernel
theorem dX5_pack_41 : decode cX5_pack 41 = .ok (.iadd, 1) := by decide +kernel
theorem dX5_pack_42 : decode cX5_pack 42 = .ok (.iconst 1, 1) := by decide +kernel
theorem dX5_pack_43 : decode cX5_pack 43 = .ok (.isub, 1) := by decide +kernel
theorem dX5_pack_44 : decode cX5_pack 44 = .ok (.iconst 4, 1) := by decide +kernel
theorem dX5_pack_45 : decode cX5_pack 45 = .ok (.idiv, 1) := by decide +kernel
theorem dX5_pack_46 : decode cX5_pack 46 = .ok (.iastore, 1) := by decide +kernel
theorem dX5_pack_47 : decode cX5_pack 47 = .ok (.iconst 0, 1) := by decide +kernel
theorem dX5_pack_48 : decode cX5_pack 48 = .ok (.istore_n 2, 1) := by decide +kernel
theorem dX5_pack_49 : decode cX5_pack 49 = .ok (.iload_n 2, 1) := by decide +kernel
theorem dX5_pack_50 : decode cX5_pack 50 = .ok (.aload_n 0, 1) := by decide +kernel
theorem dX5_pack_51 : decode cX5_pack 51 = .ok (.getfield 23, 3) := by decide +kernel
theorem dX5_pack_54 : decode cX5_pack 54 = .ok (.aload_n 0, 1) := by decide +kernel
theorem dX5_pack_55 : decode cX5_pack 55 = .ok (.getfield 43, 3) := by decide +kernel
theorem dX5_pack_58 : decode cX5_pack 58 = .ok (.iaload, 1) := by decide +kernel
theorem dX5_pack_59 : decode cX5_pack 59 = .ok (.if_icmp .ge 39, 3) := by decide +kernel
theorem dX5_pack_62 : decode cX5_pack 62 = .ok (.iload_n 1, 1) := by decide +kernel
theorem dX5_pack_63 : decode cX5_pack 63 = .ok (.iconst 4, 1) := by decide +kernel
theorem dX5_pack_64 : decode cX5_pack 64 = .ok (.iload_n 2, 1) := by decide +kernel
theorem dX5_pack_65 : decode cX5_pack 65 = .ok (.imul, 1) := by decide +kernel
theorem dX5_pack_66 : decode cX5_pack 66 = .ok (.isub, 1) := by decide +kernel
theorem dX5_pack_67 : decode cX5_pack 67 = .ok (.istore_n 3, 1) := by decide +kernel
theorem dX5_pack_68 : decode cX5_pack 68 = .ok (.aload_n 0, 1) := by decide +kernel
theorem dX5_pack_69 : decode cX5_pack 69 = .ok (.getfield 26, 3) := by decide +kernel
theorem dX5_pack_72 : decode cX5_pack 72 = .ok (.bipush 64, 2) := by decide +kernel
theorem dX5_pack_74 : decode cX5_pack 74 = .ok (.aload_n 0, 1) := by decide +kernel
theorem dX5_pack_75 : decode cX5_pack 75 = .ok (.getfield 43, 3) := by decide +kernel
theorem dX5_pack_78 : decode cX5_pack 78 = .ok (.imul, 1) := by decide +kernel
theorem dX5_pack_79 : decode cX5_pack 79 = .ok (.iload_n 2, 1) := by decide +kernel
theorem dX5_pack_80 : decode cX5_pack 80 = .ok (.iadd, 1) := by decide +kernel
theorem dX5_pack_81 : decode cX5_pack 81 = .ok (.iload_n 3, 1) := by decide +kernel
theorem dX5_pack_82 : decode cX5_pack 82 = .ok (.iconst 4, 1) := by decide +kernel
theorem dX5_pack_83 : decode cX5_pack 83 = .ok (.if_icmp .le 7, 3) := by decide +kernel
theorem dX5_pack_86 : decode cX5_pack 86 = .ok (.iconst 4, 1) := by decide +kernel
theorem dX5_pack_87 : decode cX5_pack 87 = .ok (.goto 4, 3) := by decide +kernel
theorem dX5_pack_90 : decode cX5_pack 90 = .ok (.iload_n 3, 1) := by decide +kernel
theorem dX5_pack_91 : decode cX5_pack 91 = .ok (.iastore, 1) := by decide +kernel
theorem dX5_pack_92 : decode cX5_pack 92 = .ok (.iinc 2 1, 3) := by decide +kernel
theorem dX5_pack_95 : decode cX5_pack 95 = .ok (.goto (-46), 3) := by decide +kernel
theorem dX5_pack_98 : decode cX5_pack 98 = .ok (.aload_n 0, 1) := by decide +kernel
theorem dX5_pack_99 : decode cX5_pack 99 = .ok (.getfield 23, 3) := by decide +kernel
theorem dX5_pack_102 : decode cX5_pack 102 = .ok (.aload_n 0, 1) := by decide +kernel
theorem dX5_pack_103 : decode cX5_pack 103 = .ok (.getfield 43, 3) := by decide +kernel
theorem dX5_pack_106 : decode cX5_pack 106 = .ok (.iaload, 1) := by decide +kernel
theorem dX5_pack_107 : decode cX5_pack 107 = .ok (.istore_n 1, 1) := by decide +kernel
theorem dX5_pack_108 : decode cX5_pack 108 = .ok (.aload_n 0, 1) := by decide +kernel
theorem dX5_pack_109 : decode cX5_pack 109 = .ok (.dup, 1) := by decide +kernel
theorem dX5_pack_110 : decode cX5_pack 110 = .ok (.getfield 43, 3) := by decide +kernel
theorem dX5_pack_113 : decode cX5_pack 113 = .ok (.iconst 1, 1) := by decide +kernel
theorem dX5_pack_114 : decode cX5_pack 114 = .ok (.iadd, 1) := by decide +kernel
theorem dX5_pack_115 : decode cX5_pack 115 = .ok (.putfield 43, 3) := by decide +kernel
theorem dX5_pack_118 : decode cX5_pack 118 = .ok (.goto (-103), 3) := by decide +kernel
theorem dX5_pack_121 : decode cX5_pack 121 = .ok (.aload_n 0, 1) := by decide +kernel
theorem dX5_pack_122 : decode cX5_pack 122 = .ok (.getfield 63, 3) := by decide +kernel
theorem dX5_pack_125 : decode cX5_pack 125 = .ok (.ifCond .ne 7, 3) := by decide +kernel
theorem dX5_pack_128 : decode cX5_pack 128 = .ok (.iconst 0, 1) := by decide +kernel
theorem dX5_pack_129 : decode cX5_pack 129 = .ok (.goto 9, 3) := by decide +kernel
theorem dX5_pack_132 : decode cX5_pack 132 = .ok (.aload_n 0, 1) := by decide +kernel
theorem dX5_pack_133 : decode cX5_pack 133 = .ok (.getfield 23, 3) := by decide +kernel
theorem dX5_pack_136 : decode cX5_pack 136 = .ok (.iconst 0, 1) := by decide +kernel
theorem dX5_pack_137 : decode cX5_pack 137 = .ok (.iaload, 1) := by decide +kernel
theorem dX5_pack_138 : decode cX5_pack 138 = .ok (.ireturn, 1) := by decide +kernel
set_option maxRecDepth 20000 in
theorem ggX5_boxes_X5_tells : GoodIn wsX5_boxes wsX5_tells := goodIn_r _ [6, 7, 8, 9, 10, 11, 12, 13, 14, 15, 16, 17, 18, 19, 20, 21, 22, 23] (by decide +kernel) (by decide +kernel)
set_option maxRecDepth 20000 in
theorem gX5_boxes_X5_tells : GoodIn wsX5_boxes (wsV RX5 94 RX5 yX5_tells wsX5_tells) := goodIn_app (goodIn_of _ (by decide +kernel)) ggX5_boxes_X5_tells
theorem dX5_boxes_0 : decode cX5_boxes 0 = .ok (.aload_n 0, 1) := by decide +kernel
theorem dX5_boxes_1 : decode cX5_boxes 1 = .ok (.aload_n 0, 1) := by decide +kernel
theorem dX5_boxes_2 : decode cX5_boxes 2 = .ok (.getfield 63, 3) := by decide +kernel
theorem dX5_boxes_5 : decode cX5_boxes 5 = .ok (.invokevirtual 94, 3) := by decide +kernel
theorem dX5_boxes_8 : decode cX5_boxes 8 = .ok (.ireturn, 1) := by decide +kernel
set_option maxRecDepth 20000 in
theorem ggX5_key_X5_isPoint : GoodIn wsX5_key wsX5_isPoint := goodIn_r _ [4] (by decide +kernel) (by decide +kernel)
set_option maxRecDepth 20000 in
theorem gX5_key_X5_isPoint : GoodIn wsX5_key (va_wsS RX5 97 yX5_isPoint wsX5_isPoint) := goodIn_app (goodIn_of _ (by decide +kernel)) ggX5_key_X5_isPoint
set_option maxRecDepth 20000 in
theorem ggX5_key_X5_fails : GoodIn wsX5_key wsX5_fails := goodIn_r _ [8, 9, 13, 14, 15, 16, 17, 18, 19, 20, 21, 22, 23, 24, 25, 26, 27, 28] (by decide +kernel) (by decide +kernel)
set_option maxRecDepth 20000 in
theorem gX5_key_X5_fails : GoodIn wsX5_key (wsV RX5 70 RX5 yX5_fails wsX5_fails) := goodIn_app (goodIn_of _ (by decide +kernel)) ggX5_key_X5_fails
set_option maxRecDepth 20000 in
theorem ggX5_key_X5_keyAt : GoodIn wsX5_key wsX5_keyAt := goodIn_r _ [12] (by decide +kernel) (by decide +kernel)
set_option maxRecDepth 20000 in
theorem gX5_key_X5_keyAt : GoodIn wsX5_key (va_wsS RX5 74 yX5_keyAt wsX5_keyAt) := goodIn_app (goodIn_of _ (by decide +kernel)) ggX5_key_X5_keyAt
theorem dX5_key_0 : decode cX5_key 0 = .ok (.aload_n 0, 1) := by decide +kernel
theorem dX5_key_1 : decode cX5_key 1 = .ok (.iload_n 1, 1) := by decide +kernel
theorem dX5_key_2 : decode cX5_key 2 = .ok (.iload_n 2, 1) := by decide +kernel
theorem dX5_key_3 : decode cX5_key 3 = .ok (.invokestatic 97, 3) := by decide +kernel
theorem dX5_key_6 : decode cX5_key 6 = .ok (.ifCond .eq 7, 3) := by decide +kernel
theorem dX5_key_9 : decode cX5_key 9 = .ok (.iconst 0, 1) := by decide +kernel
theorem dX5_key_10 : decode cX5_key 10 = .ok (.goto 4, 3) := by decide +kernel
theorem dX5_key_13 : decode cX5_key 13 = .ok (.iconst 1, 1) := by decide +kernel
theorem dX5_key_14 : decode cX5_key 14 = .ok (.invokevirtual 70, 3) := by decide +kernel
theorem dX5_key_17 : decode cX5_key 17 = .ok (.ifCond .eq 7, 3) := by decide +kernel
theorem dX5_key_20 : decode cX5_key 20 = .ok (.iconst 0, 1) := by decide +kernel
theorem dX5_key_21 : decode cX5_key 21 = .ok (.goto 8, 3) := by decide +kernel
theorem dX5_key_24 : decode cX5_key 24 = .ok (.iload_n 1, 1) := by decide +kernel
theorem dX5_key_25 : decode cX5_key 25 = .ok (.iload_n 2, 1) := by decide +kernel
theorem dX5_key_26 : decode cX5_key 26 = .ok (.invokestatic 74, 3) := by decide +kernel
theorem dX5_key_29 : decode cX5_key 29 = .ok (.ireturn, 1) := by decide +kernel
set_option maxRecDepth 20000 in
theorem ggX5_keyOf_X5_is : GoodIn wsX5_keyOf wsX5_is := goodIn_r _ [6, 7, 8, 14, 15, 16, 17, 18, 19, 20, 21, 22, 23, 24, 25, 26, 27, 28, 29] (by decide +kernel) (by decide +kernel)
set_option maxRecDepth 20000 in
theorem gX5_keyOf_X5_is : GoodIn wsX5_keyOf (wsV RX5 84 RX5 yX5_is wsX5_is) := goodIn_app (goodIn_of _ (by decide +kernel)) ggX5_keyOf_X5_is
set_option maxRecDepth 20000 in
theorem ggX5_keyOf_X5_fails : GoodIn wsX5_keyOf wsX5_fails := goodIn_r _ [12, 13, 14, 15, 16, 17, 18, 19, 20, 21, 22, 23, 24, 25, 26, 27, 28, 29] (by decide +kernel) (by decide +kernel)
set_option maxRecDepth 20000 in
theorem gX5_keyOf_X5_fails : GoodIn wsX5_keyOf (wsV RX5 70 RX5 yX5_fails wsX5_fails) := goodIn_app (goodIn_of _ (by decide +kernel)) ggX5_keyOf_X5_fails
theorem dX5_keyOf_0 : decode cX5_keyOf 0 = .ok (.aload_n 0, 1) := by decide +kernel
theorem dX5_keyOf_1 : decode cX5_keyOf 1 = .ok (.aload_n 0, 1) := by decide +kernel
theorem dX5_keyOf_2 : decode cX5_keyOf 2 = .ok (.iload_n 1, 1) := by decide +kernel
theorem dX5_keyOf_3 : decode cX5_keyOf 3 = .ok (.invokevirtual 84, 3) := by decide +kernel
theorem dX5_keyOf_6 : decode cX5_keyOf 6 = .ok (.ifCond .eq 7, 3) := by decide +kernel
theorem dX5_keyOf_9 : decode cX5_keyOf 9 = .ok (.iconst 0, 1) := by decide +kernel
theorem dX5_keyOf_10 : decode cX5_keyOf 10 = .ok (.goto 4, 3) := by decide +kernel
theorem dX5_keyOf_13 : decode cX5_keyOf 13 = .ok (.iconst 1, 1) := by decide +kernel
theorem dX5_keyOf_14 : decode cX5_keyOf 14 = .ok (.invokevirtual 70, 3) := by decide +kernel
theorem dX5_keyOf_17 : decode cX5_keyOf 17 = .ok (.ifCond .eq 7, 3) := by decide +kernel
theorem dX5_keyOf_20 : decode cX5_keyOf 20 = .ok (.iconst 0, 1) := by decide +kernel
theorem dX5_keyOf_21 : decode cX5_keyOf 21 = .ok (.goto 9, 3) := by decide +kernel
theorem dX5_keyOf_24 : decode cX5_keyOf 24 = .ok (.aload_n 0, 1) := by decide +kernel
theorem dX5_keyOf_25 : decode cX5_keyOf 25 = .ok (.getfield 13, 3) := by decide +kernel
theorem dX5_keyOf_28 : decode cX5_keyOf 28 = .ok (.iload_n 1, 1) := by decide +kernel
theorem dX5_keyOf_29 : decode cX5_keyOf 29 = .ok (.iaload, 1) := by decide +kernel
theorem dX5_keyOf_30 : decode cX5_keyOf 30 = .ok (.ireturn, 1) := by decide +kernel
theorem dX5_isSide_0 : decode cX5_isSide 0 = .ok (.iload_n 0, 1) := by decide +kernel
theorem dX5_isSide_1 : decode cX5_isSide 1 = .ok (.ifCond .lt 12, 3) := by decide +kernel
theorem dX5_isSide_4 : decode cX5_isSide 4 = .ok (.iload_n 0, 1) := by decide +kernel
theorem dX5_isSide_5 : decode cX5_isSide 5 = .ok (.iconst 4, 1) := by decide +kernel
theorem dX5_isSide_6 : decode cX5_isSide 6 = .ok (.if_icmp .ge 7, 3) := by decide +kernel
theorem dX5_isSide_9 : decode cX5_isSide 9 = .ok (.iconst 1, 1) := by decide +kernel
theorem dX5_isSide_10 : decode cX5_isSide 10 = .ok (.goto 4, 3) := by decide +kernel
theorem dX5_isSide_13 : decode cX5_isSide 13 = .ok (.iconst 0, 1) := by decide +kernel
theorem dX5_isSide_14 : decode cX5_isSide 14 = .ok (.ireturn, 1) := by decide +kernel
set_option maxRecDepth 20000 in
theorem ggX5_sideOf_X5_isSide : GoodIn wsX5_sideOf wsX5_isSide := goodIn_r _ [5] (by decide +kernel) (by decide +kernel)
set_option maxRecDepth 20000 in
theorem gX5_sideOf_X5_isSide : GoodIn wsX5_sideOf (va_wsS RX5 101 yX5_isSide wsX5_isSide) := goodIn_app (goodIn_of _ (by decide +kernel)) ggX5_sideOf_X5_isSide
set_option maxRecDepth 20000 in
theorem ggX5_sideOf_X5_is : GoodIn wsX5_sideOf wsX5_is := goodIn_r _ [9, 10, 11, 17, 18, 19, 20, 21, 22, 23, 24, 25, 26, 27, 28, 29, 30, 31, 32] (by decide +kernel) (by decide +kernel)
set_option maxRecDepth 20000 in
theorem gX5_sideOf_X5_is : GoodIn wsX5_sideOf (wsV RX5 84 RX5 yX5_is wsX5_is) := goodIn_app (goodIn_of _ (by decide +kernel)) ggX5_sideOf_X5_is
set_option maxRecDepth 20000 in
theorem ggX5_sideOf_X5_fails : GoodIn wsX5_sideOf wsX5_fails := goodIn_r _ [15, 16, 17, 18, 19, 20, 21, 22, 23, 24, 25, 26, 27, 28, 29, 30, 31, 32] (by decide +kernel) (by decide +kernel)
set_option maxRecDepth 20000 in
theorem gX5_sideOf_X5_fails : GoodIn wsX5_sideOf (wsV RX5 70 RX5 yX5_fails wsX5_fails) := goodIn_app (goodIn_of _ (by decide +kernel)) ggX5_sideOf_X5_fails
theorem dX5_sideOf_0 : decode cX5_sideOf 0 = .ok (.aload_n 0, 1) := by decide +kernel
theorem dX5_sideOf_1 : decode cX5_sideOf 1 = .ok (.iload_n 2, 1) := by decide +kernel
theorem dX5_sideOf_2 : decode cX5_sideOf 2 = .ok (.invokestatic 101, 3) := by decide +kernel
theorem dX5_sideOf_5 : decode cX5_sideOf 5 = .ok (.ifCond .ne 7, 3) := by decide +kernel
theorem dX5_sideOf_8 : decode cX5_sideOf 8 = .ok (.iconst 1, 1) := by decide +kernel
theorem dX5_sideOf_9 : decode cX5_sideOf 9 = .ok (.goto 16, 3) := by decide +kernel
theorem dX5_sideOf_12 : decode cX5_sideOf 12 = .ok (.aload_n 0, 1) := by decide +kernel
theorem dX5_sideOf_13 : decode cX5_sideOf 13 = .ok (.iload_n 1, 1) := by decide +kernel
theorem dX5_sideOf_14 : decode cX5_sideOf 14 = .ok (.invokevirtual 84, 3) := by decide +kernel
theorem dX5_sideOf_17 : decode cX5_sideOf 17 = .ok (.ifCond .eq 7, 3) := by decide +kernel
theorem dX5_sideOf_20 : decode cX5_sideOf 20 = .ok (.iconst 0, 1) := by decide +kernel
theorem dX5_sideOf_21 : decode cX5_sideOf 21 = .ok (.goto 4, 3) := by decide +kernel
theorem dX5_sideOf_24 : decode cX5_sideOf 24 = .ok (.iconst 2, 1) := by decide +kernel
theorem dX5_sideOf_25 : decode cX5_sideOf 25 = .ok (.invokevirtual 70, 3) := by decide +kernel
theorem dX5_sideOf_28 : decode cX5_sideOf 28 = .ok (.ifCond .eq 7, 3) := by decide +kernel
theorem dX5_sideOf_31 : decode cX5_sideOf 31 = .ok (.iconst 0, 1) := by decide +kernel
theorem dX5_sideOf_32 : decode cX5_sideOf 32 = .ok (.goto 13, 3) := by decide +kernel
theorem dX5_sideOf_35 : decode cX5_sideOf 35 = .ok (.aload_n 0, 1) := by decide +kernel
theorem dX5_sideOf_36 : decode cX5_sideOf 36 = .ok (.getfield 7, 3) := by decide +kernel
theorem dX5_sideOf_39 : decode cX5_sideOf 39 = .ok (.iconst 4, 1) := by decide +kernel
theorem dX5_sideOf_40 : decode cX5_sideOf 40 = .ok (.iload_n 1, 1) := by decide +kernel
theorem dX5_sideOf_41 : decode cX5_sideOf 41 = .ok (.imul, 1) := by decide +kernel
theorem dX5_sideOf_42 : decode cX5_sideOf 42 = .ok (.iload_n 2, 1) := by decide +kernel
theorem dX5_sideOf_43 : decode cX5_sideOf 43 = .ok (.iadd, 1) := by decide +kernel
theorem dX5_sideOf_44 : decode cX5_sideOf 44 = .ok (.iaload, 1) := by decide +kernel
theorem dX5_sideOf_45 : decode cX5_sideOf 45 = .ok (.ireturn, 1) := by decide +kernel
set_option maxRecDepth 20000 in
theorem ggX5_levels_X5_tells : GoodIn wsX5_levels wsX5_tells := goodIn_r _ [6, 7, 8, 9, 10, 11, 12, 13, 14, 15, 16, 17, 18, 19, 20, 21, 22, 23] (by decide +kernel) (by decide +kernel)
set_option maxRecDepth 20000 in
theorem gX5_levels_X5_tells : GoodIn wsX5_levels (wsV RX5 94 RX5 yX5_tells wsX5_tells) := goodIn_app (goodIn_of _ (by decide +kernel)) ggX5_levels_X5_tells
theorem dX5_levels_0 : decode cX5_levels 0 = .ok (.aload_n 0, 1) := by decide +kernel
theorem dX5_levels_1 : decode cX5_levels 1 = .ok (.aload_n 0, 1) := by decide +kernel
theorem dX5_levels_2 : decode cX5_levels 2 = .ok (.getfield 43, 3) := by decide +kernel
theorem dX5_levels_5 : decode cX5_levels 5 = .ok (.invokevirtual 94, 3) := by decide +kernel
theorem dX5_levels_8 : decode cX5_levels 8 = .ok (.ireturn, 1) := by decide +kernel
theorem dX5_isLevel_0 : decode cX5_isLevel 0 = .ok (.iload_n 1, 1) := by decide +kernel
theorem dX5_isLevel_1 : decode cX5_isLevel 1 = .ok (.ifCond .lt 15, 3) := by decide +kernel
theorem dX5_isLevel_4 : decode cX5_isLevel 4 = .ok (.iload_n 1, 1) := by decide +kernel
theorem dX5_isLevel_5 : decode cX5_isLevel 5 = .ok (.aload_n 0, 1) := by decide +kernel
theorem dX5_isLevel_6 : decode cX5_isLevel 6 = .ok (.getfield 43, 3) := by decide +kernel
theorem dX5_isLevel_9 : decode cX5_isLevel 9 = .ok (.if_icmp .ge 7, 3) := by decide +kernel
theorem dX5_isLevel_12 : decode cX5_isLevel 12 = .ok (.iconst 1, 1) := by decide +kernel
theorem dX5_isLevel_13 : decode cX5_isLevel 13 = .ok (.goto 4, 3) := by decide +kernel
theorem dX5_isLevel_16 : decode cX5_isLevel 16 = .ok (.iconst 0, 1) := by decide +kernel
theorem dX5_isLevel_17 : decode cX5_isLevel 17 = .ok (.ireturn, 1) := by decide +kernel
set_option maxRecDepth 20000 in
theorem ggX5_nodes_X5_isLevel : GoodIn wsX5_nodes wsX5_isLevel := goodIn_r _ [6, 7, 13, 14, 15, 16, 17, 18, 19, 20, 21, 22, 23, 24, 25, 26, 27, 28] (by decide +kernel) (by decide +kernel)
set_option maxRecDepth 20000 in
theorem gX5_nodes_X5_isLevel : GoodIn wsX5_nodes (wsV RX5 104 RX5 yX5_isLevel wsX5_isLevel) := goodIn_app (goodIn_of _ (by decide +kernel)) ggX5_nodes_X5_isLevel
set_option maxRecDepth 20000 in
theorem ggX5_nodes_X5_fails : GoodIn wsX5_nodes wsX5_fails := goodIn_r _ [11, 12, 13, 14, 15, 16, 17, 18, 19, 20, 21, 22, 23, 24, 25, 26, 27, 28] (by decide +kernel) (by decide +kernel)
set_option maxRecDepth 20000 in
theorem gX5_nodes_X5_fails : GoodIn wsX5_nodes (wsV RX5 70 RX5 yX5_fails wsX5_fails) := goodIn_app (goodIn_of _ (by decide +kernel)) ggX5_nodes_X5_fails
theorem dX5_nodes_0 : decode cX5_nodes 0 = .ok (.aload_n 0, 1) := by decide +kernel
theorem dX5_nodes_1 : decode cX5_nodes 1 = .ok (.aload_n 0, 1) := by decide +kernel
theorem dX5_nodes_2 : decode cX5_nodes 2 = .ok (.iload_n 1, 1) := by decide +kernel
theorem dX5_nodes_3 : decode cX5_nodes 3 = .ok (.invokevirtual 104, 3) := by decide +kernel
theorem dX5_nodes_6 : decode cX5_nodes 6 = .ok (.ifCond .eq 7, 3) := by decide +kernel
theorem dX5_nodes_9 : decode cX5_nodes 9 = .ok (.iconst 0, 1) := by decide +kernel
theorem dX5_nodes_10 : decode cX5_nodes 10 = .ok (.goto 4, 3) := by decide +kernel
theorem dX5_nodes_13 : decode cX5_nodes 13 = .ok (.iconst 1, 1) := by decide +kernel
theorem dX5_nodes_14 : decode cX5_nodes 14 = .ok (.invokevirtual 70, 3) := by decide +kernel
theorem dX5_nodes_17 : decode cX5_nodes 17 = .ok (.ifCond .eq 7, 3) := by decide +kernel
theorem dX5_nodes_20 : decode cX5_nodes 20 = .ok (.iconst 0, 1) := by decide +kernel
theorem dX5_nodes_21 : decode cX5_nodes 21 = .ok (.goto 9, 3) := by decide +kernel
theorem dX5_nodes_24 : decode cX5_nodes 24 = .ok (.aload_n 0, 1) := by decide +kernel
theorem dX5_nodes_25 : decode cX5_nodes 25 = .ok (.getfield 23, 3) := by decide +kernel
theorem dX5_nodes_28 : decode cX5_nodes 28 = .ok (.iload_n 1, 1) := by decide +kernel
theorem dX5_nodes_29 : decode cX5_nodes 29 = .ok (.iaload, 1) := by decide +kernel
theorem dX5_nodes_30 : decode cX5_nodes 30 = .ok (.ireturn, 1) := by decide +kernel
set_option maxRecDepth 20000 in
theorem ggX5_isNode_X5_isLevel : GoodIn wsX5_isNode wsX5_isLevel := goodIn_r _ [6, 7, 8, 9, 10, 11, 12, 13, 14, 15, 16, 17, 18, 19, 20, 21, 22, 23] (by decide +kernel) (by decide +kernel)
set_option maxRecDepth 20000 in
theorem gX5_isNode_X5_isLevel : GoodIn wsX5_isNode (wsV RX5 104 RX5 yX5_isLevel wsX5_isLevel) := goodIn_app (goodIn_of _ (by decide +kernel)) ggX5_isNode_X5_isLevel
theorem dX5_isNode_0 : decode cX5_isNode 0 = .ok (.aload_n 0, 1) := by decide +kernel
theorem dX5_isNode_1 : decode cX5_isNode 1 = .ok (.iload_n 1, 1) := by decide +kernel
theorem dX5_isNode_2 : decode cX5_isNode 2 = .ok (.invokevirtual 104, 3) := by decide +kernel
theorem dX5_isNode_5 : decode cX5_isNode 5 = .ok (.ifCond .eq 21, 3) := by decide +kernel
theorem dX5_isNode_8 : decode cX5_isNode 8 = .ok (.iload_n 2, 1) := by decide +kernel
theorem dX5_isNode_9 : decode cX5_isNode 9 = .ok (.ifCond .lt 17, 3) := by decide +kernel
theorem dX5_isNode_12 : decode cX5_isNode 12 = .ok (.iload_n 2, 1) := by decide +kernel
theorem dX5_isNode_13 : decode cX5_isNode 13 = .ok (.aload_n 0, 1) := by decide +kernel
theorem dX5_isNode_14 : decode cX5_isNode 14 = .ok (.getfield 23, 3) := by decide +kernel
theorem dX5_isNode_17 : decode cX5_isNode 17 = .ok (.iload_n 1, 1) := by decide +kernel
theorem dX5_isNode_18 : decode cX5_isNode 18 = .ok (.iaload, 1) := by decide +kernel
theorem dX5_isNode_19 : decode cX5_isNode 19 = .ok (.if_icmp .ge 7, 3) := by decide +kernel
theorem dX5_isNode_22 : decode cX5_isNode 22 = .ok (.iconst 1, 1) := by decide +kernel
theorem dX5_isNode_23 : decode cX5_isNode 23 = .ok (.goto 4, 3) := by decide +kernel
theorem dX5_isNode_26 : decode cX5_isNode 26 = .ok (.iconst 0, 1) := by decide +kernel
theorem dX5_isNode_27 : decode cX5_isNode 27 = .ok (.ireturn, 1) := by decide +kernel
set_option maxRecDepth 20000 in
theorem ggX5_entries_X5_isNode : GoodIn wsX5_entries wsX5_isNode := goodIn_r _ [5, 6, 7, 8, 9, 4, 10, 11, 22, 23, 24, 25, 26, 27, 28, 29, 30, 31, 32, 33, 34, 35, 36, 37] (by decide +kernel) (by decide +kernel)
set_option maxRecDepth 20000 in
theorem gX5_entries_X5_isNode : GoodIn wsX5_entries (wsV RX5 107 RX5 yX5_isNode wsX5_isNode) := goodIn_app (goodIn_of _ (by decide +kernel)) ggX5_entries_X5_isNode
set_option maxRecDepth 20000 in
theorem ggX5_entries_X5_fails : GoodIn wsX5_entries wsX5_fails := goodIn_r _ [15, 16, 22, 23, 24, 25, 26, 27, 28, 29, 30, 31, 32, 33, 34, 35, 36, 37] (by decide +kernel) (by decide +kernel)
set_option maxRecDepth 20000 in
theorem gX5_entries_X5_fails : GoodIn wsX5_entries (wsV RX5 70 RX5 yX5_fails wsX5_fails) := goodIn_app (goodIn_of _ (by decide +kernel)) ggX5_entries_X5_fails
set_option maxRecDepth 20000 in
theorem ggX5_entries_X5_many : GoodIn wsX5_entries wsX5_many := goodIn_r _ [20, 21, 22, 23, 24, 25, 26, 27, 28, 29, 30, 31, 32, 33, 34, 35, 36, 37] (by decide +kernel) (by decide +kernel)
set_option maxRecDepth 20000 in
theorem gX5_entries_X5_many : GoodIn wsX5_entries (wsV RX5 36 RX5 yX5_many wsX5_many) := goodIn_app (goodIn_of _ (by decide +kernel)) ggX5_entries_X5_many
theorem dX5_entries_0 : decode cX5_entries 0 = .ok (.aload_n 0, 1) := by decide +kernel
theorem dX5_entries_1 : decode cX5_entries 1 = .ok (.aload_n 0, 1) := by decide +kernel
theorem dX5_entries_2 : decode cX5_entries 2 = .ok (.iload_n 1, 1) := by decide +kernel
theorem dX5_entries_3 : decode cX5_entries 3 = .ok (.iload_n 2, 1) := by decide +kernel
theorem dX5_entries_4 : decode cX5_entries 4 = .ok (.invokevirtual 107, 3) := by decide +kernel
theorem dX5_entries_7 : decode cX5_entries 7 = .ok (.ifCond .eq 7, 3) := by decide +kernel
theorem dX5_entries_10 : decode cX5_entries 10 = .ok (.iconst 0, 1) := by decide +kernel
theorem dX5_entries_11 : decode cX5_entries 11 = .ok (.goto 4, 3) := by decide +kernel
theorem dX5_entries_14 : decode cX5_entries 14 = .ok (.iconst 1, 1) := by decide +kernel
theorem dX5_entries_15 : decode cX5_entries 15 = .ok (.invokevirtual 70, 3) := by decide +kernel
theorem dX5_entries_18 : decode cX5_entries 18 = .ok (.ifCond .eq 7, 3) := by decide +kernel
theorem dX5_entries_21 : decode cX5_entries 21 = .ok (.iconst 0, 1) := by decide +kernel
theorem dX5_entries_22 : decode cX5_entries 22 = .ok (.goto 9, 3) := by decide +kernel
theorem dX5_entries_25 : decode cX5_entries 25 = .ok (.aload_n 0, 1) := by decide +kernel
theorem dX5_entries_26 : decode cX5_entries 26 = .ok (.iload_n 1, 1) := by decide +kernel
theorem dX5_entries_27 : decode cX5_entries 27 = .ok (.iload_n 2, 1) := by decide +kernel
theorem dX5_entries_28 : decode cX5_entries 28 = .ok (.invokevirtual 36, 3) := by decide +kernel
theorem dX5_entries_31 : decode cX5_entries 31 = .ok (.ireturn, 1) := by decide +kernel
set_option maxRecDepth 20000 in
theorem ggX5_covers_X5_ahead : GoodIn wsX5_covers wsX5_ahead := goodIn_r _ [13, 14, 15, 16, 12, 17, 18, 19, 20, 21, 22, 23, 24, 25, 26, 27, 28, 29, 30, 31, 32, 33, 34] (by decide +kernel) (by decide +kernel)
set_option maxRecDepth 20000 in
theorem gX5_covers_X5_ahead : GoodIn wsX5_covers (wsV RX5 40 RX5 yX5_ahead wsX5_ahead) := goodIn_app (goodIn_of _ (by decide +kernel)) ggX5_covers_X5_ahead
theorem dX5_covers_0 : decode cX5_covers 0 = .ok (.aload_n 0, 1) := by decide +kernel
theorem dX5_covers_1 : decode cX5_covers 1 = .ok (.iload_n 2, 1) := by decide +kernel
theorem dX5_covers_2 : decode cX5_covers 2 = .ok (.putfield 110, 3) := by decide +kernel
theorem dX5_covers_5 : decode cX5_covers 5 = .ok (.aload_n 0, 1) := by decide +kernel
theorem dX5_covers_6 : decode cX5_covers 6 = .ok (.iload_n 2, 1) := by decide +kernel
theorem dX5_covers_7 : decode cX5_covers 7 = .ok (.iconst 1, 1) := by decide +kernel
theorem dX5_covers_8 : decode cX5_covers 8 = .ok (.iadd, 1) := by decide +kernel
theorem dX5_covers_9 : decode cX5_covers 9 = .ok (.putfield 113, 3) := by decide +kernel
theorem dX5_covers_12 : decode cX5_covers 12 = .ok (.iload_n 1, 1) := by decide +kernel
theorem dX5_covers_13 : decode cX5_covers 13 = .ok (.istore_n 3, 1) := by decide +kernel
theorem dX5_covers_14 : decode cX5_covers 14 = .ok (.iload_n 3, 1) := by decide +kernel
theorem dX5_covers_15 : decode cX5_covers 15 = .ok (.ifCond .lt 35, 3) := by decide +kernel
theorem dX5_covers_18 : decode cX5_covers 18 = .ok (.aload_n 0, 1) := by decide +kernel
theorem dX5_covers_19 : decode cX5_covers 19 = .ok (.aload_n 0, 1) := by decide +kernel
theorem dX5_covers_20 : decode cX5_covers 20 = .ok (.iload_n 3, 1) := by decide +kernel
theorem dX5_covers_21 : decode cX5_covers 21 = .ok (.aload_n 0, 1) := by decide +kernel
theorem dX5_covers_22 : decode cX5_covers 22 = .ok (.getfield 110, 3) := by decide +kernel
theorem dX5_covers_25 : decode cX5_covers 25 = .ok (.invokevirtual 40, 3) := by decide +kernel
theorem dX5_covers_28 : decode cX5_covers 28 = .ok (.putfield 110, 3) := by decide +kernel
theorem dX5_covers_31 : decode cX5_covers 31 = .ok (.aload_n 0, 1) := by decide +kernel
theorem dX5_covers_32 : decode cX5_covers 32 = .ok (.aload_n 0, 1) := by decide +kernel
theorem dX5_covers_33 : decode cX5_covers 33 = .ok (.iload_n 3, 1) := by decide +kernel
theorem dX5_covers_34 : decode cX5_covers 34 = .ok (.aload_n 0, 1) := by decide +kernel
theorem dX5_covers_35 : decode cX5_covers 35 = .ok (.getfield 113, 3) := by decide +kernel
theorem dX5_covers_38 : decode cX5_covers 38 = .ok (.invokevirtual 40, 3) := by decide +kernel
theorem dX5_covers_41 : decode cX5_covers 41 = .ok (.putfield 113, 3) := by decide +kernel
theorem dX5_covers_44 : decode cX5_covers 44 = .ok (.iinc 3 (-1), 3) := by decide +kernel
theorem dX5_covers_47 : decode cX5_covers 47 = .ok (.goto (-33), 3) := by decide +kernel
theorem dX5_covers_50 : decode cX5_covers 50 = .ok (.aload_n 0, 1) := by decide +kernel
theorem dX5_covers_51 : decode cX5_covers 51 = .ok (.sipush 255, 3) := by decide +kernel
theorem dX5_covers_54 : decode cX5_covers 54 = .ok (.putfield 116, 3) := by decide +kernel
theorem dX5_covers_57 : decode cX5_covers 57 = .ok (.aload_n 0, 1) := by decide +kernel
theorem dX5_covers_58 : decode cX5_covers 58 = .ok (.sipush 255, 3) := by decide +kernel
theorem dX5_covers_61 : decode cX5_covers 61 = .ok (.putfield 119, 3) := by decide +kernel
theorem dX5_covers_64 : decode cX5_covers 64 = .ok (.aload_n 0, 1) := by decide +kernel
theorem dX5_covers_65 : decode cX5_covers 65 = .ok (.iconst 0, 1) := by decide +kernel
theorem dX5_covers_66 : decode cX5_covers 66 = .ok (.putfield 122, 3) := by decide +kernel
theorem dX5_covers_69 : decode cX5_covers 69 = .ok (.aload_n 0, 1) := by decide +kernel
theorem dX5_covers_70 : decode cX5_covers 70 = .ok (.iconst 0, 1) := by decide +kernel
theorem dX5_covers_71 : decode cX5_covers 71 = .ok (.putfield 125, 3) := by decide +kernel
theorem dX5_covers_74 : decode cX5_covers 74 = .ok (.aload_n 0, 1) := by decide +kernel
theorem dX5_covers_75 : decode cX5_covers 75 = .ok (.getfield 110, 3) := by decide +kernel
theorem dX5_covers_78 : decode cX5_covers 78 = .ok (.istore_n 3, 1) := by decide +kernel
theorem dX5_covers_79 : decode cX5_covers 79 = .ok (.iload_n 3, 1) := by decide +kernel
theorem dX5_covers_80 : decode cX5_covers 80 = .ok (.aload_n 0, 1) := by decide +kernel
theorem dX5_covers_81 : decode cX5_covers 81 = .ok (.getfield 113, 3) := by decide +kernel
theorem dX5_covers_84 : decode cX5_covers 84 = .ok (.if_icmp .ge 159, 3) := by decide +kernel
theorem dX5_covers_87 : decode cX5_covers 87 = .ok (.iconst 4, 1) := by decide +kernel
theorem dX5_covers_88 : decode cX5_covers 88 = .ok (.aload_n 0, 1) := by decide +kernel
theorem dX5_covers_89 : decode cX5_covers 89 = .ok (.getfield 20, 3) := by decide +kernel
theorem dX5_covers_92 : decode cX5_covers 92 = .ok (.iload_n 3, 1) := by decide +kernel
theorem dX5_covers_93 : decode cX5_covers 93 = .ok (.iaload, 1) := by decide +kernel
theorem dX5_covers_94 : decode cX5_covers 94 = .ok (.imul, 1) := by decide +kernel
theorem dX5_covers_95 : decode cX5_covers 95 = .ok (.istore 4, 2) := by decide +kernel
theorem dX5_covers_97 : decode cX5_covers 97 = .ok (.aload_n 0, 1) := by decide +kernel
theorem dX5_covers_98 : decode cX5_covers 98 = .ok (.aload_n 0, 1) := by decide +kernel
theorem dX5_covers_99 : decode cX5_covers 99 = .ok (.getfield 7, 3) := by decide +kernel
theorem dX5_covers_102 : decode cX5_covers 102 = .ok (.iload 4, 2) := by decide +kernel
theorem dX5_covers_104 : decode cX5_covers 104 = .ok (.iaload, 1) := by decide +kernel
theorem dX5_covers_105 : decode cX5_covers 105 = .ok (.aload_n 0, 1) := by decide +kernel
theorem dX5_covers_106 : decode cX5_covers 106 = .ok (.getfield 116, 3) := by decide +kernel
theorem dX5_covers_109 : decode cX5_covers 109 = .ok (.if_icmp .ge 13, 3) := by decide +kernel
theorem dX5_covers_112 : decode cX5_covers 112 = .ok (.aload_n 0, 1) := by decide +kernel
theorem dX5_covers_113 : decode cX5_covers 113 = .ok (.getfield 7, 3) := by decide +kernel
theorem dX5_covers_116 : decode cX5_covers 116 = .ok (.iload 4, 2) := by decide +kernel
theorem dX5_covers_118 : decode cX5_covers 118 = .ok (.iaload, 1) := by decide +kernel
theorem dX5_covers_119 : decode cX5_covers 119 = .ok (.goto 7, 3) := by decide +kernel
theorem dX5_covers_122 : decode cX5_covers 122 = .ok (.aload_n 0, 1) := by decide +kernel
theorem dX5_covers_123 : decode cX5_covers 123 = .ok (.getfield 116, 3) := by decide +kernel
theorem dX5_covers_126 : decode cX5_covers 126 = .ok (.putfield 116, 3) := by decide +kernel
theorem dX5_covers_129 : decode cX5_covers 129 = .ok (.aload_n 0, 1) := by decide +kernel
theorem dX5_covers_130 : decode cX5_covers 130 = .ok (.aload_n 0, 1) := by decide +kernel
theorem dX5_covers_131 : decode cX5_covers 131 = .ok (.getfield 7, 3) := by decide +kernel
theorem dX5_covers_134 : decode cX5_covers 134 = .ok (.iload 4, 2) := by decide +kernel
theorem dX5_covers_136 : decode cX5_covers 136 = .ok (.iconst 1, 1) := by decide +kernel
theorem dX5_covers_137 : decode cX5_covers 137 = .ok (.iadd, 1) := by decide +kernel
theorem dX5_covers_138 : decode cX5_covers 138 = .ok (.iaload, 1) := by decide +kernel
theorem dX5_covers_139 : decode cX5_covers 139 = .ok (.aload_n 0, 1) := by decide +kernel
theorem dX5_covers_140 : decode cX5_covers 140 = .ok (.getfield 119, 3) := by decide +kernel
theorem dX5_covers_143 : decode cX5_covers 143 = .ok (.if_icmp .ge 15, 3) := by decide +kernel
theorem dX5_covers_146 : decode cX5_covers 146 = .ok (.aload_n 0, 1) := by decide +kernel
theorem dX5_covers_147 : decode cX5_covers 147 = .ok (.getfield 7, 3) := by decide +kernel
theorem dX5_covers_150 : decode cX5_covers 150 = .ok (.iload 4, 2) := by decide +kernel
theorem dX5_covers_152 : decode cX5_covers 152 = .ok (.iconst 1, 1) := by decide +kernel
theorem dX5_covers_153 : decode cX5_covers 153 = .ok (.iadd, 1) := by decide +kernel
theorem dX5_covers_154 : decode cX5_covers 154 = .ok (.iaload, 1) := by decide +kernel
theorem dX5_covers_155 : decode cX5_covers 155 = .ok (.goto 7, 3) := by decide +kernel
theorem dX5_covers_158 : decode cX5_covers 158 = .ok (.aload_n 0, 1) := by decide +kernel
theorem dX5_covers_159 : decode cX5_covers 159 = .ok (.getfield 119, 3) := by decide +kernel
theorem dX5_covers_162 : decode cX5_covers 162 = .ok (.putfield 119, 3) := by decide +kernel
theorem dX5_covers_165 : decode cX5_covers 165 = .ok (.aload_n 0, 1) := by decide +kernel
theorem dX5_covers_166 : decode cX5_covers 166 = .ok (.aload_n 0, 1) := by decide +kernel
theorem dX5_covers_167 : decode cX5_covers 167 = .ok (.getfield 7, 3) := by decide +kernel
theorem dX5_covers_170 : decode cX5_covers 170 = .ok (.iload 4, 2) := by decide +kernel
theorem dX5_covers_172 : decode cX5_covers 172 = .ok (.iconst 2, 1) := by decide +kernel
theorem dX5_covers_173 : decode cX5_covers 173 = .ok (.iadd, 1) := by decide +kernel
theorem dX5_covers_174 : decode cX5_covers 174 = .ok (.iaload, 1) := by decide +kernel
theorem dX5_covers_175 : decode cX5_covers 175 = .ok (.aload_n 0, 1) := by decide +kernel
theorem dX5_covers_176 : decode cX5_covers 176 = .ok (.getfield 122, 3) := by decide +kernel
theorem dX5_covers_179 : decode cX5_covers 179 = .ok (.if_icmp .le 15, 3) := by decide +kernel
theorem dX5_covers_182 : decode cX5_covers 182 = .ok (.aload_n 0, 1) := by decide +kernel
theorem dX5_covers_183 : decode cX5_covers 183 = .ok (.getfield 7, 3) := by decide +kernel
theorem dX5_covers_186 : decode cX5_covers 186 = .ok (.iload 4, 2) := by decide +kernel
theorem dX5_covers_188 : decode cX5_covers 188 = .ok (.iconst 2, 1) := by decide +kernel
theorem dX5_covers_189 : decode cX5_covers 189 = .ok (.iadd, 1) := by decide +kernel
theorem dX5_covers_190 : decode cX5_covers 190 = .ok (.iaload, 1) := by decide +kernel
theorem dX5_covers_191 : decode cX5_covers 191 = .ok (.goto 7, 3) := by decide +kernel
theorem dX5_covers_194 : decode cX5_covers 194 = .ok (.aload_n 0, 1) := by decide +kernel
theorem dX5_covers_195 : decode cX5_covers 195 = .ok (.getfield 122, 3) := by decide +kernel
theorem dX5_covers_198 : decode cX5_covers 198 = .ok (.putfield 122, 3) := by decide +kernel
theorem dX5_covers_201 : decode cX5_covers 201 = .ok (.aload_n 0, 1) := by decide +kernel
theorem dX5_covers_202 : decode cX5_covers 202 = .ok (.aload_n 0, 1) := by decide +kernel
theorem dX5_covers_203 : decode cX5_covers 203 = .ok (.getfield 7, 3) := by decide +kernel
theorem dX5_covers_206 : decode cX5_covers 206 = .ok (.iload 4, 2) := by decide +kernel
theorem dX5_covers_208 : decode cX5_covers 208 = .ok (.iconst 3, 1) := by decide +kernel
theorem dX5_covers_209 : decode cX5_covers 209 = .ok (.iadd, 1) := by decide +kernel
theorem dX5_covers_210 : decode cX5_covers 210 = .ok (.iaload, 1) := by decide +kernel
theorem dX5_covers_211 : decode cX5_covers 211 = .ok (.aload_n 0, 1) := by decide +kernel
theorem dX5_covers_212 : decode cX5_covers 212 = .ok (.getfield 125, 3) := by decide +kernel
theorem dX5_covers_215 : decode cX5_covers 215 = .ok (.if_icmp .le 15, 3) := by decide +kernel
theorem dX5_covers_218 : decode cX5_covers 218 = .ok (.aload_n 0, 1) := by decide +kernel
theorem dX5_covers_219 : decode cX5_covers 219 = .ok (.getfield 7, 3) := by decide +kernel
theorem dX5_covers_222 : decode cX5_covers 222 = .ok (.iload 4, 2) := by decide +kernel
theorem dX5_covers_224 : decode cX5_covers 224 = .ok (.iconst 3, 1) := by decide +kernel
theorem dX5_covers_225 : decode cX5_covers 225 = .ok (.iadd, 1) := by decide +kernel
theorem dX5_covers_226 : decode cX5_covers 226 = .ok (.iaload, 1) := by decide +kernel
theorem dX5_covers_227 : decode cX5_covers 227 = .ok (.goto 7, 3) := by decide +kernel
theorem dX5_covers_230 : decode cX5_covers 230 = .ok (.aload_n 0, 1) := by decide +kernel
theorem dX5_covers_231 : decode cX5_covers 231 = .ok (.getfield 125, 3) := by decide +kernel
theorem dX5_covers_234 : decode cX5_covers 234 = .ok (.putfield 125, 3) := by decide +kernel
theorem dX5_covers_237 : decode cX5_covers 237 = .ok (.iinc 3 1, 3) := by decide +kernel
theorem dX5_covers_240 : decode cX5_covers 240 = .ok (.goto (-161), 3) := by decide +kernel
theorem dX5_covers_243 : decode cX5_covers 243 = .ok (.return_, 1) := by decide +kernel
set_option maxRecDepth 20000 in
theorem ggX5_cover_X5_isSide : GoodIn wsX5_cover wsX5_isSide := goodIn_r _ [8] (by decide +kernel) (by decide +kernel)
set_option maxRecDepth 20000 in
theorem gX5_cover_X5_isSide : GoodIn wsX5_cover (va_wsS RX5 101 yX5_isSide wsX5_isSide) := goodIn_app (goodIn_of _ (by decide +kernel)) ggX5_cover_X5_isSide
set_option maxRecDepth 20000 in
theorem ggX5_cover_X5_isNode : GoodIn wsX5_cover wsX5_isNode := goodIn_r _ [12, 13, 14, 15, 16, 7, 17, 18, 41, 42, 43, 44, 45, 46, 47, 48, 49, 50, 51, 52, 53, 54, 55, 56] (by decide +kernel) (by decide +kernel)
set_option maxRecDepth 20000 in
theorem gX5_cover_X5_isNode : GoodIn wsX5_cover (wsV RX5 107 RX5 yX5_isNode wsX5_isNode) := goodIn_app (goodIn_of _ (by decide +kernel)) ggX5_cover_X5_isNode
set_option maxRecDepth 20000 in
theorem ggX5_cover_X5_fails : GoodIn wsX5_cover wsX5_fails := goodIn_r _ [22, 23, 41, 42, 43, 44, 45, 46, 47, 48, 49, 50, 51, 52, 53, 54, 55, 56] (by decide +kernel) (by decide +kernel)
set_option maxRecDepth 20000 in
theorem gX5_cover_X5_fails : GoodIn wsX5_cover (wsV RX5 70 RX5 yX5_fails wsX5_fails) := goodIn_app (goodIn_of _ (by decide +kernel)) ggX5_cover_X5_fails
set_option maxRecDepth 20000 in
theorem ggX5_cover_X5_covers : GoodIn wsX5_cover wsX5_covers := goodIn_r _ [27, 28, 29, 1, 2, 3, 4, 30, 31, 32, 33, 34, 7, 35, 36, 37, 38, 39, 40, 41, 42, 43, 44, 45, 46, 47, 48, 49, 50, 51, 52, 53, 54, 55, 56] (by decide +kernel) (by decide +kernel)
set_option maxRecDepth 20000 in
theorem gX5_cover_X5_covers : GoodIn wsX5_cover (wsV RX5 128 RX5 yX5_covers wsX5_covers) := goodIn_app (goodIn_of _ (by decide +kernel)) ggX5_cover_X5_covers
theorem dX5_cover_0 : decode cX5_cover 0 = .ok (.aload_n 0, 1) := by decide +kernel
theorem dX5_cover_1 : decode cX5_cover 1 = .ok (.iload_n 3, 1) := by decide +kernel
theorem dX5_cover_2 : decode cX5_cover 2 = .ok (.invokestatic 101, 3) := by decide +kernel
theorem dX5_cover_5 : decode cX5_cover 5 = .ok (.ifCond .ne 7, 3) := by decide +kernel
theorem dX5_cover_8 : decode cX5_cover 8 = .ok (.iconst 1, 1) := by decide +kernel
theorem dX5_cover_9 : decode cX5_cover 9 = .ok (.goto 17, 3) := by decide +kernel
theorem dX5_cover_12 : decode cX5_cover 12 = .ok (.aload_n 0, 1) := by decide +kernel
theorem dX5_cover_13 : decode cX5_cover 13 = .ok (.iload_n 1, 1) := by decide +kernel
theorem dX5_cover_14 : decode cX5_cover 14 = .ok (.iload_n 2, 1) := by decide +kernel
theorem dX5_cover_15 : decode cX5_cover 15 = .ok (.invokevirtual 107, 3) := by decide +kernel
theorem dX5_cover_18 : decode cX5_cover 18 = .ok (.ifCond .eq 7, 3) := by decide +kernel
theorem dX5_cover_21 : decode cX5_cover 21 = .ok (.iconst 0, 1) := by decide +kernel
theorem dX5_cover_22 : decode cX5_cover 22 = .ok (.goto 4, 3) := by decide +kernel
theorem dX5_cover_25 : decode cX5_cover 25 = .ok (.iconst 2, 1) := by decide +kernel
theorem dX5_cover_26 : decode cX5_cover 26 = .ok (.invokevirtual 70, 3) := by decide +kernel
theorem dX5_cover_29 : decode cX5_cover 29 = .ok (.ifCond .eq 5, 3) := by decide +kernel
theorem dX5_cover_32 : decode cX5_cover 32 = .ok (.iconst 0, 1) := by decide +kernel
theorem dX5_cover_33 : decode cX5_cover 33 = .ok (.ireturn, 1) := by decide +kernel
theorem dX5_cover_34 : decode cX5_cover 34 = .ok (.aload_n 0, 1) := by decide +kernel
theorem dX5_cover_35 : decode cX5_cover 35 = .ok (.iload_n 1, 1) := by decide +kernel
theorem dX5_cover_36 : decode cX5_cover 36 = .ok (.iload_n 2, 1) := by decide +kernel
theorem dX5_cover_37 : decode cX5_cover 37 = .ok (.invokevirtual 128, 3) := by decide +kernel
theorem dX5_cover_40 : decode cX5_cover 40 = .ok (.iload_n 3, 1) := by decide +kernel
theorem dX5_cover_41 : decode cX5_cover 41 = .ok (.ifCond .ne 10, 3) := by decide +kernel
theorem dX5_cover_44 : decode cX5_cover 44 = .ok (.aload_n 0, 1) := by decide +kernel
theorem dX5_cover_45 : decode cX5_cover 45 = .ok (.getfield 116, 3) := by decide +kernel
theorem dX5_cover_48 : decode cX5_cover 48 = .ok (.goto 31, 3) := by decide +kernel
theorem dX5_cover_51 : decode cX5_cover 51 = .ok (.iload_n 3, 1) := by decide +kernel
theorem dX5_cover_52 : decode cX5_cover 52 = .ok (.iconst 1, 1) := by decide +kernel
theorem dX5_cover_53 : decode cX5_cover 53 = .ok (.if_icmp .ne 10, 3) := by decide +kernel
theorem dX5_cover_56 : decode cX5_cover 56 = .ok (.aload_n 0, 1) := by decide +kernel
theorem dX5_cover_57 : decode cX5_cover 57 = .ok (.getfield 119, 3) := by decide +kernel
theorem dX5_cover_60 : decode cX5_cover 60 = .ok (.goto 19, 3) := by decide +kernel
theorem dX5_cover_63 : decode cX5_cover 63 = .ok (.iload_n 3, 1) := by decide +kernel
theorem dX5_cover_64 : decode cX5_cover 64 = .ok (.iconst 2, 1) := by decide +kernel
theorem dX5_cover_65 : decode cX5_cover 65 = .ok (.if_icmp .ne 10, 3) := by decide +kernel
theorem dX5_cover_68 : decode cX5_cover 68 = .ok (.aload_n 0, 1) := by decide +kernel
theorem dX5_cover_69 : decode cX5_cover 69 = .ok (.getfield 122, 3) := by decide +kernel
theorem dX5_cover_72 : decode cX5_cover 72 = .ok (.goto 7, 3) := by decide +kernel
theorem dX5_cover_75 : decode cX5_cover 75 = .ok (.aload_n 0, 1) := by decide +kernel
theorem dX5_cover_76 : decode cX5_cover 76 = .ok (.getfield 125, 3) := by decide +kernel
theorem dX5_cover_79 : decode cX5_cover 79 = .ok (.ireturn, 1) := by decide +kernel
set_option maxRecDepth 20000 in
theorem ggX5_leafOf_X5_is : GoodIn wsX5_leafOf wsX5_is := goodIn_r _ [5, 6, 7, 33, 34, 35, 36, 37, 38, 39, 40, 41, 42, 43, 44, 45, 46, 47, 48] (by decide +kernel) (by decide +kernel)
set_option maxRecDepth 20000 in
theorem gX5_leafOf_X5_is : GoodIn wsX5_leafOf (wsV RX5 84 RX5 yX5_is wsX5_is) := goodIn_app (goodIn_of _ (by decide +kernel)) ggX5_leafOf_X5_is
set_option maxRecDepth 20000 in
theorem ggX5_leafOf_X5_fails : GoodIn wsX5_leafOf wsX5_fails := goodIn_r _ [11, 12, 33, 34, 35, 36, 37, 38, 39, 40, 41, 42, 43, 44, 45, 46, 47, 48] (by decide +kernel) (by decide +kernel)
set_option maxRecDepth 20000 in
theorem gX5_leafOf_X5_fails : GoodIn wsX5_leafOf (wsV RX5 70 RX5 yX5_fails wsX5_fails) := goodIn_app (goodIn_of _ (by decide +kernel)) ggX5_leafOf_X5_fails
set_option maxRecDepth 20000 in
theorem ggX5_leafOf_X5_placeOf : GoodIn wsX5_leafOf wsX5_placeOf := goodIn_r _ [16, 17, 33, 34, 35, 36, 37, 38, 39, 40, 41, 42, 43, 44, 45, 46, 47, 48] (by decide +kernel) (by decide +kernel)
set_option maxRecDepth 20000 in
theorem gX5_leafOf_X5_placeOf : GoodIn wsX5_leafOf (wsV RX5 87 RX5 yX5_placeOf wsX5_placeOf) := goodIn_app (goodIn_of _ (by decide +kernel)) ggX5_leafOf_X5_placeOf
set_option maxRecDepth 20000 in
theorem ggX5_leafOf_X5_leafFor : GoodIn wsX5_leafOf wsX5_leafFor := goodIn_r _ [21, 22, 23, 24, 25, 26, 4, 27, 28, 29, 30, 31, 32, 33, 34, 35, 36, 37, 38, 39, 40, 41, 42, 43, 44, 45, 46, 47, 48] (by decide +kernel) (by decide +kernel)
set_option maxRecDepth 20000 in
theorem gX5_leafOf_X5_leafFor : GoodIn wsX5_leafOf (wsV RX5 77 RX5 yX5_leafFor wsX5_leafFor) := goodIn_app (goodIn_of _ (by decide +kernel)) ggX5_leafOf_X5_leafFor
theorem dX5_leafOf_0 : decode cX5_leafOf 0 = .ok (.aload_n 0, 1) := by decide +kernel
theorem dX5_leafOf_1 : decode cX5_leafOf 1 = .ok (.aload_n 0, 1) := by decide +kernel
theorem dX5_leafOf_2 : decode cX5_leafOf 2 = .ok (.iload_n 1, 1) := by decide +kernel
theorem dX5_leafOf_3 : decode cX5_leafOf 3 = .ok (.invokevirtual 84, 3) := by decide +kernel
theorem dX5_leafOf_6 : decode cX5_leafOf 6 = .ok (.ifCond .eq 7, 3) := by decide +kernel
theorem dX5_leafOf_9 : decode cX5_leafOf 9 = .ok (.iconst 0, 1) := by decide +kernel
theorem dX5_leafOf_10 : decode cX5_leafOf 10 = .ok (.goto 4, 3) := by decide +kernel
theorem dX5_leafOf_13 : decode cX5_leafOf 13 = .ok (.iconst 1, 1) := by decide +kernel
theorem dX5_leafOf_14 : decode cX5_leafOf 14 = .ok (.invokevirtual 70, 3) := by decide +kernel
theorem dX5_leafOf_17 : decode cX5_leafOf 17 = .ok (.ifCond .eq 7, 3) := by decide +kernel
theorem dX5_leafOf_20 : decode cX5_leafOf 20 = .ok (.iconst 0, 1) := by decide +kernel
theorem dX5_leafOf_21 : decode cX5_leafOf 21 = .ok (.goto 12, 3) := by decide +kernel
theorem dX5_leafOf_24 : decode cX5_leafOf 24 = .ok (.aload_n 0, 1) := by decide +kernel
theorem dX5_leafOf_25 : decode cX5_leafOf 25 = .ok (.aload_n 0, 1) := by decide +kernel
theorem dX5_leafOf_26 : decode cX5_leafOf 26 = .ok (.iload_n 1, 1) := by decide +kernel
theorem dX5_leafOf_27 : decode cX5_leafOf 27 = .ok (.invokevirtual 87, 3) := by decide +kernel
theorem dX5_leafOf_30 : decode cX5_leafOf 30 = .ok (.invokevirtual 77, 3) := by decide +kernel
theorem dX5_leafOf_33 : decode cX5_leafOf 33 = .ok (.ireturn, 1) := by decide +kernel
set_option maxRecDepth 20000 in
theorem ggX5_boxAt_X5_fails : GoodIn wsX5_boxAt wsX5_fails := goodIn_r _ [7, 8, 9, 10, 11, 12, 13, 14, 15, 16, 17, 18, 19, 20, 21, 22, 23, 24] (by decide +kernel) (by decide +kernel)
set_option maxRecDepth 20000 in
theorem gX5_boxAt_X5_fails : GoodIn wsX5_boxAt (wsV RX5 70 RX5 yX5_fails wsX5_fails) := goodIn_app (goodIn_of _ (by decide +kernel)) ggX5_boxAt_X5_fails
theorem dX5_boxAt_0 : decode cX5_boxAt 0 = .ok (.aload_n 0, 1) := by decide +kernel
theorem dX5_boxAt_1 : decode cX5_boxAt 1 = .ok (.iload_n 1, 1) := by decide +kernel
theorem dX5_boxAt_2 : decode cX5_boxAt 2 = .ok (.ifCond .lt 15, 3) := by decide +kernel
theorem dX5_boxAt_5 : decode cX5_boxAt 5 = .ok (.iload_n 1, 1) := by decide +kernel
theorem dX5_boxAt_6 : decode cX5_boxAt 6 = .ok (.aload_n 0, 1) := by decide +kernel
theorem dX5_boxAt_7 : decode cX5_boxAt 7 = .ok (.getfield 63, 3) := by decide +kernel
theorem dX5_boxAt_10 : decode cX5_boxAt 10 = .ok (.if_icmp .ge 7, 3) := by decide +kernel
theorem dX5_boxAt_13 : decode cX5_boxAt 13 = .ok (.iconst 0, 1) := by decide +kernel
theorem dX5_boxAt_14 : decode cX5_boxAt 14 = .ok (.goto 4, 3) := by decide +kernel
theorem dX5_boxAt_17 : decode cX5_boxAt 17 = .ok (.iconst 1, 1) := by decide +kernel
theorem dX5_boxAt_18 : decode cX5_boxAt 18 = .ok (.invokevirtual 70, 3) := by decide +kernel
theorem dX5_boxAt_21 : decode cX5_boxAt 21 = .ok (.ifCond .eq 7, 3) := by decide +kernel
theorem dX5_boxAt_24 : decode cX5_boxAt 24 = .ok (.iconst 0, 1) := by decide +kernel
theorem dX5_boxAt_25 : decode cX5_boxAt 25 = .ok (.goto 9, 3) := by decide +kernel
theorem dX5_boxAt_28 : decode cX5_boxAt 28 = .ok (.aload_n 0, 1) := by decide +kernel
theorem dX5_boxAt_29 : decode cX5_boxAt 29 = .ok (.getfield 20, 3) := by decide +kernel
theorem dX5_boxAt_32 : decode cX5_boxAt 32 = .ok (.iload_n 1, 1) := by decide +kernel
theorem dX5_boxAt_33 : decode cX5_boxAt 33 = .ok (.iaload, 1) := by decide +kernel
theorem dX5_boxAt_34 : decode cX5_boxAt 34 = .ok (.ireturn, 1) := by decide +kernel
set_option maxRecDepth 20000 in
theorem ggX5_tightness_X5_fails : GoodIn wsX5_tightness wsX5_fails := goodIn_r _ [13, 14, 30, 31, 32, 33, 34, 35, 36, 37, 38, 39, 40, 41, 42, 43, 44, 45] (by decide +kernel) (by decide +kernel)
set_option maxRecDepth 20000 in
theorem gX5_tightness_X5_fails : GoodIn wsX5_tightness (wsV RX5 70 RX5 yX5_fails wsX5_fails) := goodIn_app (goodIn_of _ (by decide +kernel)) ggX5_tightness_X5_fails
set_option maxRecDepth 20000 in
theorem ggX5_tightness_X5_covers : GoodIn wsX5_tightness wsX5_covers := goodIn_r _ [18, 19, 20, 6, 8, 5, 7, 2, 3, 21, 22, 23, 12, 24, 25, 26, 27, 28, 29, 30, 31, 32, 33, 34, 35, 36, 37, 38, 39, 40, 41, 42, 43, 44, 45] (by decide +kernel) (by decide +kernel)
set_option maxRecDepth 20000 in
theorem gX5_tightness_X5_covers : GoodIn wsX5_tightness (wsV RX5 128 RX5 yX5_covers wsX5_covers) := goodIn_app (goodIn_of _ (by decide +kernel)) ggX5_tightness_X5_covers
theorem dX5_tightness_0 : decode cX5_tightness 0 = .ok (.aload_n 0, 1) := by decide +kernel
theorem dX5_tightness_1 : decode cX5_tightness 1 = .ok (.aload_n 0, 1) := by decide +kernel
theorem dX5_tightness_2 : decode cX5_tightness 2 = .ok (.getfield 63, 3) := by decide +kernel
theorem dX5_tightness_5 : decode cX5_tightness 5 = .ok (.ifCond .ne 7, 3) := by decide +kernel
theorem dX5_tightness_8 : decode cX5_tightness 8 = .ok (.iconst 1, 1) := by decide +kernel
theorem dX5_tightness_9 : decode cX5_tightness 9 = .ok (.goto 4, 3) := by decide +kernel
theorem dX5_tightness_12 : decode cX5_tightness 12 = .ok (.iconst 0, 1) := by decide +kernel
theorem dX5_tightness_13 : decode cX5_tightness 13 = .ok (.invokevirtual 70, 3) := by decide +kernel
theorem dX5_tightness_16 : decode cX5_tightness 16 = .ok (.ifCond .eq 5, 3) := by decide +kernel
theorem dX5_tightness_19 : decode cX5_tightness 19 = .ok (.fconst 0, 1) := by decide +kernel
theorem dX5_tightness_20 : decode cX5_tightness 20 = .ok (.freturn, 1) := by decide +kernel
theorem dX5_tightness_21 : decode cX5_tightness 21 = .ok (.iconst 0, 1) := by decide +kernel
theorem dX5_tightness_22 : decode cX5_tightness 22 = .ok (.istore_n 1, 1) := by decide +kernel
theorem dX5_tightness_23 : decode cX5_tightness 23 = .ok (.iconst 0, 1) := by decide +kernel
theorem dX5_tightness_24 : decode cX5_tightness 24 = .ok (.istore_n 2, 1) := by decide +kernel
theorem dX5_tightness_25 : decode cX5_tightness 25 = .ok (.iload_n 2, 1) := by decide +kernel
theorem dX5_tightness_26 : decode cX5_tightness 26 = .ok (.aload_n 0, 1) := by decide +kernel
theorem dX5_tightness_27 : decode cX5_tightness 27 = .ok (.getfield 63, 3) := by decide +kernel
theorem dX5_tightness_30 : decode cX5_tightness 30 = .ok (.if_icmp .ge 58, 3) := by decide +kernel
theorem dX5_tightness_33 : decode cX5_tightness 33 = .ok (.iconst 4, 1) := by decide +kernel
theorem dX5_tightness_34 : decode cX5_tightness 34 = .ok (.aload_n 0, 1) := by decide +kernel
theorem dX5_tightness_35 : decode cX5_tightness 35 = .ok (.getfield 20, 3) := by decide +kernel
theorem dX5_tightness_38 : decode cX5_tightness 38 = .ok (.iload_n 2, 1) := by decide +kernel
theorem dX5_tightness_39 : decode cX5_tightness 39 = .ok (.iaload, 1) := by decide +kernel
theorem dX5_tightness_40 : decode cX5_tightness 40 = .ok (.imul, 1) := by decide +kernel
theorem dX5_tightness_41 : decode cX5_tightness 41 = .ok (.istore_n 3, 1) := by decide +kernel
theorem dX5_tightness_42 : decode cX5_tightness 42 = .ok (.iload_n 1, 1) := by decide +kernel
theorem dX5_tightness_43 : decode cX5_tightness 43 = .ok (.aload_n 0, 1) := by decide +kernel
theorem dX5_tightness_44 : decode cX5_tightness 44 = .ok (.getfield 7, 3) := by decide +kernel
theorem dX5_tightness_47 : decode cX5_tightness 47 = .ok (.iload_n 3, 1) := by decide +kernel
theorem dX5_tightness_48 : decode cX5_tightness 48 = .ok (.iconst 2, 1) := by decide +kernel
theorem dX5_tightness_49 : decode cX5_tightness 49 = .ok (.iadd, 1) := by decide +kernel
theorem dX5_tightness_50 : decode cX5_tightness 50 = .ok (.iaload, 1) := by decide +kernel
theorem dX5_tightness_51 : decode cX5_tightness 51 = .ok (.aload_n 0, 1) := by decide +kernel
theorem dX5_tightness_52 : decode cX5_tightness 52 = .ok (.getfield 7, 3) := by decide +kernel
theorem dX5_tightness_55 : decode cX5_tightness 55 = .ok (.iload_n 3, 1) := by decide +kernel
theorem dX5_tightness_56 : decode cX5_tightness 56 = .ok (.iaload, 1) := by decide +kernel
theorem dX5_tightness_57 : decode cX5_tightness 57 = .ok (.isub, 1) := by decide +kernel
theorem dX5_tightness_58 : decode cX5_tightness 58 = .ok (.iconst 1, 1) := by decide +kernel
theorem dX5_tightness_59 : decode cX5_tightness 59 = .ok (.iadd, 1) := by decide +kernel
theorem dX5_tightness_60 : decode cX5_tightness 60 = .ok (.aload_n 0, 1) := by decide +kernel
theorem dX5_tightness_61 : decode cX5_tightness 61 = .ok (.getfield 7, 3) := by decide +kernel
theorem dX5_tightness_64 : decode cX5_tightness 64 = .ok (.iload_n 3, 1) := by decide +kernel
theorem dX5_tightness_65 : decode cX5_tightness 65 = .ok (.iconst 3, 1) := by decide +kernel
theorem dX5_tightness_66 : decode cX5_tightness 66 = .ok (.iadd, 1) := by decide +kernel
theorem dX5_tightness_67 : decode cX5_tightness 67 = .ok (.iaload, 1) := by decide +kernel
theorem dX5_tightness_68 : decode cX5_tightness 68 = .ok (.aload_n 0, 1) := by decide +kernel
theorem dX5_tightness_69 : decode cX5_tightness 69 = .ok (.getfield 7, 3) := by decide +kernel
theorem dX5_tightness_72 : decode cX5_tightness 72 = .ok (.iload_n 3, 1) := by decide +kernel
theorem dX5_tightness_73 : decode cX5_tightness 73 = .ok (.iconst 1, 1) := by decide +kernel
theorem dX5_tightness_74 : decode cX5_tightness 74 = .ok (.iadd, 1) := by decide +kernel
theorem dX5_tightness_75 : decode cX5_tightness 75 = .ok (.iaload, 1) := by decide +kernel
theorem dX5_tightness_76 : decode cX5_tightness 76 = .ok (.isub, 1) := by decide +kernel
theorem dX5_tightness_77 : decode cX5_tightness 77 = .ok (.iconst 1, 1) := by decide +kernel
theorem dX5_tightness_78 : decode cX5_tightness 78 = .ok (.iadd, 1) := by decide +kernel
theorem dX5_tightness_79 : decode cX5_tightness 79 = .ok (.imul, 1) := by decide +kernel
theorem dX5_tightness_80 : decode cX5_tightness 80 = .ok (.iadd, 1) := by decide +kernel
theorem dX5_tightness_81 : decode cX5_tightness 81 = .ok (.istore_n 1, 1) := by decide +kernel
theorem dX5_tightness_82 : decode cX5_tightness 82 = .ok (.iinc 2 1, 3) := by decide +kernel
theorem dX5_tightness_85 : decode cX5_tightness 85 = .ok (.goto (-60), 3) := by decide +kernel
theorem dX5_tightness_88 : decode cX5_tightness 88 = .ok (.iconst 0, 1) := by decide +kernel
theorem dX5_tightness_89 : decode cX5_tightness 89 = .ok (.istore_n 2, 1) := by decide +kernel
theorem dX5_tightness_90 : decode cX5_tightness 90 = .ok (.iconst 0, 1) := by decide +kernel
theorem dX5_tightness_91 : decode cX5_tightness 91 = .ok (.istore_n 3, 1) := by decide +kernel
theorem dX5_tightness_92 : decode cX5_tightness 92 = .ok (.iload_n 3, 1) := by decide +kernel
theorem dX5_tightness_93 : decode cX5_tightness 93 = .ok (.aload_n 0, 1) := by decide +kernel
theorem dX5_tightness_94 : decode cX5_tightness 94 = .ok (.getfield 23, 3) := by decide +kernel
theorem dX5_tightness_97 : decode cX5_tightness 97 = .ok (.iconst 0, 1) := by decide +kernel
theorem dX5_tightness_98 : decode cX5_tightness 98 = .ok (.iaload, 1) := by decide +kernel
theorem dX5_tightness_99 : decode cX5_tightness 99 = .ok (.if_icmp .ge 41, 3) := by decide +kernel
theorem dX5_tightness_102 : decode cX5_tightness 102 = .ok (.aload_n 0, 1) := by decide +kernel
theorem dX5_tightness_103 : decode cX5_tightness 103 = .ok (.iconst 0, 1) := by decide +kernel
theorem dX5_tightness_104 : decode cX5_tightness 104 = .ok (.iload_n 3, 1) := by decide +kernel
theorem dX5_tightness_105 : decode cX5_tightness 105 = .ok (.invokevirtual 128, 3) := by decide +kernel
theorem dX5_tightness_108 : decode cX5_tightness 108 = .ok (.iload_n 2, 1) := by decide +kernel
theorem dX5_tightness_109 : decode cX5_tightness 109 = .ok (.aload_n 0, 1) := by decide +kernel
theorem dX5_tightness_110 : decode cX5_tightness 110 = .ok (.getfield 122, 3) := by decide +kernel
theorem dX5_tightness_113 : decode cX5_tightness 113 = .ok (.aload_n 0, 1) := by decide +kernel
theorem dX5_tightness_114 : decode cX5_tightness 114 = .ok (.getfield 116, 3) := by decide +kernel
theorem dX5_tightness_117 : decode cX5_tightness 117 = .ok (.isub, 1) := by decide +kernel
theorem dX5_tightness_118 : decode cX5_tightness 118 = .ok (.iconst 1, 1) := by decide +kernel
theorem dX5_tightness_119 : decode cX5_tightness 119 = .ok (.iadd, 1) := by decide +kernel
theorem dX5_tightness_120 : decode cX5_tightness 120 = .ok (.aload_n 0, 1) := by decide +kernel
theorem dX5_tightness_121 : decode cX5_tightness 121 = .ok (.getfield 125, 3) := by decide +kernel
theorem dX5_tightness_124 : decode cX5_tightness 124 = .ok (.aload_n 0, 1) := by decide +kernel
theorem dX5_tightness_125 : decode cX5_tightness 125 = .ok (.getfield 119, 3) := by decide +kernel
theorem dX5_tightness_128 : decode cX5_tightness 128 = .ok (.isub, 1) := by decide +kernel
theorem dX5_tightness_129 : decode cX5_tightness 129 = .ok (.iconst 1, 1) := by decide +kernel
theorem dX5_tightness_130 : decode cX5_tightness 130 = .ok (.iadd, 1) := by decide +kernel
theorem dX5_tightness_131 : decode cX5_tightness 131 = .ok (.imul, 1) := by decide +kernel
theorem dX5_tightness_132 : decode cX5_tightness 132 = .ok (.iadd, 1) := by decide +kernel
theorem dX5_tightness_133 : decode cX5_tightness 133 = .ok (.istore_n 2, 1) := by decide +kernel
theorem dX5_tightness_134 : decode cX5_tightness 134 = .ok (.iinc 3 1, 3) := by decide +kernel
theorem dX5_tightness_137 : decode cX5_tightness 137 = .ok (.goto (-45), 3) := by decide +kernel
theorem dX5_tightness_140 : decode cX5_tightness 140 = .ok (.iload_n 1, 1) := by decide +kernel
theorem dX5_tightness_141 : decode cX5_tightness 141 = .ok (.i2f, 1) := by decide +kernel
theorem dX5_tightness_142 : decode cX5_tightness 142 = .ok (.iload_n 2, 1) := by decide +kernel
theorem dX5_tightness_143 : decode cX5_tightness 143 = .ok (.i2f, 1) := by decide +kernel
theorem dX5_tightness_144 : decode cX5_tightness 144 = .ok (.fdiv, 1) := by decide +kernel
theorem dX5_tightness_145 : decode cX5_tightness 145 = .ok (.freturn, 1) := by decide +kernel
theorem dX5_doesMeet_0 : decode cX5_doesMeet 0 = .ok (.iconst 4, 1) := by decide +kernel
theorem dX5_doesMeet_1 : decode cX5_doesMeet 1 = .ok (.iload_n 1, 1) := by decide +kernel
theorem dX5_doesMeet_2 : decode cX5_doesMeet 2 = .ok (.imul, 1) := by decide +kernel
theorem dX5_doesMeet_3 : decode cX5_doesMeet 3 = .ok (.istore 6, 2) := by decide +kernel
theorem dX5_doesMeet_5 : decode cX5_doesMeet 5 = .ok (.aload_n 0, 1) := by decide +kernel
theorem dX5_doesMeet_6 : decode cX5_doesMeet 6 = .ok (.getfield 7, 3) := by decide +kernel
theorem dX5_doesMeet_9 : decode cX5_doesMeet 9 = .ok (.iload 6, 2) := by decide +kernel
theorem dX5_doesMeet_11 : decode cX5_doesMeet 11 = .ok (.iaload, 1) := by decide +kernel
theorem dX5_doesMeet_12 : decode cX5_doesMeet 12 = .ok (.iload 4, 2) := by decide +kernel
theorem dX5_doesMeet_14 : decode cX5_doesMeet 14 = .ok (.if_icmp .gt 47, 3) := by decide +kernel
theorem dX5_doesMeet_17 : decode cX5_doesMeet 17 = .ok (.aload_n 0, 1) := by decide +kernel
theorem dX5_doesMeet_18 : decode cX5_doesMeet 18 = .ok (.getfield 7, 3) := by decide +kernel
theorem dX5_doesMeet_21 : decode cX5_doesMeet 21 = .ok (.iload 6, 2) := by decide +kernel
theorem dX5_doesMeet_23 : decode cX5_doesMeet 23 = .ok (.iconst 2, 1) := by decide +kernel
theorem dX5_doesMeet_24 : decode cX5_doesMeet 24 = .ok (.iadd, 1) := by decide +kernel
theorem dX5_doesMeet_25 : decode cX5_doesMeet 25 = .ok (.iaload, 1) := by decide +kernel
theorem dX5_doesMeet_26 : decode cX5_doesMeet 26 = .ok (.iload_n 2, 1) := by decide +kernel
theorem dX5_doesMeet_27 : decode cX5_doesMeet 27 = .ok (.if_icmp .lt 34, 3) := by decide +kernel
theorem dX5_doesMeet_30 : decode cX5_doesMeet 30 = .ok (.aload_n 0, 1) := by decide +kernel
theorem dX5_doesMeet_31 : decode cX5_doesMeet 31 = .ok (.getfield 7, 3) := by decide +kernel
theorem dX5_doesMeet_34 : decode cX5_doesMeet 34 = .ok (.iload 6, 2) := by decide +kernel
theorem dX5_doesMeet_36 : decode cX5_doesMeet 36 = .ok (.iconst 1, 1) := by decide +kernel
theorem dX5_doesMeet_37 : decode cX5_doesMeet 37 = .ok (.iadd, 1) := by decide +kernel
theorem dX5_doesMeet_38 : decode cX5_doesMeet 38 = .ok (.iaload, 1) := by decide +kernel
theorem dX5_doesMeet_39 : decode cX5_doesMeet 39 = .ok (.iload 5, 2) := by decide +kernel
theorem dX5_doesMeet_41 : decode cX5_doesMeet 41 = .ok (.if_icmp .gt 20, 3) := by decide +kernel
theorem dX5_doesMeet_44 : decode cX5_doesMeet 44 = .ok (.aload_n 0, 1) := by decide +kernel
theorem dX5_doesMeet_45 : decode cX5_doesMeet 45 = .ok (.getfield 7, 3) := by decide +kernel
theorem dX5_doesMeet_48 : decode cX5_doesMeet 48 = .ok (.iload 6, 2) := by decide +kernel
theorem dX5_doesMeet_50 : decode cX5_doesMeet 50 = .ok (.iconst 3, 1) := by decide +kernel
theorem dX5_doesMeet_51 : decode cX5_doesMeet 51 = .ok (.iadd, 1) := by decide +kernel
theorem dX5_doesMeet_52 : decode cX5_doesMeet 52 = .ok (.iaload, 1) := by decide +kernel
theorem dX5_doesMeet_53 : decode cX5_doesMeet 53 = .ok (.iload_n 3, 1) := by decide +kernel
theorem dX5_doesMeet_54 : decode cX5_doesMeet 54 = .ok (.if_icmp .lt 7, 3) := by decide +kernel
theorem dX5_doesMeet_57 : decode cX5_doesMeet 57 = .ok (.iconst 1, 1) := by decide +kernel
theorem dX5_doesMeet_58 : decode cX5_doesMeet 58 = .ok (.goto 4, 3) := by decide +kernel
theorem dX5_doesMeet_61 : decode cX5_doesMeet 61 = .ok (.iconst 0, 1) := by decide +kernel
theorem dX5_doesMeet_62 : decode cX5_doesMeet 62 = .ok (.ireturn, 1) := by decide +kernel
set_option maxRecDepth 20000 in
theorem ggX5_met_X5_doesMeet : GoodIn wsX5_met wsX5_doesMeet := goodIn_r _ [7, 8, 9, 10, 11, 12, 13, 14, 15, 16, 17, 18, 19, 20, 21, 22, 23, 24] (by decide +kernel) (by decide +kernel)
set_option maxRecDepth 20000 in
theorem gX5_met_X5_doesMeet : GoodIn wsX5_met (wsV RX5 131 RX5 yX5_doesMeet wsX5_doesMeet) := goodIn_app (goodIn_of _ (by decide +kernel)) ggX5_met_X5_doesMeet
theorem dX5_met_0 : decode cX5_met 0 = .ok (.iconst 0, 1) := by decide +kernel
theorem dX5_met_1 : decode cX5_met 1 = .ok (.istore 5, 2) := by decide +kernel
theorem dX5_met_3 : decode cX5_met 3 = .ok (.iconst 0, 1) := by decide +kernel
theorem dX5_met_4 : decode cX5_met 4 = .ok (.istore 6, 2) := by decide +kernel
theorem dX5_met_6 : decode cX5_met 6 = .ok (.iload 6, 2) := by decide +kernel
theorem dX5_met_8 : decode cX5_met 8 = .ok (.aload_n 0, 1) := by decide +kernel
theorem dX5_met_9 : decode cX5_met 9 = .ok (.getfield 63, 3) := by decide +kernel
theorem dX5_met_12 : decode cX5_met 12 = .ok (.if_icmp .ge 38, 3) := by decide +kernel
theorem dX5_met_15 : decode cX5_met 15 = .ok (.iload 5, 2) := by decide +kernel
theorem dX5_met_17 : decode cX5_met 17 = .ok (.aload_n 0, 1) := by decide +kernel
theorem dX5_met_18 : decode cX5_met 18 = .ok (.aload_n 0, 1) := by decide +kernel
theorem dX5_met_19 : decode cX5_met 19 = .ok (.getfield 20, 3) := by decide +kernel
theorem dX5_met_22 : decode cX5_met 22 = .ok (.iload 6, 2) := by decide +kernel
theorem dX5_met_24 : decode cX5_met 24 = .ok (.iaload, 1) := by decide +kernel
theorem dX5_met_25 : decode cX5_met 25 = .ok (.iload_n 1, 1) := by decide +kernel
theorem dX5_met_26 : decode cX5_met 26 = .ok (.iload_n 2, 1) := by decide +kernel
theorem dX5_met_27 : decode cX5_met 27 = .ok (.iload_n 3, 1) := by decide +kernel
theorem dX5_met_28 : decode cX5_met 28 = .ok (.iload 4, 2) := by decide +kernel
theorem dX5_met_30 : decode cX5_met 30 = .ok (.invokevirtual 131, 3) := by decide +kernel
theorem dX5_met_33 : decode cX5_met 33 = .ok (.ifCond .eq 7, 3) := by decide +kernel
theorem dX5_met_36 : decode cX5_met 36 = .ok (.iconst 1, 1) := by decide +kernel
theorem dX5_met_37 : decode cX5_met 37 = .ok (.goto 4, 3) := by decide +kernel
theorem dX5_met_40 : decode cX5_met 40 = .ok (.iconst 0, 1) := by decide +kernel
theorem dX5_met_41 : decode cX5_met 41 = .ok (.iadd, 1) := by decide +kernel
theorem dX5_met_42 : decode cX5_met 42 = .ok (.istore 5, 2) := by decide +kernel
theorem dX5_met_44 : decode cX5_met 44 = .ok (.iinc 6 1, 3) := by decide +kernel
theorem dX5_met_47 : decode cX5_met 47 = .ok (.goto (-41), 3) := by decide +kernel
theorem dX5_met_50 : decode cX5_met 50 = .ok (.iload 5, 2) := by decide +kernel
theorem dX5_met_52 : decode cX5_met 52 = .ok (.ireturn, 1) := by decide +kernel
set_option maxRecDepth 20000 in
theorem ggX5_count_X5_isArea : GoodIn wsX5_count wsX5_isArea := goodIn_r _ [4] (by decide +kernel) (by decide +kernel)
set_option maxRecDepth 20000 in
theorem gX5_count_X5_isArea : GoodIn wsX5_count (va_wsS RX5 66 yX5_isArea wsX5_isArea) := goodIn_app (goodIn_of _ (by decide +kernel)) ggX5_count_X5_isArea
set_option maxRecDepth 20000 in
theorem ggX5_count_X5_fails : GoodIn wsX5_count wsX5_fails := goodIn_r _ [8, 9, 21, 22, 23, 24, 25, 26, 27, 28, 29, 30, 31, 32, 33, 34, 35, 36] (by decide +kernel) (by decide +kernel)
set_option maxRecDepth 20000 in
theorem gX5_count_X5_fails : GoodIn wsX5_count (wsV RX5 70 RX5 yX5_fails wsX5_fails) := goodIn_app (goodIn_of _ (by decide +kernel)) ggX5_count_X5_fails
set_option maxRecDepth 20000 in
theorem ggX5_count_X5_met : GoodIn wsX5_count wsX5_met := goodIn_r _ [13, 14, 15, 16, 17, 18, 3, 19, 20, 21, 22, 23, 24, 25, 26, 27, 28, 29, 30, 31, 32, 33, 34, 35, 36] (by decide +kernel) (by decide +kernel)
set_option maxRecDepth 20000 in
theorem gX5_count_X5_met : GoodIn wsX5_count (wsV RX5 135 RX5 yX5_met wsX5_met) := goodIn_app (goodIn_of _ (by decide +kernel)) ggX5_count_X5_met
theorem dX5_count_0 : decode cX5_count 0 = .ok (.aload_n 0, 1) := by decide +kernel
theorem dX5_count_1 : decode cX5_count 1 = .ok (.iload_n 1, 1) := by decide +kernel
theorem dX5_count_2 : decode cX5_count 2 = .ok (.iload_n 2, 1) := by decide +kernel
theorem dX5_count_3 : decode cX5_count 3 = .ok (.iload_n 3, 1) := by decide +kernel
theorem dX5_count_4 : decode cX5_count 4 = .ok (.iload 4, 2) := by decide +kernel
theorem dX5_count_6 : decode cX5_count 6 = .ok (.invokestatic 66, 3) := by decide +kernel
theorem dX5_count_9 : decode cX5_count 9 = .ok (.ifCond .eq 7, 3) := by decide +kernel
theorem dX5_count_12 : decode cX5_count 12 = .ok (.iconst 0, 1) := by decide +kernel
theorem dX5_count_13 : decode cX5_count 13 = .ok (.goto 4, 3) := by decide +kernel
theorem dX5_count_16 : decode cX5_count 16 = .ok (.iconst 1, 1) := by decide +kernel
theorem dX5_count_17 : decode cX5_count 17 = .ok (.invokevirtual 70, 3) := by decide +kernel
theorem dX5_count_20 : decode cX5_count 20 = .ok (.ifCond .eq 7, 3) := by decide +kernel
theorem dX5_count_23 : decode cX5_count 23 = .ok (.iconst 0, 1) := by decide +kernel
theorem dX5_count_24 : decode cX5_count 24 = .ok (.goto 12, 3) := by decide +kernel
theorem dX5_count_27 : decode cX5_count 27 = .ok (.aload_n 0, 1) := by decide +kernel
theorem dX5_count_28 : decode cX5_count 28 = .ok (.iload_n 1, 1) := by decide +kernel
theorem dX5_count_29 : decode cX5_count 29 = .ok (.iload_n 2, 1) := by decide +kernel
theorem dX5_count_30 : decode cX5_count 30 = .ok (.iload_n 3, 1) := by decide +kernel
theorem dX5_count_31 : decode cX5_count 31 = .ok (.iload 4, 2) := by decide +kernel
theorem dX5_count_33 : decode cX5_count 33 = .ok (.invokevirtual 135, 3) := by decide +kernel
theorem dX5_count_36 : decode cX5_count 36 = .ok (.ireturn, 1) := by decide +kernel
set_option maxRecDepth 20000 in
theorem ggX5_found_X5_isArea : GoodIn wsX5_found wsX5_isArea := goodIn_r _ [5] (by decide +kernel) (by decide +kernel)
set_option maxRecDepth 20000 in
theorem gX5_found_X5_isArea : GoodIn wsX5_found (va_wsS RX5 66 yX5_isArea wsX5_isArea) := goodIn_app (goodIn_of _ (by decide +kernel)) ggX5_found_X5_isArea
set_option maxRecDepth 20000 in
theorem ggX5_found_X5_met : GoodIn wsX5_found wsX5_met := goodIn_r _ [9, 10, 1, 11, 12, 13, 4, 14, 15, 21, 22, 23, 24, 25, 26, 27, 28, 29, 30, 31, 32, 33, 34, 35, 36] (by decide +kernel) (by decide +kernel)
set_option maxRecDepth 20000 in
theorem gX5_found_X5_met : GoodIn wsX5_found (wsV RX5 135 RX5 yX5_met wsX5_met) := goodIn_app (goodIn_of _ (by decide +kernel)) ggX5_found_X5_met
set_option maxRecDepth 20000 in
theorem ggX5_found_X5_fails : GoodIn wsX5_found wsX5_fails := goodIn_r _ [19, 20, 21, 22, 23, 24, 25, 26, 27, 28, 29, 30, 31, 32, 33, 34, 35, 36] (by decide +kernel) (by decide +kernel)
set_option maxRecDepth 20000 in
theorem gX5_found_X5_fails : GoodIn wsX5_found (wsV RX5 70 RX5 yX5_fails wsX5_fails) := goodIn_app (goodIn_of _ (by decide +kernel)) ggX5_found_X5_fails
set_option maxRecDepth 20000 in
theorem ggX5_found_X5_doesMeet : GoodIn wsX5_found wsX5_doesMeet := goodIn_r _ [14, 15, 21, 22, 23, 24, 25, 26, 27, 28, 29, 30, 31, 32, 33, 34, 35, 36] (by decide +kernel) (by decide +kernel)
set_option maxRecDepth 20000 in
theorem gX5_found_X5_doesMeet : GoodIn wsX5_found (wsV RX5 131 RX5 yX5_doesMeet wsX5_doesMeet) := goodIn_app (goodIn_of _ (by decide +kernel)) ggX5_found_X5_doesMeet
theorem dX5_found_0 : decode cX5_found 0 = .ok (.iload_n 1, 1) := by decide +kernel
theorem dX5_found_1 : decode cX5_found 1 = .ok (.iload_n 2, 1) := by decide +kernel
theorem dX5_found_2 : decode cX5_found 2 = .ok (.iload_n 3, 1) := by decide +kernel
theorem dX5_found_3 : decode cX5_found 3 = .ok (.iload 4, 2) := by decide +kernel
theorem dX5_found_5 : decode cX5_found 5 = .ok (.invokestatic 66, 3) := by decide +kernel
theorem dX5_found_8 : decode cX5_found 8 = .ok (.istore 6, 2) := by decide +kernel
theorem dX5_found_10 : decode cX5_found 10 = .ok (.aload_n 0, 1) := by decide +kernel
theorem dX5_found_11 : decode cX5_found 11 = .ok (.iload 6, 2) := by decide +kernel
theorem dX5_found_13 : decode cX5_found 13 = .ok (.ifCond .ne 7, 3) := by decide +kernel
theorem dX5_found_16 : decode cX5_found 16 = .ok (.iconst 1, 1) := by decide +kernel
theorem dX5_found_17 : decode cX5_found 17 = .ok (.goto 27, 3) := by decide +kernel
theorem dX5_found_20 : decode cX5_found 20 = .ok (.iload 5, 2) := by decide +kernel
theorem dX5_found_22 : decode cX5_found 22 = .ok (.ifCond .lt 21, 3) := by decide +kernel
theorem dX5_found_25 : decode cX5_found 25 = .ok (.iload 5, 2) := by decide +kernel
theorem dX5_found_27 : decode cX5_found 27 = .ok (.aload_n 0, 1) := by decide +kernel
theorem dX5_found_28 : decode cX5_found 28 = .ok (.iload_n 1, 1) := by decide +kernel
theorem dX5_found_29 : decode cX5_found 29 = .ok (.iload_n 2, 1) := by decide +kernel
theorem dX5_found_30 : decode cX5_found 30 = .ok (.iload_n 3, 1) := by decide +kernel
theorem dX5_found_31 : decode cX5_found 31 = .ok (.iload 4, 2) := by decide +kernel
theorem dX5_found_33 : decode cX5_found 33 = .ok (.invokevirtual 135, 3) := by decide +kernel
theorem dX5_found_36 : decode cX5_found 36 = .ok (.if_icmp .ge 7, 3) := by decide +kernel
theorem dX5_found_39 : decode cX5_found 39 = .ok (.iconst 0, 1) := by decide +kernel
theorem dX5_found_40 : decode cX5_found 40 = .ok (.goto 4, 3) := by decide +kernel
theorem dX5_found_43 : decode cX5_found 43 = .ok (.iconst 2, 1) := by decide +kernel
theorem dX5_found_44 : decode cX5_found 44 = .ok (.invokevirtual 70, 3) := by decide +kernel
theorem dX5_found_47 : decode cX5_found 47 = .ok (.ifCond .eq 5, 3) := by decide +kernel
theorem dX5_found_50 : decode cX5_found 50 = .ok (.iconst 0, 1) := by decide +kernel
theorem dX5_found_51 : decode cX5_found 51 = .ok (.ireturn, 1) := by decide +kernel
theorem dX5_found_52 : decode cX5_found 52 = .ok (.iload 5, 2) := by decide +kernel
theorem dX5_found_54 : decode cX5_found 54 = .ok (.istore 7, 2) := by decide +kernel
theorem dX5_found_56 : decode cX5_found 56 = .ok (.iconst 0, 1) := by decide +kernel
theorem dX5_found_57 : decode cX5_found 57 = .ok (.istore 8, 2) := by decide +kernel
theorem dX5_found_59 : decode cX5_found 59 = .ok (.iload 7, 2) := by decide +kernel
theorem dX5_found_61 : decode cX5_found 61 = .ok (.ifCond .gt 22, 3) := by decide +kernel
theorem dX5_found_64 : decode cX5_found 64 = .ok (.aload_n 0, 1) := by decide +kernel
theorem dX5_found_65 : decode cX5_found 65 = .ok (.aload_n 0, 1) := by decide +kernel
theorem dX5_found_66 : decode cX5_found 66 = .ok (.getfield 20, 3) := by decide +kernel
theorem dX5_found_69 : decode cX5_found 69 = .ok (.iload 8, 2) := by decide +kernel
theorem dX5_found_71 : decode cX5_found 71 = .ok (.iaload, 1) := by decide +kernel
theorem dX5_found_72 : decode cX5_found 72 = .ok (.iload_n 1, 1) := by decide +kernel
theorem dX5_found_73 : decode cX5_found 73 = .ok (.iload_n 2, 1) := by decide +kernel
theorem dX5_found_74 : decode cX5_found 74 = .ok (.iload_n 3, 1) := by decide +kernel
theorem dX5_found_75 : decode cX5_found 75 = .ok (.iload 4, 2) := by decide +kernel
theorem dX5_found_77 : decode cX5_found 77 = .ok (.invokevirtual 131, 3) := by decide +kernel
theorem dX5_found_80 : decode cX5_found 80 = .ok (.ifCond .ne 38, 3) := by decide +kernel
theorem dX5_found_83 : decode cX5_found 83 = .ok (.iload 7, 2) := by decide +kernel
theorem dX5_found_85 : decode cX5_found 85 = .ok (.aload_n 0, 1) := by decide +kernel
theorem dX5_found_86 : decode cX5_found 86 = .ok (.aload_n 0, 1) := by decide +kernel
theorem dX5_found_87 : decode cX5_found 87 = .ok (.getfield 20, 3) := by decide +kernel
theorem dX5_found_90 : decode cX5_found 90 = .ok (.iload 8, 2) := by decide +kernel
theorem dX5_found_92 : decode cX5_found 92 = .ok (.iaload, 1) := by decide +kernel
theorem dX5_found_93 : decode cX5_found 93 = .ok (.iload_n 1, 1) := by decide +kernel
theorem dX5_found_94 : decode cX5_found 94 = .ok (.iload_n 2, 1) := by decide +kernel
theorem dX5_found_95 : decode cX5_found 95 = .ok (.iload_n 3, 1) := by decide +kernel
theorem dX5_found_96 : decode cX5_found 96 = .ok (.iload 4, 2) := by decide +kernel
theorem dX5_found_98 : decode cX5_found 98 = .ok (.invokevirtual 131, 3) := by decide +kernel
theorem dX5_found_101 : decode cX5_found 101 = .ok (.ifCond .eq 7, 3) := by decide +kernel
theorem dX5_found_104 : decode cX5_found 104 = .ok (.iconst 1, 1) := by decide +kernel
theorem dX5_found_105 : decode cX5_found 105 = .ok (.goto 4, 3) := by decide +kernel
theorem dX5_found_108 : decode cX5_found 108 = .ok (.iconst 0, 1) := by decide +kernel
theorem dX5_found_109 : decode cX5_found 109 = .ok (.isub, 1) := by decide +kernel
theorem dX5_found_110 : decode cX5_found 110 = .ok (.istore 7, 2) := by decide +kernel
theorem dX5_found_112 : decode cX5_found 112 = .ok (.iinc 8 1, 3) := by decide +kernel
theorem dX5_found_115 : decode cX5_found 115 = .ok (.goto (-56), 3) := by decide +kernel
theorem dX5_found_118 : decode cX5_found 118 = .ok (.aload_n 0, 1) := by decide +kernel
theorem dX5_found_119 : decode cX5_found 119 = .ok (.getfield 20, 3) := by decide +kernel
theorem dX5_found_122 : decode cX5_found 122 = .ok (.iload 8, 2) := by decide +kernel
theorem dX5_found_124 : decode cX5_found 124 = .ok (.iaload, 1) := by decide +kernel
theorem dX5_found_125 : decode cX5_found 125 = .ok (.ireturn, 1) := by decide +kernel
set_option maxRecDepth 20000 in
theorem ggX5_visits_X5_isArea : GoodIn wsX5_visits wsX5_isArea := goodIn_r _ [10] (by decide +kernel) (by decide +kernel)
set_option maxRecDepth 20000 in
theorem gX5_visits_X5_isArea : GoodIn wsX5_visits (va_wsS RX5 66 yX5_isArea wsX5_isArea) := goodIn_app (goodIn_of _ (by decide +kernel)) ggX5_visits_X5_isArea
set_option maxRecDepth 20000 in
theorem ggX5_visits_X5_fails : GoodIn wsX5_visits wsX5_fails := goodIn_r _ [14, 15, 33, 34, 35, 36, 37, 38, 39, 40, 41, 42, 43, 44, 45, 46, 47, 48] (by decide +kernel) (by decide +kernel)
set_option maxRecDepth 20000 in
theorem gX5_visits_X5_fails : GoodIn wsX5_visits (wsV RX5 70 RX5 yX5_fails wsX5_fails) := goodIn_app (goodIn_of _ (by decide +kernel)) ggX5_visits_X5_fails
set_option maxRecDepth 20000 in
theorem ggX5_visits_X5_covers : GoodIn wsX5_visits wsX5_covers := goodIn_r _ [19, 20, 21, 3, 5, 4, 6, 22, 23, 24, 25, 26, 9, 27, 28, 29, 30, 31, 32, 33, 34, 35, 36, 37, 38, 39, 40, 41, 42, 43, 44, 45, 46, 47, 48] (by decide +kernel) (by decide +kernel)
set_option maxRecDepth 20000 in
theorem gX5_visits_X5_covers : GoodIn wsX5_visits (wsV RX5 128 RX5 yX5_covers wsX5_covers) := goodIn_app (goodIn_of _ (by decide +kernel)) ggX5_visits_X5_covers
theorem dX5_visits_0 : decode cX5_visits 0 = .ok (.aload_n 0, 1) := by decide +kernel
theorem dX5_visits_1 : decode cX5_visits 1 = .ok (.iload_n 1, 1) := by decide +kernel
theorem dX5_visits_2 : decode cX5_visits 2 = .ok (.iload_n 2, 1) := by decide +kernel
theorem dX5_visits_3 : decode cX5_visits 3 = .ok (.iload_n 3, 1) := by decide +kernel
theorem dX5_visits_4 : decode cX5_visits 4 = .ok (.iload 4, 2) := by decide +kernel
theorem dX5_visits_6 : decode cX5_visits 6 = .ok (.invokestatic 66, 3) := by decide +kernel
theorem dX5_visits_9 : decode cX5_visits 9 = .ok (.ifCond .eq 7, 3) := by decide +kernel
theorem dX5_visits_12 : decode cX5_visits 12 = .ok (.iconst 0, 1) := by decide +kernel
theorem dX5_visits_13 : decode cX5_visits 13 = .ok (.goto 4, 3) := by decide +kernel
theorem dX5_visits_16 : decode cX5_visits 16 = .ok (.iconst 1, 1) := by decide +kernel
theorem dX5_visits_17 : decode cX5_visits 17 = .ok (.invokevirtual 70, 3) := by decide +kernel
theorem dX5_visits_20 : decode cX5_visits 20 = .ok (.ifCond .eq 5, 3) := by decide +kernel
theorem dX5_visits_23 : decode cX5_visits 23 = .ok (.iconst 0, 1) := by decide +kernel
theorem dX5_visits_24 : decode cX5_visits 24 = .ok (.ireturn, 1) := by decide +kernel
theorem dX5_visits_25 : decode cX5_visits 25 = .ok (.iconst 0, 1) := by decide +kernel
theorem dX5_visits_26 : decode cX5_visits 26 = .ok (.istore 5, 2) := by decide +kernel
theorem dX5_visits_28 : decode cX5_visits 28 = .ok (.iconst 0, 1) := by decide +kernel
theorem dX5_visits_29 : decode cX5_visits 29 = .ok (.istore 6, 2) := by decide +kernel
theorem dX5_visits_31 : decode cX5_visits 31 = .ok (.iload 6, 2) := by decide +kernel
theorem dX5_visits_33 : decode cX5_visits 33 = .ok (.aload_n 0, 1) := by decide +kernel
theorem dX5_visits_34 : decode cX5_visits 34 = .ok (.getfield 43, 3) := by decide +kernel
theorem dX5_visits_37 : decode cX5_visits 37 = .ok (.if_icmp .ge 81, 3) := by decide +kernel
theorem dX5_visits_40 : decode cX5_visits 40 = .ok (.iconst 0, 1) := by decide +kernel
theorem dX5_visits_41 : decode cX5_visits 41 = .ok (.istore 7, 2) := by decide +kernel
theorem dX5_visits_43 : decode cX5_visits 43 = .ok (.iload 7, 2) := by decide +kernel
theorem dX5_visits_45 : decode cX5_visits 45 = .ok (.aload_n 0, 1) := by decide +kernel
theorem dX5_visits_46 : decode cX5_visits 46 = .ok (.getfield 23, 3) := by decide +kernel
theorem dX5_visits_49 : decode cX5_visits 49 = .ok (.iload 6, 2) := by decide +kernel
theorem dX5_visits_51 : decode cX5_visits 51 = .ok (.iaload, 1) := by decide +kernel
theorem dX5_visits_52 : decode cX5_visits 52 = .ok (.if_icmp .ge 60, 3) := by decide +kernel
theorem dX5_visits_55 : decode cX5_visits 55 = .ok (.aload_n 0, 1) := by decide +kernel
theorem dX5_visits_56 : decode cX5_visits 56 = .ok (.iload 6, 2) := by decide +kernel
theorem dX5_visits_58 : decode cX5_visits 58 = .ok (.iload 7, 2) := by decide +kernel
theorem dX5_visits_60 : decode cX5_visits 60 = .ok (.invokevirtual 128, 3) := by decide +kernel
theorem dX5_visits_63 : decode cX5_visits 63 = .ok (.iload 5, 2) := by decide +kernel
theorem dX5_visits_65 : decode cX5_visits 65 = .ok (.aload_n 0, 1) := by decide +kernel
theorem dX5_visits_66 : decode cX5_visits 66 = .ok (.getfield 116, 3) := by decide +kernel
theorem dX5_visits_69 : decode cX5_visits 69 = .ok (.iload_n 3, 1) := by decide +kernel
theorem dX5_visits_70 : decode cX5_visits 70 = .ok (.if_icmp .gt 32, 3) := by decide +kernel
theorem dX5_visits_73 : decode cX5_visits 73 = .ok (.aload_n 0, 1) := by decide +kernel
theorem dX5_visits_74 : decode cX5_visits 74 = .ok (.getfield 122, 3) := by decide +kernel
theorem dX5_visits_77 : decode cX5_visits 77 = .ok (.iload_n 1, 1) := by decide +kernel
theorem dX5_visits_78 : decode cX5_visits 78 = .ok (.if_icmp .lt 24, 3) := by decide +kernel
theorem dX5_visits_81 : decode cX5_visits 81 = .ok (.aload_n 0, 1) := by decide +kernel
theorem dX5_visits_82 : decode cX5_visits 82 = .ok (.getfield 119, 3) := by decide +kernel
theorem dX5_visits_85 : decode cX5_visits 85 = .ok (.iload 4, 2) := by decide +kernel
theorem dX5_visits_87 : decode cX5_visits 87 = .ok (.if_icmp .gt 15, 3) := by decide +kernel
theorem dX5_visits_90 : decode cX5_visits 90 = .ok (.aload_n 0, 1) := by decide +kernel
theorem dX5_visits_91 : decode cX5_visits 91 = .ok (.getfield 125, 3) := by decide +kernel
theorem dX5_visits_94 : decode cX5_visits 94 = .ok (.iload_n 2, 1) := by decide +kernel
theorem dX5_visits_95 : decode cX5_visits 95 = .ok (.if_icmp .lt 7, 3) := by decide +kernel
theorem dX5_visits_98 : decode cX5_visits 98 = .ok (.iconst 1, 1) := by decide +kernel
theorem dX5_visits_99 : decode cX5_visits 99 = .ok (.goto 4, 3) := by decide +kernel
theorem dX5_visits_102 : decode cX5_visits 102 = .ok (.iconst 0, 1) := by decide +kernel
theorem dX5_visits_103 : decode cX5_visits 103 = .ok (.iadd, 1) := by decide +kernel
theorem dX5_visits_104 : decode cX5_visits 104 = .ok (.istore 5, 2) := by decide +kernel
theorem dX5_visits_106 : decode cX5_visits 106 = .ok (.iinc 7 1, 3) := by decide +kernel
theorem dX5_visits_109 : decode cX5_visits 109 = .ok (.goto (-66), 3) := by decide +kernel
theorem dX5_visits_112 : decode cX5_visits 112 = .ok (.iinc 6 1, 3) := by decide +kernel
theorem dX5_visits_115 : decode cX5_visits 115 = .ok (.goto (-84), 3) := by decide +kernel
theorem dX5_visits_118 : decode cX5_visits 118 = .ok (.iload 5, 2) := by decide +kernel
theorem dX5_visits_120 : decode cX5_visits 120 = .ok (.ireturn, 1) := by decide +kernel
theorem dX5_far_0 : decode cX5_far 0 = .ok (.iconst 4, 1) := by decide +kernel
theorem dX5_far_1 : decode cX5_far 1 = .ok (.iload_n 3, 1) := by decide +kernel
theorem dX5_far_2 : decode cX5_far 2 = .ok (.imul, 1) := by decide +kernel
theorem dX5_far_3 : decode cX5_far 3 = .ok (.istore 4, 2) := by decide +kernel
theorem dX5_far_5 : decode cX5_far 5 = .ok (.iload_n 1, 1) := by decide +kernel
theorem dX5_far_6 : decode cX5_far 6 = .ok (.aload_n 0, 1) := by decide +kernel
theorem dX5_far_7 : decode cX5_far 7 = .ok (.getfield 7, 3) := by decide +kernel
theorem dX5_far_10 : decode cX5_far 10 = .ok (.iload 4, 2) := by decide +kernel
theorem dX5_far_12 : decode cX5_far 12 = .ok (.iaload, 1) := by decide +kernel
theorem dX5_far_13 : decode cX5_far 13 = .ok (.if_icmp .ge 15, 3) := by decide +kernel
theorem dX5_far_16 : decode cX5_far 16 = .ok (.aload_n 0, 1) := by decide +kernel
theorem dX5_far_17 : decode cX5_far 17 = .ok (.getfield 7, 3) := by decide +kernel
theorem dX5_far_20 : decode cX5_far 20 = .ok (.iload 4, 2) := by decide +kernel
theorem dX5_far_22 : decode cX5_far 22 = .ok (.iaload, 1) := by decide +kernel
theorem dX5_far_23 : decode cX5_far 23 = .ok (.iload_n 1, 1) := by decide +kernel
theorem dX5_far_24 : decode cX5_far 24 = .ok (.isub, 1) := by decide +kernel
theorem dX5_far_25 : decode cX5_far 25 = .ok (.goto 31, 3) := by decide +kernel
theorem dX5_far_28 : decode cX5_far 28 = .ok (.iload_n 1, 1) := by decide +kernel
theorem dX5_far_29 : decode cX5_far 29 = .ok (.aload_n 0, 1) := by decide +kernel
theorem dX5_far_30 : decode cX5_far 30 = .ok (.getfield 7, 3) := by decide +kernel
theorem dX5_far_33 : decode cX5_far 33 = .ok (.iload 4, 2) := by decide +kernel
theorem dX5_far_35 : decode cX5_far 35 = .ok (.iconst 2, 1) := by decide +kernel
theorem dX5_far_36 : decode cX5_far 36 = .ok (.iadd, 1) := by decide +kernel
theorem dX5_far_37 : decode cX5_far 37 = .ok (.iaload, 1) := by decide +kernel
theorem dX5_far_38 : decode cX5_far 38 = .ok (.if_icmp .le 17, 3) := by decide +kernel
theorem dX5_far_41 : decode cX5_far 41 = .ok (.iload_n 1, 1) := by decide +kernel
theorem dX5_far_42 : decode cX5_far 42 = .ok (.aload_n 0, 1) := by decide +kernel
theorem dX5_far_43 : decode cX5_far 43 = .ok (.getfield 7, 3) := by decide +kernel
theorem dX5_far_46 : decode cX5_far 46 = .ok (.iload 4, 2) := by decide +kernel
theorem dX5_far_48 : decode cX5_far 48 = .ok (.iconst 2, 1) := by decide +kernel
theorem dX5_far_49 : decode cX5_far 49 = .ok (.iadd, 1) := by decide +kernel
theorem dX5_far_50 : decode cX5_far 50 = .ok (.iaload, 1) := by decide +kernel
theorem dX5_far_51 : decode cX5_far 51 = .ok (.isub, 1) := by decide +kernel
theorem dX5_far_52 : decode cX5_far 52 = .ok (.goto 4, 3) := by decide +kernel
theorem dX5_far_55 : decode cX5_far 55 = .ok (.iconst 0, 1) := by decide +kernel
theorem dX5_far_56 : decode cX5_far 56 = .ok (.istore 5, 2) := by decide +kernel
theorem dX5_far_58 : decode cX5_far 58 = .ok (.iload_n 2, 1) := by decide +kernel
theorem dX5_far_59 : decode cX5_far 59 = .ok (.aload_n 0, 1) := by decide +kernel
theorem dX5_far_60 : decode cX5_far 60 = .ok (.getfield 7, 3) := by decide +kernel
theorem dX5_far_63 : decode cX5_far 63 = .ok (.iload 4, 2) := by decide +kernel
theorem dX5_far_65 : decode cX5_far 65 = .ok (.iconst 1, 1) := by decide +kernel
theorem dX5_far_66 : decode cX5_far 66 = .ok (.iadd, 1) := by decide +kernel
theorem dX5_far_67 : decode cX5_far 67 = .ok (.iaload, 1) := by decide +kernel
theorem dX5_far_68 : decode cX5_far 68 = .ok (.if_icmp .ge 17, 3) := by decide +kernel
theorem dX5_far_71 : decode cX5_far 71 = .ok (.aload_n 0, 1) := by decide +kernel
theorem dX5_far_72 : decode cX5_far 72 = .ok (.getfield 7, 3) := by decide +kernel
theorem dX5_far_75 : decode cX5_far 75 = .ok (.iload 4, 2) := by decide +kernel
theorem dX5_far_77 : decode cX5_far 77 = .ok (.iconst 1, 1) := by decide +kernel
theorem dX5_far_78 : decode cX5_far 78 = .ok (.iadd, 1) := by decide +kernel
theorem dX5_far_79 : decode cX5_far 79 = .ok (.iaload, 1) := by decide +kernel
theorem dX5_far_80 : decode cX5_far 80 = .ok (.iload_n 2, 1) := by decide +kernel
theorem dX5_far_81 : decode cX5_far 81 = .ok (.isub, 1) := by decide +kernel
theorem dX5_far_82 : decode cX5_far 82 = .ok (.goto 31, 3) := by decide +kernel
theorem dX5_far_85 : decode cX5_far 85 = .ok (.iload_n 2, 1) := by decide +kernel
theorem dX5_far_86 : decode cX5_far 86 = .ok (.aload_n 0, 1) := by decide +kernel
theorem dX5_far_87 : decode cX5_far 87 = .ok (.getfield 7, 3) := by decide +kernel
theorem dX5_far_90 : decode cX5_far 90 = .ok (.iload 4, 2) := by decide +kernel
theorem dX5_far_92 : decode cX5_far 92 = .ok (.iconst 3, 1) := by decide +kernel
theorem dX5_far_93 : decode cX5_far 93 = .ok (.iadd, 1) := by decide +kernel
theorem dX5_far_94 : decode cX5_far 94 = .ok (.iaload, 1) := by decide +kernel
theorem dX5_far_95 : decode cX5_far 95 = .ok (.if_icmp .le 17, 3) := by decide +kernel
theorem dX5_far_98 : decode cX5_far 98 = .ok (.iload_n 2, 1) := by decide +kernel
theorem dX5_far_99 : decode cX5_far 99 = .ok (.aload_n 0, 1) := by decide +kernel
theorem dX5_far_100 : decode cX5_far 100 = .ok (.getfield 7, 3) := by decide +kernel
theorem dX5_far_103 : decode cX5_far 103 = .ok (.iload 4, 2) := by decide +kernel
theorem dX5_far_105 : decode cX5_far 105 = .ok (.iconst 3, 1) := by decide +kernel
theorem dX5_far_106 : decode cX5_far 106 = .ok (.iadd, 1) := by decide +kernel
theorem dX5_far_107 : decode cX5_far 107 = .ok (.iaload, 1) := by decide +kernel
theorem dX5_far_108 : decode cX5_far 108 = .ok (.isub, 1) := by decide +kernel
theorem dX5_far_109 : decode cX5_far 109 = .ok (.goto 4, 3) := by decide +kernel
theorem dX5_far_112 : decode cX5_far 112 = .ok (.iconst 0, 1) := by decide +kernel
theorem dX5_far_113 : decode cX5_far 113 = .ok (.istore 6, 2) := by decide +kernel
theorem dX5_far_115 : decode cX5_far 115 = .ok (.iload 5, 2) := by decide +kernel
theorem dX5_far_117 : decode cX5_far 117 = .ok (.iload 5, 2) := by decide +kernel
theorem dX5_far_119 : decode cX5_far 119 = .ok (.imul, 1) := by decide +kernel
theorem dX5_far_120 : decode cX5_far 120 = .ok (.iload 6, 2) := by decide +kernel
theorem dX5_far_122 : decode cX5_far 122 = .ok (.iload 6, 2) := by decide +kernel
theorem dX5_far_124 : decode cX5_far 124 = .ok (.imul, 1) := by decide +kernel
theorem dX5_far_125 : decode cX5_far 125 = .ok (.iadd, 1) := by decide +kernel
theorem dX5_far_126 : decode cX5_far 126 = .ok (.ireturn, 1) := by decide +kernel
set_option maxRecDepth 20000 in
theorem ggX5_nearer_X5_far : GoodIn wsX5_nearer wsX5_far := goodIn_r _ [7, 8, 9, 10, 11, 12, 13, 14, 15, 16, 17, 18, 19, 20, 21, 22, 23, 24] (by decide +kernel) (by decide +kernel)
set_option maxRecDepth 20000 in
theorem gX5_nearer_X5_far : GoodIn wsX5_nearer (wsV RX5 139 RX5 yX5_far wsX5_far) := goodIn_app (goodIn_of _ (by decide +kernel)) ggX5_nearer_X5_far
theorem dX5_nearer_0 : decode cX5_nearer 0 = .ok (.iconst 0, 1) := by decide +kernel
theorem dX5_nearer_1 : decode cX5_nearer 1 = .ok (.istore 4, 2) := by decide +kernel
theorem dX5_nearer_3 : decode cX5_nearer 3 = .ok (.iconst 0, 1) := by decide +kernel
theorem dX5_nearer_4 : decode cX5_nearer 4 = .ok (.istore 5, 2) := by decide +kernel
theorem dX5_nearer_6 : decode cX5_nearer 6 = .ok (.iload 5, 2) := by decide +kernel
theorem dX5_nearer_8 : decode cX5_nearer 8 = .ok (.aload_n 0, 1) := by decide +kernel
theorem dX5_nearer_9 : decode cX5_nearer 9 = .ok (.getfield 33, 3) := by decide +kernel
theorem dX5_nearer_12 : decode cX5_nearer 12 = .ok (.if_icmp .ge 83, 3) := by decide +kernel
theorem dX5_nearer_15 : decode cX5_nearer 15 = .ok (.aload_n 0, 1) := by decide +kernel
theorem dX5_nearer_16 : decode cX5_nearer 16 = .ok (.getfield 16, 3) := by decide +kernel
theorem dX5_nearer_19 : decode cX5_nearer 19 = .ok (.iload 5, 2) := by decide +kernel
theorem dX5_nearer_21 : decode cX5_nearer 21 = .ok (.baload, 1) := by decide +kernel
theorem dX5_nearer_22 : decode cX5_nearer 22 = .ok (.ifCond .eq 49, 3) := by decide +kernel
theorem dX5_nearer_25 : decode cX5_nearer 25 = .ok (.aload_n 0, 1) := by decide +kernel
theorem dX5_nearer_26 : decode cX5_nearer 26 = .ok (.iload_n 1, 1) := by decide +kernel
theorem dX5_nearer_27 : decode cX5_nearer 27 = .ok (.iload_n 2, 1) := by decide +kernel
theorem dX5_nearer_28 : decode cX5_nearer 28 = .ok (.iload 5, 2) := by decide +kernel
theorem dX5_nearer_30 : decode cX5_nearer 30 = .ok (.invokevirtual 139, 3) := by decide +kernel
theorem dX5_nearer_33 : decode cX5_nearer 33 = .ok (.aload_n 0, 1) := by decide +kernel
theorem dX5_nearer_34 : decode cX5_nearer 34 = .ok (.iload_n 1, 1) := by decide +kernel
theorem dX5_nearer_35 : decode cX5_nearer 35 = .ok (.iload_n 2, 1) := by decide +kernel
theorem dX5_nearer_36 : decode cX5_nearer 36 = .ok (.iload_n 3, 1) := by decide +kernel
theorem dX5_nearer_37 : decode cX5_nearer 37 = .ok (.invokevirtual 139, 3) := by decide +kernel
theorem dX5_nearer_40 : decode cX5_nearer 40 = .ok (.if_icmp .lt 27, 3) := by decide +kernel
theorem dX5_nearer_43 : decode cX5_nearer 43 = .ok (.aload_n 0, 1) := by decide +kernel
theorem dX5_nearer_44 : decode cX5_nearer 44 = .ok (.iload_n 1, 1) := by decide +kernel
theorem dX5_nearer_45 : decode cX5_nearer 45 = .ok (.iload_n 2, 1) := by decide +kernel
theorem dX5_nearer_46 : decode cX5_nearer 46 = .ok (.iload 5, 2) := by decide +kernel
theorem dX5_nearer_48 : decode cX5_nearer 48 = .ok (.invokevirtual 139, 3) := by decide +kernel
theorem dX5_nearer_51 : decode cX5_nearer 51 = .ok (.aload_n 0, 1) := by decide +kernel
theorem dX5_nearer_52 : decode cX5_nearer 52 = .ok (.iload_n 1, 1) := by decide +kernel
theorem dX5_nearer_53 : decode cX5_nearer 53 = .ok (.iload_n 2, 1) := by decide +kernel
theorem dX5_nearer_54 : decode cX5_nearer 54 = .ok (.iload_n 3, 1) := by decide +kernel
theorem dX5_nearer_55 : decode cX5_nearer 55 = .ok (.invokevirtual 139, 3) := by decide +kernel
theorem dX5_nearer_58 : decode cX5_nearer 58 = .ok (.if_icmp .ne 13, 3) := by decide +kernel
theorem dX5_nearer_61 : decode cX5_nearer 61 = .ok (.iload 5, 2) := by decide +kernel
theorem dX5_nearer_63 : decode cX5_nearer 63 = .ok (.iload_n 3, 1) := by decide +kernel
theorem dX5_nearer_64 : decode cX5_nearer 64 = .ok (.if_icmp .ge 7, 3) := by decide +kernel
theorem dX5_nearer_67 : decode cX5_nearer 67 = .ok (.iconst 1, 1) := by decide +kernel
theorem dX5_nearer_68 : decode cX5_nearer 68 = .ok (.goto 4, 3) := by decide +kernel
theorem dX5_nearer_71 : decode cX5_nearer 71 = .ok (.iconst 0, 1) := by decide +kernel
theorem dX5_nearer_72 : decode cX5_nearer 72 = .ok (.istore 6, 2) := by decide +kernel
theorem dX5_nearer_74 : decode cX5_nearer 74 = .ok (.iload 4, 2) := by decide +kernel
theorem dX5_nearer_76 : decode cX5_nearer 76 = .ok (.iload 6, 2) := by decide +kernel
theorem dX5_nearer_78 : decode cX5_nearer 78 = .ok (.ifCond .eq 7, 3) := by decide +kernel
theorem dX5_nearer_81 : decode cX5_nearer 81 = .ok (.iconst 1, 1) := by decide +kernel
theorem dX5_nearer_82 : decode cX5_nearer 82 = .ok (.goto 4, 3) := by decide +kernel
theorem dX5_nearer_85 : decode cX5_nearer 85 = .ok (.iconst 0, 1) := by decide +kernel
theorem dX5_nearer_86 : decode cX5_nearer 86 = .ok (.iadd, 1) := by decide +kernel
theorem dX5_nearer_87 : decode cX5_nearer 87 = .ok (.istore 4, 2) := by decide +kernel
theorem dX5_nearer_89 : decode cX5_nearer 89 = .ok (.iinc 5 1, 3) := by decide +kernel
theorem dX5_nearer_92 : decode cX5_nearer 92 = .ok (.goto (-86), 3) := by decide +kernel
theorem dX5_nearer_95 : decode cX5_nearer 95 = .ok (.iload 4, 2) := by decide +kernel
theorem dX5_nearer_97 : decode cX5_nearer 97 = .ok (.ireturn, 1) := by decide +kernel
set_option maxRecDepth 20000 in
theorem ggX5_nearest_X5_isPoint : GoodIn wsX5_nearest wsX5_isPoint := goodIn_r _ [6] (by decide +kernel) (by decide +kernel)
set_option maxRecDepth 20000 in
theorem gX5_nearest_X5_isPoint : GoodIn wsX5_nearest (va_wsS RX5 97 yX5_isPoint wsX5_isPoint) := goodIn_app (goodIn_of _ (by decide +kernel)) ggX5_nearest_X5_isPoint
set_option maxRecDepth 20000 in
theorem ggX5_nearest_X5_fails : GoodIn wsX5_nearest wsX5_fails := goodIn_r _ [10, 11, 22, 23, 24, 25, 26, 27, 28, 29, 30, 31, 32, 33, 34, 35, 36, 37] (by decide +kernel) (by decide +kernel)
set_option maxRecDepth 20000 in
theorem gX5_nearest_X5_fails : GoodIn wsX5_nearest (wsV RX5 70 RX5 yX5_fails wsX5_fails) := goodIn_app (goodIn_of _ (by decide +kernel)) ggX5_nearest_X5_fails
set_option maxRecDepth 20000 in
theorem ggX5_nearest_X5_nearer : GoodIn wsX5_nearest wsX5_nearer := goodIn_r _ [15, 16, 2, 17, 18, 19, 5, 20, 21, 22, 23, 24, 25, 26, 27, 28, 29, 30, 31, 32, 33, 34, 35, 36, 37] (by decide +kernel) (by decide +kernel)
set_option maxRecDepth 20000 in
theorem gX5_nearest_X5_nearer : GoodIn wsX5_nearest (wsV RX5 143 RX5 yX5_nearer wsX5_nearer) := goodIn_app (goodIn_of _ (by decide +kernel)) ggX5_nearest_X5_nearer
theorem dX5_nearest_0 : decode cX5_nearest 0 = .ok (.aload_n 0, 1) := by decide +kernel
theorem dX5_nearest_1 : decode cX5_nearest 1 = .ok (.iload_n 1, 1) := by decide +kernel
theorem dX5_nearest_2 : decode cX5_nearest 2 = .ok (.iload_n 2, 1) := by decide +kernel
theorem dX5_nearest_3 : decode cX5_nearest 3 = .ok (.invokestatic 97, 3) := by decide +kernel
theorem dX5_nearest_6 : decode cX5_nearest 6 = .ok (.ifCond .ne 7, 3) := by decide +kernel
theorem dX5_nearest_9 : decode cX5_nearest 9 = .ok (.iconst 1, 1) := by decide +kernel
theorem dX5_nearest_10 : decode cX5_nearest 10 = .ok (.goto 20, 3) := by decide +kernel
theorem dX5_nearest_13 : decode cX5_nearest 13 = .ok (.iload_n 3, 1) := by decide +kernel
theorem dX5_nearest_14 : decode cX5_nearest 14 = .ok (.ifCond .lt 15, 3) := by decide +kernel
theorem dX5_nearest_17 : decode cX5_nearest 17 = .ok (.iload_n 3, 1) := by decide +kernel
theorem dX5_nearest_18 : decode cX5_nearest 18 = .ok (.aload_n 0, 1) := by decide +kernel
theorem dX5_nearest_19 : decode cX5_nearest 19 = .ok (.getfield 63, 3) := by decide +kernel
theorem dX5_nearest_22 : decode cX5_nearest 22 = .ok (.if_icmp .ge 7, 3) := by decide +kernel
theorem dX5_nearest_25 : decode cX5_nearest 25 = .ok (.iconst 0, 1) := by decide +kernel
theorem dX5_nearest_26 : decode cX5_nearest 26 = .ok (.goto 4, 3) := by decide +kernel
theorem dX5_nearest_29 : decode cX5_nearest 29 = .ok (.iconst 2, 1) := by decide +kernel
theorem dX5_nearest_30 : decode cX5_nearest 30 = .ok (.invokevirtual 70, 3) := by decide +kernel
theorem dX5_nearest_33 : decode cX5_nearest 33 = .ok (.ifCond .eq 5, 3) := by decide +kernel
theorem dX5_nearest_36 : decode cX5_nearest 36 = .ok (.iconst 0, 1) := by decide +kernel
theorem dX5_nearest_37 : decode cX5_nearest 37 = .ok (.ireturn, 1) := by decide +kernel
theorem dX5_nearest_38 : decode cX5_nearest 38 = .ok (.iconst 0, 1) := by decide +kernel
theorem dX5_nearest_39 : decode cX5_nearest 39 = .ok (.istore 4, 2) := by decide +kernel
theorem dX5_nearest_41 : decode cX5_nearest 41 = .ok (.aload_n 0, 1) := by decide +kernel
theorem dX5_nearest_42 : decode cX5_nearest 42 = .ok (.getfield 16, 3) := by decide +kernel
theorem dX5_nearest_45 : decode cX5_nearest 45 = .ok (.iload 4, 2) := by decide +kernel
theorem dX5_nearest_47 : decode cX5_nearest 47 = .ok (.baload, 1) := by decide +kernel
theorem dX5_nearest_48 : decode cX5_nearest 48 = .ok (.ifCond .eq 15, 3) := by decide +kernel
theorem dX5_nearest_51 : decode cX5_nearest 51 = .ok (.aload_n 0, 1) := by decide +kernel
theorem dX5_nearest_52 : decode cX5_nearest 52 = .ok (.iload_n 1, 1) := by decide +kernel
theorem dX5_nearest_53 : decode cX5_nearest 53 = .ok (.iload_n 2, 1) := by decide +kernel
theorem dX5_nearest_54 : decode cX5_nearest 54 = .ok (.iload 4, 2) := by decide +kernel
theorem dX5_nearest_56 : decode cX5_nearest 56 = .ok (.invokevirtual 143, 3) := by decide +kernel
theorem dX5_nearest_59 : decode cX5_nearest 59 = .ok (.iload_n 3, 1) := by decide +kernel
theorem dX5_nearest_60 : decode cX5_nearest 60 = .ok (.if_icmp .eq 9, 3) := by decide +kernel
theorem dX5_nearest_63 : decode cX5_nearest 63 = .ok (.iinc 4 1, 3) := by decide +kernel
theorem dX5_nearest_66 : decode cX5_nearest 66 = .ok (.goto (-25), 3) := by decide +kernel
theorem dX5_nearest_69 : decode cX5_nearest 69 = .ok (.iload 4, 2) := by decide +kernel
end
section
theorem dX5_nearest_71 : decode cX5_nearest 71 = .ok (.ireturn, 1) := by decide +kernel
set_option maxRecDepth 20000 in
theorem ggX5_distance_X5_isPoint : GoodIn wsX5_distance wsX5_isPoint := goodIn_r _ [4] (by decide +kernel) (by decide +kernel)
set_option maxRecDepth 20000 in
theorem gX5_distance_X5_isPoint : GoodIn wsX5_distance (va_wsS RX5 97 yX5_isPoint wsX5_isPoint) := goodIn_app (goodIn_of _ (by decide +kernel)) ggX5_distance_X5_isPoint
set_option maxRecDepth 20000 in
theorem ggX5_distance_X5_is : GoodIn wsX5_distance wsX5_is := goodIn_r _ [8, 9, 10, 21, 22, 23, 24, 25, 26, 27, 28, 29, 30, 31, 32, 33, 34, 35, 36] (by decide +kernel) (by decide +kernel)
set_option maxRecDepth 20000 in
theorem gX5_distance_X5_is : GoodIn wsX5_distance (wsV RX5 84 RX5 yX5_is wsX5_is) := goodIn_app (goodIn_of _ (by decide +kernel)) ggX5_distance_X5_is
set_option maxRecDepth 20000 in
theorem ggX5_distance_X5_fails : GoodIn wsX5_distance wsX5_fails := goodIn_r _ [14, 15, 21, 22, 23, 24, 25, 26, 27, 28, 29, 30, 31, 32, 33, 34, 35, 36] (by decide +kernel) (by decide +kernel)
set_option maxRecDepth 20000 in
theorem gX5_distance_X5_fails : GoodIn wsX5_distance (wsV RX5 70 RX5 yX5_fails wsX5_fails) := goodIn_app (goodIn_of _ (by decide +kernel)) ggX5_distance_X5_fails
set_option maxRecDepth 20000 in
theorem ggX5_distance_X5_far : GoodIn wsX5_distance wsX5_far := goodIn_r _ [19, 20, 21, 22, 23, 24, 25, 26, 27, 28, 29, 30, 31, 32, 33, 34, 35, 36] (by decide +kernel) (by decide +kernel)
set_option maxRecDepth 20000 in
theorem gX5_distance_X5_far : GoodIn wsX5_distance (wsV RX5 139 RX5 yX5_far wsX5_far) := goodIn_app (goodIn_of _ (by decide +kernel)) ggX5_distance_X5_far
theorem dX5_distance_0 : decode cX5_distance 0 = .ok (.aload_n 0, 1) := by decide +kernel
theorem dX5_distance_1 : decode cX5_distance 1 = .ok (.iload_n 1, 1) := by decide +kernel
theorem dX5_distance_2 : decode cX5_distance 2 = .ok (.iload_n 2, 1) := by decide +kernel
theorem dX5_distance_3 : decode cX5_distance 3 = .ok (.invokestatic 97, 3) := by decide +kernel
theorem dX5_distance_6 : decode cX5_distance 6 = .ok (.ifCond .ne 7, 3) := by decide +kernel
theorem dX5_distance_9 : decode cX5_distance 9 = .ok (.iconst 1, 1) := by decide +kernel
theorem dX5_distance_10 : decode cX5_distance 10 = .ok (.goto 16, 3) := by decide +kernel
theorem dX5_distance_13 : decode cX5_distance 13 = .ok (.aload_n 0, 1) := by decide +kernel
theorem dX5_distance_14 : decode cX5_distance 14 = .ok (.iload_n 3, 1) := by decide +kernel
theorem dX5_distance_15 : decode cX5_distance 15 = .ok (.invokevirtual 84, 3) := by decide +kernel
theorem dX5_distance_18 : decode cX5_distance 18 = .ok (.ifCond .eq 7, 3) := by decide +kernel
theorem dX5_distance_21 : decode cX5_distance 21 = .ok (.iconst 0, 1) := by decide +kernel
theorem dX5_distance_22 : decode cX5_distance 22 = .ok (.goto 4, 3) := by decide +kernel
theorem dX5_distance_25 : decode cX5_distance 25 = .ok (.iconst 2, 1) := by decide +kernel
theorem dX5_distance_26 : decode cX5_distance 26 = .ok (.invokevirtual 70, 3) := by decide +kernel
theorem dX5_distance_29 : decode cX5_distance 29 = .ok (.ifCond .eq 7, 3) := by decide +kernel
theorem dX5_distance_32 : decode cX5_distance 32 = .ok (.iconst 0, 1) := by decide +kernel
theorem dX5_distance_33 : decode cX5_distance 33 = .ok (.goto 10, 3) := by decide +kernel
theorem dX5_distance_36 : decode cX5_distance 36 = .ok (.aload_n 0, 1) := by decide +kernel
theorem dX5_distance_37 : decode cX5_distance 37 = .ok (.iload_n 1, 1) := by decide +kernel
theorem dX5_distance_38 : decode cX5_distance 38 = .ok (.iload_n 2, 1) := by decide +kernel
theorem dX5_distance_39 : decode cX5_distance 39 = .ok (.iload_n 3, 1) := by decide +kernel
theorem dX5_distance_40 : decode cX5_distance 40 = .ok (.invokevirtual 139, 3) := by decide +kernel
theorem dX5_distance_43 : decode cX5_distance 43 = .ok (.ireturn, 1) := by decide +kernel
set_option maxRecDepth 20000 in
theorem ggX5_arePair_X5_doesMeet : GoodIn wsX5_arePair wsX5_doesMeet := goodIn_r _ [7, 2, 8, 9, 10, 11, 12, 13, 14, 15, 16, 17, 18, 19, 20, 21, 22, 23] (by decide +kernel) (by decide +kernel)
set_option maxRecDepth 20000 in
theorem gX5_arePair_X5_doesMeet : GoodIn wsX5_arePair (wsV RX5 131 RX5 yX5_doesMeet wsX5_doesMeet) := goodIn_app (goodIn_of _ (by decide +kernel)) ggX5_arePair_X5_doesMeet
theorem dX5_arePair_0 : decode cX5_arePair 0 = .ok (.iconst 4, 1) := by decide +kernel
theorem dX5_arePair_1 : decode cX5_arePair 1 = .ok (.iload_n 2, 1) := by decide +kernel
theorem dX5_arePair_2 : decode cX5_arePair 2 = .ok (.imul, 1) := by decide +kernel
theorem dX5_arePair_3 : decode cX5_arePair 3 = .ok (.istore_n 3, 1) := by decide +kernel
theorem dX5_arePair_4 : decode cX5_arePair 4 = .ok (.aload_n 0, 1) := by decide +kernel
theorem dX5_arePair_5 : decode cX5_arePair 5 = .ok (.getfield 16, 3) := by decide +kernel
theorem dX5_arePair_8 : decode cX5_arePair 8 = .ok (.iload_n 1, 1) := by decide +kernel
theorem dX5_arePair_9 : decode cX5_arePair 9 = .ok (.baload, 1) := by decide +kernel
theorem dX5_arePair_10 : decode cX5_arePair 10 = .ok (.ifCond .eq 54, 3) := by decide +kernel
theorem dX5_arePair_13 : decode cX5_arePair 13 = .ok (.aload_n 0, 1) := by decide +kernel
theorem dX5_arePair_14 : decode cX5_arePair 14 = .ok (.getfield 16, 3) := by decide +kernel
theorem dX5_arePair_17 : decode cX5_arePair 17 = .ok (.iload_n 2, 1) := by decide +kernel
theorem dX5_arePair_18 : decode cX5_arePair 18 = .ok (.baload, 1) := by decide +kernel
theorem dX5_arePair_19 : decode cX5_arePair 19 = .ok (.ifCond .eq 45, 3) := by decide +kernel
theorem dX5_arePair_22 : decode cX5_arePair 22 = .ok (.aload_n 0, 1) := by decide +kernel
theorem dX5_arePair_23 : decode cX5_arePair 23 = .ok (.iload_n 1, 1) := by decide +kernel
theorem dX5_arePair_24 : decode cX5_arePair 24 = .ok (.aload_n 0, 1) := by decide +kernel
theorem dX5_arePair_25 : decode cX5_arePair 25 = .ok (.getfield 7, 3) := by decide +kernel
theorem dX5_arePair_28 : decode cX5_arePair 28 = .ok (.iload_n 3, 1) := by decide +kernel
theorem dX5_arePair_29 : decode cX5_arePair 29 = .ok (.iaload, 1) := by decide +kernel
theorem dX5_arePair_30 : decode cX5_arePair 30 = .ok (.aload_n 0, 1) := by decide +kernel
theorem dX5_arePair_31 : decode cX5_arePair 31 = .ok (.getfield 7, 3) := by decide +kernel
theorem dX5_arePair_34 : decode cX5_arePair 34 = .ok (.iload_n 3, 1) := by decide +kernel
theorem dX5_arePair_35 : decode cX5_arePair 35 = .ok (.iconst 1, 1) := by decide +kernel
theorem dX5_arePair_36 : decode cX5_arePair 36 = .ok (.iadd, 1) := by decide +kernel
theorem dX5_arePair_37 : decode cX5_arePair 37 = .ok (.iaload, 1) := by decide +kernel
theorem dX5_arePair_38 : decode cX5_arePair 38 = .ok (.aload_n 0, 1) := by decide +kernel
theorem dX5_arePair_39 : decode cX5_arePair 39 = .ok (.getfield 7, 3) := by decide +kernel
theorem dX5_arePair_42 : decode cX5_arePair 42 = .ok (.iload_n 3, 1) := by decide +kernel
theorem dX5_arePair_43 : decode cX5_arePair 43 = .ok (.iconst 2, 1) := by decide +kernel
theorem dX5_arePair_44 : decode cX5_arePair 44 = .ok (.iadd, 1) := by decide +kernel
theorem dX5_arePair_45 : decode cX5_arePair 45 = .ok (.iaload, 1) := by decide +kernel
theorem dX5_arePair_46 : decode cX5_arePair 46 = .ok (.aload_n 0, 1) := by decide +kernel
theorem dX5_arePair_47 : decode cX5_arePair 47 = .ok (.getfield 7, 3) := by decide +kernel
theorem dX5_arePair_50 : decode cX5_arePair 50 = .ok (.iload_n 3, 1) := by decide +kernel
theorem dX5_arePair_51 : decode cX5_arePair 51 = .ok (.iconst 3, 1) := by decide +kernel
theorem dX5_arePair_52 : decode cX5_arePair 52 = .ok (.iadd, 1) := by decide +kernel
theorem dX5_arePair_53 : decode cX5_arePair 53 = .ok (.iaload, 1) := by decide +kernel
theorem dX5_arePair_54 : decode cX5_arePair 54 = .ok (.invokevirtual 131, 3) := by decide +kernel
theorem dX5_arePair_57 : decode cX5_arePair 57 = .ok (.ifCond .eq 7, 3) := by decide +kernel
theorem dX5_arePair_60 : decode cX5_arePair 60 = .ok (.iconst 1, 1) := by decide +kernel
theorem dX5_arePair_61 : decode cX5_arePair 61 = .ok (.goto 4, 3) := by decide +kernel
theorem dX5_arePair_64 : decode cX5_arePair 64 = .ok (.iconst 0, 1) := by decide +kernel
theorem dX5_arePair_65 : decode cX5_arePair 65 = .ok (.ireturn, 1) := by decide +kernel
set_option maxRecDepth 20000 in
theorem ggX5_goesThrough_X5_arePair : GoodIn wsX5_goesThrough wsX5_arePair := goodIn_r _ [6, 7, 8, 9, 10, 11, 5, 12, 13, 14, 15, 16, 17, 18, 19, 20, 21, 22, 23, 24, 25, 26, 27, 28] (by decide +kernel) (by decide +kernel)
set_option maxRecDepth 20000 in
theorem gX5_goesThrough_X5_arePair : GoodIn wsX5_goesThrough (wsV RX5 146 RX5 yX5_arePair wsX5_arePair) := goodIn_app (goodIn_of _ (by decide +kernel)) ggX5_goesThrough_X5_arePair
theorem dX5_goesThrough_0 : decode cX5_goesThrough 0 = .ok (.iconst 0, 1) := by decide +kernel
theorem dX5_goesThrough_1 : decode cX5_goesThrough 1 = .ok (.istore_n 2, 1) := by decide +kernel
theorem dX5_goesThrough_2 : decode cX5_goesThrough 2 = .ok (.iconst 0, 1) := by decide +kernel
theorem dX5_goesThrough_3 : decode cX5_goesThrough 3 = .ok (.istore_n 3, 1) := by decide +kernel
theorem dX5_goesThrough_4 : decode cX5_goesThrough 4 = .ok (.iload_n 3, 1) := by decide +kernel
theorem dX5_goesThrough_5 : decode cX5_goesThrough 5 = .ok (.aload_n 0, 1) := by decide +kernel
theorem dX5_goesThrough_6 : decode cX5_goesThrough 6 = .ok (.getfield 33, 3) := by decide +kernel
theorem dX5_goesThrough_9 : decode cX5_goesThrough 9 = .ok (.if_icmp .ge 55, 3) := by decide +kernel
theorem dX5_goesThrough_12 : decode cX5_goesThrough 12 = .ok (.iload_n 3, 1) := by decide +kernel
theorem dX5_goesThrough_13 : decode cX5_goesThrough 13 = .ok (.iconst 1, 1) := by decide +kernel
theorem dX5_goesThrough_14 : decode cX5_goesThrough 14 = .ok (.iadd, 1) := by decide +kernel
theorem dX5_goesThrough_15 : decode cX5_goesThrough 15 = .ok (.istore 4, 2) := by decide +kernel
theorem dX5_goesThrough_17 : decode cX5_goesThrough 17 = .ok (.iload 4, 2) := by decide +kernel
theorem dX5_goesThrough_19 : decode cX5_goesThrough 19 = .ok (.aload_n 0, 1) := by decide +kernel
theorem dX5_goesThrough_20 : decode cX5_goesThrough 20 = .ok (.getfield 33, 3) := by decide +kernel
theorem dX5_goesThrough_23 : decode cX5_goesThrough 23 = .ok (.if_icmp .ge 35, 3) := by decide +kernel
theorem dX5_goesThrough_26 : decode cX5_goesThrough 26 = .ok (.aload_n 0, 1) := by decide +kernel
theorem dX5_goesThrough_27 : decode cX5_goesThrough 27 = .ok (.iload_n 3, 1) := by decide +kernel
theorem dX5_goesThrough_28 : decode cX5_goesThrough 28 = .ok (.iload 4, 2) := by decide +kernel
theorem dX5_goesThrough_30 : decode cX5_goesThrough 30 = .ok (.invokevirtual 146, 3) := by decide +kernel
theorem dX5_goesThrough_33 : decode cX5_goesThrough 33 = .ok (.ifCond .eq 19, 3) := by decide +kernel
theorem dX5_goesThrough_36 : decode cX5_goesThrough 36 = .ok (.iload_n 2, 1) := by decide +kernel
theorem dX5_goesThrough_37 : decode cX5_goesThrough 37 = .ok (.iload_n 1, 1) := by decide +kernel
theorem dX5_goesThrough_38 : decode cX5_goesThrough 38 = .ok (.if_icmp .ne 11, 3) := by decide +kernel
theorem dX5_goesThrough_41 : decode cX5_goesThrough 41 = .ok (.bipush 100, 2) := by decide +kernel
theorem dX5_goesThrough_43 : decode cX5_goesThrough 43 = .ok (.iload_n 3, 1) := by decide +kernel
theorem dX5_goesThrough_44 : decode cX5_goesThrough 44 = .ok (.imul, 1) := by decide +kernel
theorem dX5_goesThrough_45 : decode cX5_goesThrough 45 = .ok (.iload 4, 2) := by decide +kernel
theorem dX5_goesThrough_47 : decode cX5_goesThrough 47 = .ok (.iadd, 1) := by decide +kernel
theorem dX5_goesThrough_48 : decode cX5_goesThrough 48 = .ok (.ireturn, 1) := by decide +kernel
theorem dX5_goesThrough_49 : decode cX5_goesThrough 49 = .ok (.iinc 2 1, 3) := by decide +kernel
theorem dX5_goesThrough_52 : decode cX5_goesThrough 52 = .ok (.iinc 4 1, 3) := by decide +kernel
theorem dX5_goesThrough_55 : decode cX5_goesThrough 55 = .ok (.goto (-38), 3) := by decide +kernel
theorem dX5_goesThrough_58 : decode cX5_goesThrough 58 = .ok (.iinc 3 1, 3) := by decide +kernel
theorem dX5_goesThrough_61 : decode cX5_goesThrough 61 = .ok (.goto (-57), 3) := by decide +kernel
theorem dX5_goesThrough_64 : decode cX5_goesThrough 64 = .ok (.iconst (-1), 1) := by decide +kernel
theorem dX5_goesThrough_65 : decode cX5_goesThrough 65 = .ok (.iload_n 2, 1) := by decide +kernel
theorem dX5_goesThrough_66 : decode cX5_goesThrough 66 = .ok (.isub, 1) := by decide +kernel
theorem dX5_goesThrough_67 : decode cX5_goesThrough 67 = .ok (.ireturn, 1) := by decide +kernel
set_option maxRecDepth 20000 in
theorem ggX5_pairs_X5_goesThrough : GoodIn wsX5_pairs wsX5_goesThrough := goodIn_r _ [5, 6, 7, 8, 9, 4, 10, 11, 12, 13, 14, 15, 16, 22, 23, 24, 25, 26, 27, 28, 29, 30, 31, 32, 33, 34, 35, 36, 37] (by decide +kernel) (by decide +kernel)
set_option maxRecDepth 20000 in
theorem gX5_pairs_X5_goesThrough : GoodIn wsX5_pairs (wsV RX5 149 RX5 yX5_goesThrough wsX5_goesThrough) := goodIn_app (goodIn_of _ (by decide +kernel)) ggX5_pairs_X5_goesThrough
set_option maxRecDepth 20000 in
theorem ggX5_pairs_X5_tells : GoodIn wsX5_pairs wsX5_tells := goodIn_r _ [20, 21, 22, 23, 24, 25, 26, 27, 28, 29, 30, 31, 32, 33, 34, 35, 36, 37] (by decide +kernel) (by decide +kernel)
set_option maxRecDepth 20000 in
theorem gX5_pairs_X5_tells : GoodIn wsX5_pairs (wsV RX5 94 RX5 yX5_tells wsX5_tells) := goodIn_app (goodIn_of _ (by decide +kernel)) ggX5_pairs_X5_tells
theorem dX5_pairs_0 : decode cX5_pairs 0 = .ok (.aload_n 0, 1) := by decide +kernel
theorem dX5_pairs_1 : decode cX5_pairs 1 = .ok (.iconst (-1), 1) := by decide +kernel
theorem dX5_pairs_2 : decode cX5_pairs 2 = .ok (.aload_n 0, 1) := by decide +kernel
theorem dX5_pairs_3 : decode cX5_pairs 3 = .ok (.iconst (-1), 1) := by decide +kernel
theorem dX5_pairs_4 : decode cX5_pairs 4 = .ok (.invokevirtual 149, 3) := by decide +kernel
theorem dX5_pairs_7 : decode cX5_pairs 7 = .ok (.isub, 1) := by decide +kernel
theorem dX5_pairs_8 : decode cX5_pairs 8 = .ok (.invokevirtual 94, 3) := by decide +kernel
theorem dX5_pairs_11 : decode cX5_pairs 11 = .ok (.ireturn, 1) := by decide +kernel
set_option maxRecDepth 20000 in
theorem ggX5_pair_X5_goesThrough : GoodIn wsX5_pair wsX5_goesThrough := goodIn_r _ [5, 6, 7, 8, 9, 4, 10, 11, 12, 13, 14, 15, 16, 22, 23, 24, 25, 26, 27, 28, 29, 30, 31, 32, 33, 34, 35, 36, 37] (by decide +kernel) (by decide +kernel)
set_option maxRecDepth 20000 in
theorem gX5_pair_X5_goesThrough : GoodIn wsX5_pair (wsV RX5 149 RX5 yX5_goesThrough wsX5_goesThrough) := goodIn_app (goodIn_of _ (by decide +kernel)) ggX5_pair_X5_goesThrough
set_option maxRecDepth 20000 in
theorem ggX5_pair_X5_fails : GoodIn wsX5_pair wsX5_fails := goodIn_r _ [20, 21, 22, 23, 24, 25, 26, 27, 28, 29, 30, 31, 32, 33, 34, 35, 36, 37] (by decide +kernel) (by decide +kernel)
set_option maxRecDepth 20000 in
theorem gX5_pair_X5_fails : GoodIn wsX5_pair (wsV RX5 70 RX5 yX5_fails wsX5_fails) := goodIn_app (goodIn_of _ (by decide +kernel)) ggX5_pair_X5_fails
theorem dX5_pair_0 : decode cX5_pair 0 = .ok (.iload_n 1, 1) := by decide +kernel
theorem dX5_pair_1 : decode cX5_pair 1 = .ok (.ifCond .ge 7, 3) := by decide +kernel
theorem dX5_pair_4 : decode cX5_pair 4 = .ok (.iconst (-1), 1) := by decide +kernel
theorem dX5_pair_5 : decode cX5_pair 5 = .ok (.goto 8, 3) := by decide +kernel
theorem dX5_pair_8 : decode cX5_pair 8 = .ok (.aload_n 0, 1) := by decide +kernel
theorem dX5_pair_9 : decode cX5_pair 9 = .ok (.iload_n 1, 1) := by decide +kernel
theorem dX5_pair_10 : decode cX5_pair 10 = .ok (.invokevirtual 149, 3) := by decide +kernel
theorem dX5_pair_13 : decode cX5_pair 13 = .ok (.istore_n 2, 1) := by decide +kernel
theorem dX5_pair_14 : decode cX5_pair 14 = .ok (.aload_n 0, 1) := by decide +kernel
theorem dX5_pair_15 : decode cX5_pair 15 = .ok (.iload_n 2, 1) := by decide +kernel
theorem dX5_pair_16 : decode cX5_pair 16 = .ok (.ifCond .ge 7, 3) := by decide +kernel
theorem dX5_pair_19 : decode cX5_pair 19 = .ok (.iconst 1, 1) := by decide +kernel
theorem dX5_pair_20 : decode cX5_pair 20 = .ok (.goto 4, 3) := by decide +kernel
theorem dX5_pair_23 : decode cX5_pair 23 = .ok (.iconst 0, 1) := by decide +kernel
theorem dX5_pair_24 : decode cX5_pair 24 = .ok (.invokevirtual 70, 3) := by decide +kernel
theorem dX5_pair_27 : decode cX5_pair 27 = .ok (.ifCond .eq 7, 3) := by decide +kernel
theorem dX5_pair_30 : decode cX5_pair 30 = .ok (.iconst 0, 1) := by decide +kernel
theorem dX5_pair_31 : decode cX5_pair 31 = .ok (.goto 4, 3) := by decide +kernel
theorem dX5_pair_34 : decode cX5_pair 34 = .ok (.iload_n 2, 1) := by decide +kernel
theorem dX5_pair_35 : decode cX5_pair 35 = .ok (.ireturn, 1) := by decide +kernel
theorem dJ9_max_7cf53_0 : decode cJ9_max_7cf53 0 = .ok (.iload_n 0, 1) := by decide +kernel
theorem dJ9_max_7cf53_1 : decode cJ9_max_7cf53 1 = .ok (.iload_n 1, 1) := by decide +kernel
theorem dJ9_max_7cf53_2 : decode cJ9_max_7cf53 2 = .ok (.if_icmp .lt 7, 3) := by decide +kernel
theorem dJ9_max_7cf53_5 : decode cJ9_max_7cf53 5 = .ok (.iload_n 0, 1) := by decide +kernel
theorem dJ9_max_7cf53_6 : decode cJ9_max_7cf53 6 = .ok (.goto 4, 3) := by decide +kernel
theorem dJ9_max_7cf53_9 : decode cJ9_max_7cf53 9 = .ok (.iload_n 1, 1) := by decide +kernel
theorem dJ9_max_7cf53_10 : decode cJ9_max_7cf53 10 = .ok (.ireturn, 1) := by decide +kernel
theorem dJ9_min_7cf53_0 : decode cJ9_min_7cf53 0 = .ok (.iload_n 0, 1) := by decide +kernel
theorem dJ9_min_7cf53_1 : decode cJ9_min_7cf53 1 = .ok (.iload_n 1, 1) := by decide +kernel
theorem dJ9_min_7cf53_2 : decode cJ9_min_7cf53 2 = .ok (.if_icmp .gt 7, 3) := by decide +kernel
theorem dJ9_min_7cf53_5 : decode cJ9_min_7cf53 5 = .ok (.iload_n 0, 1) := by decide +kernel
theorem dJ9_min_7cf53_6 : decode cJ9_min_7cf53 6 = .ok (.goto 4, 3) := by decide +kernel
theorem dJ9_min_7cf53_9 : decode cJ9_min_7cf53 9 = .ok (.iload_n 1, 1) := by decide +kernel
theorem dJ9_min_7cf53_10 : decode cJ9_min_7cf53 10 = .ok (.ireturn, 1) := by decide +kernel
set_option maxRecDepth 20000 in
theorem ggL_add_X4_add : GoodIn wsL_add wsX4_add := goodIn_ca (goodIn_ca (goodIn_r _ [7, 8, 9, 10, 11, 12, 13, 6, 14, 15, 16, 17, 18, 19, 20, 21, 22, 23, 24, 25, 26, 27, 28, 29, 30, 31, 32, 33, 34, 35, 36, 37, 38, 39, 40, 41, 42, 43, 44, 45, 46, 47, 48, 49, 50, 51, 52, 53, 54, 55, 56, 57, 58, 59, 60, 61, 62, 63, 64, 65, 66, 67, 68, 69, 70, 71, 72, 73, 74, 75, 76, 77, 78, 79, 80, 81, 82, 83, 84, 85, 86, 87, 88, 89, 90, 91, 92, 93, 94, 95, 96, 97, 98, 99, 100, 101, 102, 103, 104, 105, 106, 107, 108, 109, 110, 111, 112, 113, 114, 115, 116, 117, 118, 119, 120, 121, 122, 123, 124, 125, 126, 127, 128, 129, 130, 131, 132, 133, 134, 135, 136, 137, 138, 139, 140, 141, 142, 143, 144, 145, 146, 147, 148, 149, 150, 151, 152, 153, 154, 155] (by decide +kernel) (by decide +kernel)) (goodIn_sub (fun _ h => List.mem_cons_of_mem _ (List.mem_append_left _ (List.mem_append_right _ h))) (by decide +kernel))) (goodIn_sub (fun _ h => List.mem_cons_of_mem _ (List.mem_append_right _ h)) (by decide +kernel))
set_option maxRecDepth 20000 in
theorem gL_add_X4_add : GoodIn wsL_add (wsV RL 7 RX4 yX4_add wsX4_add) := goodIn_app (goodIn_of _ (by decide +kernel)) ggL_add_X4_add
theorem dL_add_0 : decode cL_add 0 = .ok (.aload 5, 2) := by decide +kernel
theorem dL_add_2 : decode cL_add 2 = .ok (.iconst 0, 1) := by decide +kernel
theorem dL_add_3 : decode cL_add 3 = .ok (.aload_n 0, 1) := by decide +kernel
theorem dL_add_4 : decode cL_add 4 = .ok (.iload_n 1, 1) := by decide +kernel
theorem dL_add_5 : decode cL_add 5 = .ok (.iload_n 2, 1) := by decide +kernel
theorem dL_add_6 : decode cL_add 6 = .ok (.iload_n 3, 1) := by decide +kernel
theorem dL_add_7 : decode cL_add 7 = .ok (.iload 4, 2) := by decide +kernel
theorem dL_add_9 : decode cL_add 9 = .ok (.invokevirtual 7, 3) := by decide +kernel
theorem dL_add_12 : decode cL_add 12 = .ok (.i2l, 1) := by decide +kernel
theorem dL_add_13 : decode cL_add 13 = .ok (.lastore, 1) := by decide +kernel
theorem dL_add_14 : decode cL_add 14 = .ok (.goto 11, 3) := by decide +kernel
theorem dL_add_17 : decode cL_add 17 = .ok (.astore 6, 2) := by decide +kernel
theorem dL_add_19 : decode cL_add 19 = .ok (.iconst 1, 1) := by decide +kernel
theorem dL_add_20 : decode cL_add 20 = .ok (.ireturn, 1) := by decide +kernel
theorem dL_add_21 : decode cL_add 21 = .ok (.astore 6, 2) := by decide +kernel
theorem dL_add_23 : decode cL_add 23 = .ok (.iconst 2, 1) := by decide +kernel
theorem dL_add_24 : decode cL_add 24 = .ok (.ireturn, 1) := by decide +kernel
theorem dL_add_25 : decode cL_add 25 = .ok (.iconst 0, 1) := by decide +kernel
theorem dL_add_26 : decode cL_add 26 = .ok (.ireturn, 1) := by decide +kernel
set_option maxRecDepth 20000 in
theorem ggL_remove_X4_remove : GoodIn wsL_remove wsX4_remove := goodIn_ca (goodIn_r _ [6, 7, 8, 9, 10, 11, 5, 12, 13, 14, 15, 16, 17, 18, 19, 20, 21, 22, 23, 24, 25, 26, 27, 28, 29, 30, 31, 32, 33, 34, 35, 36, 37, 38, 39, 40, 41, 42, 43, 44, 45, 46, 47, 48, 49, 50, 51, 52, 53, 54, 55, 56, 57, 58, 59, 60, 61, 62, 63, 64, 65, 66, 67, 68, 69, 70, 71, 72, 73, 74, 75, 76, 77, 78, 79, 80, 81, 82, 83, 84, 85, 86, 87, 88, 89, 90, 91, 92, 93, 94, 95, 96, 97, 98, 99, 100, 101, 102, 103, 104, 105, 106, 107, 108, 109, 110, 111, 112, 113, 114, 115, 116, 117, 118, 119, 120, 121, 122, 123, 124, 125, 126, 127] (by decide +kernel) (by decide +kernel)) (goodIn_sub (fun _ h => List.mem_cons_of_mem _ (List.mem_append_right _ h)) (by decide +kernel))
set_option maxRecDepth 20000 in
theorem gL_remove_X4_remove : GoodIn wsL_remove (wsV RL 17 RX4 yX4_remove wsX4_remove) := goodIn_app (goodIn_of _ (by decide +kernel)) ggL_remove_X4_remove
theorem dL_remove_0 : decode cL_remove 0 = .ok (.aload_n 2, 1) := by decide +kernel
theorem dL_remove_1 : decode cL_remove 1 = .ok (.iconst 0, 1) := by decide +kernel
theorem dL_remove_2 : decode cL_remove 2 = .ok (.aload_n 0, 1) := by decide +kernel
theorem dL_remove_3 : decode cL_remove 3 = .ok (.iload_n 1, 1) := by decide +kernel
theorem dL_remove_4 : decode cL_remove 4 = .ok (.invokevirtual 17, 3) := by decide +kernel
theorem dL_remove_7 : decode cL_remove 7 = .ok (.i2l, 1) := by decide +kernel
theorem dL_remove_8 : decode cL_remove 8 = .ok (.lastore, 1) := by decide +kernel
theorem dL_remove_9 : decode cL_remove 9 = .ok (.goto 6, 3) := by decide +kernel
theorem dL_remove_12 : decode cL_remove 12 = .ok (.astore_n 3, 1) := by decide +kernel
theorem dL_remove_13 : decode cL_remove 13 = .ok (.iconst 1, 1) := by decide +kernel
theorem dL_remove_14 : decode cL_remove 14 = .ok (.ireturn, 1) := by decide +kernel
theorem dL_remove_15 : decode cL_remove 15 = .ok (.iconst 0, 1) := by decide +kernel
theorem dL_remove_16 : decode cL_remove 16 = .ok (.ireturn, 1) := by decide +kernel
set_option maxRecDepth 20000 in
theorem ggL_key_X4_key : GoodIn wsL_key wsX4_key := goodIn_ca (goodIn_r _ [6, 7, 8, 5, 9, 10, 11, 12, 13, 14, 15, 16, 17, 18, 19, 20, 21] (by decide +kernel) (by decide +kernel)) (goodIn_sub (fun _ h => List.mem_cons_of_mem _ (List.mem_append_right _ h)) (by decide +kernel))
set_option maxRecDepth 20000 in
theorem gL_key_X4_key : GoodIn wsL_key (wsV RL 23 RX4 yX4_key wsX4_key) := goodIn_app (goodIn_of _ (by decide +kernel)) ggL_key_X4_key
theorem dL_key_0 : decode cL_key 0 = .ok (.aload_n 3, 1) := by decide +kernel
theorem dL_key_1 : decode cL_key 1 = .ok (.iconst 0, 1) := by decide +kernel
theorem dL_key_2 : decode cL_key 2 = .ok (.aload_n 0, 1) := by decide +kernel
theorem dL_key_3 : decode cL_key 3 = .ok (.iload_n 1, 1) := by decide +kernel
theorem dL_key_4 : decode cL_key 4 = .ok (.iload_n 2, 1) := by decide +kernel
theorem dL_key_5 : decode cL_key 5 = .ok (.invokevirtual 23, 3) := by decide +kernel
theorem dL_key_8 : decode cL_key 8 = .ok (.i2l, 1) := by decide +kernel
theorem dL_key_9 : decode cL_key 9 = .ok (.lastore, 1) := by decide +kernel
theorem dL_key_10 : decode cL_key 10 = .ok (.goto 7, 3) := by decide +kernel
theorem dL_key_13 : decode cL_key 13 = .ok (.astore 4, 2) := by decide +kernel
theorem dL_key_15 : decode cL_key 15 = .ok (.iconst 1, 1) := by decide +kernel
theorem dL_key_16 : decode cL_key 16 = .ok (.ireturn, 1) := by decide +kernel
theorem dL_key_17 : decode cL_key 17 = .ok (.iconst 0, 1) := by decide +kernel
theorem dL_key_18 : decode cL_key 18 = .ok (.ireturn, 1) := by decide +kernel
set_option maxRecDepth 20000 in
theorem ggL_keyOf_X4_keyOf : GoodIn wsL_keyOf wsX4_keyOf := goodIn_ca (goodIn_r _ [6, 7, 8, 9, 10, 5, 11, 12, 13, 14, 15, 16, 17, 18, 19, 20, 21, 22, 23, 24, 25, 26, 27, 28, 29, 30, 31, 32, 33] (by decide +kernel) (by decide +kernel)) (goodIn_sub (fun _ h => List.mem_cons_of_mem _ (List.mem_append_right _ h)) (by decide +kernel))
set_option maxRecDepth 20000 in
theorem gL_keyOf_X4_keyOf : GoodIn wsL_keyOf (wsV RL 27 RX4 yX4_keyOf wsX4_keyOf) := goodIn_app (goodIn_of _ (by decide +kernel)) ggL_keyOf_X4_keyOf
theorem dL_keyOf_0 : decode cL_keyOf 0 = .ok (.aload_n 2, 1) := by decide +kernel
theorem dL_keyOf_1 : decode cL_keyOf 1 = .ok (.iconst 0, 1) := by decide +kernel
theorem dL_keyOf_2 : decode cL_keyOf 2 = .ok (.aload_n 0, 1) := by decide +kernel
theorem dL_keyOf_3 : decode cL_keyOf 3 = .ok (.iload_n 1, 1) := by decide +kernel
theorem dL_keyOf_4 : decode cL_keyOf 4 = .ok (.invokevirtual 27, 3) := by decide +kernel
theorem dL_keyOf_7 : decode cL_keyOf 7 = .ok (.i2l, 1) := by decide +kernel
theorem dL_keyOf_8 : decode cL_keyOf 8 = .ok (.lastore, 1) := by decide +kernel
theorem dL_keyOf_9 : decode cL_keyOf 9 = .ok (.goto 6, 3) := by decide +kernel
theorem dL_keyOf_12 : decode cL_keyOf 12 = .ok (.astore_n 3, 1) := by decide +kernel
theorem dL_keyOf_13 : decode cL_keyOf 13 = .ok (.iconst 1, 1) := by decide +kernel
theorem dL_keyOf_14 : decode cL_keyOf 14 = .ok (.ireturn, 1) := by decide +kernel
theorem dL_keyOf_15 : decode cL_keyOf 15 = .ok (.iconst 0, 1) := by decide +kernel
theorem dL_keyOf_16 : decode cL_keyOf 16 = .ok (.ireturn, 1) := by decide +kernel
set_option maxRecDepth 20000 in
theorem ggL_sideOf_X4_sideOf : GoodIn wsL_sideOf wsX4_sideOf := goodIn_ca (goodIn_ca (goodIn_r _ [7, 8, 9, 10, 6, 11, 12, 13, 14, 15, 16, 17, 18, 19, 20, 21, 22, 23, 24, 25, 26, 27, 28, 29, 30, 31, 32, 33, 34, 35, 36, 37, 38, 39, 40, 41, 42, 43] (by decide +kernel) (by decide +kernel)) (goodIn_sub (fun _ h => List.mem_cons_of_mem _ (List.mem_append_left _ (List.mem_append_right _ h))) (by decide +kernel))) (goodIn_sub (fun _ h => List.mem_cons_of_mem _ (List.mem_append_right _ h)) (by decide +kernel))
set_option maxRecDepth 20000 in
theorem gL_sideOf_X4_sideOf : GoodIn wsL_sideOf (wsV RL 30 RX4 yX4_sideOf wsX4_sideOf) := goodIn_app (goodIn_of _ (by decide +kernel)) ggL_sideOf_X4_sideOf
theorem dL_sideOf_0 : decode cL_sideOf 0 = .ok (.aload_n 3, 1) := by decide +kernel
theorem dL_sideOf_1 : decode cL_sideOf 1 = .ok (.iconst 0, 1) := by decide +kernel
theorem dL_sideOf_2 : decode cL_sideOf 2 = .ok (.aload_n 0, 1) := by decide +kernel
theorem dL_sideOf_3 : decode cL_sideOf 3 = .ok (.iload_n 1, 1) := by decide +kernel
theorem dL_sideOf_4 : decode cL_sideOf 4 = .ok (.iload_n 2, 1) := by decide +kernel
theorem dL_sideOf_5 : decode cL_sideOf 5 = .ok (.invokevirtual 30, 3) := by decide +kernel
theorem dL_sideOf_8 : decode cL_sideOf 8 = .ok (.i2l, 1) := by decide +kernel
theorem dL_sideOf_9 : decode cL_sideOf 9 = .ok (.lastore, 1) := by decide +kernel
theorem dL_sideOf_10 : decode cL_sideOf 10 = .ok (.goto 11, 3) := by decide +kernel
theorem dL_sideOf_13 : decode cL_sideOf 13 = .ok (.astore 4, 2) := by decide +kernel
theorem dL_sideOf_15 : decode cL_sideOf 15 = .ok (.iconst 1, 1) := by decide +kernel
theorem dL_sideOf_16 : decode cL_sideOf 16 = .ok (.ireturn, 1) := by decide +kernel
theorem dL_sideOf_17 : decode cL_sideOf 17 = .ok (.astore 4, 2) := by decide +kernel
theorem dL_sideOf_19 : decode cL_sideOf 19 = .ok (.iconst 2, 1) := by decide +kernel
theorem dL_sideOf_20 : decode cL_sideOf 20 = .ok (.ireturn, 1) := by decide +kernel
theorem dL_sideOf_21 : decode cL_sideOf 21 = .ok (.iconst 0, 1) := by decide +kernel
theorem dL_sideOf_22 : decode cL_sideOf 22 = .ok (.ireturn, 1) := by decide +kernel
set_option maxRecDepth 20000 in
theorem ggL_nodes_X4_nodes : GoodIn wsL_nodes wsX4_nodes := goodIn_ca (goodIn_r _ [6, 7, 8, 9, 10, 11, 12, 13, 14, 15, 16, 17, 18, 19, 20, 21, 22, 23, 24, 25, 26] (by decide +kernel) (by decide +kernel)) (goodIn_sub (fun _ h => List.mem_cons_of_mem _ (List.mem_append_right _ h)) (by decide +kernel))
set_option maxRecDepth 20000 in
theorem gL_nodes_X4_nodes : GoodIn wsL_nodes (wsV RL 33 RX4 yX4_nodes wsX4_nodes) := goodIn_app (goodIn_of _ (by decide +kernel)) ggL_nodes_X4_nodes
theorem dL_nodes_0 : decode cL_nodes 0 = .ok (.aload_n 2, 1) := by decide +kernel
theorem dL_nodes_1 : decode cL_nodes 1 = .ok (.iconst 0, 1) := by decide +kernel
theorem dL_nodes_2 : decode cL_nodes 2 = .ok (.aload_n 0, 1) := by decide +kernel
theorem dL_nodes_3 : decode cL_nodes 3 = .ok (.iload_n 1, 1) := by decide +kernel
theorem dL_nodes_4 : decode cL_nodes 4 = .ok (.invokevirtual 33, 3) := by decide +kernel
theorem dL_nodes_7 : decode cL_nodes 7 = .ok (.i2l, 1) := by decide +kernel
theorem dL_nodes_8 : decode cL_nodes 8 = .ok (.lastore, 1) := by decide +kernel
theorem dL_nodes_9 : decode cL_nodes 9 = .ok (.goto 6, 3) := by decide +kernel
theorem dL_nodes_12 : decode cL_nodes 12 = .ok (.astore_n 3, 1) := by decide +kernel
theorem dL_nodes_13 : decode cL_nodes 13 = .ok (.iconst 1, 1) := by decide +kernel
theorem dL_nodes_14 : decode cL_nodes 14 = .ok (.ireturn, 1) := by decide +kernel
theorem dL_nodes_15 : decode cL_nodes 15 = .ok (.iconst 0, 1) := by decide +kernel
theorem dL_nodes_16 : decode cL_nodes 16 = .ok (.ireturn, 1) := by decide +kernel
set_option maxRecDepth 20000 in
theorem ggL_entries_X4_entries : GoodIn wsL_entries wsX4_entries := goodIn_ca (goodIn_r _ [6, 7, 8, 9, 10, 5, 11, 12, 13, 14, 15, 16, 17, 18, 19, 20, 21, 22, 23, 24, 25, 26, 27, 28, 29, 30, 31, 32] (by decide +kernel) (by decide +kernel)) (goodIn_sub (fun _ h => List.mem_cons_of_mem _ (List.mem_append_right _ h)) (by decide +kernel))
set_option maxRecDepth 20000 in
theorem gL_entries_X4_entries : GoodIn wsL_entries (wsV RL 36 RX4 yX4_entries wsX4_entries) := goodIn_app (goodIn_of _ (by decide +kernel)) ggL_entries_X4_entries
theorem dL_entries_0 : decode cL_entries 0 = .ok (.aload_n 3, 1) := by decide +kernel
theorem dL_entries_1 : decode cL_entries 1 = .ok (.iconst 0, 1) := by decide +kernel
theorem dL_entries_2 : decode cL_entries 2 = .ok (.aload_n 0, 1) := by decide +kernel
theorem dL_entries_3 : decode cL_entries 3 = .ok (.iload_n 1, 1) := by decide +kernel
theorem dL_entries_4 : decode cL_entries 4 = .ok (.iload_n 2, 1) := by decide +kernel
theorem dL_entries_5 : decode cL_entries 5 = .ok (.invokevirtual 36, 3) := by decide +kernel
theorem dL_entries_8 : decode cL_entries 8 = .ok (.i2l, 1) := by decide +kernel
theorem dL_entries_9 : decode cL_entries 9 = .ok (.lastore, 1) := by decide +kernel
theorem dL_entries_10 : decode cL_entries 10 = .ok (.goto 7, 3) := by decide +kernel
theorem dL_entries_13 : decode cL_entries 13 = .ok (.astore 4, 2) := by decide +kernel
theorem dL_entries_15 : decode cL_entries 15 = .ok (.iconst 1, 1) := by decide +kernel
theorem dL_entries_16 : decode cL_entries 16 = .ok (.ireturn, 1) := by decide +kernel
theorem dL_entries_17 : decode cL_entries 17 = .ok (.iconst 0, 1) := by decide +kernel
theorem dL_entries_18 : decode cL_entries 18 = .ok (.ireturn, 1) := by decide +kernel
set_option maxRecDepth 20000 in
theorem ggL_cover_X4_cover : GoodIn wsL_cover wsX4_cover := goodIn_ca (goodIn_ca (goodIn_r _ [7, 8, 9, 6, 10, 11, 12, 13, 14, 15, 16, 17, 18, 19, 20, 21, 22, 23, 24, 25, 26, 27, 28, 29, 30, 31, 32, 33, 34, 35, 36, 37, 38, 39, 40, 41, 42, 43, 44, 45, 46, 47, 48, 49, 50, 51, 52, 53, 54, 55, 56, 57, 58, 59, 60, 61, 62, 63, 64, 65, 66, 67, 68, 69, 70, 71, 72, 73, 74, 75, 76, 77, 78, 79, 80, 81, 82, 83, 84, 85, 86, 87, 88, 89, 90, 91, 92, 93, 94, 95] (by decide +kernel) (by decide +kernel)) (goodIn_sub (fun _ h => List.mem_cons_of_mem _ (List.mem_append_left _ (List.mem_append_right _ h))) (by decide +kernel))) (goodIn_sub (fun _ h => List.mem_cons_of_mem _ (List.mem_append_right _ h)) (by decide +kernel))
set_option maxRecDepth 20000 in
theorem gL_cover_X4_cover : GoodIn wsL_cover (wsV RL 39 RX4 yX4_cover wsX4_cover) := goodIn_app (goodIn_of _ (by decide +kernel)) ggL_cover_X4_cover
theorem dL_cover_0 : decode cL_cover 0 = .ok (.aload 4, 2) := by decide +kernel
theorem dL_cover_2 : decode cL_cover 2 = .ok (.iconst 0, 1) := by decide +kernel
theorem dL_cover_3 : decode cL_cover 3 = .ok (.aload_n 0, 1) := by decide +kernel
theorem dL_cover_4 : decode cL_cover 4 = .ok (.iload_n 1, 1) := by decide +kernel
theorem dL_cover_5 : decode cL_cover 5 = .ok (.iload_n 2, 1) := by decide +kernel
theorem dL_cover_6 : decode cL_cover 6 = .ok (.iload_n 3, 1) := by decide +kernel
theorem dL_cover_7 : decode cL_cover 7 = .ok (.invokevirtual 39, 3) := by decide +kernel
theorem dL_cover_10 : decode cL_cover 10 = .ok (.i2l, 1) := by decide +kernel
theorem dL_cover_11 : decode cL_cover 11 = .ok (.lastore, 1) := by decide +kernel
theorem dL_cover_12 : decode cL_cover 12 = .ok (.goto 11, 3) := by decide +kernel
theorem dL_cover_15 : decode cL_cover 15 = .ok (.astore 5, 2) := by decide +kernel
theorem dL_cover_17 : decode cL_cover 17 = .ok (.iconst 1, 1) := by decide +kernel
theorem dL_cover_18 : decode cL_cover 18 = .ok (.ireturn, 1) := by decide +kernel
theorem dL_cover_19 : decode cL_cover 19 = .ok (.astore 5, 2) := by decide +kernel
theorem dL_cover_21 : decode cL_cover 21 = .ok (.iconst 2, 1) := by decide +kernel
theorem dL_cover_22 : decode cL_cover 22 = .ok (.ireturn, 1) := by decide +kernel
theorem dL_cover_23 : decode cL_cover 23 = .ok (.iconst 0, 1) := by decide +kernel
theorem dL_cover_24 : decode cL_cover 24 = .ok (.ireturn, 1) := by decide +kernel
set_option maxRecDepth 20000 in
theorem ggL_leafOf_X4_leafOf : GoodIn wsL_leafOf wsX4_leafOf := goodIn_ca (goodIn_r _ [6, 7, 8, 9, 10, 11, 5, 12, 13, 14, 15, 16, 17, 18, 19, 20, 21, 22, 23, 24, 25, 26, 27, 28, 29, 30, 31, 32, 33, 34, 35, 36, 37, 38, 39, 40, 41, 42, 43, 44, 45, 46, 47, 48, 49, 50, 51, 52, 53, 54, 55, 56, 57, 58, 59, 60, 61, 62] (by decide +kernel) (by decide +kernel)) (goodIn_sub (fun _ h => List.mem_cons_of_mem _ (List.mem_append_right _ h)) (by decide +kernel))
set_option maxRecDepth 20000 in
theorem gL_leafOf_X4_leafOf : GoodIn wsL_leafOf (wsV RL 43 RX4 yX4_leafOf wsX4_leafOf) := goodIn_app (goodIn_of _ (by decide +kernel)) ggL_leafOf_X4_leafOf
theorem dL_leafOf_0 : decode cL_leafOf 0 = .ok (.aload_n 2, 1) := by decide +kernel
theorem dL_leafOf_1 : decode cL_leafOf 1 = .ok (.iconst 0, 1) := by decide +kernel
theorem dL_leafOf_2 : decode cL_leafOf 2 = .ok (.aload_n 0, 1) := by decide +kernel
theorem dL_leafOf_3 : decode cL_leafOf 3 = .ok (.iload_n 1, 1) := by decide +kernel
theorem dL_leafOf_4 : decode cL_leafOf 4 = .ok (.invokevirtual 43, 3) := by decide +kernel
theorem dL_leafOf_7 : decode cL_leafOf 7 = .ok (.i2l, 1) := by decide +kernel
theorem dL_leafOf_8 : decode cL_leafOf 8 = .ok (.lastore, 1) := by decide +kernel
theorem dL_leafOf_9 : decode cL_leafOf 9 = .ok (.goto 6, 3) := by decide +kernel
theorem dL_leafOf_12 : decode cL_leafOf 12 = .ok (.astore_n 3, 1) := by decide +kernel
theorem dL_leafOf_13 : decode cL_leafOf 13 = .ok (.iconst 1, 1) := by decide +kernel
theorem dL_leafOf_14 : decode cL_leafOf 14 = .ok (.ireturn, 1) := by decide +kernel
theorem dL_leafOf_15 : decode cL_leafOf 15 = .ok (.iconst 0, 1) := by decide +kernel
theorem dL_leafOf_16 : decode cL_leafOf 16 = .ok (.ireturn, 1) := by decide +kernel
set_option maxRecDepth 20000 in
theorem ggL_boxAt_X4_boxAt : GoodIn wsL_boxAt wsX4_boxAt := goodIn_ca (goodIn_r _ [6, 7, 8, 9, 10, 11, 12, 13, 14, 15, 16, 17, 18, 19, 20, 21, 22, 23, 24, 25, 26, 27, 28, 29] (by decide +kernel) (by decide +kernel)) (goodIn_sub (fun _ h => List.mem_cons_of_mem _ (List.mem_append_right _ h)) (by decide +kernel))
set_option maxRecDepth 20000 in
theorem gL_boxAt_X4_boxAt : GoodIn wsL_boxAt (wsV RL 46 RX4 yX4_boxAt wsX4_boxAt) := goodIn_app (goodIn_of _ (by decide +kernel)) ggL_boxAt_X4_boxAt
theorem dL_boxAt_0 : decode cL_boxAt 0 = .ok (.aload_n 2, 1) := by decide +kernel
theorem dL_boxAt_1 : decode cL_boxAt 1 = .ok (.iconst 0, 1) := by decide +kernel
theorem dL_boxAt_2 : decode cL_boxAt 2 = .ok (.aload_n 0, 1) := by decide +kernel
theorem dL_boxAt_3 : decode cL_boxAt 3 = .ok (.iload_n 1, 1) := by decide +kernel
theorem dL_boxAt_4 : decode cL_boxAt 4 = .ok (.invokevirtual 46, 3) := by decide +kernel
theorem dL_boxAt_7 : decode cL_boxAt 7 = .ok (.i2l, 1) := by decide +kernel
theorem dL_boxAt_8 : decode cL_boxAt 8 = .ok (.lastore, 1) := by decide +kernel
theorem dL_boxAt_9 : decode cL_boxAt 9 = .ok (.goto 6, 3) := by decide +kernel
theorem dL_boxAt_12 : decode cL_boxAt 12 = .ok (.astore_n 3, 1) := by decide +kernel
theorem dL_boxAt_13 : decode cL_boxAt 13 = .ok (.iconst 1, 1) := by decide +kernel
theorem dL_boxAt_14 : decode cL_boxAt 14 = .ok (.ireturn, 1) := by decide +kernel
theorem dL_boxAt_15 : decode cL_boxAt 15 = .ok (.iconst 0, 1) := by decide +kernel
theorem dL_boxAt_16 : decode cL_boxAt 16 = .ok (.ireturn, 1) := by decide +kernel
set_option maxRecDepth 20000 in
theorem ggL_tightness_X4_tightness : GoodIn wsL_tightness wsX4_tightness := goodIn_ca (goodIn_r _ [6, 7, 8, 9, 10, 11, 12, 13, 14, 15, 16, 17, 18, 19, 20, 5, 21, 22, 23, 24, 25, 26, 27, 28, 29, 30, 31, 32, 33, 34, 35, 36, 37, 38, 39, 40, 41, 42, 43, 44, 45, 46, 47, 48, 49, 50, 51, 52, 53, 54, 55, 56, 57, 58, 59, 60, 61, 62, 63, 64, 65, 66, 67, 68, 69, 70, 71, 72, 73, 74, 75, 76, 77, 78, 79, 80, 81, 82, 83, 84, 85, 86, 87, 88, 89, 90, 91] (by decide +kernel) (by decide +kernel)) (goodIn_sub (fun _ h => List.mem_cons_of_mem _ (List.mem_append_right _ h)) (by decide +kernel))
set_option maxRecDepth 20000 in
theorem gL_tightness_X4_tightness : GoodIn wsL_tightness (wsV RL 49 RX4 yX4_tightness wsX4_tightness) := goodIn_app (goodIn_of _ (by decide +kernel)) ggL_tightness_X4_tightness
theorem dL_tightness_0 : decode cL_tightness 0 = .ok (.aload_n 1, 1) := by decide +kernel
theorem dL_tightness_1 : decode cL_tightness 1 = .ok (.iconst 0, 1) := by decide +kernel
theorem dL_tightness_2 : decode cL_tightness 2 = .ok (.aload_n 0, 1) := by decide +kernel
theorem dL_tightness_3 : decode cL_tightness 3 = .ok (.invokevirtual 49, 3) := by decide +kernel
theorem dL_tightness_6 : decode cL_tightness 6 = .ok (.f2d, 1) := by decide +kernel
theorem dL_tightness_7 : decode cL_tightness 7 = .ok (.dastore, 1) := by decide +kernel
theorem dL_tightness_8 : decode cL_tightness 8 = .ok (.goto 6, 3) := by decide +kernel
theorem dL_tightness_11 : decode cL_tightness 11 = .ok (.astore_n 2, 1) := by decide +kernel
theorem dL_tightness_12 : decode cL_tightness 12 = .ok (.iconst 1, 1) := by decide +kernel
theorem dL_tightness_13 : decode cL_tightness 13 = .ok (.ireturn, 1) := by decide +kernel
theorem dL_tightness_14 : decode cL_tightness 14 = .ok (.iconst 0, 1) := by decide +kernel
theorem dL_tightness_15 : decode cL_tightness 15 = .ok (.ireturn, 1) := by decide +kernel
set_option maxRecDepth 20000 in
theorem ggL_count_X4_count : GoodIn wsL_count wsX4_count := goodIn_ca (goodIn_r _ [6, 7, 8, 9, 5, 10, 11, 12, 13, 14, 15, 16, 17, 18, 19, 20, 21, 22, 23, 24, 25, 26, 27, 28, 29, 30, 31, 32, 33, 34, 35, 36, 37, 38, 39, 40, 41, 42, 43, 44, 45, 46, 47, 48, 49, 50, 51, 52, 53, 54] (by decide +kernel) (by decide +kernel)) (goodIn_sub (fun _ h => List.mem_cons_of_mem _ (List.mem_append_right _ h)) (by decide +kernel))
set_option maxRecDepth 20000 in
theorem gL_count_X4_count : GoodIn wsL_count (wsV RL 53 RX4 yX4_count wsX4_count) := goodIn_app (goodIn_of _ (by decide +kernel)) ggL_count_X4_count
theorem dL_count_0 : decode cL_count 0 = .ok (.aload 5, 2) := by decide +kernel
theorem dL_count_2 : decode cL_count 2 = .ok (.iconst 0, 1) := by decide +kernel
theorem dL_count_3 : decode cL_count 3 = .ok (.aload_n 0, 1) := by decide +kernel
theorem dL_count_4 : decode cL_count 4 = .ok (.iload_n 1, 1) := by decide +kernel
theorem dL_count_5 : decode cL_count 5 = .ok (.iload_n 2, 1) := by decide +kernel
theorem dL_count_6 : decode cL_count 6 = .ok (.iload_n 3, 1) := by decide +kernel
theorem dL_count_7 : decode cL_count 7 = .ok (.iload 4, 2) := by decide +kernel
theorem dL_count_9 : decode cL_count 9 = .ok (.invokevirtual 53, 3) := by decide +kernel
theorem dL_count_12 : decode cL_count 12 = .ok (.i2l, 1) := by decide +kernel
theorem dL_count_13 : decode cL_count 13 = .ok (.lastore, 1) := by decide +kernel
theorem dL_count_14 : decode cL_count 14 = .ok (.goto 7, 3) := by decide +kernel
theorem dL_count_17 : decode cL_count 17 = .ok (.astore 6, 2) := by decide +kernel
theorem dL_count_19 : decode cL_count 19 = .ok (.iconst 1, 1) := by decide +kernel
theorem dL_count_20 : decode cL_count 20 = .ok (.ireturn, 1) := by decide +kernel
theorem dL_count_21 : decode cL_count 21 = .ok (.iconst 0, 1) := by decide +kernel
theorem dL_count_22 : decode cL_count 22 = .ok (.ireturn, 1) := by decide +kernel
set_option maxRecDepth 20000 in
theorem ggL_found_X4_found : GoodIn wsL_found wsX4_found := goodIn_ca (goodIn_ca (goodIn_r _ [7, 8, 9, 10, 11, 12, 6, 13, 14, 15, 16, 17, 18, 19, 20, 21, 22, 23, 24, 25, 26, 27, 28, 29, 30, 31, 32, 33, 34, 35, 36, 37, 38, 39, 40, 41, 42, 43, 44, 45, 46, 47, 48, 49, 50, 51, 52, 53, 54, 55, 56, 57, 58] (by decide +kernel) (by decide +kernel)) (goodIn_sub (fun _ h => List.mem_cons_of_mem _ (List.mem_append_left _ (List.mem_append_right _ h))) (by decide +kernel))) (goodIn_sub (fun _ h => List.mem_cons_of_mem _ (List.mem_append_right _ h)) (by decide +kernel))
set_option maxRecDepth 20000 in
theorem gL_found_X4_found : GoodIn wsL_found (wsV RL 56 RX4 yX4_found wsX4_found) := goodIn_app (goodIn_of _ (by decide +kernel)) ggL_found_X4_found
theorem dL_found_0 : decode cL_found 0 = .ok (.aload 6, 2) := by decide +kernel
theorem dL_found_2 : decode cL_found 2 = .ok (.iconst 0, 1) := by decide +kernel
theorem dL_found_3 : decode cL_found 3 = .ok (.aload_n 0, 1) := by decide +kernel
theorem dL_found_4 : decode cL_found 4 = .ok (.iload_n 1, 1) := by decide +kernel
theorem dL_found_5 : decode cL_found 5 = .ok (.iload_n 2, 1) := by decide +kernel
theorem dL_found_6 : decode cL_found 6 = .ok (.iload_n 3, 1) := by decide +kernel
theorem dL_found_7 : decode cL_found 7 = .ok (.iload 4, 2) := by decide +kernel
theorem dL_found_9 : decode cL_found 9 = .ok (.iload 5, 2) := by decide +kernel
theorem dL_found_11 : decode cL_found 11 = .ok (.invokevirtual 56, 3) := by decide +kernel
theorem dL_found_14 : decode cL_found 14 = .ok (.i2l, 1) := by decide +kernel
theorem dL_found_15 : decode cL_found 15 = .ok (.lastore, 1) := by decide +kernel
theorem dL_found_16 : decode cL_found 16 = .ok (.goto 11, 3) := by decide +kernel
theorem dL_found_19 : decode cL_found 19 = .ok (.astore 7, 2) := by decide +kernel
theorem dL_found_21 : decode cL_found 21 = .ok (.iconst 1, 1) := by decide +kernel
theorem dL_found_22 : decode cL_found 22 = .ok (.ireturn, 1) := by decide +kernel
theorem dL_found_23 : decode cL_found 23 = .ok (.astore 7, 2) := by decide +kernel
theorem dL_found_25 : decode cL_found 25 = .ok (.iconst 2, 1) := by decide +kernel
theorem dL_found_26 : decode cL_found 26 = .ok (.ireturn, 1) := by decide +kernel
theorem dL_found_27 : decode cL_found 27 = .ok (.iconst 0, 1) := by decide +kernel
theorem dL_found_28 : decode cL_found 28 = .ok (.ireturn, 1) := by decide +kernel
set_option maxRecDepth 20000 in
theorem ggL_visits_X4_visits : GoodIn wsL_visits wsX4_visits := goodIn_ca (goodIn_r _ [6, 7, 8, 9, 5, 10, 11, 12, 13, 14, 15, 16, 17, 18, 19, 20, 21, 22, 23, 24, 25, 26, 27, 28, 29, 30, 31, 32, 33, 34, 35, 36, 37, 38, 39, 40, 41, 42, 43, 44, 45, 46, 47, 48, 49, 50, 51, 52, 53, 54, 55, 56, 57, 58, 59, 60, 61, 62, 63, 64, 65, 66, 67, 68, 69, 70, 71, 72, 73, 74, 75, 76, 77, 78, 79, 80, 81, 82, 83, 84, 85, 86, 87, 88, 89, 90, 91, 92, 93, 94, 95, 96, 97, 98] (by decide +kernel) (by decide +kernel)) (goodIn_sub (fun _ h => List.mem_cons_of_mem _ (List.mem_append_right _ h)) (by decide +kernel))
set_option maxRecDepth 20000 in
theorem gL_visits_X4_visits : GoodIn wsL_visits (wsV RL 60 RX4 yX4_visits wsX4_visits) := goodIn_app (goodIn_of _ (by decide +kernel)) ggL_visits_X4_visits
theorem dL_visits_0 : decode cL_visits 0 = .ok (.aload 5, 2) := by decide +kernel
theorem dL_visits_2 : decode cL_visits 2 = .ok (.iconst 0, 1) := by decide +kernel
theorem dL_visits_3 : decode cL_visits 3 = .ok (.aload_n 0, 1) := by decide +kernel
theorem dL_visits_4 : decode cL_visits 4 = .ok (.iload_n 1, 1) := by decide +kernel
theorem dL_visits_5 : decode cL_visits 5 = .ok (.iload_n 2, 1) := by decide +kernel
theorem dL_visits_6 : decode cL_visits 6 = .ok (.iload_n 3, 1) := by decide +kernel
theorem dL_visits_7 : decode cL_visits 7 = .ok (.iload 4, 2) := by decide +kernel
theorem dL_visits_9 : decode cL_visits 9 = .ok (.invokevirtual 60, 3) := by decide +kernel
theorem dL_visits_12 : decode cL_visits 12 = .ok (.i2l, 1) := by decide +kernel
theorem dL_visits_13 : decode cL_visits 13 = .ok (.lastore, 1) := by decide +kernel
theorem dL_visits_14 : decode cL_visits 14 = .ok (.goto 7, 3) := by decide +kernel
theorem dL_visits_17 : decode cL_visits 17 = .ok (.astore 6, 2) := by decide +kernel
theorem dL_visits_19 : decode cL_visits 19 = .ok (.iconst 1, 1) := by decide +kernel
theorem dL_visits_20 : decode cL_visits 20 = .ok (.ireturn, 1) := by decide +kernel
theorem dL_visits_21 : decode cL_visits 21 = .ok (.iconst 0, 1) := by decide +kernel
theorem dL_visits_22 : decode cL_visits 22 = .ok (.ireturn, 1) := by decide +kernel
set_option maxRecDepth 20000 in
theorem ggL_nearest_X4_nearest : GoodIn wsL_nearest wsX4_nearest := goodIn_ca (goodIn_ca (goodIn_r _ [7, 8, 9, 10, 11, 12, 6, 13, 14, 15, 16, 17, 18, 19, 20, 21, 22, 23, 24, 25, 26, 27, 28, 29, 30, 31, 32, 33, 34, 35, 36, 37, 38, 39, 40, 41, 42, 43, 44, 45, 46, 47, 48, 49, 50, 51, 52, 53, 54, 55, 56, 57, 58, 59, 60, 61, 62, 63, 64, 65, 66, 67, 68, 69, 70, 71] (by decide +kernel) (by decide +kernel)) (goodIn_sub (fun _ h => List.mem_cons_of_mem _ (List.mem_append_left _ (List.mem_append_right _ h))) (by decide +kernel))) (goodIn_sub (fun _ h => List.mem_cons_of_mem _ (List.mem_append_right _ h)) (by decide +kernel))
set_option maxRecDepth 20000 in
theorem gL_nearest_X4_nearest : GoodIn wsL_nearest (wsV RL 63 RX4 yX4_nearest wsX4_nearest) := goodIn_app (goodIn_of _ (by decide +kernel)) ggL_nearest_X4_nearest
theorem dL_nearest_0 : decode cL_nearest 0 = .ok (.aload 4, 2) := by decide +kernel
theorem dL_nearest_2 : decode cL_nearest 2 = .ok (.iconst 0, 1) := by decide +kernel
theorem dL_nearest_3 : decode cL_nearest 3 = .ok (.aload_n 0, 1) := by decide +kernel
theorem dL_nearest_4 : decode cL_nearest 4 = .ok (.iload_n 1, 1) := by decide +kernel
theorem dL_nearest_5 : decode cL_nearest 5 = .ok (.iload_n 2, 1) := by decide +kernel
theorem dL_nearest_6 : decode cL_nearest 6 = .ok (.iload_n 3, 1) := by decide +kernel
theorem dL_nearest_7 : decode cL_nearest 7 = .ok (.invokevirtual 63, 3) := by decide +kernel
theorem dL_nearest_10 : decode cL_nearest 10 = .ok (.i2l, 1) := by decide +kernel
theorem dL_nearest_11 : decode cL_nearest 11 = .ok (.lastore, 1) := by decide +kernel
theorem dL_nearest_12 : decode cL_nearest 12 = .ok (.goto 11, 3) := by decide +kernel
theorem dL_nearest_15 : decode cL_nearest 15 = .ok (.astore 5, 2) := by decide +kernel
theorem dL_nearest_17 : decode cL_nearest 17 = .ok (.iconst 1, 1) := by decide +kernel
theorem dL_nearest_18 : decode cL_nearest 18 = .ok (.ireturn, 1) := by decide +kernel
theorem dL_nearest_19 : decode cL_nearest 19 = .ok (.astore 5, 2) := by decide +kernel
theorem dL_nearest_21 : decode cL_nearest 21 = .ok (.iconst 2, 1) := by decide +kernel
theorem dL_nearest_22 : decode cL_nearest 22 = .ok (.ireturn, 1) := by decide +kernel
theorem dL_nearest_23 : decode cL_nearest 23 = .ok (.iconst 0, 1) := by decide +kernel
theorem dL_nearest_24 : decode cL_nearest 24 = .ok (.ireturn, 1) := by decide +kernel
set_option maxRecDepth 20000 in
theorem ggL_distance_X4_distance : GoodIn wsL_distance wsX4_distance := goodIn_ca (goodIn_ca (goodIn_r _ [7, 8, 9, 10, 6, 11, 12, 13, 14, 15, 16, 17, 18, 19, 20, 21, 22, 23, 24, 25, 26, 27, 28, 29, 30, 31, 32, 33, 34, 35, 36, 37, 38, 39, 40, 41, 42, 43, 44, 45, 46, 47, 48, 49, 50, 51, 52, 53, 54, 55, 56] (by decide +kernel) (by decide +kernel)) (goodIn_sub (fun _ h => List.mem_cons_of_mem _ (List.mem_append_left _ (List.mem_append_right _ h))) (by decide +kernel))) (goodIn_sub (fun _ h => List.mem_cons_of_mem _ (List.mem_append_right _ h)) (by decide +kernel))
set_option maxRecDepth 20000 in
theorem gL_distance_X4_distance : GoodIn wsL_distance (wsV RL 66 RX4 yX4_distance wsX4_distance) := goodIn_app (goodIn_of _ (by decide +kernel)) ggL_distance_X4_distance
theorem dL_distance_0 : decode cL_distance 0 = .ok (.aload 4, 2) := by decide +kernel
theorem dL_distance_2 : decode cL_distance 2 = .ok (.iconst 0, 1) := by decide +kernel
theorem dL_distance_3 : decode cL_distance 3 = .ok (.aload_n 0, 1) := by decide +kernel
theorem dL_distance_4 : decode cL_distance 4 = .ok (.iload_n 1, 1) := by decide +kernel
theorem dL_distance_5 : decode cL_distance 5 = .ok (.iload_n 2, 1) := by decide +kernel
theorem dL_distance_6 : decode cL_distance 6 = .ok (.iload_n 3, 1) := by decide +kernel
theorem dL_distance_7 : decode cL_distance 7 = .ok (.invokevirtual 66, 3) := by decide +kernel
theorem dL_distance_10 : decode cL_distance 10 = .ok (.i2l, 1) := by decide +kernel
theorem dL_distance_11 : decode cL_distance 11 = .ok (.lastore, 1) := by decide +kernel
theorem dL_distance_12 : decode cL_distance 12 = .ok (.goto 11, 3) := by decide +kernel
theorem dL_distance_15 : decode cL_distance 15 = .ok (.astore 5, 2) := by decide +kernel
theorem dL_distance_17 : decode cL_distance 17 = .ok (.iconst 1, 1) := by decide +kernel
theorem dL_distance_18 : decode cL_distance 18 = .ok (.ireturn, 1) := by decide +kernel
theorem dL_distance_19 : decode cL_distance 19 = .ok (.astore 5, 2) := by decide +kernel
theorem dL_distance_21 : decode cL_distance 21 = .ok (.iconst 2, 1) := by decide +kernel
theorem dL_distance_22 : decode cL_distance 22 = .ok (.ireturn, 1) := by decide +kernel
theorem dL_distance_23 : decode cL_distance 23 = .ok (.iconst 0, 1) := by decide +kernel
theorem dL_distance_24 : decode cL_distance 24 = .ok (.ireturn, 1) := by decide +kernel
set_option maxRecDepth 20000 in
theorem ggL_pair_X4_pair : GoodIn wsL_pair wsX4_pair := goodIn_ca (goodIn_r _ [6, 7, 8, 9, 10, 11, 12, 13, 14, 15, 16, 17, 18, 19, 20, 21, 22, 23, 24, 25, 26, 27, 28, 29, 30, 31, 32, 33, 34, 35, 36, 37, 38, 39, 40, 41, 42, 43, 44, 45] (by decide +kernel) (by decide +kernel)) (goodIn_sub (fun _ h => List.mem_cons_of_mem _ (List.mem_append_right _ h)) (by decide +kernel))
set_option maxRecDepth 20000 in
theorem gL_pair_X4_pair : GoodIn wsL_pair (wsV RL 69 RX4 yX4_pair wsX4_pair) := goodIn_app (goodIn_of _ (by decide +kernel)) ggL_pair_X4_pair
theorem dL_pair_0 : decode cL_pair 0 = .ok (.aload_n 2, 1) := by decide +kernel
theorem dL_pair_1 : decode cL_pair 1 = .ok (.iconst 0, 1) := by decide +kernel
theorem dL_pair_2 : decode cL_pair 2 = .ok (.aload_n 0, 1) := by decide +kernel
theorem dL_pair_3 : decode cL_pair 3 = .ok (.iload_n 1, 1) := by decide +kernel
theorem dL_pair_4 : decode cL_pair 4 = .ok (.invokevirtual 69, 3) := by decide +kernel
theorem dL_pair_7 : decode cL_pair 7 = .ok (.i2l, 1) := by decide +kernel
theorem dL_pair_8 : decode cL_pair 8 = .ok (.lastore, 1) := by decide +kernel
theorem dL_pair_9 : decode cL_pair 9 = .ok (.goto 6, 3) := by decide +kernel
theorem dL_pair_12 : decode cL_pair 12 = .ok (.astore_n 3, 1) := by decide +kernel
theorem dL_pair_13 : decode cL_pair 13 = .ok (.iconst 1, 1) := by decide +kernel
theorem dL_pair_14 : decode cL_pair 14 = .ok (.ireturn, 1) := by decide +kernel
theorem dL_pair_15 : decode cL_pair 15 = .ok (.iconst 0, 1) := by decide +kernel
theorem dL_pair_16 : decode cL_pair 16 = .ok (.ireturn, 1) := by decide +kernel
set_option maxRecDepth 20000 in
theorem ggL_law_X4_init : GoodIn wsL_law wsX4_init := goodIn_r _ [10, 11, 12, 13, 14, 15, 16, 17, 18, 19, 20, 21, 22, 23, 24, 25, 26, 27, 28, 29, 30, 31, 32, 33, 34, 35, 36, 632, 633, 634, 651, 652, 653, 654, 655, 656, 657, 658, 659] (by decide +kernel) (by decide +kernel)
set_option maxRecDepth 20000 in
theorem gL_law_X4_init : GoodIn wsL_law (wsX4_init) := ggL_law_X4_init
set_option maxRecDepth 20000 in
theorem ggL_law_X5_init : GoodIn wsL_law wsX5_init := goodIn_r _ [39, 40, 12, 13, 14, 41, 42, 29, 43, 44, 45, 46, 635, 636, 637, 638, 639, 640, 641, 642, 643, 644, 645, 646, 647, 648, 649, 650] (by decide +kernel) (by decide +kernel)
set_option maxRecDepth 20000 in
theorem gL_law_X5_init : GoodIn wsL_law (wsX5_init) := ggL_law_X5_init
set_option maxRecDepth 20000 in
theorem ggL_law_L_add : GoodIn wsL_law wsL_add := goodIn_ca (goodIn_ca (goodIn_r _ [50, 51, 52, 53, 54, 55, 2, 56, 57, 58, 19, 23, 59, 60, 61, 62, 63, 64, 65, 66, 67, 68, 69, 18, 70, 71, 72, 73, 74, 75, 76, 77, 78, 79, 80, 27, 28, 30, 81, 82, 83, 84, 85, 86, 87, 88, 89, 90, 91, 92, 93, 94, 95, 96, 97, 98, 99, 100, 101, 31, 102, 103, 104, 105, 106, 107, 108, 109, 110, 111, 112, 113, 114, 115, 116, 22, 117, 118, 119, 120, 121, 122, 123, 124, 125, 126, 36, 127, 128, 129, 130, 35, 131, 132, 133, 134, 135, 136, 137, 138, 139, 140, 141, 142, 143, 144, 145, 146, 147, 148, 149, 150, 151, 152, 153, 154, 155, 156, 157, 158, 159, 160, 161, 162, 163, 164, 165, 166, 167, 168, 169, 170, 171, 172, 173, 174, 175, 176, 177, 178, 179, 180, 181, 182, 632, 633, 634, 651, 652, 653, 654, 655, 656, 657, 658, 659] (by decide +kernel) (by decide +kernel)) (goodIn_sub (fun _ h => List.mem_append_left _ (List.mem_append_left _ (List.mem_append_right _ h))) (by decide +kernel))) (goodIn_sub (fun _ h => List.mem_append_left _ (List.mem_append_right _ h)) (by decide +kernel))
set_option maxRecDepth 20000 in
theorem gL_law_L_add : GoodIn wsL_law (va_wsS RL 76 yL_add wsL_add) := goodIn_app (goodIn_of _ (by decide +kernel)) ggL_law_L_add
set_option maxRecDepth 20000 in
theorem ggL_law_X5_add : GoodIn wsL_law wsX5_add := goodIn_r _ [186, 187, 188, 41, 42, 43, 44, 189, 45, 46, 190, 191, 5, 192, 193, 194, 195, 196, 197, 198, 199, 200, 201, 202, 203, 204, 205, 206, 207, 208, 209, 210, 211, 212, 213, 214, 215, 216, 217, 218, 219, 220, 221, 222, 223, 224, 225, 226, 227, 228, 229, 230, 231, 232, 635, 636, 637, 638, 639, 640, 641, 642, 643, 644, 645, 646, 647, 648, 649, 650] (by decide +kernel) (by decide +kernel)
set_option maxRecDepth 20000 in
theorem gL_law_X5_add : GoodIn wsL_law (wsV RL 81 RX5 yX5_add wsX5_add) := goodIn_app (goodIn_of _ (by decide +kernel)) ggL_law_X5_add
set_option maxRecDepth 20000 in
theorem ggL_law_X5_thrown : GoodIn wsL_law wsX5_thrown := goodIn_r _ [236, 197, 635, 636, 637, 638, 639, 640, 641, 642, 643, 644, 645, 646, 647, 648, 649, 650] (by decide +kernel) (by decide +kernel)
set_option maxRecDepth 20000 in
theorem gL_law_X5_thrown : GoodIn wsL_law (wsV RL 82 RX5 yX5_thrown wsX5_thrown) := goodIn_app (goodIn_of _ (by decide +kernel)) ggL_law_X5_thrown
set_option maxRecDepth 20000 in
theorem ggL_law_L_remove : GoodIn wsL_law wsL_remove := goodIn_ca (goodIn_r _ [239, 240, 241, 242, 243, 2, 244, 23, 19, 245, 246, 247, 248, 249, 250, 251, 252, 253, 18, 254, 30, 110, 111, 112, 113, 72, 98, 99, 100, 101, 31, 255, 256, 257, 22, 258, 118, 135, 136, 137, 138, 139, 140, 141, 142, 36, 143, 144, 145, 146, 35, 131, 132, 133, 134, 127, 128, 129, 130, 147, 148, 149, 150, 151, 152, 153, 154, 259, 260, 261, 262, 159, 160, 161, 162, 163, 164, 165, 166, 167, 168, 169, 170, 263, 264, 265, 266, 267, 268, 269, 123, 124, 125, 126, 175, 176, 177, 178, 270, 271, 272, 273, 274, 275, 276, 277, 278, 279, 106, 107, 108, 109, 280, 281, 282, 283, 632, 633, 634, 651, 652, 653, 654, 655, 656, 657, 658, 659] (by decide +kernel) (by decide +kernel)) (goodIn_sub (fun _ h => List.mem_append_right _ h) (by decide +kernel))
set_option maxRecDepth 20000 in
theorem gL_law_L_remove : GoodIn wsL_law (va_wsS RL 86 yL_remove wsL_remove) := goodIn_app (goodIn_of _ (by decide +kernel)) ggL_law_L_remove
set_option maxRecDepth 20000 in
theorem ggL_law_X5_remove : GoodIn wsL_law wsX5_remove := goodIn_r _ [287, 43, 187, 44, 288, 289, 290, 5, 291, 188, 193, 194, 195, 196, 197, 292, 293, 294, 295, 201, 202, 203, 204, 189, 45, 205, 206, 207, 208, 209, 210, 211, 212, 46, 296, 297, 298, 299, 217, 218, 219, 220, 221, 222, 223, 224, 300, 301, 302, 303, 229, 230, 231, 232, 635, 636, 637, 638, 639, 640, 641, 642, 643, 644, 645, 646, 647, 648, 649, 650] (by decide +kernel) (by decide +kernel)
set_option maxRecDepth 20000 in
theorem gL_law_X5_remove : GoodIn wsL_law (wsV RL 89 RX5 yX5_remove wsX5_remove) := goodIn_app (goodIn_of _ (by decide +kernel)) ggL_law_X5_remove
set_option maxRecDepth 20000 in
theorem ggL_law_X4_pack : GoodIn wsL_law wsX4_pack := goodIn_r _ [307, 23, 19, 280, 281, 282, 18, 283, 72, 308, 309, 310, 22, 311, 118, 159, 160, 161, 162, 123, 124, 125, 126, 36, 127, 128, 129, 130, 35, 131, 132, 133, 134, 312, 140, 141, 142, 632, 633, 634, 651, 652, 653, 654, 655, 656, 657, 658, 659] (by decide +kernel) (by decide +kernel)
set_option maxRecDepth 20000 in
theorem gL_law_X4_pack : GoodIn wsL_law (wsV RL 90 RX4 yX4_pack wsX4_pack) := goodIn_app (goodIn_of _ (by decide +kernel)) ggL_law_X4_pack
set_option maxRecDepth 20000 in
theorem ggL_law_X5_pack : GoodIn wsL_law wsX5_pack := goodIn_r _ [316, 197, 187, 189, 45, 46, 635, 636, 637, 638, 639, 640, 641, 642, 643, 644, 645, 646, 647, 648, 649, 650] (by decide +kernel) (by decide +kernel)
set_option maxRecDepth 20000 in
theorem gL_law_X5_pack : GoodIn wsL_law (wsV RL 93 RX5 yX5_pack wsX5_pack) := goodIn_app (goodIn_of _ (by decide +kernel)) ggL_law_X5_pack
set_option maxRecDepth 20000 in
theorem ggL_law_X4_boxes : GoodIn wsL_law wsX4_boxes := goodIn_r _ [320, 19, 280, 281, 282, 18, 283, 72, 632, 633, 634, 651, 652, 653, 654, 655, 656] (by decide +kernel) (by decide +kernel)
set_option maxRecDepth 20000 in
theorem gL_law_X4_boxes : GoodIn wsL_law (wsV RL 94 RX4 yX4_boxes wsX4_boxes) := goodIn_app (goodIn_of _ (by decide +kernel)) ggL_law_X4_boxes
set_option maxRecDepth 20000 in
theorem ggL_law_X5_boxes : GoodIn wsL_law wsX5_boxes := goodIn_r _ [324, 187, 325, 326, 327, 5, 328, 197, 635, 636, 637, 638, 639, 640, 641, 642, 643, 644, 645, 646, 647, 648, 649, 650] (by decide +kernel) (by decide +kernel)
set_option maxRecDepth 20000 in
theorem gL_law_X5_boxes : GoodIn wsL_law (wsV RL 97 RX5 yX5_boxes wsX5_boxes) := goodIn_app (goodIn_of _ (by decide +kernel)) ggL_law_X5_boxes
set_option maxRecDepth 20000 in
theorem ggL_law_L_key : GoodIn wsL_law wsL_key := goodIn_ca (goodIn_r _ [331, 51, 332, 333, 334, 2, 335, 336, 337, 338, 62, 63, 64, 65, 66, 339, 88, 89, 90, 91, 92, 93] (by decide +kernel) (by decide +kernel)) (goodIn_sub (fun _ h => List.mem_append_left _ (List.mem_append_right _ h)) (by decide +kernel))
set_option maxRecDepth 20000 in
theorem gL_law_L_key : GoodIn wsL_law (va_wsS RL 98 yL_key wsL_key) := goodIn_app (goodIn_of _ (by decide +kernel)) ggL_law_L_key
set_option maxRecDepth 20000 in
theorem ggL_law_X5_key : GoodIn wsL_law wsX5_key := goodIn_r _ [343, 344, 345, 5, 346, 193, 194, 195, 196, 197, 198, 199, 200, 635, 636, 637, 638, 639, 640, 641, 642, 643, 644, 645, 646, 647, 648, 649, 650] (by decide +kernel) (by decide +kernel)
set_option maxRecDepth 20000 in
theorem gL_law_X5_key : GoodIn wsL_law (wsV RL 101 RX5 yX5_key wsX5_key) := goodIn_app (goodIn_of _ (by decide +kernel)) ggL_law_X5_key
set_option maxRecDepth 20000 in
theorem ggL_law_L_keyOf : GoodIn wsL_law wsL_keyOf := goodIn_ca (goodIn_r _ [349, 240, 350, 351, 352, 2, 353, 19, 245, 246, 247, 248, 249, 250, 251, 252, 253, 18, 254, 30, 354, 103, 104, 105, 28, 632, 633, 634, 651, 652, 653, 654, 655, 656] (by decide +kernel) (by decide +kernel)) (goodIn_sub (fun _ h => List.mem_append_right _ h) (by decide +kernel))
set_option maxRecDepth 20000 in
theorem gL_law_L_keyOf : GoodIn wsL_law (va_wsS RL 102 yL_keyOf wsL_keyOf) := goodIn_app (goodIn_of _ (by decide +kernel)) ggL_law_L_keyOf
set_option maxRecDepth 20000 in
theorem ggL_law_X5_keyOf : GoodIn wsL_law wsX5_keyOf := goodIn_r _ [358, 42, 288, 289, 290, 5, 291, 188, 43, 193, 194, 195, 196, 197, 635, 636, 637, 638, 639, 640, 641, 642, 643, 644, 645, 646, 647, 648, 649, 650] (by decide +kernel) (by decide +kernel)
set_option maxRecDepth 20000 in
theorem gL_law_X5_keyOf : GoodIn wsL_law (wsV RL 104 RX5 yX5_keyOf wsX5_keyOf) := goodIn_app (goodIn_of _ (by decide +kernel)) ggL_law_X5_keyOf
set_option maxRecDepth 20000 in
theorem ggL_law_L_sideOf : GoodIn wsL_law wsL_sideOf := goodIn_ca (goodIn_ca (goodIn_r _ [361, 51, 240, 362, 363, 364, 2, 365, 19, 366, 367, 368, 62, 63, 245, 246, 247, 248, 249, 250, 251, 252, 253, 18, 254, 30, 369, 370, 371, 372, 27, 373, 85, 75, 86, 632, 633, 634, 651, 652, 653, 654, 655, 656] (by decide +kernel) (by decide +kernel)) (goodIn_sub (fun _ h => List.mem_append_left _ (List.mem_append_right _ h)) (by decide +kernel))) (goodIn_sub (fun _ h => List.mem_append_right _ h) (by decide +kernel))
set_option maxRecDepth 20000 in
theorem gL_law_L_sideOf : GoodIn wsL_law (va_wsS RL 105 yL_sideOf wsL_sideOf) := goodIn_app (goodIn_of _ (by decide +kernel)) ggL_law_L_sideOf
set_option maxRecDepth 20000 in
theorem ggL_law_X5_sideOf : GoodIn wsL_law wsX5_sideOf := goodIn_r _ [377, 41, 378, 379, 5, 380, 288, 289, 290, 291, 188, 43, 193, 194, 195, 196, 197, 635, 636, 637, 638, 639, 640, 641, 642, 643, 644, 645, 646, 647, 648, 649, 650] (by decide +kernel) (by decide +kernel)
set_option maxRecDepth 20000 in
theorem gL_law_X5_sideOf : GoodIn wsL_law (wsV RL 107 RX5 yX5_sideOf wsX5_sideOf) := goodIn_app (goodIn_of _ (by decide +kernel)) ggL_law_X5_sideOf
set_option maxRecDepth 20000 in
theorem ggL_law_X4_levels : GoodIn wsL_law wsX4_levels := goodIn_r _ [384, 23, 385, 386, 387, 22, 388, 118, 632, 633, 634, 657, 658, 659] (by decide +kernel) (by decide +kernel)
set_option maxRecDepth 20000 in
theorem gL_law_X4_levels : GoodIn wsL_law (wsV RL 108 RX4 yX4_levels wsX4_levels) := goodIn_app (goodIn_of _ (by decide +kernel)) ggL_law_X4_levels
set_option maxRecDepth 20000 in
theorem ggL_law_X5_levels : GoodIn wsL_law wsX5_levels := goodIn_r _ [392, 189, 325, 326, 327, 5, 328, 197, 635, 636, 637, 638, 639, 640, 641, 642, 643, 644, 645, 646, 647, 648, 649, 650] (by decide +kernel) (by decide +kernel)
set_option maxRecDepth 20000 in
theorem gL_law_X5_levels : GoodIn wsL_law (wsV RL 111 RX5 yX5_levels wsX5_levels) := goodIn_app (goodIn_of _ (by decide +kernel)) ggL_law_X5_levels
set_option maxRecDepth 20000 in
theorem ggL_law_L_nodes : GoodIn wsL_law wsL_nodes := goodIn_ca (goodIn_r _ [395, 240, 396, 397, 398, 2, 399, 249, 250, 23, 400, 152, 153, 22, 154, 118, 312, 140, 141, 142, 36, 632, 633, 634, 657, 658, 659] (by decide +kernel) (by decide +kernel)) (goodIn_sub (fun _ h => List.mem_append_right _ h) (by decide +kernel))
set_option maxRecDepth 20000 in
theorem gL_law_L_nodes : GoodIn wsL_law (va_wsS RL 112 yL_nodes wsL_nodes) := goodIn_app (goodIn_of _ (by decide +kernel)) ggL_law_L_nodes
set_option maxRecDepth 20000 in
theorem ggL_law_X5_nodes : GoodIn wsL_law wsX5_nodes := goodIn_r _ [404, 45, 405, 406, 407, 5, 408, 189, 193, 194, 195, 196, 197, 635, 636, 637, 638, 639, 640, 641, 642, 643, 644, 645, 646, 647, 648, 649, 650] (by decide +kernel) (by decide +kernel)
set_option maxRecDepth 20000 in
theorem gL_law_X5_nodes : GoodIn wsL_law (wsV RL 114 RX5 yX5_nodes wsX5_nodes) := goodIn_app (goodIn_of _ (by decide +kernel)) ggL_law_X5_nodes
set_option maxRecDepth 20000 in
theorem ggL_law_L_entries : GoodIn wsL_law wsL_entries := goodIn_ca (goodIn_r _ [411, 240, 412, 413, 414, 2, 415, 23, 416, 417, 418, 419, 249, 250, 420, 132, 133, 22, 134, 118, 36, 421, 144, 145, 146, 35, 131, 632, 633, 634, 657, 658, 659] (by decide +kernel) (by decide +kernel)) (goodIn_sub (fun _ h => List.mem_append_right _ h) (by decide +kernel))
set_option maxRecDepth 20000 in
theorem gL_law_L_entries : GoodIn wsL_law (va_wsS RL 115 yL_entries wsL_entries) := goodIn_app (goodIn_of _ (by decide +kernel)) ggL_law_L_entries
set_option maxRecDepth 20000 in
theorem ggL_law_X5_entries : GoodIn wsL_law wsX5_entries := goodIn_r _ [425, 426, 427, 428, 5, 429, 45, 405, 406, 407, 408, 189, 193, 194, 195, 196, 197, 209, 210, 211, 212, 46, 635, 636, 637, 638, 639, 640, 641, 642, 643, 644, 645, 646, 647, 648, 649, 650] (by decide +kernel) (by decide +kernel)
set_option maxRecDepth 20000 in
theorem gL_law_X5_entries : GoodIn wsL_law (wsV RL 117 RX5 yX5_entries wsX5_entries) := goodIn_app (goodIn_of _ (by decide +kernel)) ggL_law_X5_entries
set_option maxRecDepth 20000 in
theorem ggL_law_L_cover : GoodIn wsL_law wsL_cover := goodIn_ca (goodIn_ca (goodIn_r _ [432, 51, 240, 433, 434, 435, 2, 436, 366, 367, 368, 62, 63, 416, 417, 418, 419, 249, 250, 23, 420, 132, 133, 22, 134, 118, 36, 437, 438, 439, 440, 19, 441, 442, 443, 444, 167, 168, 169, 170, 139, 140, 141, 142, 143, 144, 145, 146, 35, 131, 445, 446, 447, 18, 448, 98, 99, 100, 101, 31, 72, 449, 370, 371, 372, 27, 450, 451, 75, 452, 453, 160, 161, 162, 454, 268, 269, 84, 85, 86, 455, 74, 76, 373, 632, 633, 634, 657, 658, 659, 651, 652, 653, 654, 655, 656] (by decide +kernel) (by decide +kernel)) (goodIn_sub (fun _ h => List.mem_append_left _ (List.mem_append_right _ h)) (by decide +kernel))) (goodIn_sub (fun _ h => List.mem_append_right _ h) (by decide +kernel))
set_option maxRecDepth 20000 in
theorem gL_law_L_cover : GoodIn wsL_law (va_wsS RL 118 yL_cover wsL_cover) := goodIn_app (goodIn_of _ (by decide +kernel)) ggL_law_L_cover
set_option maxRecDepth 20000 in
theorem ggL_law_X5_cover : GoodIn wsL_law wsX5_cover := goodIn_r _ [459, 460, 461, 462, 463, 378, 379, 5, 380, 426, 427, 428, 429, 45, 405, 406, 407, 408, 189, 193, 194, 195, 196, 197, 464, 465, 466, 467, 468, 469, 44, 41, 205, 206, 207, 208, 209, 210, 211, 212, 46, 635, 636, 637, 638, 639, 640, 641, 642, 643, 644, 645, 646, 647, 648, 649, 650] (by decide +kernel) (by decide +kernel)
set_option maxRecDepth 20000 in
theorem gL_law_X5_cover : GoodIn wsL_law (wsV RL 121 RX5 yX5_cover wsX5_cover) := goodIn_app (goodIn_of _ (by decide +kernel)) ggL_law_X5_cover
set_option maxRecDepth 20000 in
theorem ggL_law_L_leafOf : GoodIn wsL_law wsL_leafOf := goodIn_ca (goodIn_r _ [472, 240, 473, 474, 475, 2, 476, 23, 19, 245, 246, 247, 248, 249, 250, 251, 252, 253, 18, 254, 30, 110, 111, 112, 113, 72, 98, 99, 100, 101, 31, 477, 136, 137, 22, 138, 139, 140, 141, 142, 118, 36, 143, 144, 145, 146, 35, 131, 132, 133, 134, 632, 633, 634, 651, 652, 653, 654, 655, 656, 657, 658, 659] (by decide +kernel) (by decide +kernel)) (goodIn_sub (fun _ h => List.mem_append_right _ h) (by decide +kernel))
set_option maxRecDepth 20000 in
theorem gL_law_L_leafOf : GoodIn wsL_law (va_wsS RL 122 yL_leafOf wsL_leafOf) := goodIn_app (goodIn_of _ (by decide +kernel)) ggL_law_L_leafOf
set_option maxRecDepth 20000 in
theorem ggL_law_X5_leafOf : GoodIn wsL_law wsX5_leafOf := goodIn_r _ [481, 288, 289, 290, 5, 291, 188, 43, 193, 194, 195, 196, 197, 292, 293, 294, 295, 44, 201, 202, 203, 204, 189, 45, 205, 206, 207, 208, 209, 210, 211, 212, 46, 635, 636, 637, 638, 639, 640, 641, 642, 643, 644, 645, 646, 647, 648, 649, 650] (by decide +kernel) (by decide +kernel)
set_option maxRecDepth 20000 in
theorem gL_law_X5_leafOf : GoodIn wsL_law (wsV RL 124 RX5 yX5_leafOf wsX5_leafOf) := goodIn_app (goodIn_of _ (by decide +kernel)) ggL_law_X5_leafOf
set_option maxRecDepth 20000 in
theorem ggL_law_L_boxAt : GoodIn wsL_law wsL_boxAt := goodIn_ca (goodIn_r _ [484, 240, 485, 486, 487, 2, 488, 249, 250, 19, 280, 281, 282, 18, 283, 72, 489, 99, 100, 101, 31, 632, 633, 634, 651, 652, 653, 654, 655, 656] (by decide +kernel) (by decide +kernel)) (goodIn_sub (fun _ h => List.mem_append_right _ h) (by decide +kernel))
set_option maxRecDepth 20000 in
theorem gL_law_L_boxAt : GoodIn wsL_law (va_wsS RL 125 yL_boxAt wsL_boxAt) := goodIn_app (goodIn_of _ (by decide +kernel)) ggL_law_L_boxAt
set_option maxRecDepth 20000 in
theorem ggL_law_X5_boxAt : GoodIn wsL_law wsX5_boxAt := goodIn_r _ [493, 187, 44, 193, 194, 195, 5, 196, 197, 635, 636, 637, 638, 639, 640, 641, 642, 643, 644, 645, 646, 647, 648, 649, 650] (by decide +kernel) (by decide +kernel)
set_option maxRecDepth 20000 in
theorem gL_law_X5_boxAt : GoodIn wsL_law (wsV RL 127 RX5 yX5_boxAt wsX5_boxAt) := goodIn_app (goodIn_of _ (by decide +kernel)) ggL_law_X5_boxAt
set_option maxRecDepth 20000 in
theorem ggL_law_L_tightness : GoodIn wsL_law wsL_tightness := goodIn_ca (goodIn_r _ [496, 52, 497, 498, 499, 2, 500, 57, 58, 23, 19, 312, 140, 141, 22, 142, 118, 36, 437, 438, 439, 440, 441, 442, 443, 444, 167, 168, 169, 170, 139, 143, 144, 145, 146, 35, 131, 132, 133, 134, 445, 446, 447, 18, 448, 98, 99, 100, 101, 31, 72, 449, 370, 371, 372, 27, 450, 451, 75, 452, 453, 160, 161, 162, 454, 268, 269, 84, 85, 86, 455, 74, 76, 501, 502, 503, 280, 281, 282, 283, 632, 633, 634, 657, 658, 659, 651, 652, 653, 654, 655, 656] (by decide +kernel) (by decide +kernel)) (goodIn_sub (fun _ h => List.mem_append_left _ (List.mem_append_left _ (List.mem_append_right _ h))) (by decide +kernel))
set_option maxRecDepth 20000 in
theorem gL_law_L_tightness : GoodIn wsL_law (va_wsS RL 128 yL_tightness wsL_tightness) := goodIn_app (goodIn_of _ (by decide +kernel)) ggL_law_L_tightness
set_option maxRecDepth 20000 in
theorem ggL_law_X5_tightness : GoodIn wsL_law wsX5_tightness := goodIn_r _ [507, 187, 44, 41, 45, 462, 460, 463, 461, 193, 194, 195, 5, 196, 197, 464, 465, 466, 467, 468, 469, 205, 206, 207, 208, 209, 210, 211, 212, 46, 635, 636, 637, 638, 639, 640, 641, 642, 643, 644, 645, 646, 647, 648, 649, 650] (by decide +kernel) (by decide +kernel)
set_option maxRecDepth 20000 in
theorem gL_law_X5_tightness : GoodIn wsL_law (wsV RL 131 RX5 yX5_tightness wsX5_tightness) := goodIn_app (goodIn_of _ (by decide +kernel)) ggL_law_X5_tightness
set_option maxRecDepth 20000 in
theorem ggL_law_L_count : GoodIn wsL_law wsL_count := goodIn_ca (goodIn_r _ [510, 51, 511, 512, 513, 2, 514, 19, 59, 60, 61, 62, 63, 64, 65, 66, 73, 74, 75, 76, 280, 281, 282, 18, 283, 72, 445, 446, 447, 448, 98, 99, 100, 101, 31, 449, 370, 371, 372, 27, 515, 516, 517, 84, 85, 86, 632, 633, 634, 651, 652, 653, 654, 655, 656] (by decide +kernel) (by decide +kernel)) (goodIn_sub (fun _ h => List.mem_append_left _ (List.mem_append_right _ h)) (by decide +kernel))
set_option maxRecDepth 20000 in
theorem gL_law_L_count : GoodIn wsL_law (va_wsS RL 132 yL_count wsL_count) := goodIn_app (goodIn_of _ (by decide +kernel)) ggL_law_L_count
set_option maxRecDepth 20000 in
theorem ggL_law_X5_count : GoodIn wsL_law wsX5_count := goodIn_r _ [521, 190, 191, 5, 192, 193, 194, 195, 196, 197, 522, 523, 524, 525, 187, 44, 526, 527, 528, 529, 41, 635, 636, 637, 638, 639, 640, 641, 642, 643, 644, 645, 646, 647, 648, 649, 650] (by decide +kernel) (by decide +kernel)
set_option maxRecDepth 20000 in
theorem gL_law_X5_count : GoodIn wsL_law (wsV RL 134 RX5 yX5_count wsX5_count) := goodIn_app (goodIn_of _ (by decide +kernel)) ggL_law_X5_count
set_option maxRecDepth 20000 in
theorem ggL_law_L_found : GoodIn wsL_law wsL_found := goodIn_ca (goodIn_ca (goodIn_r _ [532, 51, 240, 533, 534, 535, 2, 536, 249, 250, 19, 59, 60, 61, 62, 63, 64, 65, 66, 73, 74, 75, 76, 280, 281, 282, 18, 283, 72, 445, 446, 447, 448, 98, 99, 100, 101, 31, 449, 370, 371, 372, 27, 515, 516, 517, 84, 85, 86, 489, 632, 633, 634, 651, 652, 653, 654, 655, 656] (by decide +kernel) (by decide +kernel)) (goodIn_sub (fun _ h => List.mem_append_right _ h) (by decide +kernel))) (goodIn_sub (fun _ h => List.mem_append_left _ (List.mem_append_right _ h)) (by decide +kernel))
set_option maxRecDepth 20000 in
theorem gL_law_L_found : GoodIn wsL_law (va_wsS RL 135 yL_found wsL_found) := goodIn_app (goodIn_of _ (by decide +kernel)) ggL_law_L_found
set_option maxRecDepth 20000 in
theorem ggL_law_X5_found : GoodIn wsL_law wsX5_found := goodIn_r _ [540, 44, 190, 191, 5, 192, 522, 523, 524, 525, 187, 526, 527, 528, 529, 41, 193, 194, 195, 196, 197, 635, 636, 637, 638, 639, 640, 641, 642, 643, 644, 645, 646, 647, 648, 649, 650] (by decide +kernel) (by decide +kernel)
set_option maxRecDepth 20000 in
theorem gL_law_X5_found : GoodIn wsL_law (wsV RL 138 RX5 yX5_found wsX5_found) := goodIn_app (goodIn_of _ (by decide +kernel)) ggL_law_X5_found
set_option maxRecDepth 20000 in
theorem ggL_law_L_visits : GoodIn wsL_law wsL_visits := goodIn_ca (goodIn_r _ [543, 51, 544, 545, 546, 2, 547, 23, 59, 60, 61, 62, 63, 64, 65, 66, 73, 74, 75, 76, 385, 386, 387, 22, 388, 118, 312, 140, 141, 142, 36, 437, 438, 439, 440, 19, 441, 442, 443, 444, 167, 168, 169, 170, 139, 143, 144, 145, 146, 35, 131, 132, 133, 134, 445, 446, 447, 18, 448, 98, 99, 100, 101, 31, 72, 449, 370, 371, 372, 27, 450, 451, 452, 453, 160, 161, 162, 454, 268, 269, 84, 85, 86, 455, 515, 516, 517, 632, 633, 634, 657, 658, 659, 651, 652, 653, 654, 655, 656] (by decide +kernel) (by decide +kernel)) (goodIn_sub (fun _ h => List.mem_append_left _ (List.mem_append_right _ h)) (by decide +kernel))
set_option maxRecDepth 20000 in
theorem gL_law_L_visits : GoodIn wsL_law (va_wsS RL 139 yL_visits wsL_visits) := goodIn_app (goodIn_of _ (by decide +kernel)) ggL_law_L_visits
set_option maxRecDepth 20000 in
theorem ggL_law_X5_visits : GoodIn wsL_law wsX5_visits := goodIn_r _ [551, 189, 45, 460, 462, 461, 463, 190, 191, 5, 192, 193, 194, 195, 196, 197, 464, 465, 466, 467, 468, 469, 44, 41, 205, 206, 207, 208, 209, 210, 211, 212, 46, 635, 636, 637, 638, 639, 640, 641, 642, 643, 644, 645, 646, 647, 648, 649, 650] (by decide +kernel) (by decide +kernel)
set_option maxRecDepth 20000 in
theorem gL_law_X5_visits : GoodIn wsL_law (wsV RL 141 RX5 yX5_visits wsX5_visits) := goodIn_app (goodIn_of _ (by decide +kernel)) ggL_law_X5_visits
set_option maxRecDepth 20000 in
theorem ggL_law_L_nearest : GoodIn wsL_law wsL_nearest := goodIn_ca (goodIn_ca (goodIn_r _ [554, 51, 240, 555, 556, 557, 2, 558, 249, 250, 19, 336, 337, 338, 62, 63, 64, 65, 66, 559, 560, 561, 562, 15, 280, 281, 282, 18, 283, 72, 445, 446, 447, 448, 98, 99, 100, 101, 31, 449, 370, 371, 372, 27, 563, 564, 75, 565, 84, 85, 86, 566, 567, 568, 454, 268, 161, 269, 489, 569, 570, 571, 572, 632, 633, 634, 651, 652, 653, 654, 655, 656] (by decide +kernel) (by decide +kernel)) (goodIn_sub (fun _ h => List.mem_append_right _ h) (by decide +kernel))) (goodIn_sub (fun _ h => List.mem_append_left _ (List.mem_append_right _ h)) (by decide +kernel))
set_option maxRecDepth 20000 in
theorem gL_law_L_nearest : GoodIn wsL_law (va_wsS RL 142 yL_nearest wsL_nearest) := goodIn_app (goodIn_of _ (by decide +kernel)) ggL_law_L_nearest
set_option maxRecDepth 20000 in
theorem ggL_law_X5_nearest : GoodIn wsL_law wsX5_nearest := goodIn_r _ [576, 187, 43, 344, 345, 5, 346, 193, 194, 195, 196, 197, 577, 578, 579, 580, 188, 581, 582, 583, 584, 41, 635, 636, 637, 638, 639, 640, 641, 642, 643, 644, 645, 646, 647, 648, 649, 650] (by decide +kernel) (by decide +kernel)
set_option maxRecDepth 20000 in
theorem gL_law_X5_nearest : GoodIn wsL_law (wsV RL 144 RX5 yX5_nearest wsX5_nearest) := goodIn_app (goodIn_of _ (by decide +kernel)) ggL_law_X5_nearest
set_option maxRecDepth 20000 in
theorem ggL_law_L_distance : GoodIn wsL_law wsL_distance := goodIn_ca (goodIn_ca (goodIn_r _ [587, 51, 240, 588, 589, 590, 2, 591, 19, 336, 337, 338, 62, 63, 64, 65, 66, 245, 246, 247, 248, 249, 250, 251, 252, 253, 18, 254, 30, 369, 370, 371, 372, 27, 563, 564, 75, 565, 84, 85, 86, 566, 567, 568, 454, 268, 161, 269, 632, 633, 634, 651, 652, 653, 654, 655, 656] (by decide +kernel) (by decide +kernel)) (goodIn_sub (fun _ h => List.mem_append_left _ (List.mem_append_right _ h)) (by decide +kernel))) (goodIn_sub (fun _ h => List.mem_append_right _ h) (by decide +kernel))
set_option maxRecDepth 20000 in
theorem gL_law_L_distance : GoodIn wsL_law (va_wsS RL 145 yL_distance wsL_distance) := goodIn_app (goodIn_of _ (by decide +kernel)) ggL_law_L_distance
set_option maxRecDepth 20000 in
theorem ggL_law_X5_distance : GoodIn wsL_law wsX5_distance := goodIn_r _ [595, 344, 345, 5, 346, 288, 289, 290, 291, 188, 43, 193, 194, 195, 196, 197, 581, 582, 583, 584, 41, 635, 636, 637, 638, 639, 640, 641, 642, 643, 644, 645, 646, 647, 648, 649, 650] (by decide +kernel) (by decide +kernel)
set_option maxRecDepth 20000 in
theorem gL_law_X5_distance : GoodIn wsL_law (wsV RL 147 RX5 yX5_distance wsX5_distance) := goodIn_app (goodIn_of _ (by decide +kernel)) ggL_law_X5_distance
set_option maxRecDepth 20000 in
theorem ggL_law_X4_pairs : GoodIn wsL_law wsX4_pairs := goodIn_r _ [599, 19, 600, 601, 602, 18, 603, 71, 604, 605, 606, 607, 279, 252, 253, 254, 30, 449, 370, 371, 372, 27, 608, 516, 75, 517, 84, 85, 86, 632, 633, 634, 651, 652, 653, 654, 655, 656] (by decide +kernel) (by decide +kernel)
set_option maxRecDepth 20000 in
theorem gL_law_X4_pairs : GoodIn wsL_law (wsV RL 148 RX4 yX4_pairs wsX4_pairs) := goodIn_app (goodIn_of _ (by decide +kernel)) ggL_law_X4_pairs
set_option maxRecDepth 20000 in
theorem ggL_law_X5_pairs : GoodIn wsL_law wsX5_pairs := goodIn_r _ [612, 613, 614, 615, 5, 616, 188, 617, 618, 619, 620, 43, 41, 526, 527, 528, 529, 325, 326, 327, 328, 197, 635, 636, 637, 638, 639, 640, 641, 642, 643, 644, 645, 646, 647, 648, 649, 650] (by decide +kernel) (by decide +kernel)
set_option maxRecDepth 20000 in
theorem gL_law_X5_pairs : GoodIn wsL_law (wsV RL 151 RX5 yX5_pairs wsX5_pairs) := goodIn_app (goodIn_of _ (by decide +kernel)) ggL_law_X5_pairs
set_option maxRecDepth 20000 in
theorem ggL_law_L_pair : GoodIn wsL_law wsL_pair := goodIn_ca (goodIn_r _ [623, 240, 624, 625, 626, 2, 627, 249, 250, 19, 600, 601, 602, 18, 603, 71, 604, 605, 606, 607, 279, 252, 253, 254, 30, 449, 370, 371, 372, 27, 608, 516, 75, 517, 84, 85, 86, 632, 633, 634, 651, 652, 653, 654, 655, 656] (by decide +kernel) (by decide +kernel)) (goodIn_sub (fun _ h => List.mem_append_right _ h) (by decide +kernel))
set_option maxRecDepth 20000 in
theorem gL_law_L_pair : GoodIn wsL_law (va_wsS RL 152 yL_pair wsL_pair) := goodIn_app (goodIn_of _ (by decide +kernel)) ggL_law_L_pair
set_option maxRecDepth 20000 in
theorem ggL_law_X5_pair : GoodIn wsL_law wsX5_pair := goodIn_r _ [631, 613, 614, 615, 5, 616, 188, 617, 618, 619, 620, 43, 41, 526, 527, 528, 529, 193, 194, 195, 196, 197, 635, 636, 637, 638, 639, 640, 641, 642, 643, 644, 645, 646, 647, 648, 649, 650] (by decide +kernel) (by decide +kernel)
set_option maxRecDepth 20000 in
theorem gL_law_X5_pair : GoodIn wsL_law (wsV RL 154 RX5 yX5_pair wsX5_pair) := goodIn_app (goodIn_of _ (by decide +kernel)) ggL_law_X5_pair
theorem dL_law_0 : decode cL_law 0 = .ok (.new 8, 3) := by decide +kernel
theorem dL_law_3 : decode cL_law 3 = .ok (.dup, 1) := by decide +kernel
theorem dL_law_4 : decode cL_law 4 = .ok (.invokespecial 72, 3) := by decide +kernel
theorem dL_law_7 : decode cL_law 7 = .ok (.astore_n 1, 1) := by decide +kernel
theorem dL_law_8 : decode cL_law 8 = .ok (.new 73, 3) := by decide +kernel
theorem dL_law_11 : decode cL_law 11 = .ok (.dup, 1) := by decide +kernel
theorem dL_law_12 : decode cL_law 12 = .ok (.invokespecial 75, 3) := by decide +kernel
theorem dL_law_15 : decode cL_law 15 = .ok (.astore_n 2, 1) := by decide +kernel
theorem dL_law_16 : decode cL_law 16 = .ok (.iconst 1, 1) := by decide +kernel
theorem dL_law_17 : decode cL_law 17 = .ok (.newarray .long, 2) := by decide +kernel
theorem dL_law_19 : decode cL_law 19 = .ok (.astore_n 3, 1) := by decide +kernel
theorem dL_law_20 : decode cL_law 20 = .ok (.iconst 1, 1) := by decide +kernel
theorem dL_law_21 : decode cL_law 21 = .ok (.newarray .double, 2) := by decide +kernel
theorem dL_law_23 : decode cL_law 23 = .ok (.astore 4, 2) := by decide +kernel
theorem dL_law_25 : decode cL_law 25 = .ok (.iconst 0, 1) := by decide +kernel
theorem dL_law_26 : decode cL_law 26 = .ok (.istore 5, 2) := by decide +kernel
theorem dL_law_28 : decode cL_law 28 = .ok (.iload 5, 2) := by decide +kernel
theorem dL_law_30 : decode cL_law 30 = .ok (.aload_n 0, 1) := by decide +kernel
theorem dL_law_31 : decode cL_law 31 = .ok (.arraylength, 1) := by decide +kernel
theorem dL_law_32 : decode cL_law 32 = .ok (.bipush 6, 2) := by decide +kernel
theorem dL_law_34 : decode cL_law 34 = .ok (.isub, 1) := by decide +kernel
theorem dL_law_35 : decode cL_law 35 = .ok (.if_icmp .gt 1393, 3) := by decide +kernel
theorem dL_law_38 : decode cL_law 38 = .ok (.aload_n 0, 1) := by decide +kernel
theorem dL_law_39 : decode cL_law 39 = .ok (.iload 5, 2) := by decide +kernel
theorem dL_law_41 : decode cL_law 41 = .ok (.iaload, 1) := by decide +kernel
theorem dL_law_42 : decode cL_law 42 = .ok (.bipush 31, 2) := by decide +kernel
theorem dL_law_44 : decode cL_law 44 = .ok (.iand, 1) := by decide +kernel
theorem dL_law_45 : decode cL_law 45 = .ok (.tableswitch 1377 0 20 #[99, 191, 247, 260, 273, 341, 397, 465, 478, 534, 602, 682, 738, 794, 860, 952, 1056, 1148, 1228, 1308, 1321], 99) := by decide +kernel
theorem dL_law_144 : decode cL_law 144 = .ok (.aload_n 1, 1) := by decide +kernel
theorem dL_law_145 : decode cL_law 145 = .ok (.aload_n 0, 1) := by decide +kernel
theorem dL_law_146 : decode cL_law 146 = .ok (.iload 5, 2) := by decide +kernel
theorem dL_law_148 : decode cL_law 148 = .ok (.iconst 1, 1) := by decide +kernel
theorem dL_law_149 : decode cL_law 149 = .ok (.iadd, 1) := by decide +kernel
theorem dL_law_150 : decode cL_law 150 = .ok (.iaload, 1) := by decide +kernel
theorem dL_law_151 : decode cL_law 151 = .ok (.aload_n 0, 1) := by decide +kernel
theorem dL_law_152 : decode cL_law 152 = .ok (.iload 5, 2) := by decide +kernel
theorem dL_law_154 : decode cL_law 154 = .ok (.iconst 2, 1) := by decide +kernel
theorem dL_law_155 : decode cL_law 155 = .ok (.iadd, 1) := by decide +kernel
theorem dL_law_156 : decode cL_law 156 = .ok (.iaload, 1) := by decide +kernel
theorem dL_law_157 : decode cL_law 157 = .ok (.aload_n 0, 1) := by decide +kernel
theorem dL_law_158 : decode cL_law 158 = .ok (.iload 5, 2) := by decide +kernel
theorem dL_law_160 : decode cL_law 160 = .ok (.iconst 3, 1) := by decide +kernel
theorem dL_law_161 : decode cL_law 161 = .ok (.iadd, 1) := by decide +kernel
theorem dL_law_162 : decode cL_law 162 = .ok (.iaload, 1) := by decide +kernel
theorem dL_law_163 : decode cL_law 163 = .ok (.aload_n 0, 1) := by decide +kernel
theorem dL_law_164 : decode cL_law 164 = .ok (.iload 5, 2) := by decide +kernel
theorem dL_law_166 : decode cL_law 166 = .ok (.iconst 4, 1) := by decide +kernel
theorem dL_law_167 : decode cL_law 167 = .ok (.iadd, 1) := by decide +kernel
theorem dL_law_168 : decode cL_law 168 = .ok (.iaload, 1) := by decide +kernel
theorem dL_law_169 : decode cL_law 169 = .ok (.aload_n 3, 1) := by decide +kernel
theorem dL_law_170 : decode cL_law 170 = .ok (.invokestatic 76, 3) := by decide +kernel
theorem dL_law_173 : decode cL_law 173 = .ok (.istore 6, 2) := by decide +kernel
theorem dL_law_175 : decode cL_law 175 = .ok (.aload_n 2, 1) := by decide +kernel
theorem dL_law_176 : decode cL_law 176 = .ok (.aload_n 0, 1) := by decide +kernel
theorem dL_law_177 : decode cL_law 177 = .ok (.iload 5, 2) := by decide +kernel
theorem dL_law_179 : decode cL_law 179 = .ok (.iconst 1, 1) := by decide +kernel
theorem dL_law_180 : decode cL_law 180 = .ok (.iadd, 1) := by decide +kernel
theorem dL_law_181 : decode cL_law 181 = .ok (.iaload, 1) := by decide +kernel
theorem dL_law_182 : decode cL_law 182 = .ok (.aload_n 0, 1) := by decide +kernel
theorem dL_law_183 : decode cL_law 183 = .ok (.iload 5, 2) := by decide +kernel
theorem dL_law_185 : decode cL_law 185 = .ok (.iconst 2, 1) := by decide +kernel
theorem dL_law_186 : decode cL_law 186 = .ok (.iadd, 1) := by decide +kernel
theorem dL_law_187 : decode cL_law 187 = .ok (.iaload, 1) := by decide +kernel
theorem dL_law_188 : decode cL_law 188 = .ok (.aload_n 0, 1) := by decide +kernel
theorem dL_law_189 : decode cL_law 189 = .ok (.iload 5, 2) := by decide +kernel
theorem dL_law_191 : decode cL_law 191 = .ok (.iconst 3, 1) := by decide +kernel
theorem dL_law_192 : decode cL_law 192 = .ok (.iadd, 1) := by decide +kernel
theorem dL_law_193 : decode cL_law 193 = .ok (.iaload, 1) := by decide +kernel
theorem dL_law_194 : decode cL_law 194 = .ok (.aload_n 0, 1) := by decide +kernel
theorem dL_law_195 : decode cL_law 195 = .ok (.iload 5, 2) := by decide +kernel
theorem dL_law_197 : decode cL_law 197 = .ok (.iconst 4, 1) := by decide +kernel
theorem dL_law_198 : decode cL_law 198 = .ok (.iadd, 1) := by decide +kernel
theorem dL_law_199 : decode cL_law 199 = .ok (.iaload, 1) := by decide +kernel
theorem dL_law_200 : decode cL_law 200 = .ok (.invokevirtual 81, 3) := by decide +kernel
theorem dL_law_203 : decode cL_law 203 = .ok (.istore 7, 2) := by decide +kernel
theorem dL_law_205 : decode cL_law 205 = .ok (.aload_n 2, 1) := by decide +kernel
theorem dL_law_206 : decode cL_law 206 = .ok (.invokevirtual 82, 3) := by decide +kernel
theorem dL_law_209 : decode cL_law 209 = .ok (.iload 6, 2) := by decide +kernel
theorem dL_law_211 : decode cL_law 211 = .ok (.if_icmp .eq 5, 3) := by decide +kernel
theorem dL_law_214 : decode cL_law 214 = .ok (.iconst 0, 1) := by decide +kernel
theorem dL_law_215 : decode cL_law 215 = .ok (.ireturn, 1) := by decide +kernel
theorem dL_law_216 : decode cL_law 216 = .ok (.iload 6, 2) := by decide +kernel
theorem dL_law_218 : decode cL_law 218 = .ok (.ifCond .ne 15, 3) := by decide +kernel
theorem dL_law_221 : decode cL_law 221 = .ok (.aload_n 3, 1) := by decide +kernel
theorem dL_law_222 : decode cL_law 222 = .ok (.iconst 0, 1) := by decide +kernel
theorem dL_law_223 : decode cL_law 223 = .ok (.laload, 1) := by decide +kernel
theorem dL_law_224 : decode cL_law 224 = .ok (.iload 7, 2) := by decide +kernel
theorem dL_law_226 : decode cL_law 226 = .ok (.i2l, 1) := by decide +kernel
theorem dL_law_227 : decode cL_law 227 = .ok (.lcmp, 1) := by decide +kernel
theorem dL_law_228 : decode cL_law 228 = .ok (.ifCond .eq 5, 3) := by decide +kernel
theorem dL_law_231 : decode cL_law 231 = .ok (.iconst 0, 1) := by decide +kernel
theorem dL_law_232 : decode cL_law 232 = .ok (.ireturn, 1) := by decide +kernel
theorem dL_law_233 : decode cL_law 233 = .ok (.goto 1189, 3) := by decide +kernel
theorem dL_law_236 : decode cL_law 236 = .ok (.aload_n 1, 1) := by decide +kernel
theorem dL_law_237 : decode cL_law 237 = .ok (.aload_n 0, 1) := by decide +kernel
theorem dL_law_238 : decode cL_law 238 = .ok (.iload 5, 2) := by decide +kernel
theorem dL_law_240 : decode cL_law 240 = .ok (.iconst 1, 1) := by decide +kernel
theorem dL_law_241 : decode cL_law 241 = .ok (.iadd, 1) := by decide +kernel
theorem dL_law_242 : decode cL_law 242 = .ok (.iaload, 1) := by decide +kernel
theorem dL_law_243 : decode cL_law 243 = .ok (.aload_n 3, 1) := by decide +kernel
theorem dL_law_244 : decode cL_law 244 = .ok (.invokestatic 86, 3) := by decide +kernel
theorem dL_law_247 : decode cL_law 247 = .ok (.istore 6, 2) := by decide +kernel
theorem dL_law_249 : decode cL_law 249 = .ok (.aload_n 2, 1) := by decide +kernel
theorem dL_law_250 : decode cL_law 250 = .ok (.aload_n 0, 1) := by decide +kernel
theorem dL_law_251 : decode cL_law 251 = .ok (.iload 5, 2) := by decide +kernel
theorem dL_law_253 : decode cL_law 253 = .ok (.iconst 1, 1) := by decide +kernel
theorem dL_law_254 : decode cL_law 254 = .ok (.iadd, 1) := by decide +kernel
theorem dL_law_255 : decode cL_law 255 = .ok (.iaload, 1) := by decide +kernel
theorem dL_law_256 : decode cL_law 256 = .ok (.invokevirtual 89, 3) := by decide +kernel
theorem dL_law_259 : decode cL_law 259 = .ok (.istore 7, 2) := by decide +kernel
theorem dL_law_261 : decode cL_law 261 = .ok (.aload_n 2, 1) := by decide +kernel
theorem dL_law_262 : decode cL_law 262 = .ok (.invokevirtual 82, 3) := by decide +kernel
theorem dL_law_265 : decode cL_law 265 = .ok (.iload 6, 2) := by decide +kernel
theorem dL_law_267 : decode cL_law 267 = .ok (.if_icmp .eq 5, 3) := by decide +kernel
theorem dL_law_270 : decode cL_law 270 = .ok (.iconst 0, 1) := by decide +kernel
theorem dL_law_271 : decode cL_law 271 = .ok (.ireturn, 1) := by decide +kernel
theorem dL_law_272 : decode cL_law 272 = .ok (.iload 6, 2) := by decide +kernel
theorem dL_law_274 : decode cL_law 274 = .ok (.ifCond .ne 15, 3) := by decide +kernel
theorem dL_law_277 : decode cL_law 277 = .ok (.aload_n 3, 1) := by decide +kernel
theorem dL_law_278 : decode cL_law 278 = .ok (.iconst 0, 1) := by decide +kernel
theorem dL_law_279 : decode cL_law 279 = .ok (.laload, 1) := by decide +kernel
theorem dL_law_280 : decode cL_law 280 = .ok (.iload 7, 2) := by decide +kernel
theorem dL_law_282 : decode cL_law 282 = .ok (.i2l, 1) := by decide +kernel
theorem dL_law_283 : decode cL_law 283 = .ok (.lcmp, 1) := by decide +kernel
theorem dL_law_284 : decode cL_law 284 = .ok (.ifCond .eq 5, 3) := by decide +kernel
theorem dL_law_287 : decode cL_law 287 = .ok (.iconst 0, 1) := by decide +kernel
theorem dL_law_288 : decode cL_law 288 = .ok (.ireturn, 1) := by decide +kernel
theorem dL_law_289 : decode cL_law 289 = .ok (.goto 1133, 3) := by decide +kernel
theorem dL_law_292 : decode cL_law 292 = .ok (.aload_n 1, 1) := by decide +kernel
theorem dL_law_293 : decode cL_law 293 = .ok (.invokevirtual 90, 3) := by decide +kernel
theorem dL_law_296 : decode cL_law 296 = .ok (.aload_n 2, 1) := by decide +kernel
theorem dL_law_297 : decode cL_law 297 = .ok (.invokevirtual 93, 3) := by decide +kernel
theorem dL_law_300 : decode cL_law 300 = .ok (.if_icmp .eq 1122, 3) := by decide +kernel
theorem dL_law_303 : decode cL_law 303 = .ok (.iconst 0, 1) := by decide +kernel
theorem dL_law_304 : decode cL_law 304 = .ok (.ireturn, 1) := by decide +kernel
theorem dL_law_305 : decode cL_law 305 = .ok (.aload_n 1, 1) := by decide +kernel
theorem dL_law_306 : decode cL_law 306 = .ok (.invokevirtual 94, 3) := by decide +kernel
theorem dL_law_309 : decode cL_law 309 = .ok (.aload_n 2, 1) := by decide +kernel
theorem dL_law_310 : decode cL_law 310 = .ok (.invokevirtual 97, 3) := by decide +kernel
theorem dL_law_313 : decode cL_law 313 = .ok (.if_icmp .eq 1109, 3) := by decide +kernel
theorem dL_law_316 : decode cL_law 316 = .ok (.iconst 0, 1) := by decide +kernel
theorem dL_law_317 : decode cL_law 317 = .ok (.ireturn, 1) := by decide +kernel
theorem dL_law_318 : decode cL_law 318 = .ok (.aload_n 1, 1) := by decide +kernel
theorem dL_law_319 : decode cL_law 319 = .ok (.aload_n 0, 1) := by decide +kernel
theorem dL_law_320 : decode cL_law 320 = .ok (.iload 5, 2) := by decide +kernel
theorem dL_law_322 : decode cL_law 322 = .ok (.iconst 1, 1) := by decide +kernel
theorem dL_law_323 : decode cL_law 323 = .ok (.iadd, 1) := by decide +kernel
theorem dL_law_324 : decode cL_law 324 = .ok (.iaload, 1) := by decide +kernel
theorem dL_law_325 : decode cL_law 325 = .ok (.aload_n 0, 1) := by decide +kernel
theorem dL_law_326 : decode cL_law 326 = .ok (.iload 5, 2) := by decide +kernel
theorem dL_law_328 : decode cL_law 328 = .ok (.iconst 2, 1) := by decide +kernel
theorem dL_law_329 : decode cL_law 329 = .ok (.iadd, 1) := by decide +kernel
theorem dL_law_330 : decode cL_law 330 = .ok (.iaload, 1) := by decide +kernel
theorem dL_law_331 : decode cL_law 331 = .ok (.aload_n 3, 1) := by decide +kernel
theorem dL_law_332 : decode cL_law 332 = .ok (.invokestatic 98, 3) := by decide +kernel
theorem dL_law_335 : decode cL_law 335 = .ok (.istore 6, 2) := by decide +kernel
theorem dL_law_337 : decode cL_law 337 = .ok (.aload_n 2, 1) := by decide +kernel
theorem dL_law_338 : decode cL_law 338 = .ok (.aload_n 0, 1) := by decide +kernel
theorem dL_law_339 : decode cL_law 339 = .ok (.iload 5, 2) := by decide +kernel
theorem dL_law_341 : decode cL_law 341 = .ok (.iconst 1, 1) := by decide +kernel
theorem dL_law_342 : decode cL_law 342 = .ok (.iadd, 1) := by decide +kernel
theorem dL_law_343 : decode cL_law 343 = .ok (.iaload, 1) := by decide +kernel
theorem dL_law_344 : decode cL_law 344 = .ok (.aload_n 0, 1) := by decide +kernel
theorem dL_law_345 : decode cL_law 345 = .ok (.iload 5, 2) := by decide +kernel
theorem dL_law_347 : decode cL_law 347 = .ok (.iconst 2, 1) := by decide +kernel
theorem dL_law_348 : decode cL_law 348 = .ok (.iadd, 1) := by decide +kernel
theorem dL_law_349 : decode cL_law 349 = .ok (.iaload, 1) := by decide +kernel
theorem dL_law_350 : decode cL_law 350 = .ok (.invokevirtual 101, 3) := by decide +kernel
theorem dL_law_353 : decode cL_law 353 = .ok (.istore 7, 2) := by decide +kernel
theorem dL_law_355 : decode cL_law 355 = .ok (.aload_n 2, 1) := by decide +kernel
theorem dL_law_356 : decode cL_law 356 = .ok (.invokevirtual 82, 3) := by decide +kernel
theorem dL_law_359 : decode cL_law 359 = .ok (.iload 6, 2) := by decide +kernel
theorem dL_law_361 : decode cL_law 361 = .ok (.if_icmp .eq 5, 3) := by decide +kernel
theorem dL_law_364 : decode cL_law 364 = .ok (.iconst 0, 1) := by decide +kernel
theorem dL_law_365 : decode cL_law 365 = .ok (.ireturn, 1) := by decide +kernel
theorem dL_law_366 : decode cL_law 366 = .ok (.iload 6, 2) := by decide +kernel
theorem dL_law_368 : decode cL_law 368 = .ok (.ifCond .ne 15, 3) := by decide +kernel
theorem dL_law_371 : decode cL_law 371 = .ok (.aload_n 3, 1) := by decide +kernel
theorem dL_law_372 : decode cL_law 372 = .ok (.iconst 0, 1) := by decide +kernel
theorem dL_law_373 : decode cL_law 373 = .ok (.laload, 1) := by decide +kernel
theorem dL_law_374 : decode cL_law 374 = .ok (.iload 7, 2) := by decide +kernel
theorem dL_law_376 : decode cL_law 376 = .ok (.i2l, 1) := by decide +kernel
theorem dL_law_377 : decode cL_law 377 = .ok (.lcmp, 1) := by decide +kernel
theorem dL_law_378 : decode cL_law 378 = .ok (.ifCond .eq 5, 3) := by decide +kernel
theorem dL_law_381 : decode cL_law 381 = .ok (.iconst 0, 1) := by decide +kernel
theorem dL_law_382 : decode cL_law 382 = .ok (.ireturn, 1) := by decide +kernel
theorem dL_law_383 : decode cL_law 383 = .ok (.goto 1039, 3) := by decide +kernel
theorem dL_law_386 : decode cL_law 386 = .ok (.aload_n 1, 1) := by decide +kernel
theorem dL_law_387 : decode cL_law 387 = .ok (.aload_n 0, 1) := by decide +kernel
theorem dL_law_388 : decode cL_law 388 = .ok (.iload 5, 2) := by decide +kernel
theorem dL_law_390 : decode cL_law 390 = .ok (.iconst 1, 1) := by decide +kernel
theorem dL_law_391 : decode cL_law 391 = .ok (.iadd, 1) := by decide +kernel
theorem dL_law_392 : decode cL_law 392 = .ok (.iaload, 1) := by decide +kernel
theorem dL_law_393 : decode cL_law 393 = .ok (.aload_n 3, 1) := by decide +kernel
theorem dL_law_394 : decode cL_law 394 = .ok (.invokestatic 102, 3) := by decide +kernel
theorem dL_law_397 : decode cL_law 397 = .ok (.istore 6, 2) := by decide +kernel
theorem dL_law_399 : decode cL_law 399 = .ok (.aload_n 2, 1) := by decide +kernel
theorem dL_law_400 : decode cL_law 400 = .ok (.aload_n 0, 1) := by decide +kernel
theorem dL_law_401 : decode cL_law 401 = .ok (.iload 5, 2) := by decide +kernel
theorem dL_law_403 : decode cL_law 403 = .ok (.iconst 1, 1) := by decide +kernel
theorem dL_law_404 : decode cL_law 404 = .ok (.iadd, 1) := by decide +kernel
theorem dL_law_405 : decode cL_law 405 = .ok (.iaload, 1) := by decide +kernel
theorem dL_law_406 : decode cL_law 406 = .ok (.invokevirtual 104, 3) := by decide +kernel
theorem dL_law_409 : decode cL_law 409 = .ok (.istore 7, 2) := by decide +kernel
theorem dL_law_411 : decode cL_law 411 = .ok (.aload_n 2, 1) := by decide +kernel
theorem dL_law_412 : decode cL_law 412 = .ok (.invokevirtual 82, 3) := by decide +kernel
theorem dL_law_415 : decode cL_law 415 = .ok (.iload 6, 2) := by decide +kernel
theorem dL_law_417 : decode cL_law 417 = .ok (.if_icmp .eq 5, 3) := by decide +kernel
theorem dL_law_420 : decode cL_law 420 = .ok (.iconst 0, 1) := by decide +kernel
theorem dL_law_421 : decode cL_law 421 = .ok (.ireturn, 1) := by decide +kernel
theorem dL_law_422 : decode cL_law 422 = .ok (.iload 6, 2) := by decide +kernel
theorem dL_law_424 : decode cL_law 424 = .ok (.ifCond .ne 15, 3) := by decide +kernel
theorem dL_law_427 : decode cL_law 427 = .ok (.aload_n 3, 1) := by decide +kernel
theorem dL_law_428 : decode cL_law 428 = .ok (.iconst 0, 1) := by decide +kernel
theorem dL_law_429 : decode cL_law 429 = .ok (.laload, 1) := by decide +kernel
theorem dL_law_430 : decode cL_law 430 = .ok (.iload 7, 2) := by decide +kernel
theorem dL_law_432 : decode cL_law 432 = .ok (.i2l, 1) := by decide +kernel
theorem dL_law_433 : decode cL_law 433 = .ok (.lcmp, 1) := by decide +kernel
theorem dL_law_434 : decode cL_law 434 = .ok (.ifCond .eq 5, 3) := by decide +kernel
theorem dL_law_437 : decode cL_law 437 = .ok (.iconst 0, 1) := by decide +kernel
theorem dL_law_438 : decode cL_law 438 = .ok (.ireturn, 1) := by decide +kernel
theorem dL_law_439 : decode cL_law 439 = .ok (.goto 983, 3) := by decide +kernel
theorem dL_law_442 : decode cL_law 442 = .ok (.aload_n 1, 1) := by decide +kernel
theorem dL_law_443 : decode cL_law 443 = .ok (.aload_n 0, 1) := by decide +kernel
theorem dL_law_444 : decode cL_law 444 = .ok (.iload 5, 2) := by decide +kernel
theorem dL_law_446 : decode cL_law 446 = .ok (.iconst 1, 1) := by decide +kernel
theorem dL_law_447 : decode cL_law 447 = .ok (.iadd, 1) := by decide +kernel
theorem dL_law_448 : decode cL_law 448 = .ok (.iaload, 1) := by decide +kernel
theorem dL_law_449 : decode cL_law 449 = .ok (.aload_n 0, 1) := by decide +kernel
theorem dL_law_450 : decode cL_law 450 = .ok (.iload 5, 2) := by decide +kernel
theorem dL_law_452 : decode cL_law 452 = .ok (.iconst 2, 1) := by decide +kernel
theorem dL_law_453 : decode cL_law 453 = .ok (.iadd, 1) := by decide +kernel
theorem dL_law_454 : decode cL_law 454 = .ok (.iaload, 1) := by decide +kernel
theorem dL_law_455 : decode cL_law 455 = .ok (.aload_n 3, 1) := by decide +kernel
theorem dL_law_456 : decode cL_law 456 = .ok (.invokestatic 105, 3) := by decide +kernel
theorem dL_law_459 : decode cL_law 459 = .ok (.istore 6, 2) := by decide +kernel
theorem dL_law_461 : decode cL_law 461 = .ok (.aload_n 2, 1) := by decide +kernel
theorem dL_law_462 : decode cL_law 462 = .ok (.aload_n 0, 1) := by decide +kernel
theorem dL_law_463 : decode cL_law 463 = .ok (.iload 5, 2) := by decide +kernel
theorem dL_law_465 : decode cL_law 465 = .ok (.iconst 1, 1) := by decide +kernel
theorem dL_law_466 : decode cL_law 466 = .ok (.iadd, 1) := by decide +kernel
theorem dL_law_467 : decode cL_law 467 = .ok (.iaload, 1) := by decide +kernel
theorem dL_law_468 : decode cL_law 468 = .ok (.aload_n 0, 1) := by decide +kernel
theorem dL_law_469 : decode cL_law 469 = .ok (.iload 5, 2) := by decide +kernel
theorem dL_law_471 : decode cL_law 471 = .ok (.iconst 2, 1) := by decide +kernel
theorem dL_law_472 : decode cL_law 472 = .ok (.iadd, 1) := by decide +kernel
theorem dL_law_473 : decode cL_law 473 = .ok (.iaload, 1) := by decide +kernel
theorem dL_law_474 : decode cL_law 474 = .ok (.invokevirtual 107, 3) := by decide +kernel
theorem dL_law_477 : decode cL_law 477 = .ok (.istore 7, 2) := by decide +kernel
theorem dL_law_479 : decode cL_law 479 = .ok (.aload_n 2, 1) := by decide +kernel
theorem dL_law_480 : decode cL_law 480 = .ok (.invokevirtual 82, 3) := by decide +kernel
theorem dL_law_483 : decode cL_law 483 = .ok (.iload 6, 2) := by decide +kernel
theorem dL_law_485 : decode cL_law 485 = .ok (.if_icmp .eq 5, 3) := by decide +kernel
theorem dL_law_488 : decode cL_law 488 = .ok (.iconst 0, 1) := by decide +kernel
theorem dL_law_489 : decode cL_law 489 = .ok (.ireturn, 1) := by decide +kernel
theorem dL_law_490 : decode cL_law 490 = .ok (.iload 6, 2) := by decide +kernel
theorem dL_law_492 : decode cL_law 492 = .ok (.ifCond .ne 15, 3) := by decide +kernel
theorem dL_law_495 : decode cL_law 495 = .ok (.aload_n 3, 1) := by decide +kernel
theorem dL_law_496 : decode cL_law 496 = .ok (.iconst 0, 1) := by decide +kernel
theorem dL_law_497 : decode cL_law 497 = .ok (.laload, 1) := by decide +kernel
theorem dL_law_498 : decode cL_law 498 = .ok (.iload 7, 2) := by decide +kernel
theorem dL_law_500 : decode cL_law 500 = .ok (.i2l, 1) := by decide +kernel
theorem dL_law_501 : decode cL_law 501 = .ok (.lcmp, 1) := by decide +kernel
theorem dL_law_502 : decode cL_law 502 = .ok (.ifCond .eq 5, 3) := by decide +kernel
theorem dL_law_505 : decode cL_law 505 = .ok (.iconst 0, 1) := by decide +kernel
theorem dL_law_506 : decode cL_law 506 = .ok (.ireturn, 1) := by decide +kernel
theorem dL_law_507 : decode cL_law 507 = .ok (.goto 915, 3) := by decide +kernel
theorem dL_law_510 : decode cL_law 510 = .ok (.aload_n 1, 1) := by decide +kernel
theorem dL_law_511 : decode cL_law 511 = .ok (.invokevirtual 108, 3) := by decide +kernel
theorem dL_law_514 : decode cL_law 514 = .ok (.aload_n 2, 1) := by decide +kernel
theorem dL_law_515 : decode cL_law 515 = .ok (.invokevirtual 111, 3) := by decide +kernel
theorem dL_law_518 : decode cL_law 518 = .ok (.if_icmp .eq 904, 3) := by decide +kernel
theorem dL_law_521 : decode cL_law 521 = .ok (.iconst 0, 1) := by decide +kernel
theorem dL_law_522 : decode cL_law 522 = .ok (.ireturn, 1) := by decide +kernel
theorem dL_law_523 : decode cL_law 523 = .ok (.aload_n 1, 1) := by decide +kernel
theorem dL_law_524 : decode cL_law 524 = .ok (.aload_n 0, 1) := by decide +kernel
theorem dL_law_525 : decode cL_law 525 = .ok (.iload 5, 2) := by decide +kernel
theorem dL_law_527 : decode cL_law 527 = .ok (.iconst 1, 1) := by decide +kernel
theorem dL_law_528 : decode cL_law 528 = .ok (.iadd, 1) := by decide +kernel
theorem dL_law_529 : decode cL_law 529 = .ok (.iaload, 1) := by decide +kernel
theorem dL_law_530 : decode cL_law 530 = .ok (.aload_n 3, 1) := by decide +kernel
theorem dL_law_531 : decode cL_law 531 = .ok (.invokestatic 112, 3) := by decide +kernel
theorem dL_law_534 : decode cL_law 534 = .ok (.istore 6, 2) := by decide +kernel
theorem dL_law_536 : decode cL_law 536 = .ok (.aload_n 2, 1) := by decide +kernel
theorem dL_law_537 : decode cL_law 537 = .ok (.aload_n 0, 1) := by decide +kernel
theorem dL_law_538 : decode cL_law 538 = .ok (.iload 5, 2) := by decide +kernel
theorem dL_law_540 : decode cL_law 540 = .ok (.iconst 1, 1) := by decide +kernel
theorem dL_law_541 : decode cL_law 541 = .ok (.iadd, 1) := by decide +kernel
theorem dL_law_542 : decode cL_law 542 = .ok (.iaload, 1) := by decide +kernel
theorem dL_law_543 : decode cL_law 543 = .ok (.invokevirtual 114, 3) := by decide +kernel
theorem dL_law_546 : decode cL_law 546 = .ok (.istore 7, 2) := by decide +kernel
theorem dL_law_548 : decode cL_law 548 = .ok (.aload_n 2, 1) := by decide +kernel
theorem dL_law_549 : decode cL_law 549 = .ok (.invokevirtual 82, 3) := by decide +kernel
theorem dL_law_552 : decode cL_law 552 = .ok (.iload 6, 2) := by decide +kernel
theorem dL_law_554 : decode cL_law 554 = .ok (.if_icmp .eq 5, 3) := by decide +kernel
theorem dL_law_557 : decode cL_law 557 = .ok (.iconst 0, 1) := by decide +kernel
theorem dL_law_558 : decode cL_law 558 = .ok (.ireturn, 1) := by decide +kernel
theorem dL_law_559 : decode cL_law 559 = .ok (.iload 6, 2) := by decide +kernel
theorem dL_law_561 : decode cL_law 561 = .ok (.ifCond .ne 15, 3) := by decide +kernel
theorem dL_law_564 : decode cL_law 564 = .ok (.aload_n 3, 1) := by decide +kernel
theorem dL_law_565 : decode cL_law 565 = .ok (.iconst 0, 1) := by decide +kernel
theorem dL_law_566 : decode cL_law 566 = .ok (.laload, 1) := by decide +kernel
theorem dL_law_567 : decode cL_law 567 = .ok (.iload 7, 2) := by decide +kernel
theorem dL_law_569 : decode cL_law 569 = .ok (.i2l, 1) := by decide +kernel
theorem dL_law_570 : decode cL_law 570 = .ok (.lcmp, 1) := by decide +kernel
theorem dL_law_571 : decode cL_law 571 = .ok (.ifCond .eq 5, 3) := by decide +kernel
theorem dL_law_574 : decode cL_law 574 = .ok (.iconst 0, 1) := by decide +kernel
theorem dL_law_575 : decode cL_law 575 = .ok (.ireturn, 1) := by decide +kernel
theorem dL_law_576 : decode cL_law 576 = .ok (.goto 846, 3) := by decide +kernel
theorem dL_law_579 : decode cL_law 579 = .ok (.aload_n 1, 1) := by decide +kernel
theorem dL_law_580 : decode cL_law 580 = .ok (.aload_n 0, 1) := by decide +kernel
theorem dL_law_581 : decode cL_law 581 = .ok (.iload 5, 2) := by decide +kernel
theorem dL_law_583 : decode cL_law 583 = .ok (.iconst 1, 1) := by decide +kernel
theorem dL_law_584 : decode cL_law 584 = .ok (.iadd, 1) := by decide +kernel
theorem dL_law_585 : decode cL_law 585 = .ok (.iaload, 1) := by decide +kernel
theorem dL_law_586 : decode cL_law 586 = .ok (.aload_n 0, 1) := by decide +kernel
theorem dL_law_587 : decode cL_law 587 = .ok (.iload 5, 2) := by decide +kernel
theorem dL_law_589 : decode cL_law 589 = .ok (.iconst 2, 1) := by decide +kernel
theorem dL_law_590 : decode cL_law 590 = .ok (.iadd, 1) := by decide +kernel
theorem dL_law_591 : decode cL_law 591 = .ok (.iaload, 1) := by decide +kernel
theorem dL_law_592 : decode cL_law 592 = .ok (.aload_n 3, 1) := by decide +kernel
theorem dL_law_593 : decode cL_law 593 = .ok (.invokestatic 115, 3) := by decide +kernel
theorem dL_law_596 : decode cL_law 596 = .ok (.istore 6, 2) := by decide +kernel
theorem dL_law_598 : decode cL_law 598 = .ok (.aload_n 2, 1) := by decide +kernel
theorem dL_law_599 : decode cL_law 599 = .ok (.aload_n 0, 1) := by decide +kernel
theorem dL_law_600 : decode cL_law 600 = .ok (.iload 5, 2) := by decide +kernel
theorem dL_law_602 : decode cL_law 602 = .ok (.iconst 1, 1) := by decide +kernel
theorem dL_law_603 : decode cL_law 603 = .ok (.iadd, 1) := by decide +kernel
theorem dL_law_604 : decode cL_law 604 = .ok (.iaload, 1) := by decide +kernel
theorem dL_law_605 : decode cL_law 605 = .ok (.aload_n 0, 1) := by decide +kernel
theorem dL_law_606 : decode cL_law 606 = .ok (.iload 5, 2) := by decide +kernel
theorem dL_law_608 : decode cL_law 608 = .ok (.iconst 2, 1) := by decide +kernel
theorem dL_law_609 : decode cL_law 609 = .ok (.iadd, 1) := by decide +kernel
theorem dL_law_610 : decode cL_law 610 = .ok (.iaload, 1) := by decide +kernel
theorem dL_law_611 : decode cL_law 611 = .ok (.invokevirtual 117, 3) := by decide +kernel
theorem dL_law_614 : decode cL_law 614 = .ok (.istore 7, 2) := by decide +kernel
theorem dL_law_616 : decode cL_law 616 = .ok (.aload_n 2, 1) := by decide +kernel
theorem dL_law_617 : decode cL_law 617 = .ok (.invokevirtual 82, 3) := by decide +kernel
theorem dL_law_620 : decode cL_law 620 = .ok (.iload 6, 2) := by decide +kernel
theorem dL_law_622 : decode cL_law 622 = .ok (.if_icmp .eq 5, 3) := by decide +kernel
theorem dL_law_625 : decode cL_law 625 = .ok (.iconst 0, 1) := by decide +kernel
theorem dL_law_626 : decode cL_law 626 = .ok (.ireturn, 1) := by decide +kernel
theorem dL_law_627 : decode cL_law 627 = .ok (.iload 6, 2) := by decide +kernel
theorem dL_law_629 : decode cL_law 629 = .ok (.ifCond .ne 15, 3) := by decide +kernel
theorem dL_law_632 : decode cL_law 632 = .ok (.aload_n 3, 1) := by decide +kernel
theorem dL_law_633 : decode cL_law 633 = .ok (.iconst 0, 1) := by decide +kernel
theorem dL_law_634 : decode cL_law 634 = .ok (.laload, 1) := by decide +kernel
theorem dL_law_635 : decode cL_law 635 = .ok (.iload 7, 2) := by decide +kernel
theorem dL_law_637 : decode cL_law 637 = .ok (.i2l, 1) := by decide +kernel
theorem dL_law_638 : decode cL_law 638 = .ok (.lcmp, 1) := by decide +kernel
theorem dL_law_639 : decode cL_law 639 = .ok (.ifCond .eq 5, 3) := by decide +kernel
theorem dL_law_642 : decode cL_law 642 = .ok (.iconst 0, 1) := by decide +kernel
theorem dL_law_643 : decode cL_law 643 = .ok (.ireturn, 1) := by decide +kernel
theorem dL_law_644 : decode cL_law 644 = .ok (.goto 778, 3) := by decide +kernel
theorem dL_law_647 : decode cL_law 647 = .ok (.aload_n 1, 1) := by decide +kernel
theorem dL_law_648 : decode cL_law 648 = .ok (.aload_n 0, 1) := by decide +kernel
theorem dL_law_649 : decode cL_law 649 = .ok (.iload 5, 2) := by decide +kernel
theorem dL_law_651 : decode cL_law 651 = .ok (.iconst 1, 1) := by decide +kernel
theorem dL_law_652 : decode cL_law 652 = .ok (.iadd, 1) := by decide +kernel
theorem dL_law_653 : decode cL_law 653 = .ok (.iaload, 1) := by decide +kernel
theorem dL_law_654 : decode cL_law 654 = .ok (.aload_n 0, 1) := by decide +kernel
theorem dL_law_655 : decode cL_law 655 = .ok (.iload 5, 2) := by decide +kernel
theorem dL_law_657 : decode cL_law 657 = .ok (.iconst 2, 1) := by decide +kernel
theorem dL_law_658 : decode cL_law 658 = .ok (.iadd, 1) := by decide +kernel
theorem dL_law_659 : decode cL_law 659 = .ok (.iaload, 1) := by decide +kernel
theorem dL_law_660 : decode cL_law 660 = .ok (.aload_n 0, 1) := by decide +kernel
theorem dL_law_661 : decode cL_law 661 = .ok (.iload 5, 2) := by decide +kernel
theorem dL_law_663 : decode cL_law 663 = .ok (.iconst 3, 1) := by decide +kernel
theorem dL_law_664 : decode cL_law 664 = .ok (.iadd, 1) := by decide +kernel
theorem dL_law_665 : decode cL_law 665 = .ok (.iaload, 1) := by decide +kernel
theorem dL_law_666 : decode cL_law 666 = .ok (.aload_n 3, 1) := by decide +kernel
theorem dL_law_667 : decode cL_law 667 = .ok (.invokestatic 118, 3) := by decide +kernel
theorem dL_law_670 : decode cL_law 670 = .ok (.istore 6, 2) := by decide +kernel
theorem dL_law_672 : decode cL_law 672 = .ok (.aload_n 2, 1) := by decide +kernel
theorem dL_law_673 : decode cL_law 673 = .ok (.aload_n 0, 1) := by decide +kernel
theorem dL_law_674 : decode cL_law 674 = .ok (.iload 5, 2) := by decide +kernel
theorem dL_law_676 : decode cL_law 676 = .ok (.iconst 1, 1) := by decide +kernel
theorem dL_law_677 : decode cL_law 677 = .ok (.iadd, 1) := by decide +kernel
theorem dL_law_678 : decode cL_law 678 = .ok (.iaload, 1) := by decide +kernel
theorem dL_law_679 : decode cL_law 679 = .ok (.aload_n 0, 1) := by decide +kernel
theorem dL_law_680 : decode cL_law 680 = .ok (.iload 5, 2) := by decide +kernel
theorem dL_law_682 : decode cL_law 682 = .ok (.iconst 2, 1) := by decide +kernel
theorem dL_law_683 : decode cL_law 683 = .ok (.iadd, 1) := by decide +kernel
theorem dL_law_684 : decode cL_law 684 = .ok (.iaload, 1) := by decide +kernel
theorem dL_law_685 : decode cL_law 685 = .ok (.aload_n 0, 1) := by decide +kernel
theorem dL_law_686 : decode cL_law 686 = .ok (.iload 5, 2) := by decide +kernel
theorem dL_law_688 : decode cL_law 688 = .ok (.iconst 3, 1) := by decide +kernel
theorem dL_law_689 : decode cL_law 689 = .ok (.iadd, 1) := by decide +kernel
theorem dL_law_690 : decode cL_law 690 = .ok (.iaload, 1) := by decide +kernel
theorem dL_law_691 : decode cL_law 691 = .ok (.invokevirtual 121, 3) := by decide +kernel
theorem dL_law_694 : decode cL_law 694 = .ok (.istore 7, 2) := by decide +kernel
theorem dL_law_696 : decode cL_law 696 = .ok (.aload_n 2, 1) := by decide +kernel
theorem dL_law_697 : decode cL_law 697 = .ok (.invokevirtual 82, 3) := by decide +kernel
theorem dL_law_700 : decode cL_law 700 = .ok (.iload 6, 2) := by decide +kernel
theorem dL_law_702 : decode cL_law 702 = .ok (.if_icmp .eq 5, 3) := by decide +kernel
theorem dL_law_705 : decode cL_law 705 = .ok (.iconst 0, 1) := by decide +kernel
theorem dL_law_706 : decode cL_law 706 = .ok (.ireturn, 1) := by decide +kernel
theorem dL_law_707 : decode cL_law 707 = .ok (.iload 6, 2) := by decide +kernel
theorem dL_law_709 : decode cL_law 709 = .ok (.ifCond .ne 15, 3) := by decide +kernel
theorem dL_law_712 : decode cL_law 712 = .ok (.aload_n 3, 1) := by decide +kernel
theorem dL_law_713 : decode cL_law 713 = .ok (.iconst 0, 1) := by decide +kernel
theorem dL_law_714 : decode cL_law 714 = .ok (.laload, 1) := by decide +kernel
theorem dL_law_715 : decode cL_law 715 = .ok (.iload 7, 2) := by decide +kernel
theorem dL_law_717 : decode cL_law 717 = .ok (.i2l, 1) := by decide +kernel
theorem dL_law_718 : decode cL_law 718 = .ok (.lcmp, 1) := by decide +kernel
theorem dL_law_719 : decode cL_law 719 = .ok (.ifCond .eq 5, 3) := by decide +kernel
theorem dL_law_722 : decode cL_law 722 = .ok (.iconst 0, 1) := by decide +kernel
theorem dL_law_723 : decode cL_law 723 = .ok (.ireturn, 1) := by decide +kernel
theorem dL_law_724 : decode cL_law 724 = .ok (.goto 698, 3) := by decide +kernel
theorem dL_law_727 : decode cL_law 727 = .ok (.aload_n 1, 1) := by decide +kernel
theorem dL_law_728 : decode cL_law 728 = .ok (.aload_n 0, 1) := by decide +kernel
theorem dL_law_729 : decode cL_law 729 = .ok (.iload 5, 2) := by decide +kernel
theorem dL_law_731 : decode cL_law 731 = .ok (.iconst 1, 1) := by decide +kernel
theorem dL_law_732 : decode cL_law 732 = .ok (.iadd, 1) := by decide +kernel
theorem dL_law_733 : decode cL_law 733 = .ok (.iaload, 1) := by decide +kernel
theorem dL_law_734 : decode cL_law 734 = .ok (.aload_n 3, 1) := by decide +kernel
theorem dL_law_735 : decode cL_law 735 = .ok (.invokestatic 122, 3) := by decide +kernel
theorem dL_law_738 : decode cL_law 738 = .ok (.istore 6, 2) := by decide +kernel
theorem dL_law_740 : decode cL_law 740 = .ok (.aload_n 2, 1) := by decide +kernel
theorem dL_law_741 : decode cL_law 741 = .ok (.aload_n 0, 1) := by decide +kernel
theorem dL_law_742 : decode cL_law 742 = .ok (.iload 5, 2) := by decide +kernel
theorem dL_law_744 : decode cL_law 744 = .ok (.iconst 1, 1) := by decide +kernel
theorem dL_law_745 : decode cL_law 745 = .ok (.iadd, 1) := by decide +kernel
theorem dL_law_746 : decode cL_law 746 = .ok (.iaload, 1) := by decide +kernel
theorem dL_law_747 : decode cL_law 747 = .ok (.invokevirtual 124, 3) := by decide +kernel
theorem dL_law_750 : decode cL_law 750 = .ok (.istore 7, 2) := by decide +kernel
theorem dL_law_752 : decode cL_law 752 = .ok (.aload_n 2, 1) := by decide +kernel
theorem dL_law_753 : decode cL_law 753 = .ok (.invokevirtual 82, 3) := by decide +kernel
theorem dL_law_756 : decode cL_law 756 = .ok (.iload 6, 2) := by decide +kernel
theorem dL_law_758 : decode cL_law 758 = .ok (.if_icmp .eq 5, 3) := by decide +kernel
theorem dL_law_761 : decode cL_law 761 = .ok (.iconst 0, 1) := by decide +kernel
theorem dL_law_762 : decode cL_law 762 = .ok (.ireturn, 1) := by decide +kernel
theorem dL_law_763 : decode cL_law 763 = .ok (.iload 6, 2) := by decide +kernel
theorem dL_law_765 : decode cL_law 765 = .ok (.ifCond .ne 15, 3) := by decide +kernel
theorem dL_law_768 : decode cL_law 768 = .ok (.aload_n 3, 1) := by decide +kernel
theorem dL_law_769 : decode cL_law 769 = .ok (.iconst 0, 1) := by decide +kernel
theorem dL_law_770 : decode cL_law 770 = .ok (.laload, 1) := by decide +kernel
theorem dL_law_771 : decode cL_law 771 = .ok (.iload 7, 2) := by decide +kernel
theorem dL_law_773 : decode cL_law 773 = .ok (.i2l, 1) := by decide +kernel
theorem dL_law_774 : decode cL_law 774 = .ok (.lcmp, 1) := by decide +kernel
theorem dL_law_775 : decode cL_law 775 = .ok (.ifCond .eq 5, 3) := by decide +kernel
theorem dL_law_778 : decode cL_law 778 = .ok (.iconst 0, 1) := by decide +kernel
theorem dL_law_779 : decode cL_law 779 = .ok (.ireturn, 1) := by decide +kernel
theorem dL_law_780 : decode cL_law 780 = .ok (.goto 642, 3) := by decide +kernel
theorem dL_law_783 : decode cL_law 783 = .ok (.aload_n 1, 1) := by decide +kernel
theorem dL_law_784 : decode cL_law 784 = .ok (.aload_n 0, 1) := by decide +kernel
theorem dL_law_785 : decode cL_law 785 = .ok (.iload 5, 2) := by decide +kernel
theorem dL_law_787 : decode cL_law 787 = .ok (.iconst 1, 1) := by decide +kernel
theorem dL_law_788 : decode cL_law 788 = .ok (.iadd, 1) := by decide +kernel
theorem dL_law_789 : decode cL_law 789 = .ok (.iaload, 1) := by decide +kernel
theorem dL_law_790 : decode cL_law 790 = .ok (.aload_n 3, 1) := by decide +kernel
theorem dL_law_791 : decode cL_law 791 = .ok (.invokestatic 125, 3) := by decide +kernel
theorem dL_law_794 : decode cL_law 794 = .ok (.istore 6, 2) := by decide +kernel
theorem dL_law_796 : decode cL_law 796 = .ok (.aload_n 2, 1) := by decide +kernel
theorem dL_law_797 : decode cL_law 797 = .ok (.aload_n 0, 1) := by decide +kernel
theorem dL_law_798 : decode cL_law 798 = .ok (.iload 5, 2) := by decide +kernel
theorem dL_law_800 : decode cL_law 800 = .ok (.iconst 1, 1) := by decide +kernel
theorem dL_law_801 : decode cL_law 801 = .ok (.iadd, 1) := by decide +kernel
theorem dL_law_802 : decode cL_law 802 = .ok (.iaload, 1) := by decide +kernel
theorem dL_law_803 : decode cL_law 803 = .ok (.invokevirtual 127, 3) := by decide +kernel
theorem dL_law_806 : decode cL_law 806 = .ok (.istore 7, 2) := by decide +kernel
theorem dL_law_808 : decode cL_law 808 = .ok (.aload_n 2, 1) := by decide +kernel
theorem dL_law_809 : decode cL_law 809 = .ok (.invokevirtual 82, 3) := by decide +kernel
theorem dL_law_812 : decode cL_law 812 = .ok (.iload 6, 2) := by decide +kernel
theorem dL_law_814 : decode cL_law 814 = .ok (.if_icmp .eq 5, 3) := by decide +kernel
theorem dL_law_817 : decode cL_law 817 = .ok (.iconst 0, 1) := by decide +kernel
theorem dL_law_818 : decode cL_law 818 = .ok (.ireturn, 1) := by decide +kernel
theorem dL_law_819 : decode cL_law 819 = .ok (.iload 6, 2) := by decide +kernel
theorem dL_law_821 : decode cL_law 821 = .ok (.ifCond .ne 15, 3) := by decide +kernel
theorem dL_law_824 : decode cL_law 824 = .ok (.aload_n 3, 1) := by decide +kernel
theorem dL_law_825 : decode cL_law 825 = .ok (.iconst 0, 1) := by decide +kernel
theorem dL_law_826 : decode cL_law 826 = .ok (.laload, 1) := by decide +kernel
theorem dL_law_827 : decode cL_law 827 = .ok (.iload 7, 2) := by decide +kernel
theorem dL_law_829 : decode cL_law 829 = .ok (.i2l, 1) := by decide +kernel
theorem dL_law_830 : decode cL_law 830 = .ok (.lcmp, 1) := by decide +kernel
theorem dL_law_831 : decode cL_law 831 = .ok (.ifCond .eq 5, 3) := by decide +kernel
theorem dL_law_834 : decode cL_law 834 = .ok (.iconst 0, 1) := by decide +kernel
theorem dL_law_835 : decode cL_law 835 = .ok (.ireturn, 1) := by decide +kernel
theorem dL_law_836 : decode cL_law 836 = .ok (.goto 586, 3) := by decide +kernel
theorem dL_law_839 : decode cL_law 839 = .ok (.aload_n 1, 1) := by decide +kernel
theorem dL_law_840 : decode cL_law 840 = .ok (.aload 4, 2) := by decide +kernel
theorem dL_law_842 : decode cL_law 842 = .ok (.invokestatic 128, 3) := by decide +kernel
theorem dL_law_845 : decode cL_law 845 = .ok (.istore 6, 2) := by decide +kernel
theorem dL_law_847 : decode cL_law 847 = .ok (.aload_n 2, 1) := by decide +kernel
theorem dL_law_848 : decode cL_law 848 = .ok (.invokevirtual 131, 3) := by decide +kernel
theorem dL_law_851 : decode cL_law 851 = .ok (.fstore 7, 2) := by decide +kernel
theorem dL_law_853 : decode cL_law 853 = .ok (.aload_n 2, 1) := by decide +kernel
theorem dL_law_854 : decode cL_law 854 = .ok (.invokevirtual 82, 3) := by decide +kernel
theorem dL_law_857 : decode cL_law 857 = .ok (.iload 6, 2) := by decide +kernel
theorem dL_law_859 : decode cL_law 859 = .ok (.if_icmp .eq 5, 3) := by decide +kernel
theorem dL_law_862 : decode cL_law 862 = .ok (.iconst 0, 1) := by decide +kernel
theorem dL_law_863 : decode cL_law 863 = .ok (.ireturn, 1) := by decide +kernel
theorem dL_law_864 : decode cL_law 864 = .ok (.iload 6, 2) := by decide +kernel
theorem dL_law_866 : decode cL_law 866 = .ok (.ifCond .ne 36, 3) := by decide +kernel
theorem dL_law_869 : decode cL_law 869 = .ok (.aload 4, 2) := by decide +kernel
theorem dL_law_871 : decode cL_law 871 = .ok (.iconst 0, 1) := by decide +kernel
theorem dL_law_872 : decode cL_law 872 = .ok (.daload, 1) := by decide +kernel
theorem dL_law_873 : decode cL_law 873 = .ok (.fload 7, 2) := by decide +kernel
theorem dL_law_875 : decode cL_law 875 = .ok (.f2d, 1) := by decide +kernel
theorem dL_law_876 : decode cL_law 876 = .ok (.dcmp .l, 1) := by decide +kernel
theorem dL_law_877 : decode cL_law 877 = .ok (.ifCond .eq 25, 3) := by decide +kernel
theorem dL_law_880 : decode cL_law 880 = .ok (.aload 4, 2) := by decide +kernel
theorem dL_law_882 : decode cL_law 882 = .ok (.iconst 0, 1) := by decide +kernel
theorem dL_law_883 : decode cL_law 883 = .ok (.daload, 1) := by decide +kernel
theorem dL_law_884 : decode cL_law 884 = .ok (.aload 4, 2) := by decide +kernel
theorem dL_law_886 : decode cL_law 886 = .ok (.iconst 0, 1) := by decide +kernel
end
section
theorem dL_law_887 : decode cL_law 887 = .ok (.daload, 1) := by decide +kernel
theorem dL_law_888 : decode cL_law 888 = .ok (.dcmp .l, 1) := by decide +kernel
theorem dL_law_889 : decode cL_law 889 = .ok (.ifCond .eq 11, 3) := by decide +kernel
theorem dL_law_892 : decode cL_law 892 = .ok (.fload 7, 2) := by decide +kernel
theorem dL_law_894 : decode cL_law 894 = .ok (.fload 7, 2) := by decide +kernel
theorem dL_law_896 : decode cL_law 896 = .ok (.fcmp .l, 1) := by decide +kernel
theorem dL_law_897 : decode cL_law 897 = .ok (.ifCond .ne 5, 3) := by decide +kernel
theorem dL_law_900 : decode cL_law 900 = .ok (.iconst 0, 1) := by decide +kernel
theorem dL_law_901 : decode cL_law 901 = .ok (.ireturn, 1) := by decide +kernel
theorem dL_law_902 : decode cL_law 902 = .ok (.goto 520, 3) := by decide +kernel
theorem dL_law_905 : decode cL_law 905 = .ok (.aload_n 1, 1) := by decide +kernel
theorem dL_law_906 : decode cL_law 906 = .ok (.aload_n 0, 1) := by decide +kernel
theorem dL_law_907 : decode cL_law 907 = .ok (.iload 5, 2) := by decide +kernel
theorem dL_law_909 : decode cL_law 909 = .ok (.iconst 1, 1) := by decide +kernel
theorem dL_law_910 : decode cL_law 910 = .ok (.iadd, 1) := by decide +kernel
theorem dL_law_911 : decode cL_law 911 = .ok (.iaload, 1) := by decide +kernel
theorem dL_law_912 : decode cL_law 912 = .ok (.aload_n 0, 1) := by decide +kernel
theorem dL_law_913 : decode cL_law 913 = .ok (.iload 5, 2) := by decide +kernel
theorem dL_law_915 : decode cL_law 915 = .ok (.iconst 2, 1) := by decide +kernel
theorem dL_law_916 : decode cL_law 916 = .ok (.iadd, 1) := by decide +kernel
theorem dL_law_917 : decode cL_law 917 = .ok (.iaload, 1) := by decide +kernel
theorem dL_law_918 : decode cL_law 918 = .ok (.aload_n 0, 1) := by decide +kernel
theorem dL_law_919 : decode cL_law 919 = .ok (.iload 5, 2) := by decide +kernel
theorem dL_law_921 : decode cL_law 921 = .ok (.iconst 3, 1) := by decide +kernel
theorem dL_law_922 : decode cL_law 922 = .ok (.iadd, 1) := by decide +kernel
theorem dL_law_923 : decode cL_law 923 = .ok (.iaload, 1) := by decide +kernel
theorem dL_law_924 : decode cL_law 924 = .ok (.aload_n 0, 1) := by decide +kernel
theorem dL_law_925 : decode cL_law 925 = .ok (.iload 5, 2) := by decide +kernel
theorem dL_law_927 : decode cL_law 927 = .ok (.iconst 4, 1) := by decide +kernel
theorem dL_law_928 : decode cL_law 928 = .ok (.iadd, 1) := by decide +kernel
theorem dL_law_929 : decode cL_law 929 = .ok (.iaload, 1) := by decide +kernel
theorem dL_law_930 : decode cL_law 930 = .ok (.aload_n 3, 1) := by decide +kernel
theorem dL_law_931 : decode cL_law 931 = .ok (.invokestatic 132, 3) := by decide +kernel
theorem dL_law_934 : decode cL_law 934 = .ok (.istore 6, 2) := by decide +kernel
theorem dL_law_936 : decode cL_law 936 = .ok (.aload_n 2, 1) := by decide +kernel
theorem dL_law_937 : decode cL_law 937 = .ok (.aload_n 0, 1) := by decide +kernel
theorem dL_law_938 : decode cL_law 938 = .ok (.iload 5, 2) := by decide +kernel
theorem dL_law_940 : decode cL_law 940 = .ok (.iconst 1, 1) := by decide +kernel
theorem dL_law_941 : decode cL_law 941 = .ok (.iadd, 1) := by decide +kernel
theorem dL_law_942 : decode cL_law 942 = .ok (.iaload, 1) := by decide +kernel
theorem dL_law_943 : decode cL_law 943 = .ok (.aload_n 0, 1) := by decide +kernel
theorem dL_law_944 : decode cL_law 944 = .ok (.iload 5, 2) := by decide +kernel
theorem dL_law_946 : decode cL_law 946 = .ok (.iconst 2, 1) := by decide +kernel
theorem dL_law_947 : decode cL_law 947 = .ok (.iadd, 1) := by decide +kernel
theorem dL_law_948 : decode cL_law 948 = .ok (.iaload, 1) := by decide +kernel
theorem dL_law_949 : decode cL_law 949 = .ok (.aload_n 0, 1) := by decide +kernel
theorem dL_law_950 : decode cL_law 950 = .ok (.iload 5, 2) := by decide +kernel
theorem dL_law_952 : decode cL_law 952 = .ok (.iconst 3, 1) := by decide +kernel
theorem dL_law_953 : decode cL_law 953 = .ok (.iadd, 1) := by decide +kernel
theorem dL_law_954 : decode cL_law 954 = .ok (.iaload, 1) := by decide +kernel
theorem dL_law_955 : decode cL_law 955 = .ok (.aload_n 0, 1) := by decide +kernel
theorem dL_law_956 : decode cL_law 956 = .ok (.iload 5, 2) := by decide +kernel
theorem dL_law_958 : decode cL_law 958 = .ok (.iconst 4, 1) := by decide +kernel
theorem dL_law_959 : decode cL_law 959 = .ok (.iadd, 1) := by decide +kernel
theorem dL_law_960 : decode cL_law 960 = .ok (.iaload, 1) := by decide +kernel
theorem dL_law_961 : decode cL_law 961 = .ok (.invokevirtual 134, 3) := by decide +kernel
theorem dL_law_964 : decode cL_law 964 = .ok (.istore 7, 2) := by decide +kernel
theorem dL_law_966 : decode cL_law 966 = .ok (.aload_n 2, 1) := by decide +kernel
theorem dL_law_967 : decode cL_law 967 = .ok (.invokevirtual 82, 3) := by decide +kernel
theorem dL_law_970 : decode cL_law 970 = .ok (.iload 6, 2) := by decide +kernel
theorem dL_law_972 : decode cL_law 972 = .ok (.if_icmp .eq 5, 3) := by decide +kernel
theorem dL_law_975 : decode cL_law 975 = .ok (.iconst 0, 1) := by decide +kernel
theorem dL_law_976 : decode cL_law 976 = .ok (.ireturn, 1) := by decide +kernel
theorem dL_law_977 : decode cL_law 977 = .ok (.iload 6, 2) := by decide +kernel
theorem dL_law_979 : decode cL_law 979 = .ok (.ifCond .ne 15, 3) := by decide +kernel
theorem dL_law_982 : decode cL_law 982 = .ok (.aload_n 3, 1) := by decide +kernel
theorem dL_law_983 : decode cL_law 983 = .ok (.iconst 0, 1) := by decide +kernel
theorem dL_law_984 : decode cL_law 984 = .ok (.laload, 1) := by decide +kernel
theorem dL_law_985 : decode cL_law 985 = .ok (.iload 7, 2) := by decide +kernel
theorem dL_law_987 : decode cL_law 987 = .ok (.i2l, 1) := by decide +kernel
theorem dL_law_988 : decode cL_law 988 = .ok (.lcmp, 1) := by decide +kernel
theorem dL_law_989 : decode cL_law 989 = .ok (.ifCond .eq 5, 3) := by decide +kernel
theorem dL_law_992 : decode cL_law 992 = .ok (.iconst 0, 1) := by decide +kernel
theorem dL_law_993 : decode cL_law 993 = .ok (.ireturn, 1) := by decide +kernel
theorem dL_law_994 : decode cL_law 994 = .ok (.goto 428, 3) := by decide +kernel
theorem dL_law_997 : decode cL_law 997 = .ok (.aload_n 1, 1) := by decide +kernel
theorem dL_law_998 : decode cL_law 998 = .ok (.aload_n 0, 1) := by decide +kernel
theorem dL_law_999 : decode cL_law 999 = .ok (.iload 5, 2) := by decide +kernel
theorem dL_law_1001 : decode cL_law 1001 = .ok (.iconst 1, 1) := by decide +kernel
theorem dL_law_1002 : decode cL_law 1002 = .ok (.iadd, 1) := by decide +kernel
theorem dL_law_1003 : decode cL_law 1003 = .ok (.iaload, 1) := by decide +kernel
theorem dL_law_1004 : decode cL_law 1004 = .ok (.aload_n 0, 1) := by decide +kernel
theorem dL_law_1005 : decode cL_law 1005 = .ok (.iload 5, 2) := by decide +kernel
theorem dL_law_1007 : decode cL_law 1007 = .ok (.iconst 2, 1) := by decide +kernel
theorem dL_law_1008 : decode cL_law 1008 = .ok (.iadd, 1) := by decide +kernel
theorem dL_law_1009 : decode cL_law 1009 = .ok (.iaload, 1) := by decide +kernel
theorem dL_law_1010 : decode cL_law 1010 = .ok (.aload_n 0, 1) := by decide +kernel
theorem dL_law_1011 : decode cL_law 1011 = .ok (.iload 5, 2) := by decide +kernel
theorem dL_law_1013 : decode cL_law 1013 = .ok (.iconst 3, 1) := by decide +kernel
theorem dL_law_1014 : decode cL_law 1014 = .ok (.iadd, 1) := by decide +kernel
theorem dL_law_1015 : decode cL_law 1015 = .ok (.iaload, 1) := by decide +kernel
theorem dL_law_1016 : decode cL_law 1016 = .ok (.aload_n 0, 1) := by decide +kernel
theorem dL_law_1017 : decode cL_law 1017 = .ok (.iload 5, 2) := by decide +kernel
theorem dL_law_1019 : decode cL_law 1019 = .ok (.iconst 4, 1) := by decide +kernel
theorem dL_law_1020 : decode cL_law 1020 = .ok (.iadd, 1) := by decide +kernel
theorem dL_law_1021 : decode cL_law 1021 = .ok (.iaload, 1) := by decide +kernel
theorem dL_law_1022 : decode cL_law 1022 = .ok (.aload_n 0, 1) := by decide +kernel
theorem dL_law_1023 : decode cL_law 1023 = .ok (.iload 5, 2) := by decide +kernel
theorem dL_law_1025 : decode cL_law 1025 = .ok (.iconst 5, 1) := by decide +kernel
theorem dL_law_1026 : decode cL_law 1026 = .ok (.iadd, 1) := by decide +kernel
theorem dL_law_1027 : decode cL_law 1027 = .ok (.iaload, 1) := by decide +kernel
theorem dL_law_1028 : decode cL_law 1028 = .ok (.aload_n 3, 1) := by decide +kernel
theorem dL_law_1029 : decode cL_law 1029 = .ok (.invokestatic 135, 3) := by decide +kernel
theorem dL_law_1032 : decode cL_law 1032 = .ok (.istore 6, 2) := by decide +kernel
theorem dL_law_1034 : decode cL_law 1034 = .ok (.aload_n 2, 1) := by decide +kernel
theorem dL_law_1035 : decode cL_law 1035 = .ok (.aload_n 0, 1) := by decide +kernel
theorem dL_law_1036 : decode cL_law 1036 = .ok (.iload 5, 2) := by decide +kernel
theorem dL_law_1038 : decode cL_law 1038 = .ok (.iconst 1, 1) := by decide +kernel
theorem dL_law_1039 : decode cL_law 1039 = .ok (.iadd, 1) := by decide +kernel
theorem dL_law_1040 : decode cL_law 1040 = .ok (.iaload, 1) := by decide +kernel
theorem dL_law_1041 : decode cL_law 1041 = .ok (.aload_n 0, 1) := by decide +kernel
theorem dL_law_1042 : decode cL_law 1042 = .ok (.iload 5, 2) := by decide +kernel
theorem dL_law_1044 : decode cL_law 1044 = .ok (.iconst 2, 1) := by decide +kernel
theorem dL_law_1045 : decode cL_law 1045 = .ok (.iadd, 1) := by decide +kernel
theorem dL_law_1046 : decode cL_law 1046 = .ok (.iaload, 1) := by decide +kernel
theorem dL_law_1047 : decode cL_law 1047 = .ok (.aload_n 0, 1) := by decide +kernel
theorem dL_law_1048 : decode cL_law 1048 = .ok (.iload 5, 2) := by decide +kernel
theorem dL_law_1050 : decode cL_law 1050 = .ok (.iconst 3, 1) := by decide +kernel
theorem dL_law_1051 : decode cL_law 1051 = .ok (.iadd, 1) := by decide +kernel
theorem dL_law_1052 : decode cL_law 1052 = .ok (.iaload, 1) := by decide +kernel
theorem dL_law_1053 : decode cL_law 1053 = .ok (.aload_n 0, 1) := by decide +kernel
theorem dL_law_1054 : decode cL_law 1054 = .ok (.iload 5, 2) := by decide +kernel
theorem dL_law_1056 : decode cL_law 1056 = .ok (.iconst 4, 1) := by decide +kernel
theorem dL_law_1057 : decode cL_law 1057 = .ok (.iadd, 1) := by decide +kernel
theorem dL_law_1058 : decode cL_law 1058 = .ok (.iaload, 1) := by decide +kernel
theorem dL_law_1059 : decode cL_law 1059 = .ok (.aload_n 0, 1) := by decide +kernel
theorem dL_law_1060 : decode cL_law 1060 = .ok (.iload 5, 2) := by decide +kernel
theorem dL_law_1062 : decode cL_law 1062 = .ok (.iconst 5, 1) := by decide +kernel
theorem dL_law_1063 : decode cL_law 1063 = .ok (.iadd, 1) := by decide +kernel
theorem dL_law_1064 : decode cL_law 1064 = .ok (.iaload, 1) := by decide +kernel
theorem dL_law_1065 : decode cL_law 1065 = .ok (.invokevirtual 138, 3) := by decide +kernel
theorem dL_law_1068 : decode cL_law 1068 = .ok (.istore 7, 2) := by decide +kernel
theorem dL_law_1070 : decode cL_law 1070 = .ok (.aload_n 2, 1) := by decide +kernel
theorem dL_law_1071 : decode cL_law 1071 = .ok (.invokevirtual 82, 3) := by decide +kernel
theorem dL_law_1074 : decode cL_law 1074 = .ok (.iload 6, 2) := by decide +kernel
theorem dL_law_1076 : decode cL_law 1076 = .ok (.if_icmp .eq 5, 3) := by decide +kernel
theorem dL_law_1079 : decode cL_law 1079 = .ok (.iconst 0, 1) := by decide +kernel
theorem dL_law_1080 : decode cL_law 1080 = .ok (.ireturn, 1) := by decide +kernel
theorem dL_law_1081 : decode cL_law 1081 = .ok (.iload 6, 2) := by decide +kernel
theorem dL_law_1083 : decode cL_law 1083 = .ok (.ifCond .ne 15, 3) := by decide +kernel
theorem dL_law_1086 : decode cL_law 1086 = .ok (.aload_n 3, 1) := by decide +kernel
theorem dL_law_1087 : decode cL_law 1087 = .ok (.iconst 0, 1) := by decide +kernel
theorem dL_law_1088 : decode cL_law 1088 = .ok (.laload, 1) := by decide +kernel
theorem dL_law_1089 : decode cL_law 1089 = .ok (.iload 7, 2) := by decide +kernel
theorem dL_law_1091 : decode cL_law 1091 = .ok (.i2l, 1) := by decide +kernel
theorem dL_law_1092 : decode cL_law 1092 = .ok (.lcmp, 1) := by decide +kernel
theorem dL_law_1093 : decode cL_law 1093 = .ok (.ifCond .eq 5, 3) := by decide +kernel
theorem dL_law_1096 : decode cL_law 1096 = .ok (.iconst 0, 1) := by decide +kernel
theorem dL_law_1097 : decode cL_law 1097 = .ok (.ireturn, 1) := by decide +kernel
theorem dL_law_1098 : decode cL_law 1098 = .ok (.goto 324, 3) := by decide +kernel
theorem dL_law_1101 : decode cL_law 1101 = .ok (.aload_n 1, 1) := by decide +kernel
theorem dL_law_1102 : decode cL_law 1102 = .ok (.aload_n 0, 1) := by decide +kernel
theorem dL_law_1103 : decode cL_law 1103 = .ok (.iload 5, 2) := by decide +kernel
theorem dL_law_1105 : decode cL_law 1105 = .ok (.iconst 1, 1) := by decide +kernel
theorem dL_law_1106 : decode cL_law 1106 = .ok (.iadd, 1) := by decide +kernel
theorem dL_law_1107 : decode cL_law 1107 = .ok (.iaload, 1) := by decide +kernel
theorem dL_law_1108 : decode cL_law 1108 = .ok (.aload_n 0, 1) := by decide +kernel
theorem dL_law_1109 : decode cL_law 1109 = .ok (.iload 5, 2) := by decide +kernel
theorem dL_law_1111 : decode cL_law 1111 = .ok (.iconst 2, 1) := by decide +kernel
theorem dL_law_1112 : decode cL_law 1112 = .ok (.iadd, 1) := by decide +kernel
theorem dL_law_1113 : decode cL_law 1113 = .ok (.iaload, 1) := by decide +kernel
theorem dL_law_1114 : decode cL_law 1114 = .ok (.aload_n 0, 1) := by decide +kernel
theorem dL_law_1115 : decode cL_law 1115 = .ok (.iload 5, 2) := by decide +kernel
theorem dL_law_1117 : decode cL_law 1117 = .ok (.iconst 3, 1) := by decide +kernel
theorem dL_law_1118 : decode cL_law 1118 = .ok (.iadd, 1) := by decide +kernel
theorem dL_law_1119 : decode cL_law 1119 = .ok (.iaload, 1) := by decide +kernel
theorem dL_law_1120 : decode cL_law 1120 = .ok (.aload_n 0, 1) := by decide +kernel
theorem dL_law_1121 : decode cL_law 1121 = .ok (.iload 5, 2) := by decide +kernel
theorem dL_law_1123 : decode cL_law 1123 = .ok (.iconst 4, 1) := by decide +kernel
theorem dL_law_1124 : decode cL_law 1124 = .ok (.iadd, 1) := by decide +kernel
theorem dL_law_1125 : decode cL_law 1125 = .ok (.iaload, 1) := by decide +kernel
theorem dL_law_1126 : decode cL_law 1126 = .ok (.aload_n 3, 1) := by decide +kernel
theorem dL_law_1127 : decode cL_law 1127 = .ok (.invokestatic 139, 3) := by decide +kernel
theorem dL_law_1130 : decode cL_law 1130 = .ok (.istore 6, 2) := by decide +kernel
theorem dL_law_1132 : decode cL_law 1132 = .ok (.aload_n 2, 1) := by decide +kernel
theorem dL_law_1133 : decode cL_law 1133 = .ok (.aload_n 0, 1) := by decide +kernel
theorem dL_law_1134 : decode cL_law 1134 = .ok (.iload 5, 2) := by decide +kernel
theorem dL_law_1136 : decode cL_law 1136 = .ok (.iconst 1, 1) := by decide +kernel
theorem dL_law_1137 : decode cL_law 1137 = .ok (.iadd, 1) := by decide +kernel
theorem dL_law_1138 : decode cL_law 1138 = .ok (.iaload, 1) := by decide +kernel
theorem dL_law_1139 : decode cL_law 1139 = .ok (.aload_n 0, 1) := by decide +kernel
theorem dL_law_1140 : decode cL_law 1140 = .ok (.iload 5, 2) := by decide +kernel
theorem dL_law_1142 : decode cL_law 1142 = .ok (.iconst 2, 1) := by decide +kernel
theorem dL_law_1143 : decode cL_law 1143 = .ok (.iadd, 1) := by decide +kernel
theorem dL_law_1144 : decode cL_law 1144 = .ok (.iaload, 1) := by decide +kernel
theorem dL_law_1145 : decode cL_law 1145 = .ok (.aload_n 0, 1) := by decide +kernel
theorem dL_law_1146 : decode cL_law 1146 = .ok (.iload 5, 2) := by decide +kernel
theorem dL_law_1148 : decode cL_law 1148 = .ok (.iconst 3, 1) := by decide +kernel
theorem dL_law_1149 : decode cL_law 1149 = .ok (.iadd, 1) := by decide +kernel
theorem dL_law_1150 : decode cL_law 1150 = .ok (.iaload, 1) := by decide +kernel
theorem dL_law_1151 : decode cL_law 1151 = .ok (.aload_n 0, 1) := by decide +kernel
theorem dL_law_1152 : decode cL_law 1152 = .ok (.iload 5, 2) := by decide +kernel
theorem dL_law_1154 : decode cL_law 1154 = .ok (.iconst 4, 1) := by decide +kernel
theorem dL_law_1155 : decode cL_law 1155 = .ok (.iadd, 1) := by decide +kernel
theorem dL_law_1156 : decode cL_law 1156 = .ok (.iaload, 1) := by decide +kernel
theorem dL_law_1157 : decode cL_law 1157 = .ok (.invokevirtual 141, 3) := by decide +kernel
theorem dL_law_1160 : decode cL_law 1160 = .ok (.istore 7, 2) := by decide +kernel
theorem dL_law_1162 : decode cL_law 1162 = .ok (.aload_n 2, 1) := by decide +kernel
theorem dL_law_1163 : decode cL_law 1163 = .ok (.invokevirtual 82, 3) := by decide +kernel
theorem dL_law_1166 : decode cL_law 1166 = .ok (.iload 6, 2) := by decide +kernel
theorem dL_law_1168 : decode cL_law 1168 = .ok (.if_icmp .eq 5, 3) := by decide +kernel
theorem dL_law_1171 : decode cL_law 1171 = .ok (.iconst 0, 1) := by decide +kernel
theorem dL_law_1172 : decode cL_law 1172 = .ok (.ireturn, 1) := by decide +kernel
theorem dL_law_1173 : decode cL_law 1173 = .ok (.iload 6, 2) := by decide +kernel
theorem dL_law_1175 : decode cL_law 1175 = .ok (.ifCond .ne 15, 3) := by decide +kernel
theorem dL_law_1178 : decode cL_law 1178 = .ok (.aload_n 3, 1) := by decide +kernel
theorem dL_law_1179 : decode cL_law 1179 = .ok (.iconst 0, 1) := by decide +kernel
theorem dL_law_1180 : decode cL_law 1180 = .ok (.laload, 1) := by decide +kernel
theorem dL_law_1181 : decode cL_law 1181 = .ok (.iload 7, 2) := by decide +kernel
theorem dL_law_1183 : decode cL_law 1183 = .ok (.i2l, 1) := by decide +kernel
theorem dL_law_1184 : decode cL_law 1184 = .ok (.lcmp, 1) := by decide +kernel
theorem dL_law_1185 : decode cL_law 1185 = .ok (.ifCond .eq 5, 3) := by decide +kernel
theorem dL_law_1188 : decode cL_law 1188 = .ok (.iconst 0, 1) := by decide +kernel
theorem dL_law_1189 : decode cL_law 1189 = .ok (.ireturn, 1) := by decide +kernel
theorem dL_law_1190 : decode cL_law 1190 = .ok (.goto 232, 3) := by decide +kernel
theorem dL_law_1193 : decode cL_law 1193 = .ok (.aload_n 1, 1) := by decide +kernel
theorem dL_law_1194 : decode cL_law 1194 = .ok (.aload_n 0, 1) := by decide +kernel
theorem dL_law_1195 : decode cL_law 1195 = .ok (.iload 5, 2) := by decide +kernel
theorem dL_law_1197 : decode cL_law 1197 = .ok (.iconst 1, 1) := by decide +kernel
theorem dL_law_1198 : decode cL_law 1198 = .ok (.iadd, 1) := by decide +kernel
theorem dL_law_1199 : decode cL_law 1199 = .ok (.iaload, 1) := by decide +kernel
theorem dL_law_1200 : decode cL_law 1200 = .ok (.aload_n 0, 1) := by decide +kernel
theorem dL_law_1201 : decode cL_law 1201 = .ok (.iload 5, 2) := by decide +kernel
theorem dL_law_1203 : decode cL_law 1203 = .ok (.iconst 2, 1) := by decide +kernel
theorem dL_law_1204 : decode cL_law 1204 = .ok (.iadd, 1) := by decide +kernel
theorem dL_law_1205 : decode cL_law 1205 = .ok (.iaload, 1) := by decide +kernel
theorem dL_law_1206 : decode cL_law 1206 = .ok (.aload_n 0, 1) := by decide +kernel
theorem dL_law_1207 : decode cL_law 1207 = .ok (.iload 5, 2) := by decide +kernel
theorem dL_law_1209 : decode cL_law 1209 = .ok (.iconst 3, 1) := by decide +kernel
theorem dL_law_1210 : decode cL_law 1210 = .ok (.iadd, 1) := by decide +kernel
theorem dL_law_1211 : decode cL_law 1211 = .ok (.iaload, 1) := by decide +kernel
theorem dL_law_1212 : decode cL_law 1212 = .ok (.aload_n 3, 1) := by decide +kernel
theorem dL_law_1213 : decode cL_law 1213 = .ok (.invokestatic 142, 3) := by decide +kernel
theorem dL_law_1216 : decode cL_law 1216 = .ok (.istore 6, 2) := by decide +kernel
theorem dL_law_1218 : decode cL_law 1218 = .ok (.aload_n 2, 1) := by decide +kernel
theorem dL_law_1219 : decode cL_law 1219 = .ok (.aload_n 0, 1) := by decide +kernel
theorem dL_law_1220 : decode cL_law 1220 = .ok (.iload 5, 2) := by decide +kernel
theorem dL_law_1222 : decode cL_law 1222 = .ok (.iconst 1, 1) := by decide +kernel
theorem dL_law_1223 : decode cL_law 1223 = .ok (.iadd, 1) := by decide +kernel
theorem dL_law_1224 : decode cL_law 1224 = .ok (.iaload, 1) := by decide +kernel
theorem dL_law_1225 : decode cL_law 1225 = .ok (.aload_n 0, 1) := by decide +kernel
theorem dL_law_1226 : decode cL_law 1226 = .ok (.iload 5, 2) := by decide +kernel
theorem dL_law_1228 : decode cL_law 1228 = .ok (.iconst 2, 1) := by decide +kernel
theorem dL_law_1229 : decode cL_law 1229 = .ok (.iadd, 1) := by decide +kernel
theorem dL_law_1230 : decode cL_law 1230 = .ok (.iaload, 1) := by decide +kernel
theorem dL_law_1231 : decode cL_law 1231 = .ok (.aload_n 0, 1) := by decide +kernel
theorem dL_law_1232 : decode cL_law 1232 = .ok (.iload 5, 2) := by decide +kernel
theorem dL_law_1234 : decode cL_law 1234 = .ok (.iconst 3, 1) := by decide +kernel
theorem dL_law_1235 : decode cL_law 1235 = .ok (.iadd, 1) := by decide +kernel
theorem dL_law_1236 : decode cL_law 1236 = .ok (.iaload, 1) := by decide +kernel
theorem dL_law_1237 : decode cL_law 1237 = .ok (.invokevirtual 144, 3) := by decide +kernel
theorem dL_law_1240 : decode cL_law 1240 = .ok (.istore 7, 2) := by decide +kernel
theorem dL_law_1242 : decode cL_law 1242 = .ok (.aload_n 2, 1) := by decide +kernel
theorem dL_law_1243 : decode cL_law 1243 = .ok (.invokevirtual 82, 3) := by decide +kernel
theorem dL_law_1246 : decode cL_law 1246 = .ok (.iload 6, 2) := by decide +kernel
theorem dL_law_1248 : decode cL_law 1248 = .ok (.if_icmp .eq 5, 3) := by decide +kernel
theorem dL_law_1251 : decode cL_law 1251 = .ok (.iconst 0, 1) := by decide +kernel
theorem dL_law_1252 : decode cL_law 1252 = .ok (.ireturn, 1) := by decide +kernel
theorem dL_law_1253 : decode cL_law 1253 = .ok (.iload 6, 2) := by decide +kernel
theorem dL_law_1255 : decode cL_law 1255 = .ok (.ifCond .ne 15, 3) := by decide +kernel
theorem dL_law_1258 : decode cL_law 1258 = .ok (.aload_n 3, 1) := by decide +kernel
theorem dL_law_1259 : decode cL_law 1259 = .ok (.iconst 0, 1) := by decide +kernel
theorem dL_law_1260 : decode cL_law 1260 = .ok (.laload, 1) := by decide +kernel
theorem dL_law_1261 : decode cL_law 1261 = .ok (.iload 7, 2) := by decide +kernel
theorem dL_law_1263 : decode cL_law 1263 = .ok (.i2l, 1) := by decide +kernel
theorem dL_law_1264 : decode cL_law 1264 = .ok (.lcmp, 1) := by decide +kernel
theorem dL_law_1265 : decode cL_law 1265 = .ok (.ifCond .eq 5, 3) := by decide +kernel
theorem dL_law_1268 : decode cL_law 1268 = .ok (.iconst 0, 1) := by decide +kernel
theorem dL_law_1269 : decode cL_law 1269 = .ok (.ireturn, 1) := by decide +kernel
theorem dL_law_1270 : decode cL_law 1270 = .ok (.goto 152, 3) := by decide +kernel
theorem dL_law_1273 : decode cL_law 1273 = .ok (.aload_n 1, 1) := by decide +kernel
theorem dL_law_1274 : decode cL_law 1274 = .ok (.aload_n 0, 1) := by decide +kernel
theorem dL_law_1275 : decode cL_law 1275 = .ok (.iload 5, 2) := by decide +kernel
theorem dL_law_1277 : decode cL_law 1277 = .ok (.iconst 1, 1) := by decide +kernel
theorem dL_law_1278 : decode cL_law 1278 = .ok (.iadd, 1) := by decide +kernel
theorem dL_law_1279 : decode cL_law 1279 = .ok (.iaload, 1) := by decide +kernel
theorem dL_law_1280 : decode cL_law 1280 = .ok (.aload_n 0, 1) := by decide +kernel
theorem dL_law_1281 : decode cL_law 1281 = .ok (.iload 5, 2) := by decide +kernel
theorem dL_law_1283 : decode cL_law 1283 = .ok (.iconst 2, 1) := by decide +kernel
theorem dL_law_1284 : decode cL_law 1284 = .ok (.iadd, 1) := by decide +kernel
theorem dL_law_1285 : decode cL_law 1285 = .ok (.iaload, 1) := by decide +kernel
theorem dL_law_1286 : decode cL_law 1286 = .ok (.aload_n 0, 1) := by decide +kernel
theorem dL_law_1287 : decode cL_law 1287 = .ok (.iload 5, 2) := by decide +kernel
theorem dL_law_1289 : decode cL_law 1289 = .ok (.iconst 3, 1) := by decide +kernel
theorem dL_law_1290 : decode cL_law 1290 = .ok (.iadd, 1) := by decide +kernel
theorem dL_law_1291 : decode cL_law 1291 = .ok (.iaload, 1) := by decide +kernel
theorem dL_law_1292 : decode cL_law 1292 = .ok (.aload_n 3, 1) := by decide +kernel
theorem dL_law_1293 : decode cL_law 1293 = .ok (.invokestatic 145, 3) := by decide +kernel
theorem dL_law_1296 : decode cL_law 1296 = .ok (.istore 6, 2) := by decide +kernel
theorem dL_law_1298 : decode cL_law 1298 = .ok (.aload_n 2, 1) := by decide +kernel
theorem dL_law_1299 : decode cL_law 1299 = .ok (.aload_n 0, 1) := by decide +kernel
theorem dL_law_1300 : decode cL_law 1300 = .ok (.iload 5, 2) := by decide +kernel
theorem dL_law_1302 : decode cL_law 1302 = .ok (.iconst 1, 1) := by decide +kernel
theorem dL_law_1303 : decode cL_law 1303 = .ok (.iadd, 1) := by decide +kernel
theorem dL_law_1304 : decode cL_law 1304 = .ok (.iaload, 1) := by decide +kernel
theorem dL_law_1305 : decode cL_law 1305 = .ok (.aload_n 0, 1) := by decide +kernel
theorem dL_law_1306 : decode cL_law 1306 = .ok (.iload 5, 2) := by decide +kernel
theorem dL_law_1308 : decode cL_law 1308 = .ok (.iconst 2, 1) := by decide +kernel
theorem dL_law_1309 : decode cL_law 1309 = .ok (.iadd, 1) := by decide +kernel
theorem dL_law_1310 : decode cL_law 1310 = .ok (.iaload, 1) := by decide +kernel
theorem dL_law_1311 : decode cL_law 1311 = .ok (.aload_n 0, 1) := by decide +kernel
theorem dL_law_1312 : decode cL_law 1312 = .ok (.iload 5, 2) := by decide +kernel
theorem dL_law_1314 : decode cL_law 1314 = .ok (.iconst 3, 1) := by decide +kernel
theorem dL_law_1315 : decode cL_law 1315 = .ok (.iadd, 1) := by decide +kernel
theorem dL_law_1316 : decode cL_law 1316 = .ok (.iaload, 1) := by decide +kernel
theorem dL_law_1317 : decode cL_law 1317 = .ok (.invokevirtual 147, 3) := by decide +kernel
theorem dL_law_1320 : decode cL_law 1320 = .ok (.istore 7, 2) := by decide +kernel
theorem dL_law_1322 : decode cL_law 1322 = .ok (.aload_n 2, 1) := by decide +kernel
theorem dL_law_1323 : decode cL_law 1323 = .ok (.invokevirtual 82, 3) := by decide +kernel
theorem dL_law_1326 : decode cL_law 1326 = .ok (.iload 6, 2) := by decide +kernel
theorem dL_law_1328 : decode cL_law 1328 = .ok (.if_icmp .eq 5, 3) := by decide +kernel
theorem dL_law_1331 : decode cL_law 1331 = .ok (.iconst 0, 1) := by decide +kernel
theorem dL_law_1332 : decode cL_law 1332 = .ok (.ireturn, 1) := by decide +kernel
theorem dL_law_1333 : decode cL_law 1333 = .ok (.iload 6, 2) := by decide +kernel
theorem dL_law_1335 : decode cL_law 1335 = .ok (.ifCond .ne 15, 3) := by decide +kernel
theorem dL_law_1338 : decode cL_law 1338 = .ok (.aload_n 3, 1) := by decide +kernel
theorem dL_law_1339 : decode cL_law 1339 = .ok (.iconst 0, 1) := by decide +kernel
theorem dL_law_1340 : decode cL_law 1340 = .ok (.laload, 1) := by decide +kernel
theorem dL_law_1341 : decode cL_law 1341 = .ok (.iload 7, 2) := by decide +kernel
theorem dL_law_1343 : decode cL_law 1343 = .ok (.i2l, 1) := by decide +kernel
theorem dL_law_1344 : decode cL_law 1344 = .ok (.lcmp, 1) := by decide +kernel
theorem dL_law_1345 : decode cL_law 1345 = .ok (.ifCond .eq 5, 3) := by decide +kernel
theorem dL_law_1348 : decode cL_law 1348 = .ok (.iconst 0, 1) := by decide +kernel
theorem dL_law_1349 : decode cL_law 1349 = .ok (.ireturn, 1) := by decide +kernel
theorem dL_law_1350 : decode cL_law 1350 = .ok (.goto 72, 3) := by decide +kernel
theorem dL_law_1353 : decode cL_law 1353 = .ok (.aload_n 1, 1) := by decide +kernel
theorem dL_law_1354 : decode cL_law 1354 = .ok (.invokevirtual 148, 3) := by decide +kernel
theorem dL_law_1357 : decode cL_law 1357 = .ok (.aload_n 2, 1) := by decide +kernel
theorem dL_law_1358 : decode cL_law 1358 = .ok (.invokevirtual 151, 3) := by decide +kernel
theorem dL_law_1361 : decode cL_law 1361 = .ok (.if_icmp .eq 61, 3) := by decide +kernel
theorem dL_law_1364 : decode cL_law 1364 = .ok (.iconst 0, 1) := by decide +kernel
theorem dL_law_1365 : decode cL_law 1365 = .ok (.ireturn, 1) := by decide +kernel
theorem dL_law_1366 : decode cL_law 1366 = .ok (.aload_n 1, 1) := by decide +kernel
theorem dL_law_1367 : decode cL_law 1367 = .ok (.aload_n 0, 1) := by decide +kernel
theorem dL_law_1368 : decode cL_law 1368 = .ok (.iload 5, 2) := by decide +kernel
theorem dL_law_1370 : decode cL_law 1370 = .ok (.iconst 1, 1) := by decide +kernel
theorem dL_law_1371 : decode cL_law 1371 = .ok (.iadd, 1) := by decide +kernel
theorem dL_law_1372 : decode cL_law 1372 = .ok (.iaload, 1) := by decide +kernel
theorem dL_law_1373 : decode cL_law 1373 = .ok (.aload_n 3, 1) := by decide +kernel
theorem dL_law_1374 : decode cL_law 1374 = .ok (.invokestatic 152, 3) := by decide +kernel
theorem dL_law_1377 : decode cL_law 1377 = .ok (.istore 6, 2) := by decide +kernel
theorem dL_law_1379 : decode cL_law 1379 = .ok (.aload_n 2, 1) := by decide +kernel
theorem dL_law_1380 : decode cL_law 1380 = .ok (.aload_n 0, 1) := by decide +kernel
theorem dL_law_1381 : decode cL_law 1381 = .ok (.iload 5, 2) := by decide +kernel
theorem dL_law_1383 : decode cL_law 1383 = .ok (.iconst 1, 1) := by decide +kernel
theorem dL_law_1384 : decode cL_law 1384 = .ok (.iadd, 1) := by decide +kernel
theorem dL_law_1385 : decode cL_law 1385 = .ok (.iaload, 1) := by decide +kernel
theorem dL_law_1386 : decode cL_law 1386 = .ok (.invokevirtual 154, 3) := by decide +kernel
theorem dL_law_1389 : decode cL_law 1389 = .ok (.istore 7, 2) := by decide +kernel
theorem dL_law_1391 : decode cL_law 1391 = .ok (.aload_n 2, 1) := by decide +kernel
theorem dL_law_1392 : decode cL_law 1392 = .ok (.invokevirtual 82, 3) := by decide +kernel
theorem dL_law_1395 : decode cL_law 1395 = .ok (.iload 6, 2) := by decide +kernel
theorem dL_law_1397 : decode cL_law 1397 = .ok (.if_icmp .eq 5, 3) := by decide +kernel
theorem dL_law_1400 : decode cL_law 1400 = .ok (.iconst 0, 1) := by decide +kernel
theorem dL_law_1401 : decode cL_law 1401 = .ok (.ireturn, 1) := by decide +kernel
theorem dL_law_1402 : decode cL_law 1402 = .ok (.iload 6, 2) := by decide +kernel
theorem dL_law_1404 : decode cL_law 1404 = .ok (.ifCond .ne 15, 3) := by decide +kernel
theorem dL_law_1407 : decode cL_law 1407 = .ok (.aload_n 3, 1) := by decide +kernel
theorem dL_law_1408 : decode cL_law 1408 = .ok (.iconst 0, 1) := by decide +kernel
theorem dL_law_1409 : decode cL_law 1409 = .ok (.laload, 1) := by decide +kernel
theorem dL_law_1410 : decode cL_law 1410 = .ok (.iload 7, 2) := by decide +kernel
theorem dL_law_1412 : decode cL_law 1412 = .ok (.i2l, 1) := by decide +kernel
theorem dL_law_1413 : decode cL_law 1413 = .ok (.lcmp, 1) := by decide +kernel
theorem dL_law_1414 : decode cL_law 1414 = .ok (.ifCond .eq 5, 3) := by decide +kernel
theorem dL_law_1417 : decode cL_law 1417 = .ok (.iconst 0, 1) := by decide +kernel
theorem dL_law_1418 : decode cL_law 1418 = .ok (.ireturn, 1) := by decide +kernel
theorem dL_law_1419 : decode cL_law 1419 = .ok (.goto 3, 3) := by decide +kernel
theorem dL_law_1422 : decode cL_law 1422 = .ok (.iinc 5 6, 3) := by decide +kernel
theorem dL_law_1425 : decode cL_law 1425 = .ok (.goto (-1397), 3) := by decide +kernel
theorem dL_law_1428 : decode cL_law 1428 = .ok (.iconst 1, 1) := by decide +kernel
theorem dL_law_1429 : decode cL_law 1429 = .ok (.ireturn, 1) := by decide +kernel
abbrev vwCl : List vw_C := [(RX2, TX2, 6), (RX3, TX3, 3), (RX4, TX4, 3), (RX5, TX5, 16)]
end
section
/-! THE CLAIM OUT OF ONE WALK OF THE LAW'S BODY. Your part is whole_start (and what it stands on); all else here is the same for every law, but numbers. -/
def R_law : String := "HilbertHutchLaw"
def lw_P (b : Addr) (xs : List Int32) (args : Array Value) (s : State) : Prop := args = #[.ref b] ∧ s.IntsAt b xs ∧ xs.length ≤ 3072 ∧ (Jvm.Cond.and given_1 narrow_1).before args s = true
/-- what a walk over the start with the record d0 says of its end, said of the start itself -/
theorem lw_closed {s t : State} {o : Outcome} {d0 : Drawn} {L : List Loc} {k n : Nat} (hd0 : s.drawn.sameBut d0 lw_cs) (hv : ∃ v, o = .returned v) (hW : (s.setDrawn d0).WarmedH t.vm) (hs : (s.setDrawn d0).sameButNew ({ t with vm := s.vm } : State) L k n) : State.butDraws s t lw_cs (fun t1 => Framed s o t1 L k n) := by
  have h2 : t.drawn = d0 := congrArg State.drawn hs.1
  refine ⟨⟨hv, hW, State.sameButNew.setDrawn hs s.drawn⟩, ?_, by decide⟩
  rw [h2]
  exact hd0
def lw_Q (_ : Array Value) (s : State) (o : Outcome) (t : State) : Prop := o = .returned (some (.int 1)) ∧ State.butDraws s t lw_cs (fun t1 => Framed s o t1 [] 1055 10903)
def lw_Z (below : List Frame) (a : Array Value) (s : State) : State → Prop := fun t => ∃ o, t.status = .running ∧ Ended t below o ∧ lw_Q a s o t
/-- the law's own end, with 1 on the stack, nothing written that was there before, its room as the claim has it; d0: the record of draws at this point (at the entry s.drawn: begin with 'refine W.base ?_' and 'have hd0 := Drawn.sameBut.refl s.drawn lw_cs') -/
theorem lw_ret {p : Program} {l : Launch} {e : Env} {s : State} {m : MethodId} {below : List Frame} {meth : Method} {c : Code} {b : Nat} {d0 : Drawn} (hd0 : s.drawn.sameBut d0 lw_cs) (hx : p.tables.exec = Jvm.exec) (hb : c.code = code) (hr : meth.sig.returnType = ret) (hlocks : meth.locks = false) {pc : Nat} {H : Heap} {ls : Array Slot} (hdg : decode code pc = .ok (.ireturn, 1)) : W p l e room_1 (s.setDrawn d0) m #[Value.ref b] below meth c H [] 1055 10903 (lw_Z below #[Value.ref b] s) (F0 m pc ls [.int 1]) := by
  intro T hT X
  obtain ⟨fs, hret, hrun, hended, hW, hframe⟩ := X.leave (v := some (.int 1)) (hlocks := hlocks) (fun h => by rw [hr] at h; cases h)
  have hmeth' : T.vm.method? m = some meth := X.method'
  refine ⟨T.setFrames fs, ?_, .returned (some (.int 1)), hrun, hended, rfl, lw_closed hd0 ⟨_, rfl⟩ hW hframe⟩
  jvm_step X.here [X.here.top, hx, hb, hdg, hmeth', hr, ret, narrow_b1]
  (try refine ⟨rfl, ?_⟩); (try refine ⟨rfl, ?_⟩)
  first | (intro acts; rw [hret _ acts rfl rfl rfl]) | rw [hret _ _ rfl rfl rfl]
  exact Steps.refl _
/-- what holds at the law's entry: the machine, the code, the tables' words (any of lw_tbl by 'hts w (by decide +kernel)'), the script of L ints xs at the cell b, what the Statement gives of the start (any of its parts by flat_of_before) -/
def lw_At (p : Program) (s : State) (m : MethodId) (meth : Method) (c : Code) (b L : Nat) (xs : Nat → Int32) : Prop :=
  p.tables.exec = Jvm.exec ∧ c.code = code ∧ meth.sig.returnType = ret ∧ c.maxLocals = 8 ∧ s.vm.findClass R_law = some m.cls ∧ (∀ w ∈ lw_tbl, w.before #[Value.ref b] s = true) ∧ va_X b L xs s s.heap ∧ b < s.heap.size ∧ meth.locks = false ∧ (Jvm.Cond.and given_1 narrow_1).before #[Value.ref b] s = true
-- ===== YOUR PART BEGINS =====
/-- YOUR PART: from the entry, for every script of at most 3072 ints, the law comes to its end with true ('hflags': the launch's flags, for a law that throws: no stack traces) -/
theorem whole_start {p : Program} {e : Env} {s : State} {m : MethodId} {below : List Frame} {meth : Method} {c : Code} (l : Launch) (hflags : l.flags = flags0) {b L : Nat} {xs : Nat → Int32} (hL : L ≤ 3072) (C0 : lw_At p s m meth c b L xs) : W p l e room_1 s m #[Value.ref b] below meth c s.heap [] 0 0 (lw_Z below #[Value.ref b] s) (entryFrame m ([Value.ref b] : List Value).toArray 8) := by
  sorry
-- ===== YOUR PART ENDS =====
set_option maxHeartbeats 4000000 in
theorem lw_walk (l : Launch) (hflags : l.flags = flags0) (b : Addr) (xs : List Int32) : MetFree l x (headSpec (Jvm.Cond.code x code maxLocals ret :: tables_1) room_1) (lw_P b xs) (fun _ _ _ _ _ => True) lw_Q := by
  refine MetFree.of_bodyS (code := code) (maxLocals := maxLocals) (ret := ret) (by decide) ?_ ?_
  · intro args s m h hn
    obtain ⟨meth, c, h1, h2, h3, h4, h5, h6, -, -⟩ := Cond.code_spec hn (atoms_spec (ws := Jvm.Cond.code x code maxLocals ret :: tables_1) h _ List.mem_cons_self)
    exact ⟨meth, c, h1, h2, h3, h4, h5, h6⟩
  · intro p e s m args below meth c s₁ B hml0 hP _
    obtain ⟨rfl, hx, hbd, hgv⟩ := hP
    obtain ⟨scr, harrAt, hlist, hof, hsmall⟩ := hx
    obtain ⟨hcb, hkn, -, -⟩ := State.arrayAt?_spec harrAt
    have hown : s.vm.findClass R_law = some m.cls := findClass_of_methodNamed B.named
    have hts0 : ∀ c ∈ (Jvm.Cond.code x code maxLocals ret :: tables_1), c.before #[Value.ref b] s = true := atoms_spec (ws := Jvm.Cond.code x code maxLocals ret :: tables_1) B.pre
    have hts : ∀ w ∈ lw_tbl, w.before #[Value.ref b] s = true := k2_hts_sels lw_privs (fun w hw => hts0 w (List.mem_cons_of_mem _ hw)) lw_privs_ok
    have hml : c.maxLocals = 8 := B.maxLocals_eq (hts0 _ List.mem_cons_self)
    have X₀ : Stand p l e room_1 s m #[Value.ref b] below meth c s₁ [] 0 0 := Stand.of_body B
    have hh0 : s₁.heap = s.heap := by rw [B.state]; rfl
    have hsz : scr.slots.size = xs.length := by rw [← Array.length_toList, hlist, List.length_map]
    have hval : ∀ j : Nat, j < xs.length → scr.slots[j]? = some (.int (xs.getD j 0)) := fun j hj => by
      rw [← Array.getElem?_toList, hlist]
      simp [hj]
    have hbl : b < s.heap.size := (Array.getElem?_eq_some_iff.mp hcb).1
    have hX : va_X b xs.length (fun j => xs.getD j 0) s s.heap := ⟨scr, hcb, hof, hkn, hsz, hval⟩
    have K : W p l e room_1 s m #[Value.ref b] below meth c s₁.heap [] 0 0 (lw_Z below #[Value.ref b] s) (entryFrame m ([Value.ref b] : List Value).toArray 8) := by
      rw [hh0]
      exact whole_start l hflags hbd ⟨B.exec, B.bytes, B.returns, hml, hown, hts, hX, hbl, B.notSynchronized, hgv⟩
    obtain ⟨t, a1, o, b1, b2, b3⟩ := K s₁ rfl X₀
    exact ⟨t, o, a1, b1, b2, b3⟩
theorem lw_pre_spec {args : Array Value} {s : State} (h : (Jvm.Cond.and given_1 narrow_1).before args s = true) (hr : rest_1_c.before args s = true) : ∃ (b : Addr) (xs : List Int32), lw_P b xs args s := by
  have hs := flat_of_before _ h
  have hq := flat_of_before _ hr
  have hc : (Cond.count 1).before args s = true := hs _ (by decide +kernel)
  have harr : (Cond.arrayOf (.arg 0) .int).before args s = true := hs _ (by decide +kernel)
  have hle : (Cond.le (.length (.arg 0)) (.int 3072)).before args s = true := hs _ (by decide +kernel)
  have hlen : (Cond.isInt (.length (.arg 0))).before args s = true := hq _ (by decide +kernel)
  have hall : (Cond.all (.arg 0) (.isInt (.elem (.arg 0) (.index 0)))).before args s = true := hq _ (by decide +kernel)
  obtain ⟨b, xs, hb, hx⟩ := State.ints_of_pre rfl harr hlen hall
  have hsm : xs.length < 2 ^ 31 := hx.choose_spec.2.2.2
  have hev : (Term.length (.arg 0)).eval args s none [] s = some (.int xs.length.toInt32) := hx.length_eval hb
  have hv := Cond.le_ints hev (show (Term.int 3072).eval args s none [] s = some (.int 3072) from rfl)
  have hd : xs.length.toInt32 ≤ 3072 := by
    simpa [Cond.before, Cond.holds, hv] using hle
  have hN : xs.length ≤ 3072 := (Int32.ofNat_le_ofNat hsm (by decide)).mp (show Int32.ofNat xs.length ≤ Int32.ofNat 3072 from hd)
  exact ⟨b, xs, Cond.one_arg hc (show args[0]? = some (.ref b) from hb), hx, hN, h⟩
theorem lw_comes (l : Launch) (hflags : l.flags = flags0) : Comes l x (Jvm.Cond.code x code maxLocals ret :: tables_1) room_1 (fun tb e args s => Calls_1 tb e args s ∧ rest_1 tb e args s ∧ Pre_1 tb e args s)
    (fun _ _ args s o t => lw_Q args s o t) := by
  intro p e ha hc hk s m args below hf hfit hheap happ hpre
  obtain ⟨b, xs, hP⟩ := lw_pre_spec hpre.2.2 hpre.2.1
  obtain ⟨k, o, h1, h2, h3, hQ⟩ := lw_walk l hflags b xs p e ha hc hk s m args below hf ((Spec.applies_iff_loose hf).mp happ).1 hP trivial
  exact ⟨k, o, h1, h2, h3, hQ⟩
theorem lw_frame {s t : State} {o : Outcome} {args : Array Value} (h : State.butDraws s t lw_cs (fun t1 => Framed s o t1 [] 1055 10903)) :
    State.butDraws s t [Jvm.Choice.named "NaN.bits"] (fun t1 => Framed s o t1 (fieldLocs frame_1_writes args s ++ arrayLocs frame_1_arrays args s ++ staticLocs frame_1_statics s) 1055 10903) := h
theorem lw_limb (L : Cond) (hL : ∀ (args : Array Value) (s t : State), L.after args s (.returned (some (.int 1))) t = true) :
    ArmFor flags0 classFile x code maxLocals ret World_1 tables_1 room_1 Calls_1 rest_1 Pre_1
      (fun tb e a s o t => postC L tb e a s o t ∧ State.butDraws s t [Jvm.Choice.named "NaN.bits"] (fun t1 => Framed s o t1 (fieldLocs frame_1_writes a s ++ arrayLocs frame_1_arrays a s ++ staticLocs frame_1_statics s) 1055 10903)) := by
  intro l hflags _ _ p e ha hc hk s m args below hf hfit hheap happ hpre
  obtain ⟨k, o, h1, h2, h3, rfl, hF⟩ := lw_comes l hflags p e ha hc hk s m args below hf hfit hheap happ hpre
  exact ⟨k, _, h1, h2, h3, hL args s _, lw_frame hF⟩
theorem i_vc : Claimed_1_1 ∧ Claimed_1_2 := ⟨lw_limb limb_1_1 (fun args s t => by simp [limb_1_1, Cond.after, Cond.holds, Cond.value]), lw_limb limb_1_2 (fun args s t => Cond.after_iff.mpr (by
  first | (rw [show limb_1_2 = Cond.eq .result (.int 1) from rfl, Cond.eq_ints (x := 1) (y := 1) rfl rfl]; simp; done) | (simp [limb_1_2, Cond.value, Term.eval]; done)))⟩
end
