section
/-- a piece of the library's rest, named here first: the rounds are read over the whole library from the first part on (rows of rows: part 03) -/
theorem zz_wide (c : ClassId) (M : Nat) (v : Value) : (Jvm.Free.Multi.innerC c M v).cls = c := rfl
-- ===== PART A: goes FIRST, ahead of the names: the tables' words, and 'selects' of the private methods out of them =====
/-- a private method of a class that the tables say can be made, by its rows of tables_1 -/
def lw_okq (q : MethodName × Nat) : Prop := (q.1.cls ≠ "java/lang/invoke/MethodHandle" ∧ q.1.cls ≠ "java/lang/invoke/VarHandle") ∧ Cond.instantiable q.1.cls q.2 ∈ tables_1 ∧ Cond.privateMethod q.1 ∈ tables_1 ∧ Cond.instanceMethod q.1 ∈ tables_1
theorem lw_p0 : lw_okq (⟨"CakeMarks", "record", "()V"⟩, 8) := ⟨⟨by decide +kernel, by decide +kernel⟩, List.mem_of_getElem? (i := 12) (by decide +kernel), List.mem_of_getElem? (i := 207) (by decide +kernel), List.mem_of_getElem? (i := 208) (by decide +kernel)⟩
theorem lw_p1 : lw_okq (⟨"CakeMarks", "dropOldest", "()V"⟩, 8) := ⟨⟨by decide +kernel, by decide +kernel⟩, List.mem_of_getElem? (i := 12) (by decide +kernel), List.mem_of_getElem? (i := 211) (by decide +kernel), List.mem_of_getElem? (i := 212) (by decide +kernel)⟩
theorem lw_p2 : lw_okq (⟨"CakeMarks$ValueText", "readPart", "()I"⟩, 5) := ⟨⟨by decide +kernel, by decide +kernel⟩, List.mem_of_getElem? (i := 48) (by decide +kernel), List.mem_of_getElem? (i := 278) (by decide +kernel), List.mem_of_getElem? (i := 279) (by decide +kernel)⟩
theorem lw_p3 : lw_okq (⟨"CakeMarks$ValueText", "isDigit", "(I)Z"⟩, 5) := ⟨⟨by decide +kernel, by decide +kernel⟩, List.mem_of_getElem? (i := 48) (by decide +kernel), List.mem_of_getElem? (i := 282) (by decide +kernel), List.mem_of_getElem? (i := 283) (by decide +kernel)⟩
theorem lw_p4 : lw_okq (⟨"CakeMarks$ValueText", "readTimes", "(I)I"⟩, 5) := ⟨⟨by decide +kernel, by decide +kernel⟩, List.mem_of_getElem? (i := 48) (by decide +kernel), List.mem_of_getElem? (i := 286) (by decide +kernel), List.mem_of_getElem? (i := 287) (by decide +kernel)⟩
theorem lw_p5 : lw_okq (⟨"CakeMarks", "isMove", "(II)Z"⟩, 8) := ⟨⟨by decide +kernel, by decide +kernel⟩, List.mem_of_getElem? (i := 12) (by decide +kernel), List.mem_of_getElem? (i := 311) (by decide +kernel), List.mem_of_getElem? (i := 312) (by decide +kernel)⟩
theorem lw_p6 : lw_okq (⟨"CakeMarks$Mark", "giveTo", "(III)V"⟩, 1) := ⟨⟨by decide +kernel, by decide +kernel⟩, List.mem_of_getElem? (i := 72) (by decide +kernel), List.mem_of_getElem? (i := 328) (by decide +kernel), List.mem_of_getElem? (i := 329) (by decide +kernel)⟩
theorem lw_p7 : lw_okq (⟨"CakeMarks", "isPair", "(II)Z"⟩, 8) := ⟨⟨by decide +kernel, by decide +kernel⟩, List.mem_of_getElem? (i := 12) (by decide +kernel), List.mem_of_getElem? (i := 337) (by decide +kernel), List.mem_of_getElem? (i := 338) (by decide +kernel)⟩
theorem lw_p8 : lw_okq (⟨"CakeMarks$Rings", "drawArrows", "(LCakeMarks$Cake;)V"⟩, 2) := ⟨⟨by decide +kernel, by decide +kernel⟩, List.mem_of_getElem? (i := 83) (by decide +kernel), List.mem_of_getElem? (i := 374) (by decide +kernel), List.mem_of_getElem? (i := 375) (by decide +kernel)⟩
theorem lw_p9 : lw_okq (⟨"CakeMarks$Row", "fill", "(I)V"⟩, 3) := ⟨⟨by decide +kernel, by decide +kernel⟩, List.mem_of_getElem? (i := 89) (by decide +kernel), List.mem_of_getElem? (i := 392) (by decide +kernel), List.mem_of_getElem? (i := 393) (by decide +kernel)⟩
theorem lw_p10 : lw_okq (⟨"CakeMarks$Row", "firstFree", "(II)I"⟩, 3) := ⟨⟨by decide +kernel, by decide +kernel⟩, List.mem_of_getElem? (i := 89) (by decide +kernel), List.mem_of_getElem? (i := 396) (by decide +kernel), List.mem_of_getElem? (i := 397) (by decide +kernel)⟩
theorem lw_p11 : lw_okq (⟨"CakeMarks$Rings", "isRing", "()Z"⟩, 2) := ⟨⟨by decide +kernel, by decide +kernel⟩, List.mem_of_getElem? (i := 83) (by decide +kernel), List.mem_of_getElem? (i := 401) (by decide +kernel), List.mem_of_getElem? (i := 402) (by decide +kernel)⟩
theorem lw_p12 : lw_okq (⟨"CakeMarks", "searchOnce", "()V"⟩, 8) := ⟨⟨by decide +kernel, by decide +kernel⟩, List.mem_of_getElem? (i := 12) (by decide +kernel), List.mem_of_getElem? (i := 487) (by decide +kernel), List.mem_of_getElem? (i := 488) (by decide +kernel)⟩
theorem lw_p13 : lw_okq (⟨"CakeMarks$Divisions", "prepare", "(LCakeMarks$Cake;)V"⟩, 14) := ⟨⟨by decide +kernel, by decide +kernel⟩, List.mem_of_getElem? (i := 119) (by decide +kernel), List.mem_of_getElem? (i := 495) (by decide +kernel), List.mem_of_getElem? (i := 496) (by decide +kernel)⟩
theorem lw_p14 : lw_okq (⟨"CakeMarks$Divisions", "measureSpans", "()V"⟩, 14) := ⟨⟨by decide +kernel, by decide +kernel⟩, List.mem_of_getElem? (i := 119) (by decide +kernel), List.mem_of_getElem? (i := 501) (by decide +kernel), List.mem_of_getElem? (i := 502) (by decide +kernel)⟩
theorem lw_p15 : lw_okq (⟨"CakeMarks$Divisions", "seekFair", "()V"⟩, 14) := ⟨⟨by decide +kernel, by decide +kernel⟩, List.mem_of_getElem? (i := 119) (by decide +kernel), List.mem_of_getElem? (i := 505) (by decide +kernel), List.mem_of_getElem? (i := 506) (by decide +kernel)⟩
def lw_privs_1 : List (MethodName × Nat) := [(⟨"CakeMarks", "record", "()V"⟩, 8), (⟨"CakeMarks", "dropOldest", "()V"⟩, 8), (⟨"CakeMarks$ValueText", "readPart", "()I"⟩, 5), (⟨"CakeMarks$ValueText", "isDigit", "(I)Z"⟩, 5), (⟨"CakeMarks$ValueText", "readTimes", "(I)I"⟩, 5), (⟨"CakeMarks", "isMove", "(II)Z"⟩, 8), (⟨"CakeMarks$Mark", "giveTo", "(III)V"⟩, 1), (⟨"CakeMarks", "isPair", "(II)Z"⟩, 8), (⟨"CakeMarks$Rings", "drawArrows", "(LCakeMarks$Cake;)V"⟩, 2), (⟨"CakeMarks$Row", "fill", "(I)V"⟩, 3), (⟨"CakeMarks$Row", "firstFree", "(II)I"⟩, 3), (⟨"CakeMarks$Rings", "isRing", "()Z"⟩, 2), (⟨"CakeMarks", "searchOnce", "()V"⟩, 8), (⟨"CakeMarks$Divisions", "prepare", "(LCakeMarks$Cake;)V"⟩, 14), (⟨"CakeMarks$Divisions", "measureSpans", "()V"⟩, 14), (⟨"CakeMarks$Divisions", "seekFair", "()V"⟩, 14)]
theorem lw_r1 : ∀ q ∈ lw_privs_1, lw_okq q := List.forall_mem_cons.mpr ⟨lw_p0, List.forall_mem_cons.mpr ⟨lw_p1, List.forall_mem_cons.mpr ⟨lw_p2, List.forall_mem_cons.mpr ⟨lw_p3, List.forall_mem_cons.mpr ⟨lw_p4, List.forall_mem_cons.mpr ⟨lw_p5, List.forall_mem_cons.mpr ⟨lw_p6, List.forall_mem_cons.mpr ⟨lw_p7, List.forall_mem_cons.mpr ⟨lw_p8, List.forall_mem_cons.mpr ⟨lw_p9, List.forall_mem_cons.mpr ⟨lw_p10, List.forall_mem_cons.mpr ⟨lw_p11, List.forall_mem_cons.mpr ⟨lw_p12, List.forall_mem_cons.mpr ⟨lw_p13, List.forall_mem_cons.mpr ⟨lw_p14, List.forall_mem_cons.mpr ⟨lw_p15, fun _ h => absurd h List.not_mem_nil⟩⟩⟩⟩⟩⟩⟩⟩⟩⟩⟩⟩⟩⟩⟩⟩
theorem lw_p16 : lw_okq (⟨"CakeMarks$Divisions", "firstPoor", "()I"⟩, 14) := ⟨⟨by decide +kernel, by decide +kernel⟩, List.mem_of_getElem? (i := 119) (by decide +kernel), List.mem_of_getElem? (i := 510) (by decide +kernel), List.mem_of_getElem? (i := 511) (by decide +kernel)⟩
theorem lw_p17 : lw_okq (⟨"CakeMarks$Divisions", "keepFair", "()V"⟩, 14) := ⟨⟨by decide +kernel, by decide +kernel⟩, List.mem_of_getElem? (i := 119) (by decide +kernel), List.mem_of_getElem? (i := 514) (by decide +kernel), List.mem_of_getElem? (i := 515) (by decide +kernel)⟩
theorem lw_p18 : lw_okq (⟨"CakeMarks$Divisions", "seekQuiet", "()V"⟩, 14) := ⟨⟨by decide +kernel, by decide +kernel⟩, List.mem_of_getElem? (i := 119) (by decide +kernel), List.mem_of_getElem? (i := 519) (by decide +kernel), List.mem_of_getElem? (i := 520) (by decide +kernel)⟩
theorem lw_p19 : lw_okq (⟨"CakeMarks$Divisions", "firstEnvious", "()I"⟩, 14) := ⟨⟨by decide +kernel, by decide +kernel⟩, List.mem_of_getElem? (i := 119) (by decide +kernel), List.mem_of_getElem? (i := 523) (by decide +kernel), List.mem_of_getElem? (i := 524) (by decide +kernel)⟩
theorem lw_p20 : lw_okq (⟨"CakeMarks$Divisions", "countQuiet", "()V"⟩, 14) := ⟨⟨by decide +kernel, by decide +kernel⟩, List.mem_of_getElem? (i := 119) (by decide +kernel), List.mem_of_getElem? (i := 527) (by decide +kernel), List.mem_of_getElem? (i := 528) (by decide +kernel)⟩
theorem lw_p21 : lw_okq (⟨"CakeMarks$Divisions", "nextCuts", "()Z"⟩, 14) := ⟨⟨by decide +kernel, by decide +kernel⟩, List.mem_of_getElem? (i := 119) (by decide +kernel), List.mem_of_getElem? (i := 531) (by decide +kernel), List.mem_of_getElem? (i := 532) (by decide +kernel)⟩
theorem lw_p22 : lw_okq (⟨"CakeMarksModel", "records", "()V"⟩, 16) := ⟨⟨by decide +kernel, by decide +kernel⟩, List.mem_of_getElem? (i := 543) (by decide +kernel), List.mem_of_getElem? (i := 602) (by decide +kernel), List.mem_of_getElem? (i := 603) (by decide +kernel)⟩
theorem lw_p23 : lw_okq (⟨"CakeMarksModel", "copies", "(II)V"⟩, 16) := ⟨⟨by decide +kernel, by decide +kernel⟩, List.mem_of_getElem? (i := 543) (by decide +kernel), List.mem_of_getElem? (i := 606) (by decide +kernel), List.mem_of_getElem? (i := 607) (by decide +kernel)⟩
theorem lw_p24 : lw_okq (⟨"CakeMarksModel", "isGuest", "(I)Z"⟩, 16) := ⟨⟨by decide +kernel, by decide +kernel⟩, List.mem_of_getElem? (i := 543) (by decide +kernel), List.mem_of_getElem? (i := 614) (by decide +kernel), List.mem_of_getElem? (i := 615) (by decide +kernel)⟩
theorem lw_p25 : lw_okq (⟨"CakeMarksModel", "total", "(I)I"⟩, 16) := ⟨⟨by decide +kernel, by decide +kernel⟩, List.mem_of_getElem? (i := 543) (by decide +kernel), List.mem_of_getElem? (i := 624) (by decide +kernel), List.mem_of_getElem? (i := 625) (by decide +kernel)⟩
theorem lw_p26 : lw_okq (⟨"CakeMarksModel", "spanValue", "(III)I"⟩, 16) := ⟨⟨by decide +kernel, by decide +kernel⟩, List.mem_of_getElem? (i := 543) (by decide +kernel), List.mem_of_getElem? (i := 628) (by decide +kernel), List.mem_of_getElem? (i := 629) (by decide +kernel)⟩
theorem lw_p27 : lw_okq (⟨"CakeMarksModel", "valueOf", "(II)I"⟩, 16) := ⟨⟨by decide +kernel, by decide +kernel⟩, List.mem_of_getElem? (i := 543) (by decide +kernel), List.mem_of_getElem? (i := 632) (by decide +kernel), List.mem_of_getElem? (i := 633) (by decide +kernel)⟩
theorem lw_p28 : lw_okq (⟨"CakeMarksModel", "reads", "()I"⟩, 16) := ⟨⟨by decide +kernel, by decide +kernel⟩, List.mem_of_getElem? (i := 543) (by decide +kernel), List.mem_of_getElem? (i := 648) (by decide +kernel), List.mem_of_getElem? (i := 649) (by decide +kernel)⟩
theorem lw_p29 : lw_okq (⟨"CakeMarksModel", "isDigit", "(II)Z"⟩, 16) := ⟨⟨by decide +kernel, by decide +kernel⟩, List.mem_of_getElem? (i := 543) (by decide +kernel), List.mem_of_getElem? (i := 652) (by decide +kernel), List.mem_of_getElem? (i := 653) (by decide +kernel)⟩
theorem lw_p30 : lw_okq (⟨"CakeMarksModel", "brings", "(IIZI)I"⟩, 16) := ⟨⟨by decide +kernel, by decide +kernel⟩, List.mem_of_getElem? (i := 543) (by decide +kernel), List.mem_of_getElem? (i := 660) (by decide +kernel), List.mem_of_getElem? (i := 661) (by decide +kernel)⟩
theorem lw_p31 : lw_okq (⟨"CakeMarksModel", "isMove", "(II)Z"⟩, 16) := ⟨⟨by decide +kernel, by decide +kernel⟩, List.mem_of_getElem? (i := 543) (by decide +kernel), List.mem_of_getElem? (i := 672) (by decide +kernel), List.mem_of_getElem? (i := 673) (by decide +kernel)⟩
def lw_privs_2 : List (MethodName × Nat) := [(⟨"CakeMarks$Divisions", "firstPoor", "()I"⟩, 14), (⟨"CakeMarks$Divisions", "keepFair", "()V"⟩, 14), (⟨"CakeMarks$Divisions", "seekQuiet", "()V"⟩, 14), (⟨"CakeMarks$Divisions", "firstEnvious", "()I"⟩, 14), (⟨"CakeMarks$Divisions", "countQuiet", "()V"⟩, 14), (⟨"CakeMarks$Divisions", "nextCuts", "()Z"⟩, 14), (⟨"CakeMarksModel", "records", "()V"⟩, 16), (⟨"CakeMarksModel", "copies", "(II)V"⟩, 16), (⟨"CakeMarksModel", "isGuest", "(I)Z"⟩, 16), (⟨"CakeMarksModel", "total", "(I)I"⟩, 16), (⟨"CakeMarksModel", "spanValue", "(III)I"⟩, 16), (⟨"CakeMarksModel", "valueOf", "(II)I"⟩, 16), (⟨"CakeMarksModel", "reads", "()I"⟩, 16), (⟨"CakeMarksModel", "isDigit", "(II)Z"⟩, 16), (⟨"CakeMarksModel", "brings", "(IIZI)I"⟩, 16), (⟨"CakeMarksModel", "isMove", "(II)Z"⟩, 16)]
theorem lw_r2 : ∀ q ∈ lw_privs_2, lw_okq q := List.forall_mem_cons.mpr ⟨lw_p16, List.forall_mem_cons.mpr ⟨lw_p17, List.forall_mem_cons.mpr ⟨lw_p18, List.forall_mem_cons.mpr ⟨lw_p19, List.forall_mem_cons.mpr ⟨lw_p20, List.forall_mem_cons.mpr ⟨lw_p21, List.forall_mem_cons.mpr ⟨lw_p22, List.forall_mem_cons.mpr ⟨lw_p23, List.forall_mem_cons.mpr ⟨lw_p24, List.forall_mem_cons.mpr ⟨lw_p25, List.forall_mem_cons.mpr ⟨lw_p26, List.forall_mem_cons.mpr ⟨lw_p27, List.forall_mem_cons.mpr ⟨lw_p28, List.forall_mem_cons.mpr ⟨lw_p29, List.forall_mem_cons.mpr ⟨lw_p30, List.forall_mem_cons.mpr ⟨lw_p31, fun _ h => absurd h List.not_mem_nil⟩⟩⟩⟩⟩⟩⟩⟩⟩⟩⟩⟩⟩⟩⟩⟩
theorem lw_p32 : lw_okq (⟨"CakeMarksModel", "moves", "(II)I"⟩, 16) := ⟨⟨by decide +kernel, by decide +kernel⟩, List.mem_of_getElem? (i := 543) (by decide +kernel), List.mem_of_getElem? (i := 676) (by decide +kernel), List.mem_of_getElem? (i := 677) (by decide +kernel)⟩
theorem lw_p33 : lw_okq (⟨"CakeMarksModel", "caller", "(IIII)I"⟩, 16) := ⟨⟨by decide +kernel, by decide +kernel⟩, List.mem_of_getElem? (i := 543) (by decide +kernel), List.mem_of_getElem? (i := 680) (by decide +kernel), List.mem_of_getElem? (i := 681) (by decide +kernel)⟩
theorem lw_p34 : lw_okq (⟨"CakeMarksModel", "areGuests", "(II)Z"⟩, 16) := ⟨⟨by decide +kernel, by decide +kernel⟩, List.mem_of_getElem? (i := 543) (by decide +kernel), List.mem_of_getElem? (i := 688) (by decide +kernel), List.mem_of_getElem? (i := 689) (by decide +kernel)⟩
theorem lw_p35 : lw_okq (⟨"CakeMarksModel", "cutAt", "(III)I"⟩, 16) := ⟨⟨by decide +kernel, by decide +kernel⟩, List.mem_of_getElem? (i := 543) (by decide +kernel), List.mem_of_getElem? (i := 692) (by decide +kernel), List.mem_of_getElem? (i := 693) (by decide +kernel)⟩
theorem lw_p36 : lw_okq (⟨"CakeMarksModel", "envyOf", "(II)I"⟩, 16) := ⟨⟨by decide +kernel, by decide +kernel⟩, List.mem_of_getElem? (i := 543) (by decide +kernel), List.mem_of_getElem? (i := 700) (by decide +kernel), List.mem_of_getElem? (i := 701) (by decide +kernel)⟩
theorem lw_p37 : lw_okq (⟨"CakeMarksModel", "pieceValue", "(II)I"⟩, 16) := ⟨⟨by decide +kernel, by decide +kernel⟩, List.mem_of_getElem? (i := 543) (by decide +kernel), List.mem_of_getElem? (i := 704) (by decide +kernel), List.mem_of_getElem? (i := 705) (by decide +kernel)⟩
theorem lw_p38 : lw_okq (⟨"CakeMarksModel", "layRing", "()I"⟩, 16) := ⟨⟨by decide +kernel, by decide +kernel⟩, List.mem_of_getElem? (i := 543) (by decide +kernel), List.mem_of_getElem? (i := 712) (by decide +kernel), List.mem_of_getElem? (i := 713) (by decide +kernel)⟩
theorem lw_p39 : lw_okq (⟨"CakeMarksModel", "isRing", "(II)Z"⟩, 16) := ⟨⟨by decide +kernel, by decide +kernel⟩, List.mem_of_getElem? (i := 543) (by decide +kernel), List.mem_of_getElem? (i := 716) (by decide +kernel), List.mem_of_getElem? (i := 717) (by decide +kernel)⟩
theorem lw_p40 : lw_okq (⟨"CakeMarksModel", "onTable", "()I"⟩, 16) := ⟨⟨by decide +kernel, by decide +kernel⟩, List.mem_of_getElem? (i := 543) (by decide +kernel), List.mem_of_getElem? (i := 728) (by decide +kernel), List.mem_of_getElem? (i := 729) (by decide +kernel)⟩
theorem lw_p41 : lw_okq (⟨"CakeMarksModel", "envies", "(Z)I"⟩, 16) := ⟨⟨by decide +kernel, by decide +kernel⟩, List.mem_of_getElem? (i := 543) (by decide +kernel), List.mem_of_getElem? (i := 732) (by decide +kernel), List.mem_of_getElem? (i := 733) (by decide +kernel)⟩
theorem lw_p42 : lw_okq (⟨"CakeMarksModel", "served", "()I"⟩, 16) := ⟨⟨by decide +kernel, by decide +kernel⟩, List.mem_of_getElem? (i := 543) (by decide +kernel), List.mem_of_getElem? (i := 736) (by decide +kernel), List.mem_of_getElem? (i := 737) (by decide +kernel)⟩
theorem lw_p43 : lw_okq (⟨"CakeMarksModel", "crumbsOf", "(IZ)I"⟩, 16) := ⟨⟨by decide +kernel, by decide +kernel⟩, List.mem_of_getElem? (i := 543) (by decide +kernel), List.mem_of_getElem? (i := 744) (by decide +kernel), List.mem_of_getElem? (i := 745) (by decide +kernel)⟩
theorem lw_p44 : lw_okq (⟨"CakeMarksModel", "searches", "(Z)V"⟩, 16) := ⟨⟨by decide +kernel, by decide +kernel⟩, List.mem_of_getElem? (i := 543) (by decide +kernel), List.mem_of_getElem? (i := 778) (by decide +kernel), List.mem_of_getElem? (i := 779) (by decide +kernel)⟩
theorem lw_p45 : lw_okq (⟨"CakeMarksModel", "looksAt", "(Z)V"⟩, 16) := ⟨⟨by decide +kernel, by decide +kernel⟩, List.mem_of_getElem? (i := 543) (by decide +kernel), List.mem_of_getElem? (i := 782) (by decide +kernel), List.mem_of_getElem? (i := 783) (by decide +kernel)⟩
theorem lw_p46 : lw_okq (⟨"CakeMarksModel", "layGuests", "(I)Z"⟩, 16) := ⟨⟨by decide +kernel, by decide +kernel⟩, List.mem_of_getElem? (i := 543) (by decide +kernel), List.mem_of_getElem? (i := 786) (by decide +kernel), List.mem_of_getElem? (i := 787) (by decide +kernel)⟩
theorem lw_p47 : lw_okq (⟨"CakeMarksModel", "weighs", "()V"⟩, 16) := ⟨⟨by decide +kernel, by decide +kernel⟩, List.mem_of_getElem? (i := 543) (by decide +kernel), List.mem_of_getElem? (i := 790) (by decide +kernel), List.mem_of_getElem? (i := 791) (by decide +kernel)⟩
def lw_privs_3 : List (MethodName × Nat) := [(⟨"CakeMarksModel", "moves", "(II)I"⟩, 16), (⟨"CakeMarksModel", "caller", "(IIII)I"⟩, 16), (⟨"CakeMarksModel", "areGuests", "(II)Z"⟩, 16), (⟨"CakeMarksModel", "cutAt", "(III)I"⟩, 16), (⟨"CakeMarksModel", "envyOf", "(II)I"⟩, 16), (⟨"CakeMarksModel", "pieceValue", "(II)I"⟩, 16), (⟨"CakeMarksModel", "layRing", "()I"⟩, 16), (⟨"CakeMarksModel", "isRing", "(II)Z"⟩, 16), (⟨"CakeMarksModel", "onTable", "()I"⟩, 16), (⟨"CakeMarksModel", "envies", "(Z)I"⟩, 16), (⟨"CakeMarksModel", "served", "()I"⟩, 16), (⟨"CakeMarksModel", "crumbsOf", "(IZ)I"⟩, 16), (⟨"CakeMarksModel", "searches", "(Z)V"⟩, 16), (⟨"CakeMarksModel", "looksAt", "(Z)V"⟩, 16), (⟨"CakeMarksModel", "layGuests", "(I)Z"⟩, 16), (⟨"CakeMarksModel", "weighs", "()V"⟩, 16)]
theorem lw_r3 : ∀ q ∈ lw_privs_3, lw_okq q := List.forall_mem_cons.mpr ⟨lw_p32, List.forall_mem_cons.mpr ⟨lw_p33, List.forall_mem_cons.mpr ⟨lw_p34, List.forall_mem_cons.mpr ⟨lw_p35, List.forall_mem_cons.mpr ⟨lw_p36, List.forall_mem_cons.mpr ⟨lw_p37, List.forall_mem_cons.mpr ⟨lw_p38, List.forall_mem_cons.mpr ⟨lw_p39, List.forall_mem_cons.mpr ⟨lw_p40, List.forall_mem_cons.mpr ⟨lw_p41, List.forall_mem_cons.mpr ⟨lw_p42, List.forall_mem_cons.mpr ⟨lw_p43, List.forall_mem_cons.mpr ⟨lw_p44, List.forall_mem_cons.mpr ⟨lw_p45, List.forall_mem_cons.mpr ⟨lw_p46, List.forall_mem_cons.mpr ⟨lw_p47, fun _ h => absurd h List.not_mem_nil⟩⟩⟩⟩⟩⟩⟩⟩⟩⟩⟩⟩⟩⟩⟩⟩
theorem lw_p48 : lw_okq (⟨"CakeMarksModel", "isCalm", "()Z"⟩, 16) := ⟨⟨by decide +kernel, by decide +kernel⟩, List.mem_of_getElem? (i := 543) (by decide +kernel), List.mem_of_getElem? (i := 794) (by decide +kernel), List.mem_of_getElem? (i := 795) (by decide +kernel)⟩
def lw_privs_4 : List (MethodName × Nat) := [(⟨"CakeMarksModel", "isCalm", "()Z"⟩, 16)]
theorem lw_r4 : ∀ q ∈ lw_privs_4, lw_okq q := List.forall_mem_cons.mpr ⟨lw_p48, fun _ h => absurd h List.not_mem_nil⟩
def lw_privs : List (MethodName × Nat) := lw_privs_1 ++ (lw_privs_2 ++ (lw_privs_3 ++ (lw_privs_4)))
def lw_tbl : List Cond := k2_sels lw_privs ++ tables_1
theorem lw_privs_ok : ∀ q ∈ lw_privs, lw_okq q := by
  show ∀ q ∈ lw_privs_1 ++ (lw_privs_2 ++ (lw_privs_3 ++ (lw_privs_4))), lw_okq q
  exact List.forall_mem_append.mpr ⟨lw_r1, List.forall_mem_append.mpr ⟨lw_r2, List.forall_mem_append.mpr ⟨lw_r3, lw_r4⟩⟩⟩
end
section
/-! ===== BEGIN words of one list among another's, by their places ===== -/
theorem goodIn_r {big : List Cond} (ws : List Cond) (ps : List Nat) (hp : ws = ps.filterMap (fun i => big[i]?)) (h : ws.all goodWord = true) : GoodIn big ws := by
  intro w hw
  have h1 := List.all_eq_true.mp h w hw
  rw [hp] at hw
  obtain ⟨i, -, hi⟩ := List.mem_filterMap.mp hw
  have hm : w ∈ big := by first | exact List.mem_of_getElem? hi | exact List.getElem?_mem hi
  exact ⟨hm, good_of_word h1⟩
theorem goodIn_app {big a b : List Cond} (ha : GoodIn big a) (hb : GoodIn big b) : GoodIn big (a ++ b) := fun w h => (List.mem_append.mp h).elim (ha w) (hb w)
theorem goodIn_ca {big a b : List Cond} {c : Cond} (ha : GoodIn big (c :: a)) (hb : GoodIn big b) : GoodIn big (c :: (a ++ b)) := fun w h => (List.mem_cons.mp h).elim (fun e => ha w (List.mem_cons.mpr (Or.inl e))) (fun h => (List.mem_append.mp h).elim (fun h => ha w (List.mem_cons.mpr (Or.inr h))) (hb w))
theorem goodIn_sub {big ws : List Cond} (hm : ∀ w ∈ ws, w ∈ big) (h : ws.all goodWord = true) : GoodIn big ws := fun w hw => ⟨hm w hw, good_of_word (List.all_eq_true.mp h w hw)⟩
/-! ===== END ===== -/


/-! ===== BEGIN printed: names, fields, word lists, decode rows ===== -/
def RX0 : String := "CakeMarks$Cake"
def TX0 : u_T := fun k => match k with
  | 0 => ("CakeMarks$Cake", "guests", "I", false)
  | 1 => ("CakeMarks$Cake", "owner", "[I", true)
  | _ => ("CakeMarks$Cake", "values", "[[I", true)
def tyX0 : Nat → FieldType := fun k => match k with
  | 0 => .int
  | 1 => .array .int
  | _ => .array (.array .int)
abbrev wsX00 : List Cond := u_ws RX0 TX0 3
theorem nmX0 : ∀ a, a < 3 → ∀ b, b < 3 → a ≠ b → (TX0 a).2.1 ≠ (TX0 b).2.1 := by decide +kernel
theorem tyX0_ok : ∀ k, k < 3 → parseFieldDescriptor (TX0 k).2.2.1 = some (tyX0 k) := by decide +kernel
abbrev cX0_init : ByteArray := prog_2_method_1_code
def yX0_init : MethodName := ⟨RX0, "<init>", "()V"⟩
abbrev cX0_become : ByteArray := prog_2_method_2_code
def yX0_become : MethodName := ⟨RX0, "become", "(LCakeMarks$Cake;)V"⟩
abbrev cX0_takeOwners : ByteArray := prog_2_method_3_code
def yX0_takeOwners : MethodName := ⟨RX0, "takeOwners", "([I)V"⟩
abbrev cX0_takeValues : ByteArray := prog_2_method_4_code
def yX0_takeValues : MethodName := ⟨RX0, "takeValues", "(I[I)V"⟩
abbrev cX0_isGuest : ByteArray := prog_2_method_5_code
def yX0_isGuest : MethodName := ⟨RX0, "isGuest", "(I)Z"⟩
abbrev cX0_seatGuest : ByteArray := prog_2_method_6_code
def yX0_seatGuest : MethodName := ⟨RX0, "seatGuest", "()I"⟩
abbrev cX0_setValues : ByteArray := prog_2_method_7_code
def yX0_setValues : MethodName := ⟨RX0, "setValues", "(IIII)V"⟩
abbrev cX0_total : ByteArray := prog_2_method_8_code
def yX0_total : MethodName := ⟨RX0, "total", "(I)I"⟩
abbrev cX0_spanWorth : ByteArray := prog_2_method_9_code
def yX0_spanWorth : MethodName := ⟨RX0, "spanWorth", "(III)I"⟩
abbrev cX0_worth : ByteArray := prog_2_method_10_code
def yX0_worth : MethodName := ⟨RX0, "worth", "(II)I"⟩
abbrev cX0_worthWithin : ByteArray := prog_2_method_11_code
def yX0_worthWithin : MethodName := ⟨RX0, "worthWithin", "(IIII)I"⟩
abbrev cX0_crumbsOf : ByteArray := prog_2_method_12_code
def yX0_crumbsOf : MethodName := ⟨RX0, "crumbsOf", "(I)I"⟩
abbrev cX0_spansOf : ByteArray := prog_2_method_13_code
def yX0_spansOf : MethodName := ⟨RX0, "spansOf", "(I)I"⟩
abbrev cX0_liesOnTable : ByteArray := prog_2_method_14_code
def yX0_liesOnTable : MethodName := ⟨RX0, "liesOnTable", "(II)Z"⟩
abbrev cX0_handOut : ByteArray := prog_2_method_15_code
def yX0_handOut : MethodName := ⟨RX0, "handOut", "(III)I"⟩
abbrev cX0_takeBack : ByteArray := prog_2_method_16_code
def yX0_takeBack : MethodName := ⟨RX0, "takeBack", "(II)I"⟩
abbrev cX0_findCut : ByteArray := prog_2_method_17_code
def yX0_findCut : MethodName := ⟨RX0, "findCut", "(III)I"⟩
abbrev cX0_trimPiece : ByteArray := prog_2_method_18_code
def yX0_trimPiece : MethodName := ⟨RX0, "trimPiece", "(II)I"⟩
abbrev cX0_passPieces : ByteArray := prog_2_method_19_code
def yX0_passPieces : MethodName := ⟨RX0, "passPieces", "(LCakeMarks$Row;)V"⟩
abbrev cX0_envyOf : ByteArray := prog_2_method_20_code
def yX0_envyOf : MethodName := ⟨RX0, "envyOf", "(II)I"⟩
abbrev cX0_arrows : ByteArray := prog_2_method_21_code
def yX0_arrows : MethodName := ⟨RX0, "arrows", "()I"⟩
abbrev cX0_allEnvies : ByteArray := prog_2_method_22_code
def yX0_allEnvies : MethodName := ⟨RX0, "allEnvies", "()I"⟩
abbrev cX0_contentGuests : ByteArray := prog_2_method_23_code
def yX0_contentGuests : MethodName := ⟨RX0, "contentGuests", "()I"⟩
def RX1 : String := "CakeMarks$Divisions"
def TX1 : u_T := fun k => match k with
  | 0 => ("CakeMarks$Divisions", "fairPart", "I", false)
  | 1 => ("CakeMarks$Divisions", "fairTotal", "I", false)
  | 2 => ("CakeMarks$Divisions", "fairGuest", "I", false)
  | 3 => ("CakeMarks$Divisions", "fairStart", "[I", true)
  | 4 => ("CakeMarks$Divisions", "quietCount", "I", false)
  | 5 => ("CakeMarks$Divisions", "quietGuest", "I", false)
  | 6 => ("CakeMarks$Divisions", "quietCut", "I", false)
  | 7 => ("CakeMarks$Divisions", "spans", "I", false)
  | 8 => ("CakeMarks$Divisions", "order", "LCakeMarks$Row;", true)
  | 9 => ("CakeMarks$Divisions", "start", "[I", true)
  | 10 => ("CakeMarks$Divisions", "totals", "[I", true)
  | 11 => ("CakeMarks$Divisions", "ahead", "[[I", true)
  | 12 => ("CakeMarks$Divisions", "parts", "[[I", true)
  | _ => ("CakeMarks$Divisions", "greatest", "[I", true)
def tyX1 : Nat → FieldType := fun k => match k with
  | 0 => .int
  | 1 => .int
  | 2 => .int
  | 3 => .array .int
  | 4 => .int
  | 5 => .int
  | 6 => .int
  | 7 => .int
  | 8 => .object "CakeMarks$Row"
  | 9 => .array .int
  | 10 => .array .int
  | 11 => .array (.array .int)
  | 12 => .array (.array .int)
  | _ => .array .int
abbrev wsX10 : List Cond := u_ws RX1 TX1 14
theorem nmX1 : ∀ a, a < 14 → ∀ b, b < 14 → a ≠ b → (TX1 a).2.1 ≠ (TX1 b).2.1 := by decide +kernel
theorem tyX1_ok : ∀ k, k < 14 → parseFieldDescriptor (TX1 k).2.2.1 = some (tyX1 k) := by decide +kernel
abbrev cX1_init : ByteArray := prog_3_method_1_code
def yX1_init : MethodName := ⟨RX1, "<init>", "()V"⟩
abbrev cX1_search : ByteArray := prog_3_method_2_code
def yX1_search : MethodName := ⟨RX1, "search", "(LCakeMarks$Cake;)V"⟩
abbrev cX1_prepare : ByteArray := prog_3_method_3_code
def yX1_prepare : MethodName := ⟨RX1, "prepare", "(LCakeMarks$Cake;)V"⟩
abbrev cX1_nextCuts : ByteArray := prog_3_method_4_code
def yX1_nextCuts : MethodName := ⟨RX1, "nextCuts", "()Z"⟩
abbrev cX1_measureSpans : ByteArray := prog_3_method_5_code
def yX1_measureSpans : MethodName := ⟨RX1, "measureSpans", "()V"⟩
abbrev cX1_seekFair : ByteArray := prog_3_method_6_code
def yX1_seekFair : MethodName := ⟨RX1, "seekFair", "()V"⟩
abbrev cX1_firstPoor : ByteArray := prog_3_method_7_code
def yX1_firstPoor : MethodName := ⟨RX1, "firstPoor", "()I"⟩
abbrev cX1_keepFair : ByteArray := prog_3_method_8_code
def yX1_keepFair : MethodName := ⟨RX1, "keepFair", "()V"⟩
abbrev cX1_seekQuiet : ByteArray := prog_3_method_9_code
def yX1_seekQuiet : MethodName := ⟨RX1, "seekQuiet", "()V"⟩
abbrev cX1_firstEnvious : ByteArray := prog_3_method_10_code
def yX1_firstEnvious : MethodName := ⟨RX1, "firstEnvious", "()I"⟩
abbrev cX1_countQuiet : ByteArray := prog_3_method_11_code
def yX1_countQuiet : MethodName := ⟨RX1, "countQuiet", "()V"⟩
def RX2 : String := "CakeMarks$Mark"
def TX2 : u_T := fun k => match k with
  | _ => ("CakeMarks$Mark", "owner", "[I", true)
def tyX2 : Nat → FieldType := fun k => match k with
  | _ => .array .int
abbrev wsX20 : List Cond := u_ws RX2 TX2 1
theorem nmX2 : ∀ a, a < 1 → ∀ b, b < 1 → a ≠ b → (TX2 a).2.1 ≠ (TX2 b).2.1 := by decide +kernel
theorem tyX2_ok : ∀ k, k < 1 → parseFieldDescriptor (TX2 k).2.2.1 = some (tyX2 k) := by decide +kernel
abbrev cX2_init : ByteArray := prog_4_method_1_code
def yX2_init : MethodName := ⟨RX2, "<init>", "()V"⟩
abbrev cX2_pass : ByteArray := prog_4_method_2_code
def yX2_pass : MethodName := ⟨RX2, "pass", "(LCakeMarks$Cake;II)I"⟩
abbrev cX2_firstCaller : ByteArray := prog_4_method_3_code
def yX2_firstCaller : MethodName := ⟨RX2, "firstCaller", "(LCakeMarks$Cake;IIII)I"⟩
abbrev cX2_giveTo : ByteArray := prog_4_method_4_code
def yX2_giveTo : MethodName := ⟨RX2, "giveTo", "(III)V"⟩
def RX3 : String := "CakeMarks$Rings"
def TX3 : u_T := fun k => match k with
  | 0 => ("CakeMarks$Rings", "row", "LCakeMarks$Row;", true)
  | _ => ("CakeMarks$Rings", "envied", "[I", true)
def tyX3 : Nat → FieldType := fun k => match k with
  | 0 => .object "CakeMarks$Row"
  | _ => .array .int
abbrev wsX30 : List Cond := u_ws RX3 TX3 2
theorem nmX3 : ∀ a, a < 2 → ∀ b, b < 2 → a ≠ b → (TX3 a).2.1 ≠ (TX3 b).2.1 := by decide +kernel
theorem tyX3_ok : ∀ k, k < 2 → parseFieldDescriptor (TX3 k).2.2.1 = some (tyX3 k) := by decide +kernel
abbrev cX3_init : ByteArray := prog_5_method_1_code
def yX3_init : MethodName := ⟨RX3, "<init>", "()V"⟩
abbrev cX3_find : ByteArray := prog_5_method_2_code
def yX3_find : MethodName := ⟨RX3, "find", "(LCakeMarks$Cake;)I"⟩
abbrev cX3_drawArrows : ByteArray := prog_5_method_3_code
def yX3_drawArrows : MethodName := ⟨RX3, "drawArrows", "(LCakeMarks$Cake;)V"⟩
abbrev cX3_isRing : ByteArray := prog_5_method_4_code
def yX3_isRing : MethodName := ⟨RX3, "isRing", "()Z"⟩
def RX4 : String := "CakeMarks$Row"
def TX4 : u_T := fun k => match k with
  | 0 => ("CakeMarks$Row", "at", "[I", true)
  | 1 => ("CakeMarks$Row", "size", "I", false)
  | _ => ("CakeMarks$Row", "guests", "I", false)
def tyX4 : Nat → FieldType := fun k => match k with
  | 0 => .array .int
  | 1 => .int
  | _ => .int
abbrev wsX40 : List Cond := u_ws RX4 TX4 3
theorem nmX4 : ∀ a, a < 3 → ∀ b, b < 3 → a ≠ b → (TX4 a).2.1 ≠ (TX4 b).2.1 := by decide +kernel
theorem tyX4_ok : ∀ k, k < 3 → parseFieldDescriptor (TX4 k).2.2.1 = some (tyX4 k) := by decide +kernel
abbrev cX4_init : ByteArray := prog_6_method_1_code
def yX4_init : MethodName := ⟨RX4, "<init>", "()V"⟩
abbrev cX4_begin : ByteArray := prog_6_method_2_code
def yX4_begin : MethodName := ⟨RX4, "begin", "(II)V"⟩
abbrev cX4_advance : ByteArray := prog_6_method_3_code
def yX4_advance : MethodName := ⟨RX4, "advance", "(I)Z"⟩
abbrev cX4_placeOf : ByteArray := prog_6_method_4_code
def yX4_placeOf : MethodName := ⟨RX4, "placeOf", "(I)I"⟩
abbrev cX4_fill : ByteArray := prog_6_method_5_code
def yX4_fill : MethodName := ⟨RX4, "fill", "(I)V"⟩
abbrev cX4_firstFree : ByteArray := prog_6_method_6_code
def yX4_firstFree : MethodName := ⟨RX4, "firstFree", "(II)I"⟩
def RX5 : String := "CakeMarks$ValueText"
def TX5 : u_T := fun k => match k with
  | 0 => ("CakeMarks$ValueText", "length", "I", false)
  | 1 => ("CakeMarks$ValueText", "signs", "[I", true)
  | 2 => ("CakeMarks$ValueText", "values", "[I", true)
  | 3 => ("CakeMarks$ValueText", "told", "I", false)
  | _ => ("CakeMarks$ValueText", "place", "I", false)
def tyX5 : Nat → FieldType := fun k => match k with
  | 0 => .int
  | 1 => .array .int
  | 2 => .array .int
  | 3 => .int
  | _ => .int
abbrev wsX50 : List Cond := u_ws RX5 TX5 5
theorem nmX5 : ∀ a, a < 5 → ∀ b, b < 5 → a ≠ b → (TX5 a).2.1 ≠ (TX5 b).2.1 := by decide +kernel
theorem tyX5_ok : ∀ k, k < 5 → parseFieldDescriptor (TX5 k).2.2.1 = some (tyX5 k) := by decide +kernel
abbrev cX5_init : ByteArray := prog_7_method_1_code
def yX5_init : MethodName := ⟨RX5, "<init>", "()V"⟩
abbrev cX5_put : ByteArray := prog_7_method_2_code
def yX5_put : MethodName := ⟨RX5, "put", "(I)I"⟩
abbrev cX5_findFailure : ByteArray := prog_7_method_3_code
def yX5_findFailure : MethodName := ⟨RX5, "findFailure", "()I"⟩
abbrev cX5_readPart : ByteArray := prog_7_method_4_code
def yX5_readPart : MethodName := ⟨RX5, "readPart", "()I"⟩
abbrev cX5_readTimes : ByteArray := prog_7_method_5_code
def yX5_readTimes : MethodName := ⟨RX5, "readTimes", "(I)I"⟩
abbrev cX5_isDigit : ByteArray := prog_7_method_6_code
def yX5_isDigit : MethodName := ⟨RX5, "isDigit", "(I)Z"⟩
def RX6 : String := "CakeMarks"
def TX6 : u_T := fun k => match k with
  | 0 => ("CakeMarks", "cake", "LCakeMarks$Cake;", true)
  | 1 => ("CakeMarks", "history", "[LCakeMarks$Cake;", true)
  | 2 => ("CakeMarks", "states", "I", false)
  | 3 => ("CakeMarks", "text", "LCakeMarks$ValueText;", true)
  | 4 => ("CakeMarks", "mark", "LCakeMarks$Mark;", true)
  | 5 => ("CakeMarks", "rings", "LCakeMarks$Rings;", true)
  | 6 => ("CakeMarks", "divisions", "LCakeMarks$Divisions;", true)
  | _ => ("CakeMarks", "searched", "Z", false)
def tyX6 : Nat → FieldType := fun k => match k with
  | 0 => .object "CakeMarks$Cake"
  | 1 => .array (.object "CakeMarks$Cake")
  | 2 => .int
  | 3 => .object "CakeMarks$ValueText"
  | 4 => .object "CakeMarks$Mark"
  | 5 => .object "CakeMarks$Rings"
  | 6 => .object "CakeMarks$Divisions"
  | _ => .boolean
abbrev wsX60 : List Cond := u_ws RX6 TX6 8
theorem nmX6 : ∀ a, a < 8 → ∀ b, b < 8 → a ≠ b → (TX6 a).2.1 ≠ (TX6 b).2.1 := by decide +kernel
theorem tyX6_ok : ∀ k, k < 8 → parseFieldDescriptor (TX6 k).2.2.1 = some (tyX6 k) := by decide +kernel
abbrev cX6_init : ByteArray := prog_1_method_1_code
def yX6_init : MethodName := ⟨RX6, "<init>", "()V"⟩
abbrev cX6_addGuest : ByteArray := prog_1_method_2_code
def yX6_addGuest : MethodName := ⟨RX6, "addGuest", "()I"⟩
abbrev cX6_setValue : ByteArray := prog_1_method_3_code
def yX6_setValue : MethodName := ⟨RX6, "setValue", "(IIII)I"⟩
abbrev cX6_append : ByteArray := prog_1_method_4_code
def yX6_append : MethodName := ⟨RX6, "append", "(I)I"⟩
abbrev cX6_clearText : ByteArray := prog_1_method_5_code
def yX6_clearText : MethodName := ⟨RX6, "clearText", "()I"⟩
abbrev cX6_read : ByteArray := prog_1_method_6_code
def yX6_read : MethodName := ⟨RX6, "read", "(I)I"⟩
abbrev cX6_give : ByteArray := prog_1_method_7_code
def yX6_give : MethodName := ⟨RX6, "give", "(III)I"⟩
abbrev cX6_putBack : ByteArray := prog_1_method_8_code
def yX6_putBack : MethodName := ⟨RX6, "putBack", "(II)I"⟩
abbrev cX6_move : ByteArray := prog_1_method_9_code
def yX6_move : MethodName := ⟨RX6, "move", "(II)I"⟩
abbrev cX6_cut : ByteArray := prog_1_method_10_code
def yX6_cut : MethodName := ⟨RX6, "cut", "(IIII)I"⟩
abbrev cX6_trim : ByteArray := prog_1_method_11_code
def yX6_trim : MethodName := ⟨RX6, "trim", "(II)I"⟩
abbrev cX6_exchange : ByteArray := prog_1_method_12_code
def yX6_exchange : MethodName := ⟨RX6, "exchange", "()I"⟩
abbrev cX6_undo : ByteArray := prog_1_method_13_code
def yX6_undo : MethodName := ⟨RX6, "undo", "()I"⟩
abbrev cX6_count : ByteArray := prog_1_method_14_code
def yX6_count : MethodName := ⟨RX6, "count", "(I)I"⟩
abbrev cX6_guest : ByteArray := prog_1_method_15_code
def yX6_guest : MethodName := ⟨RX6, "guest", "(II)I"⟩
abbrev cX6_crumb : ByteArray := prog_1_method_16_code
def yX6_crumb : MethodName := ⟨RX6, "crumb", "(I)I"⟩
abbrev cX6_value : ByteArray := prog_1_method_17_code
def yX6_value : MethodName := ⟨RX6, "value", "(II)I"⟩
abbrev cX6_envy : ByteArray := prog_1_method_18_code
def yX6_envy : MethodName := ⟨RX6, "envy", "(II)I"⟩
abbrev cX6_ring : ByteArray := prog_1_method_19_code
def yX6_ring : MethodName := ⟨RX6, "ring", "(I)I"⟩
abbrev cX6_middle : ByteArray := prog_1_method_20_code
def yX6_middle : MethodName := ⟨RX6, "middle", "(I)I"⟩
abbrev cX6_best : ByteArray := prog_1_method_21_code
def yX6_best : MethodName := ⟨RX6, "best", "(I)I"⟩
abbrev cX6_calm : ByteArray := prog_1_method_22_code
def yX6_calm : MethodName := ⟨RX6, "calm", "(I)I"⟩
abbrev cX6_calls : ByteArray := prog_1_method_23_code
def yX6_calls : MethodName := ⟨RX6, "calls", "(II)I"⟩
abbrev cX6_record : ByteArray := prog_1_method_24_code
def yX6_record : MethodName := ⟨RX6, "record", "()V"⟩
abbrev cX6_dropOldest : ByteArray := prog_1_method_25_code
def yX6_dropOldest : MethodName := ⟨RX6, "dropOldest", "()V"⟩
abbrev cX6_searchOnce : ByteArray := prog_1_method_26_code
def yX6_searchOnce : MethodName := ⟨RX6, "searchOnce", "()V"⟩
abbrev cX6_isSpan : ByteArray := prog_1_method_27_code
def yX6_isSpan : MethodName := ⟨RX6, "isSpan", "(II)Z"⟩
abbrev cX6_isPair : ByteArray := prog_1_method_28_code
def yX6_isPair : MethodName := ⟨RX6, "isPair", "(II)Z"⟩
abbrev cX6_isMove : ByteArray := prog_1_method_29_code
def yX6_isMove : MethodName := ⟨RX6, "isMove", "(II)Z"⟩
abbrev cX6_lowestNumerator : ByteArray := prog_1_method_30_code
def yX6_lowestNumerator : MethodName := ⟨RX6, "lowestNumerator", "(II)I"⟩
abbrev cX6_lowestDenominator : ByteArray := prog_1_method_31_code
def yX6_lowestDenominator : MethodName := ⟨RX6, "lowestDenominator", "(II)I"⟩
abbrev cX6_commonDivisor : ByteArray := prog_1_method_32_code
def yX6_commonDivisor : MethodName := ⟨RX6, "commonDivisor", "(II)I"⟩
def RX7 : String := "CakeMarksModel"
def TX7 : u_T := fun k => match k with
  | 0 => ("CakeMarksModel", "row", "[I", true)
  | 1 => ("CakeMarksModel", "kept", "I", false)
  | 2 => ("CakeMarksModel", "text", "[I", true)
  | 3 => ("CakeMarksModel", "length", "I", false)
  | 4 => ("CakeMarksModel", "told", "[I", true)
  | 5 => ("CakeMarksModel", "fail", "I", false)
  | 6 => ("CakeMarksModel", "ring", "[I", true)
  | 7 => ("CakeMarksModel", "first", "[I", true)
  | 8 => ("CakeMarksModel", "who", "[I", true)
  | 9 => ("CakeMarksModel", "bestFirst", "[I", true)
  | 10 => ("CakeMarksModel", "bestWho", "I", false)
  | 11 => ("CakeMarksModel", "bestUp", "I", false)
  | 12 => ("CakeMarksModel", "bestDown", "I", false)
  | 13 => ("CakeMarksModel", "calmMany", "I", false)
  | 14 => ("CakeMarksModel", "calmWho", "I", false)
  | _ => ("CakeMarksModel", "calmFirst", "I", false)
def tyX7 : Nat → FieldType := fun k => match k with
  | 0 => .array .int
  | 1 => .int
  | 2 => .array .int
  | 3 => .int
  | 4 => .array .int
  | 5 => .int
  | 6 => .array .int
  | 7 => .array .int
  | 8 => .array .int
  | 9 => .array .int
  | 10 => .int
  | 11 => .int
  | 12 => .int
  | 13 => .int
  | 14 => .int
  | _ => .int
abbrev wsX70 : List Cond := u_ws RX7 TX7 16
theorem nmX7 : ∀ a, a < 16 → ∀ b, b < 16 → a ≠ b → (TX7 a).2.1 ≠ (TX7 b).2.1 := by decide +kernel
theorem tyX7_ok : ∀ k, k < 16 → parseFieldDescriptor (TX7 k).2.2.1 = some (tyX7 k) := by decide +kernel
abbrev cX7_init : ByteArray := prog_9_method_1_code
def yX7_init : MethodName := ⟨RX7, "<init>", "()V"⟩
abbrev cX7_in : ByteArray := prog_9_method_2_code
def yX7_in : MethodName := ⟨RX7, "in", "(III)Z"⟩
abbrev cX7_copies : ByteArray := prog_9_method_3_code
def yX7_copies : MethodName := ⟨RX7, "copies", "(II)V"⟩
abbrev cX7_records : ByteArray := prog_9_method_4_code
def yX7_records : MethodName := ⟨RX7, "records", "()V"⟩
abbrev cX7_isGuest : ByteArray := prog_9_method_5_code
def yX7_isGuest : MethodName := ⟨RX7, "isGuest", "(I)Z"⟩
abbrev cX7_areGuests : ByteArray := prog_9_method_6_code
def yX7_areGuests : MethodName := ⟨RX7, "areGuests", "(II)Z"⟩
abbrev cX7_isSpan : ByteArray := prog_9_method_7_code
def yX7_isSpan : MethodName := ⟨RX7, "isSpan", "(II)Z"⟩
abbrev cX7_valueOf : ByteArray := prog_9_method_8_code
def yX7_valueOf : MethodName := ⟨RX7, "valueOf", "(II)I"⟩
abbrev cX7_spanValue : ByteArray := prog_9_method_9_code
def yX7_spanValue : MethodName := ⟨RX7, "spanValue", "(III)I"⟩
abbrev cX7_total : ByteArray := prog_9_method_10_code
def yX7_total : MethodName := ⟨RX7, "total", "(I)I"⟩
abbrev cX7_pieceValue : ByteArray := prog_9_method_11_code
def yX7_pieceValue : MethodName := ⟨RX7, "pieceValue", "(II)I"⟩
abbrev cX7_envyOf : ByteArray := prog_9_method_12_code
def yX7_envyOf : MethodName := ⟨RX7, "envyOf", "(II)I"⟩
abbrev cX7_addGuest : ByteArray := prog_9_method_13_code
def yX7_addGuest : MethodName := ⟨RX7, "addGuest", "()I"⟩
abbrev cX7_setValue : ByteArray := prog_9_method_14_code
def yX7_setValue : MethodName := ⟨RX7, "setValue", "(IIII)I"⟩
abbrev cX7_append : ByteArray := prog_9_method_15_code
def yX7_append : MethodName := ⟨RX7, "append", "(I)I"⟩
abbrev cX7_clearText : ByteArray := prog_9_method_16_code
def yX7_clearText : MethodName := ⟨RX7, "clearText", "()I"⟩
abbrev cX7_isDigit : ByteArray := prog_9_method_17_code
def yX7_isDigit : MethodName := ⟨RX7, "isDigit", "(II)Z"⟩
abbrev cX7_reads : ByteArray := prog_9_method_18_code
def yX7_reads : MethodName := ⟨RX7, "reads", "()I"⟩
abbrev cX7_read : ByteArray := prog_9_method_19_code
def yX7_read : MethodName := ⟨RX7, "read", "(I)I"⟩
abbrev cX7_brings : ByteArray := prog_9_method_20_code
def yX7_brings : MethodName := ⟨RX7, "brings", "(IIZI)I"⟩
abbrev cX7_give : ByteArray := prog_9_method_21_code
def yX7_give : MethodName := ⟨RX7, "give", "(III)I"⟩
abbrev cX7_putBack : ByteArray := prog_9_method_22_code
def yX7_putBack : MethodName := ⟨RX7, "putBack", "(II)I"⟩
abbrev cX7_isMove : ByteArray := prog_9_method_23_code
def yX7_isMove : MethodName := ⟨RX7, "isMove", "(II)Z"⟩
abbrev cX7_caller : ByteArray := prog_9_method_24_code
def yX7_caller : MethodName := ⟨RX7, "caller", "(IIII)I"⟩
abbrev cX7_moves : ByteArray := prog_9_method_25_code
def yX7_moves : MethodName := ⟨RX7, "moves", "(II)I"⟩
abbrev cX7_move : ByteArray := prog_9_method_26_code
def yX7_move : MethodName := ⟨RX7, "move", "(II)I"⟩
abbrev cX7_cutAt : ByteArray := prog_9_method_27_code
def yX7_cutAt : MethodName := ⟨RX7, "cutAt", "(III)I"⟩
abbrev cX7_cut : ByteArray := prog_9_method_28_code
def yX7_cut : MethodName := ⟨RX7, "cut", "(IIII)I"⟩
abbrev cX7_trim : ByteArray := prog_9_method_29_code
def yX7_trim : MethodName := ⟨RX7, "trim", "(II)I"⟩
abbrev cX7_isRing : ByteArray := prog_9_method_30_code
def yX7_isRing : MethodName := ⟨RX7, "isRing", "(II)Z"⟩
abbrev cX7_layRing : ByteArray := prog_9_method_31_code
def yX7_layRing : MethodName := ⟨RX7, "layRing", "()I"⟩
abbrev cX7_exchange : ByteArray := prog_9_method_32_code
def yX7_exchange : MethodName := ⟨RX7, "exchange", "()I"⟩
abbrev cX7_undo : ByteArray := prog_9_method_33_code
def yX7_undo : MethodName := ⟨RX7, "undo", "()I"⟩
abbrev cX7_onTable : ByteArray := prog_9_method_34_code
def yX7_onTable : MethodName := ⟨RX7, "onTable", "()I"⟩
abbrev cX7_envies : ByteArray := prog_9_method_35_code
def yX7_envies : MethodName := ⟨RX7, "envies", "(Z)I"⟩
abbrev cX7_served : ByteArray := prog_9_method_36_code
def yX7_served : MethodName := ⟨RX7, "served", "()I"⟩
abbrev cX7_count : ByteArray := prog_9_method_37_code
def yX7_count : MethodName := ⟨RX7, "count", "(I)I"⟩
abbrev cX7_divisor : ByteArray := prog_9_method_38_code
def yX7_divisor : MethodName := ⟨RX7, "divisor", "(II)I"⟩
abbrev cX7_part : ByteArray := prog_9_method_39_code
def yX7_part : MethodName := ⟨RX7, "part", "(IIZ)I"⟩
abbrev cX7_crumbsOf : ByteArray := prog_9_method_40_code
def yX7_crumbsOf : MethodName := ⟨RX7, "crumbsOf", "(IZ)I"⟩
abbrev cX7_guest : ByteArray := prog_9_method_41_code
def yX7_guest : MethodName := ⟨RX7, "guest", "(II)I"⟩
abbrev cX7_crumb : ByteArray := prog_9_method_42_code
def yX7_crumb : MethodName := ⟨RX7, "crumb", "(I)I"⟩
abbrev cX7_value : ByteArray := prog_9_method_43_code
def yX7_value : MethodName := ⟨RX7, "value", "(II)I"⟩
abbrev cX7_envy : ByteArray := prog_9_method_44_code
def yX7_envy : MethodName := ⟨RX7, "envy", "(II)I"⟩
abbrev cX7_ring : ByteArray := prog_9_method_45_code
def yX7_ring : MethodName := ⟨RX7, "ring", "(I)I"⟩
abbrev cX7_middle : ByteArray := prog_9_method_46_code
def yX7_middle : MethodName := ⟨RX7, "middle", "(I)I"⟩
abbrev cX7_layGuests : ByteArray := prog_9_method_47_code
def yX7_layGuests : MethodName := ⟨RX7, "layGuests", "(I)Z"⟩
abbrev cX7_weighs : ByteArray := prog_9_method_48_code
def yX7_weighs : MethodName := ⟨RX7, "weighs", "()V"⟩
abbrev cX7_isCalm : ByteArray := prog_9_method_49_code
def yX7_isCalm : MethodName := ⟨RX7, "isCalm", "()Z"⟩
abbrev cX7_looksAt : ByteArray := prog_9_method_50_code
def yX7_looksAt : MethodName := ⟨RX7, "looksAt", "(Z)V"⟩
abbrev cX7_searches : ByteArray := prog_9_method_51_code
def yX7_searches : MethodName := ⟨RX7, "searches", "(Z)V"⟩
abbrev cX7_best : ByteArray := prog_9_method_52_code
def yX7_best : MethodName := ⟨RX7, "best", "(I)I"⟩
abbrev cX7_calm : ByteArray := prog_9_method_53_code
def yX7_calm : MethodName := ⟨RX7, "calm", "(I)I"⟩
abbrev cX7_calls : ByteArray := prog_9_method_54_code
def yX7_calls : MethodName := ⟨RX7, "calls", "(II)I"⟩
def RJ9 : String := "java/lang/Math"
def TJ9 : u_T := fun k => match k with
  | _ => ("", "", "", false)
def tyJ9 : Nat → FieldType := fun k => match k with
  | _ => .int
abbrev wsJ90 : List Cond := u_ws RJ9 TJ9 0
theorem nmJ9 : ∀ a, a < 0 → ∀ b, b < 0 → a ≠ b → (TJ9 a).2.1 ≠ (TJ9 b).2.1 := by decide +kernel
theorem tyJ9_ok : ∀ k, k < 0 → parseFieldDescriptor (TJ9 k).2.2.1 = some (tyJ9 k) := by decide +kernel
abbrev cJ9_abs_0f7a4 : ByteArray := prog_10_method_59_code
def yJ9_abs_0f7a4 : MethodName := ⟨RJ9, "abs", "(I)I"⟩
abbrev cJ9_max_7cf53 : ByteArray := prog_10_method_65_code
def yJ9_max_7cf53 : MethodName := ⟨RJ9, "max", "(II)I"⟩
abbrev cJ9_min_7cf53 : ByteArray := prog_10_method_69_code
def yJ9_min_7cf53 : MethodName := ⟨RJ9, "min", "(II)I"⟩
def RJ10 : String := "java/lang/System"
def TJ10 : u_T := fun k => match k with
  | _ => ("", "", "", false)
def tyJ10 : Nat → FieldType := fun k => match k with
  | _ => .int
abbrev wsJ100 : List Cond := u_ws RJ10 TJ10 0
theorem nmJ10 : ∀ a, a < 0 → ∀ b, b < 0 → a ≠ b → (TJ10 a).2.1 ≠ (TJ10 b).2.1 := by decide +kernel
theorem tyJ10_ok : ∀ k, k < 0 → parseFieldDescriptor (TJ10 k).2.2.1 = some (tyJ10 k) := by decide +kernel
def RL : String := "CakeMarksLaw"
abbrev cL_law : ByteArray := code
def yL_law : MethodName := ⟨RL, "law", "([I)Z"⟩
def wsX0_init : List Cond := .code yX0_init cX0_init 2 none :: ([.methodLink RX0 3 objectInit, .instanceMethod objectInit, .code objectInit ⟨#[0xb1]⟩ 1 none, .fieldLink RX0 9 "CakeMarks$Cake" "guests" "I", .arrayClass .int, .fieldLink RX0 15 "CakeMarks$Cake" "owner" "[I", .classLink RX0 19 "[[I", .fieldLink RX0 21 "CakeMarks$Cake" "values" "[[I"] ++ wsX00)
def wsX0_takeOwners : List Cond := .code yX0_takeOwners cX0_takeOwners 2 none :: ([.fieldLink RX0 15 "CakeMarks$Cake" "owner" "[I", .methodLink RX0 32 arraycopyName, .native arraycopyName, .static arraycopyName, .initialized "java/lang/System"] ++ wsX00)
def wsX0_takeValues : List Cond := .code yX0_takeValues cX0_takeValues 3 none :: ([.fieldLink RX0 21 "CakeMarks$Cake" "values" "[[I", .methodLink RX0 32 arraycopyName, .native arraycopyName, .static arraycopyName, .initialized "java/lang/System"] ++ wsX00)
def wsX0_become : List Cond := .code yX0_become cX0_become 3 none :: ([.fieldLink RX0 9 "CakeMarks$Cake" "guests" "I", .fieldLink RX0 15 "CakeMarks$Cake" "owner" "[I", .fieldLink RX0 21 "CakeMarks$Cake" "values" "[[I", .methodLink RX0 24 yX0_takeOwners, .instanceMethod yX0_takeOwners, .selects RX0 yX0_takeOwners yX0_takeOwners, .initialized RX0, .code yX0_takeOwners cX0_takeOwners 2 none, .methodLink RX0 32 arraycopyName, .native arraycopyName, .static arraycopyName, .initialized "java/lang/System", .methodLink RX0 28 yX0_takeValues, .instanceMethod yX0_takeValues, .selects RX0 yX0_takeValues yX0_takeValues, .code yX0_takeValues cX0_takeValues 3 none] ++ wsX00)
def wsX0_isGuest : List Cond := .code yX0_isGuest cX0_isGuest 2 (some .boolean) :: ([.fieldLink RX0 9 "CakeMarks$Cake" "guests" "I"] ++ wsX00)
def wsX0_setValues : List Cond := .code yX0_setValues cX0_setValues 6 none :: ([.fieldLink RX0 21 "CakeMarks$Cake" "values" "[[I"] ++ wsX00)
def wsX0_seatGuest : List Cond := .code yX0_seatGuest cX0_seatGuest 2 (some .int) :: ([.fieldLink RX0 9 "CakeMarks$Cake" "guests" "I", .methodLink RX0 38 yX0_setValues, .instanceMethod yX0_setValues, .selects RX0 yX0_setValues yX0_setValues, .initialized RX0, .code yX0_setValues cX0_setValues 6 none, .fieldLink RX0 21 "CakeMarks$Cake" "values" "[[I"] ++ wsX00)
def wsX0_spanWorth : List Cond := .code yX0_spanWorth cX0_spanWorth 6 (some .int) :: ([.fieldLink RX0 21 "CakeMarks$Cake" "values" "[[I"] ++ wsX00)
def wsX0_total : List Cond := .code yX0_total cX0_total 2 (some .int) :: ([.methodLink RX0 42 yX0_spanWorth, .instanceMethod yX0_spanWorth, .selects RX0 yX0_spanWorth yX0_spanWorth, .initialized RX0, .code yX0_spanWorth cX0_spanWorth 6 (some .int), .fieldLink RX0 21 "CakeMarks$Cake" "values" "[[I"] ++ wsX00)
def wsX0_worthWithin : List Cond := .code yX0_worthWithin cX0_worthWithin 7 (some .int) :: ([.fieldLink RX0 15 "CakeMarks$Cake" "owner" "[I", .fieldLink RX0 21 "CakeMarks$Cake" "values" "[[I"] ++ wsX00)
def wsX0_worth : List Cond := .code yX0_worth cX0_worth 3 (some .int) :: ([.methodLink RX0 46 yX0_worthWithin, .instanceMethod yX0_worthWithin, .selects RX0 yX0_worthWithin yX0_worthWithin, .initialized RX0, .code yX0_worthWithin cX0_worthWithin 7 (some .int), .fieldLink RX0 15 "CakeMarks$Cake" "owner" "[I", .fieldLink RX0 21 "CakeMarks$Cake" "values" "[[I"] ++ wsX00)
def wsX0_crumbsOf : List Cond := .code yX0_crumbsOf cX0_crumbsOf 4 (some .int) :: ([.fieldLink RX0 15 "CakeMarks$Cake" "owner" "[I"] ++ wsX00)
def wsX0_spansOf : List Cond := .code yX0_spansOf cX0_spansOf 4 (some .int) :: ([.fieldLink RX0 15 "CakeMarks$Cake" "owner" "[I"] ++ wsX00)
def wsX0_liesOnTable : List Cond := .code yX0_liesOnTable cX0_liesOnTable 4 (some .boolean) :: ([.fieldLink RX0 15 "CakeMarks$Cake" "owner" "[I"] ++ wsX00)
def wsX0_handOut : List Cond := .code yX0_handOut cX0_handOut 6 (some .int) :: ([.fieldLink RX0 15 "CakeMarks$Cake" "owner" "[I"] ++ wsX00)
def wsX0_takeBack : List Cond := .code yX0_takeBack cX0_takeBack 5 (some .int) :: ([.fieldLink RX0 15 "CakeMarks$Cake" "owner" "[I"] ++ wsX00)
def wsX0_findCut : List Cond := .code yX0_findCut cX0_findCut 10 (some .int) :: ([.fieldLink RX0 21 "CakeMarks$Cake" "values" "[[I", .methodLink RX0 50 Lib.Math.abs.name, .static Lib.Math.abs.name, .initialized "java/lang/Math", .code Lib.Math.abs.name Lib.Math.abs.code 1 (some .int), .methodLink RX0 42 yX0_spanWorth, .instanceMethod yX0_spanWorth, .selects RX0 yX0_spanWorth yX0_spanWorth, .initialized RX0, .code yX0_spanWorth cX0_spanWorth 6 (some .int)] ++ wsX00)
def wsX0_trimPiece : List Cond := .code yX0_trimPiece cX0_trimPiece 7 (some .int) :: ([.fieldLink RX0 15 "CakeMarks$Cake" "owner" "[I", .fieldLink RX0 21 "CakeMarks$Cake" "values" "[[I", .methodLink RX0 56 yX0_worth, .instanceMethod yX0_worth, .selects RX0 yX0_worth yX0_worth, .initialized RX0, .code yX0_worth cX0_worth 3 (some .int), .methodLink RX0 46 yX0_worthWithin, .instanceMethod yX0_worthWithin, .selects RX0 yX0_worthWithin yX0_worthWithin, .code yX0_worthWithin cX0_worthWithin 7 (some .int)] ++ wsX00)
def wsX4_placeOf : List Cond := .code yX4_placeOf cX4_placeOf 3 (some .int) :: ([.fieldLink RX4 15 "CakeMarks$Row" "size" "I", .fieldLink RX4 9 "CakeMarks$Row" "at" "[I"] ++ wsX40)
def wsX0_passPieces : List Cond := .code yX0_passPieces cX0_passPieces 4 none :: ([.fieldLink RX0 15 "CakeMarks$Cake" "owner" "[I", .fieldLink RX0 65 "CakeMarks$Row" "size" "I", .fieldLink RX0 68 "CakeMarks$Row" "at" "[I", .methodLink RX0 60 yX4_placeOf, .instanceMethod yX4_placeOf, .selects RX4 yX4_placeOf yX4_placeOf, .initialized RX4, .code yX4_placeOf cX4_placeOf 3 (some .int), .fieldLink RX4 15 "CakeMarks$Row" "size" "I", .fieldLink RX4 9 "CakeMarks$Row" "at" "[I"] ++ wsX00 ++ wsX40)
def wsX0_envyOf : List Cond := .code yX0_envyOf cX0_envyOf 3 (some .int) :: ([.methodLink RX0 71 Lib.Math.max.name, .static Lib.Math.max.name, .initialized "java/lang/Math", .code Lib.Math.max.name Lib.Math.max.code 2 (some .int), .methodLink RX0 56 yX0_worth, .instanceMethod yX0_worth, .selects RX0 yX0_worth yX0_worth, .initialized RX0, .code yX0_worth cX0_worth 3 (some .int), .methodLink RX0 46 yX0_worthWithin, .instanceMethod yX0_worthWithin, .selects RX0 yX0_worthWithin yX0_worthWithin, .code yX0_worthWithin cX0_worthWithin 7 (some .int), .fieldLink RX0 15 "CakeMarks$Cake" "owner" "[I", .fieldLink RX0 21 "CakeMarks$Cake" "values" "[[I"] ++ wsX00)
def wsX0_arrows : List Cond := .code yX0_arrows cX0_arrows 4 (some .int) :: ([.fieldLink RX0 9 "CakeMarks$Cake" "guests" "I", .methodLink RX0 74 yX0_envyOf, .instanceMethod yX0_envyOf, .selects RX0 yX0_envyOf yX0_envyOf, .initialized RX0, .code yX0_envyOf cX0_envyOf 3 (some .int), .methodLink RX0 71 Lib.Math.max.name, .static Lib.Math.max.name, .initialized "java/lang/Math", .code Lib.Math.max.name Lib.Math.max.code 2 (some .int), .methodLink RX0 56 yX0_worth, .instanceMethod yX0_worth, .selects RX0 yX0_worth yX0_worth, .code yX0_worth cX0_worth 3 (some .int), .methodLink RX0 46 yX0_worthWithin, .instanceMethod yX0_worthWithin, .selects RX0 yX0_worthWithin yX0_worthWithin, .code yX0_worthWithin cX0_worthWithin 7 (some .int), .fieldLink RX0 15 "CakeMarks$Cake" "owner" "[I", .fieldLink RX0 21 "CakeMarks$Cake" "values" "[[I"] ++ wsX00)
def wsX0_allEnvies : List Cond := .code yX0_allEnvies cX0_allEnvies 4 (some .int) :: ([.fieldLink RX0 9 "CakeMarks$Cake" "guests" "I", .methodLink RX0 74 yX0_envyOf, .instanceMethod yX0_envyOf, .selects RX0 yX0_envyOf yX0_envyOf, .initialized RX0, .code yX0_envyOf cX0_envyOf 3 (some .int), .methodLink RX0 71 Lib.Math.max.name, .static Lib.Math.max.name, .initialized "java/lang/Math", .code Lib.Math.max.name Lib.Math.max.code 2 (some .int), .methodLink RX0 56 yX0_worth, .instanceMethod yX0_worth, .selects RX0 yX0_worth yX0_worth, .code yX0_worth cX0_worth 3 (some .int), .methodLink RX0 46 yX0_worthWithin, .instanceMethod yX0_worthWithin, .selects RX0 yX0_worthWithin yX0_worthWithin, .code yX0_worthWithin cX0_worthWithin 7 (some .int), .fieldLink RX0 15 "CakeMarks$Cake" "owner" "[I", .fieldLink RX0 21 "CakeMarks$Cake" "values" "[[I"] ++ wsX00)
def wsX0_contentGuests : List Cond := .code yX0_contentGuests cX0_contentGuests 4 (some .int) :: ([.fieldLink RX0 9 "CakeMarks$Cake" "guests" "I", .methodLink RX0 77 yX0_total, .instanceMethod yX0_total, .selects RX0 yX0_total yX0_total, .initialized RX0, .code yX0_total cX0_total 2 (some .int), .methodLink RX0 42 yX0_spanWorth, .instanceMethod yX0_spanWorth, .selects RX0 yX0_spanWorth yX0_spanWorth, .code yX0_spanWorth cX0_spanWorth 6 (some .int), .fieldLink RX0 21 "CakeMarks$Cake" "values" "[[I", .methodLink RX0 56 yX0_worth, .instanceMethod yX0_worth, .selects RX0 yX0_worth yX0_worth, .code yX0_worth cX0_worth 3 (some .int), .methodLink RX0 46 yX0_worthWithin, .instanceMethod yX0_worthWithin, .selects RX0 yX0_worthWithin yX0_worthWithin, .code yX0_worthWithin cX0_worthWithin 7 (some .int), .fieldLink RX0 15 "CakeMarks$Cake" "owner" "[I"] ++ wsX00)
def wsX4_init : List Cond := .code yX4_init cX4_init 1 none :: ([.methodLink RX4 3 objectInit, .instanceMethod objectInit, .code objectInit ⟨#[0xb1]⟩ 1 none, .arrayClass .int, .fieldLink RX4 9 "CakeMarks$Row" "at" "[I", .fieldLink RX4 15 "CakeMarks$Row" "size" "I", .fieldLink RX4 19 "CakeMarks$Row" "guests" "I"] ++ wsX40)
def wsX1_init_r1 : List Cond := [Cond.methodLink RX1 3 objectInit, Cond.instanceMethod objectInit, Cond.code objectInit ⟨#[0xb1]⟩ 1 none, Cond.fieldLink RX1 9 "CakeMarks$Divisions" "fairPart" "I", Cond.fieldLink RX1 15 "CakeMarks$Divisions" "fairTotal" "I", Cond.fieldLink RX1 18 "CakeMarks$Divisions" "fairGuest" "I", Cond.arrayClass .int, Cond.fieldLink RX1 21 "CakeMarks$Divisions" "fairStart" "[I", Cond.fieldLink RX1 25 "CakeMarks$Divisions" "quietCount" "I", Cond.fieldLink RX1 28 "CakeMarks$Divisions" "quietGuest" "I", Cond.fieldLink RX1 31 "CakeMarks$Divisions" "quietCut" "I", Cond.fieldLink RX1 34 "CakeMarks$Divisions" "spans" "I", Cond.classLink RX1 37 RX4, Cond.instantiable RX4 3, Cond.initialized RX4, Cond.fieldLink RX1 40 "CakeMarks$Divisions" "order" "LCakeMarks$Row;", Cond.fieldLink RX1 44 "CakeMarks$Divisions" "start" "[I", Cond.fieldLink RX1 47 "CakeMarks$Divisions" "totals" "[I", Cond.classLink RX1 50 "[[I", Cond.fieldLink RX1 52 "CakeMarks$Divisions" "ahead" "[[I", Cond.fieldLink RX1 55 "CakeMarks$Divisions" "parts" "[[I", Cond.fieldLink RX1 58 "CakeMarks$Divisions" "greatest" "[I", Cond.instanceMethod yX4_init, Cond.code yX4_init cX4_init 1 none]
def wsX1_init_r2 : List Cond := [Cond.methodLink RX4 3 objectInit, Cond.fieldLink RX4 9 "CakeMarks$Row" "at" "[I", Cond.fieldLink RX4 15 "CakeMarks$Row" "size" "I", Cond.fieldLink RX4 19 "CakeMarks$Row" "guests" "I"]
def wsX1_init : List Cond := .code yX1_init cX1_init 1 none :: ((wsX1_init_r1 ++ wsX1_init_r2) ++ wsX10 ++ wsX40)
def wsX1_prepare : List Cond := .code yX1_prepare cX1_prepare 4 none :: ([.fieldLink RX1 79 "CakeMarks$Cake" "guests" "I", .fieldLink RX1 34 "CakeMarks$Divisions" "spans" "I", .fieldLink RX1 9 "CakeMarks$Divisions" "fairPart" "I", .fieldLink RX1 15 "CakeMarks$Divisions" "fairTotal" "I", .fieldLink RX1 25 "CakeMarks$Divisions" "quietCount" "I", .fieldLink RX1 52 "CakeMarks$Divisions" "ahead" "[[I", .fieldLink RX1 84 "CakeMarks$Cake" "values" "[[I", .fieldLink RX1 47 "CakeMarks$Divisions" "totals" "[I", .methodLink RX1 87 Lib.Math.max.name, .static Lib.Math.max.name, .initialized "java/lang/Math", .code Lib.Math.max.name Lib.Math.max.code 2 (some .int), .fieldLink RX1 44 "CakeMarks$Divisions" "start" "[I"] ++ wsX00 ++ wsX10)
def wsX1_measureSpans : List Cond := .code yX1_measureSpans cX1_measureSpans 3 none :: ([.fieldLink RX1 34 "CakeMarks$Divisions" "spans" "I", .fieldLink RX1 58 "CakeMarks$Divisions" "greatest" "[I", .fieldLink RX1 55 "CakeMarks$Divisions" "parts" "[[I", .fieldLink RX1 52 "CakeMarks$Divisions" "ahead" "[[I", .fieldLink RX1 44 "CakeMarks$Divisions" "start" "[I", .methodLink RX1 87 Lib.Math.max.name, .static Lib.Math.max.name, .initialized "java/lang/Math", .code Lib.Math.max.name Lib.Math.max.code 2 (some .int)] ++ wsX10)
def wsX4_firstFree : List Cond := .code yX4_firstFree cX4_firstFree 5 (some .int) :: ([.fieldLink RX4 9 "CakeMarks$Row" "at" "[I", .fieldLink RX4 19 "CakeMarks$Row" "guests" "I"] ++ wsX40)
def wsX4_fill : List Cond := .code yX4_fill cX4_fill 3 none :: ([.fieldLink RX4 15 "CakeMarks$Row" "size" "I", .fieldLink RX4 9 "CakeMarks$Row" "at" "[I", .methodLink RX4 32 yX4_firstFree, .instanceMethod yX4_firstFree, .selects RX4 yX4_firstFree yX4_firstFree, .initialized RX4, .code yX4_firstFree cX4_firstFree 5 (some .int), .fieldLink RX4 19 "CakeMarks$Row" "guests" "I"] ++ wsX40)
def wsX4_begin : List Cond := .code yX4_begin cX4_begin 3 none :: ([.methodLink RX4 22 Lib.Math.min.name, .static Lib.Math.min.name, .initialized "java/lang/Math", .code Lib.Math.min.name Lib.Math.min.code 2 (some .int), .fieldLink RX4 15 "CakeMarks$Row" "size" "I", .fieldLink RX4 19 "CakeMarks$Row" "guests" "I", .methodLink RX4 28 yX4_fill, .instanceMethod yX4_fill, .selects RX4 yX4_fill yX4_fill, .initialized RX4, .code yX4_fill cX4_fill 3 none, .fieldLink RX4 9 "CakeMarks$Row" "at" "[I", .methodLink RX4 32 yX4_firstFree, .instanceMethod yX4_firstFree, .selects RX4 yX4_firstFree yX4_firstFree, .code yX4_firstFree cX4_firstFree 5 (some .int)] ++ wsX40)
def wsX1_firstPoor : List Cond := .code yX1_firstPoor cX1_firstPoor 3 (some .int) :: ([.fieldLink RX1 34 "CakeMarks$Divisions" "spans" "I", .fieldLink RX1 40 "CakeMarks$Divisions" "order" "LCakeMarks$Row;", .fieldLink RX1 108 "CakeMarks$Row" "at" "[I", .fieldLink RX1 55 "CakeMarks$Divisions" "parts" "[[I", .fieldLink RX1 15 "CakeMarks$Divisions" "fairTotal" "I", .fieldLink RX1 9 "CakeMarks$Divisions" "fairPart" "I", .fieldLink RX1 47 "CakeMarks$Divisions" "totals" "[I"] ++ wsX10 ++ wsX40)
def wsX1_keepFair : List Cond := .code yX1_keepFair cX1_keepFair 3 none :: ([.fieldLink RX1 40 "CakeMarks$Divisions" "order" "LCakeMarks$Row;", .fieldLink RX1 108 "CakeMarks$Row" "at" "[I", .fieldLink RX1 18 "CakeMarks$Divisions" "fairGuest" "I", .fieldLink RX1 55 "CakeMarks$Divisions" "parts" "[[I", .fieldLink RX1 9 "CakeMarks$Divisions" "fairPart" "I", .fieldLink RX1 47 "CakeMarks$Divisions" "totals" "[I", .fieldLink RX1 15 "CakeMarks$Divisions" "fairTotal" "I", .fieldLink RX1 34 "CakeMarks$Divisions" "spans" "I", .fieldLink RX1 21 "CakeMarks$Divisions" "fairStart" "[I", .fieldLink RX1 44 "CakeMarks$Divisions" "start" "[I"] ++ wsX10 ++ wsX40)
def wsX4_advance : List Cond := .code yX4_advance cX4_advance 4 (some .boolean) :: ([.fieldLink RX4 15 "CakeMarks$Row" "size" "I", .methodLink RX4 22 Lib.Math.min.name, .static Lib.Math.min.name, .initialized "java/lang/Math", .code Lib.Math.min.name Lib.Math.min.code 2 (some .int), .fieldLink RX4 9 "CakeMarks$Row" "at" "[I", .fieldLink RX4 19 "CakeMarks$Row" "guests" "I", .methodLink RX4 32 yX4_firstFree, .instanceMethod yX4_firstFree, .selects RX4 yX4_firstFree yX4_firstFree, .initialized RX4, .code yX4_firstFree cX4_firstFree 5 (some .int), .methodLink RX4 28 yX4_fill, .instanceMethod yX4_fill, .selects RX4 yX4_fill yX4_fill, .code yX4_fill cX4_fill 3 none] ++ wsX40)
def wsX1_seekFair_r1 : List Cond := [Cond.fieldLink RX1 40 "CakeMarks$Divisions" "order" "LCakeMarks$Row;", Cond.fieldLink RX1 34 "CakeMarks$Divisions" "spans" "I", Cond.constant RX1 65 (1000000), Cond.methodLink RX1 93 yX4_begin, Cond.instanceMethod yX4_begin, Cond.selects RX4 yX4_begin yX4_begin, Cond.initialized RX4, Cond.code yX4_begin cX4_begin 3 none, Cond.methodLink RX4 22 Lib.Math.min.name, Cond.static Lib.Math.min.name, Cond.initialized "java/lang/Math", Cond.code Lib.Math.min.name Lib.Math.min.code 2 (some .int), Cond.fieldLink RX4 15 "CakeMarks$Row" "size" "I", Cond.fieldLink RX4 19 "CakeMarks$Row" "guests" "I", Cond.methodLink RX4 28 yX4_fill, Cond.instanceMethod yX4_fill, Cond.selects RX4 yX4_fill yX4_fill, Cond.code yX4_fill cX4_fill 3 none, Cond.fieldLink RX4 9 "CakeMarks$Row" "at" "[I", Cond.methodLink RX4 32 yX4_firstFree, Cond.instanceMethod yX4_firstFree, Cond.selects RX4 yX4_firstFree yX4_firstFree, Cond.code yX4_firstFree cX4_firstFree 5 (some .int), Cond.methodLink RX1 97 yX1_firstPoor]
def wsX1_seekFair_r2 : List Cond := [Cond.instanceMethod yX1_firstPoor, Cond.selects RX1 yX1_firstPoor yX1_firstPoor, Cond.initialized RX1, Cond.code yX1_firstPoor cX1_firstPoor 3 (some .int), Cond.fieldLink RX1 108 "CakeMarks$Row" "at" "[I", Cond.fieldLink RX1 55 "CakeMarks$Divisions" "parts" "[[I", Cond.fieldLink RX1 15 "CakeMarks$Divisions" "fairTotal" "I", Cond.fieldLink RX1 9 "CakeMarks$Divisions" "fairPart" "I", Cond.fieldLink RX1 47 "CakeMarks$Divisions" "totals" "[I", Cond.methodLink RX1 101 yX1_keepFair, Cond.instanceMethod yX1_keepFair, Cond.selects RX1 yX1_keepFair yX1_keepFair, Cond.code yX1_keepFair cX1_keepFair 3 none, Cond.fieldLink RX1 18 "CakeMarks$Divisions" "fairGuest" "I", Cond.fieldLink RX1 21 "CakeMarks$Divisions" "fairStart" "[I", Cond.fieldLink RX1 44 "CakeMarks$Divisions" "start" "[I", Cond.methodLink RX1 104 yX4_advance, Cond.instanceMethod yX4_advance, Cond.selects RX4 yX4_advance yX4_advance, Cond.code yX4_advance cX4_advance 4 (some .boolean)]
def wsX1_seekFair : List Cond := .code yX1_seekFair cX1_seekFair 4 none :: ((wsX1_seekFair_r1 ++ wsX1_seekFair_r2) ++ wsX10 ++ wsX40)
def wsX1_firstEnvious : List Cond := .code yX1_firstEnvious cX1_firstEnvious 3 (some .int) :: ([.fieldLink RX1 34 "CakeMarks$Divisions" "spans" "I", .fieldLink RX1 40 "CakeMarks$Divisions" "order" "LCakeMarks$Row;", .fieldLink RX1 108 "CakeMarks$Row" "at" "[I", .fieldLink RX1 55 "CakeMarks$Divisions" "parts" "[[I", .fieldLink RX1 58 "CakeMarks$Divisions" "greatest" "[I"] ++ wsX10 ++ wsX40)
def wsX1_countQuiet : List Cond := .code yX1_countQuiet cX1_countQuiet 1 none :: ([.fieldLink RX1 25 "CakeMarks$Divisions" "quietCount" "I", .fieldLink RX1 40 "CakeMarks$Divisions" "order" "LCakeMarks$Row;", .fieldLink RX1 108 "CakeMarks$Row" "at" "[I", .fieldLink RX1 28 "CakeMarks$Divisions" "quietGuest" "I", .fieldLink RX1 44 "CakeMarks$Divisions" "start" "[I", .fieldLink RX1 31 "CakeMarks$Divisions" "quietCut" "I"] ++ wsX10 ++ wsX40)
def wsX1_seekQuiet_r1 : List Cond := [Cond.fieldLink RX1 40 "CakeMarks$Divisions" "order" "LCakeMarks$Row;", Cond.fieldLink RX1 34 "CakeMarks$Divisions" "spans" "I", Cond.constant RX1 65 (1000000), Cond.methodLink RX1 93 yX4_begin, Cond.instanceMethod yX4_begin, Cond.selects RX4 yX4_begin yX4_begin, Cond.initialized RX4, Cond.code yX4_begin cX4_begin 3 none, Cond.methodLink RX4 22 Lib.Math.min.name, Cond.static Lib.Math.min.name, Cond.initialized "java/lang/Math", Cond.code Lib.Math.min.name Lib.Math.min.code 2 (some .int), Cond.fieldLink RX4 15 "CakeMarks$Row" "size" "I", Cond.fieldLink RX4 19 "CakeMarks$Row" "guests" "I", Cond.methodLink RX4 28 yX4_fill, Cond.instanceMethod yX4_fill, Cond.selects RX4 yX4_fill yX4_fill, Cond.code yX4_fill cX4_fill 3 none, Cond.fieldLink RX4 9 "CakeMarks$Row" "at" "[I", Cond.methodLink RX4 32 yX4_firstFree, Cond.instanceMethod yX4_firstFree, Cond.selects RX4 yX4_firstFree yX4_firstFree, Cond.code yX4_firstFree cX4_firstFree 5 (some .int), Cond.methodLink RX1 111 yX1_firstEnvious]
def wsX1_seekQuiet_r2 : List Cond := [Cond.instanceMethod yX1_firstEnvious, Cond.selects RX1 yX1_firstEnvious yX1_firstEnvious, Cond.initialized RX1, Cond.code yX1_firstEnvious cX1_firstEnvious 3 (some .int), Cond.fieldLink RX1 108 "CakeMarks$Row" "at" "[I", Cond.fieldLink RX1 55 "CakeMarks$Divisions" "parts" "[[I", Cond.fieldLink RX1 58 "CakeMarks$Divisions" "greatest" "[I", Cond.methodLink RX1 114 yX1_countQuiet, Cond.instanceMethod yX1_countQuiet, Cond.selects RX1 yX1_countQuiet yX1_countQuiet, Cond.code yX1_countQuiet cX1_countQuiet 1 none, Cond.fieldLink RX1 25 "CakeMarks$Divisions" "quietCount" "I", Cond.fieldLink RX1 28 "CakeMarks$Divisions" "quietGuest" "I", Cond.fieldLink RX1 44 "CakeMarks$Divisions" "start" "[I", Cond.fieldLink RX1 31 "CakeMarks$Divisions" "quietCut" "I", Cond.methodLink RX1 104 yX4_advance, Cond.instanceMethod yX4_advance, Cond.selects RX4 yX4_advance yX4_advance, Cond.code yX4_advance cX4_advance 4 (some .boolean)]
def wsX1_seekQuiet : List Cond := .code yX1_seekQuiet cX1_seekQuiet 4 none :: ((wsX1_seekQuiet_r1 ++ wsX1_seekQuiet_r2) ++ wsX10 ++ wsX40)
def wsX1_nextCuts : List Cond := .code yX1_nextCuts cX1_nextCuts 3 (some .boolean) :: ([.fieldLink RX1 34 "CakeMarks$Divisions" "spans" "I", .fieldLink RX1 44 "CakeMarks$Divisions" "start" "[I"] ++ wsX10)
def wsX1_search_r1 : List Cond := [Cond.fieldLink RX1 34 "CakeMarks$Divisions" "spans" "I", Cond.constant RX1 65 (1000000), Cond.methodLink RX1 61 yX1_prepare, Cond.instanceMethod yX1_prepare, Cond.selects RX1 yX1_prepare yX1_prepare, Cond.initialized RX1, Cond.code yX1_prepare cX1_prepare 4 none, Cond.fieldLink RX1 79 "CakeMarks$Cake" "guests" "I", Cond.fieldLink RX1 9 "CakeMarks$Divisions" "fairPart" "I", Cond.fieldLink RX1 15 "CakeMarks$Divisions" "fairTotal" "I", Cond.fieldLink RX1 25 "CakeMarks$Divisions" "quietCount" "I", Cond.fieldLink RX1 52 "CakeMarks$Divisions" "ahead" "[[I", Cond.fieldLink RX1 84 "CakeMarks$Cake" "values" "[[I", Cond.fieldLink RX1 47 "CakeMarks$Divisions" "totals" "[I", Cond.methodLink RX1 87 Lib.Math.max.name, Cond.static Lib.Math.max.name, Cond.initialized "java/lang/Math", Cond.code Lib.Math.max.name Lib.Math.max.code 2 (some .int), Cond.fieldLink RX1 44 "CakeMarks$Divisions" "start" "[I", Cond.methodLink RX1 66 yX1_measureSpans, Cond.instanceMethod yX1_measureSpans, Cond.selects RX1 yX1_measureSpans yX1_measureSpans, Cond.code yX1_measureSpans cX1_measureSpans 3 none, Cond.fieldLink RX1 58 "CakeMarks$Divisions" "greatest" "[I"]
def wsX1_search_r2 : List Cond := [Cond.fieldLink RX1 55 "CakeMarks$Divisions" "parts" "[[I", Cond.methodLink RX1 69 yX1_seekFair, Cond.instanceMethod yX1_seekFair, Cond.selects RX1 yX1_seekFair yX1_seekFair, Cond.code yX1_seekFair cX1_seekFair 4 none, Cond.fieldLink RX1 40 "CakeMarks$Divisions" "order" "LCakeMarks$Row;", Cond.methodLink RX1 93 yX4_begin, Cond.instanceMethod yX4_begin, Cond.selects RX4 yX4_begin yX4_begin, Cond.initialized RX4, Cond.code yX4_begin cX4_begin 3 none, Cond.methodLink RX4 22 Lib.Math.min.name, Cond.static Lib.Math.min.name, Cond.code Lib.Math.min.name Lib.Math.min.code 2 (some .int), Cond.fieldLink RX4 15 "CakeMarks$Row" "size" "I", Cond.fieldLink RX4 19 "CakeMarks$Row" "guests" "I", Cond.methodLink RX4 28 yX4_fill, Cond.instanceMethod yX4_fill, Cond.selects RX4 yX4_fill yX4_fill, Cond.code yX4_fill cX4_fill 3 none, Cond.fieldLink RX4 9 "CakeMarks$Row" "at" "[I", Cond.methodLink RX4 32 yX4_firstFree, Cond.instanceMethod yX4_firstFree, Cond.selects RX4 yX4_firstFree yX4_firstFree]
def wsX1_search_r3 : List Cond := [Cond.code yX4_firstFree cX4_firstFree 5 (some .int), Cond.methodLink RX1 97 yX1_firstPoor, Cond.instanceMethod yX1_firstPoor, Cond.selects RX1 yX1_firstPoor yX1_firstPoor, Cond.code yX1_firstPoor cX1_firstPoor 3 (some .int), Cond.fieldLink RX1 108 "CakeMarks$Row" "at" "[I", Cond.methodLink RX1 101 yX1_keepFair, Cond.instanceMethod yX1_keepFair, Cond.selects RX1 yX1_keepFair yX1_keepFair, Cond.code yX1_keepFair cX1_keepFair 3 none, Cond.fieldLink RX1 18 "CakeMarks$Divisions" "fairGuest" "I", Cond.fieldLink RX1 21 "CakeMarks$Divisions" "fairStart" "[I", Cond.methodLink RX1 104 yX4_advance, Cond.instanceMethod yX4_advance, Cond.selects RX4 yX4_advance yX4_advance, Cond.code yX4_advance cX4_advance 4 (some .boolean), Cond.methodLink RX1 72 yX1_seekQuiet, Cond.instanceMethod yX1_seekQuiet, Cond.selects RX1 yX1_seekQuiet yX1_seekQuiet, Cond.code yX1_seekQuiet cX1_seekQuiet 4 none, Cond.methodLink RX1 111 yX1_firstEnvious, Cond.instanceMethod yX1_firstEnvious, Cond.selects RX1 yX1_firstEnvious yX1_firstEnvious, Cond.code yX1_firstEnvious cX1_firstEnvious 3 (some .int)]
def wsX1_search_r4 : List Cond := [Cond.methodLink RX1 114 yX1_countQuiet, Cond.instanceMethod yX1_countQuiet, Cond.selects RX1 yX1_countQuiet yX1_countQuiet, Cond.code yX1_countQuiet cX1_countQuiet 1 none, Cond.fieldLink RX1 28 "CakeMarks$Divisions" "quietGuest" "I", Cond.fieldLink RX1 31 "CakeMarks$Divisions" "quietCut" "I", Cond.methodLink RX1 75 yX1_nextCuts, Cond.instanceMethod yX1_nextCuts, Cond.selects RX1 yX1_nextCuts yX1_nextCuts, Cond.code yX1_nextCuts cX1_nextCuts 3 (some .boolean)]
def wsX1_search : List Cond := .code yX1_search cX1_search 4 none :: ((wsX1_search_r1 ++ (wsX1_search_r2 ++ (wsX1_search_r3 ++ wsX1_search_r4))) ++ wsX10 ++ wsX00 ++ wsX40)
def wsX2_init : List Cond := .code yX2_init cX2_init 1 none :: ([.methodLink RX2 3 objectInit, .instanceMethod objectInit, .code objectInit ⟨#[0xb1]⟩ 1 none, .arrayClass .int, .fieldLink RX2 9 "CakeMarks$Mark" "owner" "[I"] ++ wsX20)
def wsX2_firstCaller : List Cond := .code yX2_firstCaller cX2_firstCaller 7 (some .int) :: ([.fieldLink RX2 32 "CakeMarks$Cake" "guests" "I", .methodLink RX2 36 yX0_worthWithin, .instanceMethod yX0_worthWithin, .selects RX0 yX0_worthWithin yX0_worthWithin, .initialized RX0, .code yX0_worthWithin cX0_worthWithin 7 (some .int), .fieldLink RX0 15 "CakeMarks$Cake" "owner" "[I", .fieldLink RX0 21 "CakeMarks$Cake" "values" "[[I", .methodLink RX2 40 yX0_total, .instanceMethod yX0_total, .selects RX0 yX0_total yX0_total, .code yX0_total cX0_total 2 (some .int), .methodLink RX0 42 yX0_spanWorth, .instanceMethod yX0_spanWorth, .selects RX0 yX0_spanWorth yX0_spanWorth, .code yX0_spanWorth cX0_spanWorth 6 (some .int)] ++ wsX00)
def wsX2_giveTo : List Cond := .code yX2_giveTo cX2_giveTo 5 none :: ([.fieldLink RX2 9 "CakeMarks$Mark" "owner" "[I"] ++ wsX20)
def wsX2_pass_r1 : List Cond := [Cond.fieldLink RX2 15 "CakeMarks$Cake" "owner" "[I", Cond.fieldLink RX2 9 "CakeMarks$Mark" "owner" "[I", Cond.methodLink RX2 18 arraycopyName, Cond.native arraycopyName, Cond.static arraycopyName, Cond.initialized "java/lang/System", Cond.methodLink RX2 24 yX2_firstCaller, Cond.static yX2_firstCaller, Cond.initialized RX2, Cond.code yX2_firstCaller cX2_firstCaller 7 (some .int), Cond.fieldLink RX2 32 "CakeMarks$Cake" "guests" "I", Cond.methodLink RX2 36 yX0_worthWithin, Cond.instanceMethod yX0_worthWithin, Cond.selects RX0 yX0_worthWithin yX0_worthWithin, Cond.initialized RX0, Cond.code yX0_worthWithin cX0_worthWithin 7 (some .int), Cond.fieldLink RX0 15 "CakeMarks$Cake" "owner" "[I", Cond.fieldLink RX0 21 "CakeMarks$Cake" "values" "[[I", Cond.methodLink RX2 40 yX0_total, Cond.instanceMethod yX0_total, Cond.selects RX0 yX0_total yX0_total, Cond.code yX0_total cX0_total 2 (some .int), Cond.methodLink RX0 42 yX0_spanWorth, Cond.instanceMethod yX0_spanWorth]
def wsX2_pass_r2 : List Cond := [Cond.selects RX0 yX0_spanWorth yX0_spanWorth, Cond.code yX0_spanWorth cX0_spanWorth 6 (some .int), Cond.methodLink RX2 28 yX2_giveTo, Cond.instanceMethod yX2_giveTo, Cond.selects RX2 yX2_giveTo yX2_giveTo, Cond.code yX2_giveTo cX2_giveTo 5 none]
def wsX2_pass : List Cond := .code yX2_pass cX2_pass 9 (some .int) :: ((wsX2_pass_r1 ++ wsX2_pass_r2) ++ wsX00 ++ wsX20)
def wsX3_init : List Cond := .code yX3_init cX3_init 1 none :: ([.methodLink RX3 3 objectInit, .instanceMethod objectInit, .code objectInit ⟨#[0xb1]⟩ 1 none, .classLink RX3 9 RX4, .instantiable RX4 3, .initialized RX4, .fieldLink RX3 12 "CakeMarks$Rings" "row" "LCakeMarks$Row;", .arrayClass .int, .fieldLink RX3 18 "CakeMarks$Rings" "envied" "[I", .instanceMethod yX4_init, .code yX4_init cX4_init 1 none, .methodLink RX4 3 objectInit, .fieldLink RX4 9 "CakeMarks$Row" "at" "[I", .fieldLink RX4 15 "CakeMarks$Row" "size" "I", .fieldLink RX4 19 "CakeMarks$Row" "guests" "I"] ++ wsX40 ++ wsX30)
def wsX3_drawArrows : List Cond := .code yX3_drawArrows cX3_drawArrows 4 none :: ([.fieldLink RX3 26 "CakeMarks$Cake" "guests" "I", .fieldLink RX3 18 "CakeMarks$Rings" "envied" "[I", .methodLink RX3 45 yX0_envyOf, .instanceMethod yX0_envyOf, .selects RX0 yX0_envyOf yX0_envyOf, .initialized RX0, .code yX0_envyOf cX0_envyOf 3 (some .int), .methodLink RX0 71 Lib.Math.max.name, .static Lib.Math.max.name, .initialized "java/lang/Math", .code Lib.Math.max.name Lib.Math.max.code 2 (some .int), .methodLink RX0 56 yX0_worth, .instanceMethod yX0_worth, .selects RX0 yX0_worth yX0_worth, .code yX0_worth cX0_worth 3 (some .int), .methodLink RX0 46 yX0_worthWithin, .instanceMethod yX0_worthWithin, .selects RX0 yX0_worthWithin yX0_worthWithin, .code yX0_worthWithin cX0_worthWithin 7 (some .int), .fieldLink RX0 15 "CakeMarks$Cake" "owner" "[I", .fieldLink RX0 21 "CakeMarks$Cake" "values" "[[I"] ++ wsX00 ++ wsX30)
def wsX3_isRing : List Cond := .code yX3_isRing cX3_isRing 3 (some .boolean) :: ([.fieldLink RX3 12 "CakeMarks$Rings" "row" "LCakeMarks$Row;", .fieldLink RX3 49 "CakeMarks$Row" "size" "I", .fieldLink RX3 52 "CakeMarks$Row" "at" "[I", .fieldLink RX3 18 "CakeMarks$Rings" "envied" "[I"] ++ wsX30 ++ wsX40)
def wsX3_find_r1 : List Cond := [Cond.fieldLink RX3 26 "CakeMarks$Cake" "guests" "I", Cond.fieldLink RX3 12 "CakeMarks$Rings" "row" "LCakeMarks$Row;", Cond.constant RX3 36 (1000000), Cond.methodLink RX3 22 yX3_drawArrows, Cond.instanceMethod yX3_drawArrows, Cond.selects RX3 yX3_drawArrows yX3_drawArrows, Cond.initialized RX3, Cond.code yX3_drawArrows cX3_drawArrows 4 none, Cond.fieldLink RX3 18 "CakeMarks$Rings" "envied" "[I", Cond.methodLink RX3 45 yX0_envyOf, Cond.instanceMethod yX0_envyOf, Cond.selects RX0 yX0_envyOf yX0_envyOf, Cond.initialized RX0, Cond.code yX0_envyOf cX0_envyOf 3 (some .int), Cond.methodLink RX0 71 Lib.Math.max.name, Cond.static Lib.Math.max.name, Cond.initialized "java/lang/Math", Cond.code Lib.Math.max.name Lib.Math.max.code 2 (some .int), Cond.methodLink RX0 56 yX0_worth, Cond.instanceMethod yX0_worth, Cond.selects RX0 yX0_worth yX0_worth, Cond.code yX0_worth cX0_worth 3 (some .int), Cond.methodLink RX0 46 yX0_worthWithin, Cond.instanceMethod yX0_worthWithin]
def wsX3_find_r2 : List Cond := [Cond.selects RX0 yX0_worthWithin yX0_worthWithin, Cond.code yX0_worthWithin cX0_worthWithin 7 (some .int), Cond.fieldLink RX0 15 "CakeMarks$Cake" "owner" "[I", Cond.fieldLink RX0 21 "CakeMarks$Cake" "values" "[[I", Cond.methodLink RX3 32 yX4_begin, Cond.instanceMethod yX4_begin, Cond.selects RX4 yX4_begin yX4_begin, Cond.initialized RX4, Cond.code yX4_begin cX4_begin 3 none, Cond.methodLink RX4 22 Lib.Math.min.name, Cond.static Lib.Math.min.name, Cond.code Lib.Math.min.name Lib.Math.min.code 2 (some .int), Cond.fieldLink RX4 15 "CakeMarks$Row" "size" "I", Cond.fieldLink RX4 19 "CakeMarks$Row" "guests" "I", Cond.methodLink RX4 28 yX4_fill, Cond.instanceMethod yX4_fill, Cond.selects RX4 yX4_fill yX4_fill, Cond.code yX4_fill cX4_fill 3 none, Cond.fieldLink RX4 9 "CakeMarks$Row" "at" "[I", Cond.methodLink RX4 32 yX4_firstFree, Cond.instanceMethod yX4_firstFree, Cond.selects RX4 yX4_firstFree yX4_firstFree, Cond.code yX4_firstFree cX4_firstFree 5 (some .int), Cond.methodLink RX3 37 yX3_isRing]
def wsX3_find_r3 : List Cond := [Cond.instanceMethod yX3_isRing, Cond.selects RX3 yX3_isRing yX3_isRing, Cond.code yX3_isRing cX3_isRing 3 (some .boolean), Cond.fieldLink RX3 49 "CakeMarks$Row" "size" "I", Cond.fieldLink RX3 52 "CakeMarks$Row" "at" "[I", Cond.methodLink RX3 41 yX4_advance, Cond.instanceMethod yX4_advance, Cond.selects RX4 yX4_advance yX4_advance, Cond.code yX4_advance cX4_advance 4 (some .boolean)]
def wsX3_find : List Cond := .code yX3_find cX3_find 5 (some .int) :: ((wsX3_find_r1 ++ (wsX3_find_r2 ++ wsX3_find_r3)) ++ wsX00 ++ wsX30 ++ wsX40)
def wsX5_init : List Cond := .code yX5_init cX5_init 1 none :: ([.methodLink RX5 3 objectInit, .instanceMethod objectInit, .code objectInit ⟨#[0xb1]⟩ 1 none, .fieldLink RX5 9 "CakeMarks$ValueText" "length" "I", .arrayClass .int, .fieldLink RX5 15 "CakeMarks$ValueText" "signs" "[I", .fieldLink RX5 19 "CakeMarks$ValueText" "values" "[I", .fieldLink RX5 22 "CakeMarks$ValueText" "told" "I", .fieldLink RX5 25 "CakeMarks$ValueText" "place" "I"] ++ wsX50)
def wsX5_put : List Cond := .code yX5_put cX5_put 2 (some .int) :: ([.fieldLink RX5 9 "CakeMarks$ValueText" "length" "I", .fieldLink RX5 15 "CakeMarks$ValueText" "signs" "[I"] ++ wsX50)
def wsX5_isDigit : List Cond := .code yX5_isDigit cX5_isDigit 2 (some .boolean) :: ([.fieldLink RX5 9 "CakeMarks$ValueText" "length" "I", .fieldLink RX5 15 "CakeMarks$ValueText" "signs" "[I"] ++ wsX50)
def wsX5_readTimes : List Cond := .code yX5_readTimes cX5_readTimes 3 (some .int) :: ([.fieldLink RX5 25 "CakeMarks$ValueText" "place" "I", .fieldLink RX5 15 "CakeMarks$ValueText" "signs" "[I", .methodLink RX5 32 yX5_isDigit, .instanceMethod yX5_isDigit, .selects RX5 yX5_isDigit yX5_isDigit, .initialized RX5, .code yX5_isDigit cX5_isDigit 2 (some .boolean), .fieldLink RX5 9 "CakeMarks$ValueText" "length" "I"] ++ wsX50)
def wsX5_readPart : List Cond := .code yX5_readPart cX5_readPart 4 (some .int) :: ([.fieldLink RX5 22 "CakeMarks$ValueText" "told" "I", .fieldLink RX5 25 "CakeMarks$ValueText" "place" "I", .fieldLink RX5 15 "CakeMarks$ValueText" "signs" "[I", .fieldLink RX5 9 "CakeMarks$ValueText" "length" "I", .fieldLink RX5 19 "CakeMarks$ValueText" "values" "[I", .methodLink RX5 32 yX5_isDigit, .instanceMethod yX5_isDigit, .selects RX5 yX5_isDigit yX5_isDigit, .initialized RX5, .code yX5_isDigit cX5_isDigit 2 (some .boolean), .methodLink RX5 36 yX5_readTimes, .instanceMethod yX5_readTimes, .selects RX5 yX5_readTimes yX5_readTimes, .code yX5_readTimes cX5_readTimes 3 (some .int)] ++ wsX50)
def wsX5_findFailure : List Cond := .code yX5_findFailure cX5_findFailure 3 (some .int) :: ([.fieldLink RX5 22 "CakeMarks$ValueText" "told" "I", .fieldLink RX5 25 "CakeMarks$ValueText" "place" "I", .fieldLink RX5 9 "CakeMarks$ValueText" "length" "I", .fieldLink RX5 15 "CakeMarks$ValueText" "signs" "[I", .methodLink RX5 28 yX5_readPart, .instanceMethod yX5_readPart, .selects RX5 yX5_readPart yX5_readPart, .initialized RX5, .code yX5_readPart cX5_readPart 4 (some .int), .fieldLink RX5 19 "CakeMarks$ValueText" "values" "[I", .methodLink RX5 32 yX5_isDigit, .instanceMethod yX5_isDigit, .selects RX5 yX5_isDigit yX5_isDigit, .code yX5_isDigit cX5_isDigit 2 (some .boolean), .methodLink RX5 36 yX5_readTimes, .instanceMethod yX5_readTimes, .selects RX5 yX5_readTimes yX5_readTimes, .code yX5_readTimes cX5_readTimes 3 (some .int)] ++ wsX50)
def wsX6_init_r1 : List Cond := [Cond.methodLink RX6 1 objectInit, Cond.instanceMethod objectInit, Cond.code objectInit ⟨#[0xb1]⟩ 1 none, Cond.classLink RX6 7 RX0, Cond.instantiable RX0 3, Cond.initialized RX0, Cond.fieldLink RX6 10 "CakeMarks" "cake" "LCakeMarks$Cake;", Cond.fieldLink RX6 16 "CakeMarks" "history" "[LCakeMarks$Cake;", Cond.fieldLink RX6 20 "CakeMarks" "states" "I", Cond.classLink RX6 24 RX5, Cond.instantiable RX5 5, Cond.initialized RX5, Cond.fieldLink RX6 27 "CakeMarks" "text" "LCakeMarks$ValueText;", Cond.classLink RX6 31 RX2, Cond.instantiable RX2 1, Cond.initialized RX2, Cond.fieldLink RX6 34 "CakeMarks" "mark" "LCakeMarks$Mark;", Cond.classLink RX6 38 RX3, Cond.instantiable RX3 2, Cond.initialized RX3, Cond.fieldLink RX6 41 "CakeMarks" "rings" "LCakeMarks$Rings;", Cond.classLink RX6 45 RX1, Cond.instantiable RX1 14, Cond.initialized RX1]
def wsX6_init_r2 : List Cond := [Cond.fieldLink RX6 48 "CakeMarks" "divisions" "LCakeMarks$Divisions;", Cond.fieldLink RX6 52 "CakeMarks" "searched" "Z", Cond.methodLink RX6 9 yX0_init, Cond.instanceMethod yX0_init, Cond.code yX0_init cX0_init 2 none, Cond.methodLink RX0 3 objectInit, Cond.fieldLink RX0 9 "CakeMarks$Cake" "guests" "I", Cond.arrayClass .int, Cond.fieldLink RX0 15 "CakeMarks$Cake" "owner" "[I", Cond.classLink RX0 19 "[[I", Cond.fieldLink RX0 21 "CakeMarks$Cake" "values" "[[I", Cond.instanceMethod yX5_init, Cond.code yX5_init cX5_init 1 none, Cond.methodLink RX5 3 objectInit, Cond.fieldLink RX5 9 "CakeMarks$ValueText" "length" "I", Cond.fieldLink RX5 15 "CakeMarks$ValueText" "signs" "[I", Cond.fieldLink RX5 19 "CakeMarks$ValueText" "values" "[I", Cond.fieldLink RX5 22 "CakeMarks$ValueText" "told" "I", Cond.fieldLink RX5 25 "CakeMarks$ValueText" "place" "I", Cond.instanceMethod yX2_init, Cond.code yX2_init cX2_init 1 none, Cond.methodLink RX2 3 objectInit, Cond.fieldLink RX2 9 "CakeMarks$Mark" "owner" "[I", Cond.instanceMethod yX3_init]
def wsX6_init_r3 : List Cond := [Cond.code yX3_init cX3_init 1 none, Cond.methodLink RX3 3 objectInit, Cond.classLink RX3 9 RX4, Cond.instantiable RX4 3, Cond.initialized RX4, Cond.fieldLink RX3 12 "CakeMarks$Rings" "row" "LCakeMarks$Row;", Cond.fieldLink RX3 18 "CakeMarks$Rings" "envied" "[I", Cond.instanceMethod yX4_init, Cond.code yX4_init cX4_init 1 none, Cond.methodLink RX4 3 objectInit, Cond.fieldLink RX4 9 "CakeMarks$Row" "at" "[I", Cond.fieldLink RX4 15 "CakeMarks$Row" "size" "I", Cond.fieldLink RX4 19 "CakeMarks$Row" "guests" "I", Cond.instanceMethod yX1_init, Cond.code yX1_init cX1_init 1 none, Cond.methodLink RX1 3 objectInit, Cond.fieldLink RX1 9 "CakeMarks$Divisions" "fairPart" "I", Cond.fieldLink RX1 15 "CakeMarks$Divisions" "fairTotal" "I", Cond.fieldLink RX1 18 "CakeMarks$Divisions" "fairGuest" "I", Cond.fieldLink RX1 21 "CakeMarks$Divisions" "fairStart" "[I", Cond.fieldLink RX1 25 "CakeMarks$Divisions" "quietCount" "I", Cond.fieldLink RX1 28 "CakeMarks$Divisions" "quietGuest" "I", Cond.fieldLink RX1 31 "CakeMarks$Divisions" "quietCut" "I", Cond.fieldLink RX1 34 "CakeMarks$Divisions" "spans" "I"]
def wsX6_init_r4 : List Cond := [Cond.classLink RX1 37 RX4, Cond.fieldLink RX1 40 "CakeMarks$Divisions" "order" "LCakeMarks$Row;", Cond.fieldLink RX1 44 "CakeMarks$Divisions" "start" "[I", Cond.fieldLink RX1 47 "CakeMarks$Divisions" "totals" "[I", Cond.classLink RX1 50 "[[I", Cond.fieldLink RX1 52 "CakeMarks$Divisions" "ahead" "[[I", Cond.fieldLink RX1 55 "CakeMarks$Divisions" "parts" "[[I", Cond.fieldLink RX1 58 "CakeMarks$Divisions" "greatest" "[I"]
def wsX6_init : List Cond := .code yX6_init cX6_init 2 none :: ((wsX6_init_r1 ++ (wsX6_init_r2 ++ (wsX6_init_r3 ++ wsX6_init_r4))) ++ wsX00 ++ wsX60 ++ wsX50 ++ wsX20 ++ wsX30 ++ wsX10 ++ wsX40)
def wsX6_dropOldest : List Cond := .code yX6_dropOldest cX6_dropOldest 3 none :: ([.fieldLink RX6 16 "CakeMarks" "history" "[LCakeMarks$Cake;", .fieldLink RX6 20 "CakeMarks" "states" "I"] ++ wsX60)
def wsX6_record_r1 : List Cond := [Cond.fieldLink RX6 20 "CakeMarks" "states" "I", Cond.fieldLink RX6 16 "CakeMarks" "history" "[LCakeMarks$Cake;", Cond.fieldLink RX6 10 "CakeMarks" "cake" "LCakeMarks$Cake;", Cond.fieldLink RX6 52 "CakeMarks" "searched" "Z", Cond.methodLink RX6 212 yX6_dropOldest, Cond.instanceMethod yX6_dropOldest, Cond.selects RX6 yX6_dropOldest yX6_dropOldest, Cond.initialized RX6, Cond.code yX6_dropOldest cX6_dropOldest 3 none, Cond.methodLink RX6 148 yX0_become, Cond.instanceMethod yX0_become, Cond.selects RX0 yX0_become yX0_become, Cond.initialized RX0, Cond.code yX0_become cX0_become 3 none, Cond.fieldLink RX0 9 "CakeMarks$Cake" "guests" "I", Cond.fieldLink RX0 15 "CakeMarks$Cake" "owner" "[I", Cond.fieldLink RX0 21 "CakeMarks$Cake" "values" "[[I", Cond.methodLink RX0 24 yX0_takeOwners, Cond.instanceMethod yX0_takeOwners, Cond.selects RX0 yX0_takeOwners yX0_takeOwners, Cond.code yX0_takeOwners cX0_takeOwners 2 none, Cond.methodLink RX0 32 arraycopyName, Cond.native arraycopyName, Cond.static arraycopyName]
def wsX6_record_r2 : List Cond := [Cond.initialized "java/lang/System", Cond.methodLink RX0 28 yX0_takeValues, Cond.instanceMethod yX0_takeValues, Cond.selects RX0 yX0_takeValues yX0_takeValues, Cond.code yX0_takeValues cX0_takeValues 3 none]
def wsX6_record : List Cond := .code yX6_record cX6_record 1 none :: ((wsX6_record_r1 ++ wsX6_record_r2) ++ wsX60 ++ wsX00)
def wsX6_addGuest_r1 : List Cond := [Cond.fieldLink RX6 10 "CakeMarks" "cake" "LCakeMarks$Cake;", Cond.fieldLink RX6 56 "CakeMarks$Cake" "guests" "I", Cond.methodLink RX6 59 yX6_record, Cond.instanceMethod yX6_record, Cond.selects RX6 yX6_record yX6_record, Cond.initialized RX6, Cond.code yX6_record cX6_record 1 none, Cond.fieldLink RX6 20 "CakeMarks" "states" "I", Cond.fieldLink RX6 16 "CakeMarks" "history" "[LCakeMarks$Cake;", Cond.fieldLink RX6 52 "CakeMarks" "searched" "Z", Cond.methodLink RX6 212 yX6_dropOldest, Cond.instanceMethod yX6_dropOldest, Cond.selects RX6 yX6_dropOldest yX6_dropOldest, Cond.code yX6_dropOldest cX6_dropOldest 3 none, Cond.methodLink RX6 148 yX0_become, Cond.instanceMethod yX0_become, Cond.selects RX0 yX0_become yX0_become, Cond.initialized RX0, Cond.code yX0_become cX0_become 3 none, Cond.fieldLink RX0 9 "CakeMarks$Cake" "guests" "I", Cond.fieldLink RX0 15 "CakeMarks$Cake" "owner" "[I", Cond.fieldLink RX0 21 "CakeMarks$Cake" "values" "[[I", Cond.methodLink RX0 24 yX0_takeOwners, Cond.instanceMethod yX0_takeOwners]
def wsX6_addGuest_r2 : List Cond := [Cond.selects RX0 yX0_takeOwners yX0_takeOwners, Cond.code yX0_takeOwners cX0_takeOwners 2 none, Cond.methodLink RX0 32 arraycopyName, Cond.native arraycopyName, Cond.static arraycopyName, Cond.initialized "java/lang/System", Cond.methodLink RX0 28 yX0_takeValues, Cond.instanceMethod yX0_takeValues, Cond.selects RX0 yX0_takeValues yX0_takeValues, Cond.code yX0_takeValues cX0_takeValues 3 none, Cond.methodLink RX6 62 yX0_seatGuest, Cond.instanceMethod yX0_seatGuest, Cond.selects RX0 yX0_seatGuest yX0_seatGuest, Cond.code yX0_seatGuest cX0_seatGuest 2 (some .int), Cond.methodLink RX0 38 yX0_setValues, Cond.instanceMethod yX0_setValues, Cond.selects RX0 yX0_setValues yX0_setValues, Cond.code yX0_setValues cX0_setValues 6 none]
def wsX6_addGuest : List Cond := .code yX6_addGuest cX6_addGuest 1 (some .int) :: ((wsX6_addGuest_r1 ++ wsX6_addGuest_r2) ++ wsX60 ++ wsX00)
def wsX6_isSpan : List Cond := .code yX6_isSpan cX6_isSpan 2 (some .boolean) :: ([])
def wsX6_setValue_r1 : List Cond := [Cond.fieldLink RX6 10 "CakeMarks" "cake" "LCakeMarks$Cake;", Cond.methodLink RX6 66 yX0_isGuest, Cond.instanceMethod yX0_isGuest, Cond.selects RX0 yX0_isGuest yX0_isGuest, Cond.initialized RX0, Cond.code yX0_isGuest cX0_isGuest 2 (some .boolean), Cond.fieldLink RX0 9 "CakeMarks$Cake" "guests" "I", Cond.methodLink RX6 70 yX6_isSpan, Cond.static yX6_isSpan, Cond.initialized RX6, Cond.code yX6_isSpan cX6_isSpan 2 (some .boolean), Cond.methodLink RX6 59 yX6_record, Cond.instanceMethod yX6_record, Cond.selects RX6 yX6_record yX6_record, Cond.code yX6_record cX6_record 1 none, Cond.fieldLink RX6 20 "CakeMarks" "states" "I", Cond.fieldLink RX6 16 "CakeMarks" "history" "[LCakeMarks$Cake;", Cond.fieldLink RX6 52 "CakeMarks" "searched" "Z", Cond.methodLink RX6 212 yX6_dropOldest, Cond.instanceMethod yX6_dropOldest, Cond.selects RX6 yX6_dropOldest yX6_dropOldest, Cond.code yX6_dropOldest cX6_dropOldest 3 none, Cond.methodLink RX6 148 yX0_become, Cond.instanceMethod yX0_become]
def wsX6_setValue_r2 : List Cond := [Cond.selects RX0 yX0_become yX0_become, Cond.code yX0_become cX0_become 3 none, Cond.fieldLink RX0 15 "CakeMarks$Cake" "owner" "[I", Cond.fieldLink RX0 21 "CakeMarks$Cake" "values" "[[I", Cond.methodLink RX0 24 yX0_takeOwners, Cond.instanceMethod yX0_takeOwners, Cond.selects RX0 yX0_takeOwners yX0_takeOwners, Cond.code yX0_takeOwners cX0_takeOwners 2 none, Cond.methodLink RX0 32 arraycopyName, Cond.native arraycopyName, Cond.static arraycopyName, Cond.initialized "java/lang/System", Cond.methodLink RX0 28 yX0_takeValues, Cond.instanceMethod yX0_takeValues, Cond.selects RX0 yX0_takeValues yX0_takeValues, Cond.code yX0_takeValues cX0_takeValues 3 none, Cond.methodLink RX6 74 yX0_setValues, Cond.instanceMethod yX0_setValues, Cond.selects RX0 yX0_setValues yX0_setValues, Cond.code yX0_setValues cX0_setValues 6 none, Cond.methodLink RX6 78 yX0_total, Cond.instanceMethod yX0_total, Cond.selects RX0 yX0_total yX0_total, Cond.code yX0_total cX0_total 2 (some .int)]
def wsX6_setValue_r3 : List Cond := [Cond.methodLink RX0 42 yX0_spanWorth, Cond.instanceMethod yX0_spanWorth, Cond.selects RX0 yX0_spanWorth yX0_spanWorth, Cond.code yX0_spanWorth cX0_spanWorth 6 (some .int)]
def wsX6_setValue : List Cond := .code yX6_setValue cX6_setValue 5 (some .int) :: ((wsX6_setValue_r1 ++ (wsX6_setValue_r2 ++ wsX6_setValue_r3)) ++ wsX60 ++ wsX00)
def wsX6_append : List Cond := .code yX6_append cX6_append 2 (some .int) :: ([.fieldLink RX6 27 "CakeMarks" "text" "LCakeMarks$ValueText;", .fieldLink RX6 82 "CakeMarks$ValueText" "length" "I", .methodLink RX6 85 yX5_put, .instanceMethod yX5_put, .selects RX5 yX5_put yX5_put, .initialized RX5, .code yX5_put cX5_put 2 (some .int), .fieldLink RX5 9 "CakeMarks$ValueText" "length" "I", .fieldLink RX5 15 "CakeMarks$ValueText" "signs" "[I"] ++ wsX60 ++ wsX50)
def wsX6_clearText : List Cond := .code yX6_clearText cX6_clearText 2 (some .int) :: ([.fieldLink RX6 27 "CakeMarks" "text" "LCakeMarks$ValueText;", .fieldLink RX6 82 "CakeMarks$ValueText" "length" "I"] ++ wsX60 ++ wsX50)
def wsX6_read_r1 : List Cond := [Cond.fieldLink RX6 10 "CakeMarks" "cake" "LCakeMarks$Cake;", Cond.fieldLink RX6 27 "CakeMarks" "text" "LCakeMarks$ValueText;", Cond.fieldLink RX6 91 "CakeMarks$ValueText" "values" "[I", Cond.methodLink RX6 66 yX0_isGuest, Cond.instanceMethod yX0_isGuest, Cond.selects RX0 yX0_isGuest yX0_isGuest, Cond.initialized RX0, Cond.code yX0_isGuest cX0_isGuest 2 (some .boolean), Cond.fieldLink RX0 9 "CakeMarks$Cake" "guests" "I", Cond.methodLink RX6 88 yX5_findFailure, Cond.instanceMethod yX5_findFailure, Cond.selects RX5 yX5_findFailure yX5_findFailure, Cond.initialized RX5, Cond.code yX5_findFailure cX5_findFailure 3 (some .int), Cond.fieldLink RX5 22 "CakeMarks$ValueText" "told" "I", Cond.fieldLink RX5 25 "CakeMarks$ValueText" "place" "I", Cond.fieldLink RX5 9 "CakeMarks$ValueText" "length" "I", Cond.fieldLink RX5 15 "CakeMarks$ValueText" "signs" "[I", Cond.methodLink RX5 28 yX5_readPart, Cond.instanceMethod yX5_readPart, Cond.selects RX5 yX5_readPart yX5_readPart, Cond.code yX5_readPart cX5_readPart 4 (some .int), Cond.fieldLink RX5 19 "CakeMarks$ValueText" "values" "[I", Cond.methodLink RX5 32 yX5_isDigit]
def wsX6_read_r2 : List Cond := [Cond.instanceMethod yX5_isDigit, Cond.selects RX5 yX5_isDigit yX5_isDigit, Cond.code yX5_isDigit cX5_isDigit 2 (some .boolean), Cond.methodLink RX5 36 yX5_readTimes, Cond.instanceMethod yX5_readTimes, Cond.selects RX5 yX5_readTimes yX5_readTimes, Cond.code yX5_readTimes cX5_readTimes 3 (some .int), Cond.methodLink RX6 59 yX6_record, Cond.instanceMethod yX6_record, Cond.selects RX6 yX6_record yX6_record, Cond.initialized RX6, Cond.code yX6_record cX6_record 1 none, Cond.fieldLink RX6 20 "CakeMarks" "states" "I", Cond.fieldLink RX6 16 "CakeMarks" "history" "[LCakeMarks$Cake;", Cond.fieldLink RX6 52 "CakeMarks" "searched" "Z", Cond.methodLink RX6 212 yX6_dropOldest, Cond.instanceMethod yX6_dropOldest, Cond.selects RX6 yX6_dropOldest yX6_dropOldest, Cond.code yX6_dropOldest cX6_dropOldest 3 none, Cond.methodLink RX6 148 yX0_become, Cond.instanceMethod yX0_become, Cond.selects RX0 yX0_become yX0_become, Cond.code yX0_become cX0_become 3 none, Cond.fieldLink RX0 15 "CakeMarks$Cake" "owner" "[I"]
def wsX6_read_r3 : List Cond := [Cond.fieldLink RX0 21 "CakeMarks$Cake" "values" "[[I", Cond.methodLink RX0 24 yX0_takeOwners, Cond.instanceMethod yX0_takeOwners, Cond.selects RX0 yX0_takeOwners yX0_takeOwners, Cond.code yX0_takeOwners cX0_takeOwners 2 none, Cond.methodLink RX0 32 arraycopyName, Cond.native arraycopyName, Cond.static arraycopyName, Cond.initialized "java/lang/System", Cond.methodLink RX0 28 yX0_takeValues, Cond.instanceMethod yX0_takeValues, Cond.selects RX0 yX0_takeValues yX0_takeValues, Cond.code yX0_takeValues cX0_takeValues 3 none, Cond.methodLink RX6 95 yX0_takeValues, Cond.methodLink RX6 78 yX0_total, Cond.instanceMethod yX0_total, Cond.selects RX0 yX0_total yX0_total, Cond.code yX0_total cX0_total 2 (some .int), Cond.methodLink RX0 42 yX0_spanWorth, Cond.instanceMethod yX0_spanWorth, Cond.selects RX0 yX0_spanWorth yX0_spanWorth, Cond.code yX0_spanWorth cX0_spanWorth 6 (some .int)]
def wsX6_read : List Cond := .code yX6_read cX6_read 3 (some .int) :: ((wsX6_read_r1 ++ (wsX6_read_r2 ++ wsX6_read_r3)) ++ wsX60 ++ wsX50 ++ wsX00)
def wsX6_give_r1 : List Cond := [Cond.fieldLink RX6 10 "CakeMarks" "cake" "LCakeMarks$Cake;", Cond.methodLink RX6 66 yX0_isGuest, Cond.instanceMethod yX0_isGuest, Cond.selects RX0 yX0_isGuest yX0_isGuest, Cond.initialized RX0, Cond.code yX0_isGuest cX0_isGuest 2 (some .boolean), Cond.fieldLink RX0 9 "CakeMarks$Cake" "guests" "I", Cond.methodLink RX6 70 yX6_isSpan, Cond.static yX6_isSpan, Cond.initialized RX6, Cond.code yX6_isSpan cX6_isSpan 2 (some .boolean), Cond.methodLink RX6 59 yX6_record, Cond.instanceMethod yX6_record, Cond.selects RX6 yX6_record yX6_record, Cond.code yX6_record cX6_record 1 none, Cond.fieldLink RX6 20 "CakeMarks" "states" "I", Cond.fieldLink RX6 16 "CakeMarks" "history" "[LCakeMarks$Cake;", Cond.fieldLink RX6 52 "CakeMarks" "searched" "Z", Cond.methodLink RX6 212 yX6_dropOldest, Cond.instanceMethod yX6_dropOldest, Cond.selects RX6 yX6_dropOldest yX6_dropOldest, Cond.code yX6_dropOldest cX6_dropOldest 3 none, Cond.methodLink RX6 148 yX0_become, Cond.instanceMethod yX0_become]
def wsX6_give_r2 : List Cond := [Cond.selects RX0 yX0_become yX0_become, Cond.code yX0_become cX0_become 3 none, Cond.fieldLink RX0 15 "CakeMarks$Cake" "owner" "[I", Cond.fieldLink RX0 21 "CakeMarks$Cake" "values" "[[I", Cond.methodLink RX0 24 yX0_takeOwners, Cond.instanceMethod yX0_takeOwners, Cond.selects RX0 yX0_takeOwners yX0_takeOwners, Cond.code yX0_takeOwners cX0_takeOwners 2 none, Cond.methodLink RX0 32 arraycopyName, Cond.native arraycopyName, Cond.static arraycopyName, Cond.initialized "java/lang/System", Cond.methodLink RX0 28 yX0_takeValues, Cond.instanceMethod yX0_takeValues, Cond.selects RX0 yX0_takeValues yX0_takeValues, Cond.code yX0_takeValues cX0_takeValues 3 none, Cond.methodLink RX6 99 yX0_handOut, Cond.instanceMethod yX0_handOut, Cond.selects RX0 yX0_handOut yX0_handOut, Cond.code yX0_handOut cX0_handOut 6 (some .int)]
def wsX6_give : List Cond := .code yX6_give cX6_give 4 (some .int) :: ((wsX6_give_r1 ++ wsX6_give_r2) ++ wsX60 ++ wsX00)
def wsX6_putBack_r1 : List Cond := [Cond.fieldLink RX6 10 "CakeMarks" "cake" "LCakeMarks$Cake;", Cond.methodLink RX6 70 yX6_isSpan, Cond.static yX6_isSpan, Cond.initialized RX6, Cond.code yX6_isSpan cX6_isSpan 2 (some .boolean), Cond.methodLink RX6 59 yX6_record, Cond.instanceMethod yX6_record, Cond.selects RX6 yX6_record yX6_record, Cond.code yX6_record cX6_record 1 none, Cond.fieldLink RX6 20 "CakeMarks" "states" "I", Cond.fieldLink RX6 16 "CakeMarks" "history" "[LCakeMarks$Cake;", Cond.fieldLink RX6 52 "CakeMarks" "searched" "Z", Cond.methodLink RX6 212 yX6_dropOldest, Cond.instanceMethod yX6_dropOldest, Cond.selects RX6 yX6_dropOldest yX6_dropOldest, Cond.code yX6_dropOldest cX6_dropOldest 3 none, Cond.methodLink RX6 148 yX0_become, Cond.instanceMethod yX0_become, Cond.selects RX0 yX0_become yX0_become, Cond.initialized RX0, Cond.code yX0_become cX0_become 3 none, Cond.fieldLink RX0 9 "CakeMarks$Cake" "guests" "I", Cond.fieldLink RX0 15 "CakeMarks$Cake" "owner" "[I", Cond.fieldLink RX0 21 "CakeMarks$Cake" "values" "[[I"]
def wsX6_putBack_r2 : List Cond := [Cond.methodLink RX0 24 yX0_takeOwners, Cond.instanceMethod yX0_takeOwners, Cond.selects RX0 yX0_takeOwners yX0_takeOwners, Cond.code yX0_takeOwners cX0_takeOwners 2 none, Cond.methodLink RX0 32 arraycopyName, Cond.native arraycopyName, Cond.static arraycopyName, Cond.initialized "java/lang/System", Cond.methodLink RX0 28 yX0_takeValues, Cond.instanceMethod yX0_takeValues, Cond.selects RX0 yX0_takeValues yX0_takeValues, Cond.code yX0_takeValues cX0_takeValues 3 none, Cond.methodLink RX6 103 yX0_takeBack, Cond.instanceMethod yX0_takeBack, Cond.selects RX0 yX0_takeBack yX0_takeBack, Cond.code yX0_takeBack cX0_takeBack 5 (some .int)]
def wsX6_putBack : List Cond := .code yX6_putBack cX6_putBack 3 (some .int) :: ((wsX6_putBack_r1 ++ wsX6_putBack_r2) ++ wsX60 ++ wsX00)
def wsX6_isMove : List Cond := .code yX6_isMove cX6_isMove 3 (some .boolean) :: ([.fieldLink RX6 10 "CakeMarks" "cake" "LCakeMarks$Cake;", .fieldLink RX6 56 "CakeMarks$Cake" "guests" "I"] ++ wsX60 ++ wsX00)
def wsX6_move_r1 : List Cond := [Cond.fieldLink RX6 34 "CakeMarks" "mark" "LCakeMarks$Mark;", Cond.fieldLink RX6 10 "CakeMarks" "cake" "LCakeMarks$Cake;", Cond.fieldLink RX6 114 "CakeMarks$Mark" "owner" "[I", Cond.methodLink RX6 107 yX6_isMove, Cond.instanceMethod yX6_isMove, Cond.selects RX6 yX6_isMove yX6_isMove, Cond.initialized RX6, Cond.code yX6_isMove cX6_isMove 3 (some .boolean), Cond.fieldLink RX6 56 "CakeMarks$Cake" "guests" "I", Cond.methodLink RX6 59 yX6_record, Cond.instanceMethod yX6_record, Cond.selects RX6 yX6_record yX6_record, Cond.code yX6_record cX6_record 1 none, Cond.fieldLink RX6 20 "CakeMarks" "states" "I", Cond.fieldLink RX6 16 "CakeMarks" "history" "[LCakeMarks$Cake;", Cond.fieldLink RX6 52 "CakeMarks" "searched" "Z", Cond.methodLink RX6 212 yX6_dropOldest, Cond.instanceMethod yX6_dropOldest, Cond.selects RX6 yX6_dropOldest yX6_dropOldest, Cond.code yX6_dropOldest cX6_dropOldest 3 none, Cond.methodLink RX6 148 yX0_become, Cond.instanceMethod yX0_become, Cond.selects RX0 yX0_become yX0_become, Cond.initialized RX0]
def wsX6_move_r2 : List Cond := [Cond.code yX0_become cX0_become 3 none, Cond.fieldLink RX0 9 "CakeMarks$Cake" "guests" "I", Cond.fieldLink RX0 15 "CakeMarks$Cake" "owner" "[I", Cond.fieldLink RX0 21 "CakeMarks$Cake" "values" "[[I", Cond.methodLink RX0 24 yX0_takeOwners, Cond.instanceMethod yX0_takeOwners, Cond.selects RX0 yX0_takeOwners yX0_takeOwners, Cond.code yX0_takeOwners cX0_takeOwners 2 none, Cond.methodLink RX0 32 arraycopyName, Cond.native arraycopyName, Cond.static arraycopyName, Cond.initialized "java/lang/System", Cond.methodLink RX0 28 yX0_takeValues, Cond.instanceMethod yX0_takeValues, Cond.selects RX0 yX0_takeValues yX0_takeValues, Cond.code yX0_takeValues cX0_takeValues 3 none, Cond.methodLink RX6 110 yX2_pass, Cond.instanceMethod yX2_pass, Cond.selects RX2 yX2_pass yX2_pass, Cond.initialized RX2, Cond.code yX2_pass cX2_pass 9 (some .int), Cond.fieldLink RX2 15 "CakeMarks$Cake" "owner" "[I", Cond.fieldLink RX2 9 "CakeMarks$Mark" "owner" "[I", Cond.methodLink RX2 18 arraycopyName]
def wsX6_move_r3 : List Cond := [Cond.methodLink RX2 24 yX2_firstCaller, Cond.static yX2_firstCaller, Cond.code yX2_firstCaller cX2_firstCaller 7 (some .int), Cond.fieldLink RX2 32 "CakeMarks$Cake" "guests" "I", Cond.methodLink RX2 36 yX0_worthWithin, Cond.instanceMethod yX0_worthWithin, Cond.selects RX0 yX0_worthWithin yX0_worthWithin, Cond.code yX0_worthWithin cX0_worthWithin 7 (some .int), Cond.methodLink RX2 40 yX0_total, Cond.instanceMethod yX0_total, Cond.selects RX0 yX0_total yX0_total, Cond.code yX0_total cX0_total 2 (some .int), Cond.methodLink RX0 42 yX0_spanWorth, Cond.instanceMethod yX0_spanWorth, Cond.selects RX0 yX0_spanWorth yX0_spanWorth, Cond.code yX0_spanWorth cX0_spanWorth 6 (some .int), Cond.methodLink RX2 28 yX2_giveTo, Cond.instanceMethod yX2_giveTo, Cond.selects RX2 yX2_giveTo yX2_giveTo, Cond.code yX2_giveTo cX2_giveTo 5 none, Cond.methodLink RX6 117 yX0_takeOwners]
def wsX6_move : List Cond := .code yX6_move cX6_move 4 (some .int) :: ((wsX6_move_r1 ++ (wsX6_move_r2 ++ wsX6_move_r3)) ++ wsX60 ++ wsX20 ++ wsX00)
def wsX6_isPair : List Cond := .code yX6_isPair cX6_isPair 3 (some .boolean) :: ([.fieldLink RX6 10 "CakeMarks" "cake" "LCakeMarks$Cake;", .methodLink RX6 66 yX0_isGuest, .instanceMethod yX0_isGuest, .selects RX0 yX0_isGuest yX0_isGuest, .initialized RX0, .code yX0_isGuest cX0_isGuest 2 (some .boolean), .fieldLink RX0 9 "CakeMarks$Cake" "guests" "I"] ++ wsX60 ++ wsX00)
def wsX6_cut_r1 : List Cond := [Cond.fieldLink RX6 10 "CakeMarks" "cake" "LCakeMarks$Cake;", Cond.methodLink RX6 121 yX6_isPair, Cond.instanceMethod yX6_isPair, Cond.selects RX6 yX6_isPair yX6_isPair, Cond.initialized RX6, Cond.code yX6_isPair cX6_isPair 3 (some .boolean), Cond.methodLink RX6 66 yX0_isGuest, Cond.instanceMethod yX0_isGuest, Cond.selects RX0 yX0_isGuest yX0_isGuest, Cond.initialized RX0, Cond.code yX0_isGuest cX0_isGuest 2 (some .boolean), Cond.fieldLink RX0 9 "CakeMarks$Cake" "guests" "I", Cond.methodLink RX6 70 yX6_isSpan, Cond.static yX6_isSpan, Cond.code yX6_isSpan cX6_isSpan 2 (some .boolean), Cond.methodLink RX6 124 yX0_liesOnTable, Cond.instanceMethod yX0_liesOnTable, Cond.selects RX0 yX0_liesOnTable yX0_liesOnTable, Cond.code yX0_liesOnTable cX0_liesOnTable 4 (some .boolean), Cond.fieldLink RX0 15 "CakeMarks$Cake" "owner" "[I", Cond.methodLink RX6 59 yX6_record, Cond.instanceMethod yX6_record, Cond.selects RX6 yX6_record yX6_record, Cond.code yX6_record cX6_record 1 none]
def wsX6_cut_r2 : List Cond := [Cond.fieldLink RX6 20 "CakeMarks" "states" "I", Cond.fieldLink RX6 16 "CakeMarks" "history" "[LCakeMarks$Cake;", Cond.fieldLink RX6 52 "CakeMarks" "searched" "Z", Cond.methodLink RX6 212 yX6_dropOldest, Cond.instanceMethod yX6_dropOldest, Cond.selects RX6 yX6_dropOldest yX6_dropOldest, Cond.code yX6_dropOldest cX6_dropOldest 3 none, Cond.methodLink RX6 148 yX0_become, Cond.instanceMethod yX0_become, Cond.selects RX0 yX0_become yX0_become, Cond.code yX0_become cX0_become 3 none, Cond.fieldLink RX0 21 "CakeMarks$Cake" "values" "[[I", Cond.methodLink RX0 24 yX0_takeOwners, Cond.instanceMethod yX0_takeOwners, Cond.selects RX0 yX0_takeOwners yX0_takeOwners, Cond.code yX0_takeOwners cX0_takeOwners 2 none, Cond.methodLink RX0 32 arraycopyName, Cond.native arraycopyName, Cond.static arraycopyName, Cond.initialized "java/lang/System", Cond.methodLink RX0 28 yX0_takeValues, Cond.instanceMethod yX0_takeValues, Cond.selects RX0 yX0_takeValues yX0_takeValues, Cond.code yX0_takeValues cX0_takeValues 3 none]
def wsX6_cut_r3 : List Cond := [Cond.methodLink RX6 127 yX0_findCut, Cond.instanceMethod yX0_findCut, Cond.selects RX0 yX0_findCut yX0_findCut, Cond.code yX0_findCut cX0_findCut 10 (some .int), Cond.methodLink RX0 50 Lib.Math.abs.name, Cond.static Lib.Math.abs.name, Cond.initialized "java/lang/Math", Cond.code Lib.Math.abs.name Lib.Math.abs.code 1 (some .int), Cond.methodLink RX0 42 yX0_spanWorth, Cond.instanceMethod yX0_spanWorth, Cond.selects RX0 yX0_spanWorth yX0_spanWorth, Cond.code yX0_spanWorth cX0_spanWorth 6 (some .int), Cond.methodLink RX6 130 yX0_spanWorth, Cond.methodLink RX6 99 yX0_handOut, Cond.instanceMethod yX0_handOut, Cond.selects RX0 yX0_handOut yX0_handOut, Cond.code yX0_handOut cX0_handOut 6 (some .int)]
def wsX6_cut : List Cond := .code yX6_cut cX6_cut 7 (some .int) :: ((wsX6_cut_r1 ++ (wsX6_cut_r2 ++ wsX6_cut_r3)) ++ wsX60 ++ wsX00)
def wsX6_trim_r1 : List Cond := [Cond.fieldLink RX6 10 "CakeMarks" "cake" "LCakeMarks$Cake;", Cond.methodLink RX6 121 yX6_isPair, Cond.instanceMethod yX6_isPair, Cond.selects RX6 yX6_isPair yX6_isPair, Cond.initialized RX6, Cond.code yX6_isPair cX6_isPair 3 (some .boolean), Cond.methodLink RX6 66 yX0_isGuest, Cond.instanceMethod yX0_isGuest, Cond.selects RX0 yX0_isGuest yX0_isGuest, Cond.initialized RX0, Cond.code yX0_isGuest cX0_isGuest 2 (some .boolean), Cond.fieldLink RX0 9 "CakeMarks$Cake" "guests" "I", Cond.methodLink RX6 59 yX6_record, Cond.instanceMethod yX6_record, Cond.selects RX6 yX6_record yX6_record, Cond.code yX6_record cX6_record 1 none, Cond.fieldLink RX6 20 "CakeMarks" "states" "I", Cond.fieldLink RX6 16 "CakeMarks" "history" "[LCakeMarks$Cake;", Cond.fieldLink RX6 52 "CakeMarks" "searched" "Z", Cond.methodLink RX6 212 yX6_dropOldest, Cond.instanceMethod yX6_dropOldest, Cond.selects RX6 yX6_dropOldest yX6_dropOldest, Cond.code yX6_dropOldest cX6_dropOldest 3 none, Cond.methodLink RX6 148 yX0_become]
def wsX6_trim_r2 : List Cond := [Cond.instanceMethod yX0_become, Cond.selects RX0 yX0_become yX0_become, Cond.code yX0_become cX0_become 3 none, Cond.fieldLink RX0 15 "CakeMarks$Cake" "owner" "[I", Cond.fieldLink RX0 21 "CakeMarks$Cake" "values" "[[I", Cond.methodLink RX0 24 yX0_takeOwners, Cond.instanceMethod yX0_takeOwners, Cond.selects RX0 yX0_takeOwners yX0_takeOwners, Cond.code yX0_takeOwners cX0_takeOwners 2 none, Cond.methodLink RX0 32 arraycopyName, Cond.native arraycopyName, Cond.static arraycopyName, Cond.initialized "java/lang/System", Cond.methodLink RX0 28 yX0_takeValues, Cond.instanceMethod yX0_takeValues, Cond.selects RX0 yX0_takeValues yX0_takeValues, Cond.code yX0_takeValues cX0_takeValues 3 none, Cond.methodLink RX6 133 yX0_trimPiece, Cond.instanceMethod yX0_trimPiece, Cond.selects RX0 yX0_trimPiece yX0_trimPiece, Cond.code yX0_trimPiece cX0_trimPiece 7 (some .int), Cond.methodLink RX0 56 yX0_worth, Cond.instanceMethod yX0_worth, Cond.selects RX0 yX0_worth yX0_worth]
def wsX6_trim_r3 : List Cond := [Cond.code yX0_worth cX0_worth 3 (some .int), Cond.methodLink RX0 46 yX0_worthWithin, Cond.instanceMethod yX0_worthWithin, Cond.selects RX0 yX0_worthWithin yX0_worthWithin, Cond.code yX0_worthWithin cX0_worthWithin 7 (some .int)]
def wsX6_trim : List Cond := .code yX6_trim cX6_trim 3 (some .int) :: ((wsX6_trim_r1 ++ (wsX6_trim_r2 ++ wsX6_trim_r3)) ++ wsX60 ++ wsX00)
def wsX6_exchange_r1 : List Cond := [Cond.fieldLink RX6 41 "CakeMarks" "rings" "LCakeMarks$Rings;", Cond.fieldLink RX6 10 "CakeMarks" "cake" "LCakeMarks$Cake;", Cond.fieldLink RX6 140 "CakeMarks$Rings" "row" "LCakeMarks$Row;", Cond.methodLink RX6 136 yX3_find, Cond.instanceMethod yX3_find, Cond.selects RX3 yX3_find yX3_find, Cond.initialized RX3, Cond.code yX3_find cX3_find 5 (some .int), Cond.fieldLink RX3 26 "CakeMarks$Cake" "guests" "I", Cond.fieldLink RX3 12 "CakeMarks$Rings" "row" "LCakeMarks$Row;", Cond.constant RX3 36 (1000000), Cond.methodLink RX3 22 yX3_drawArrows, Cond.instanceMethod yX3_drawArrows, Cond.selects RX3 yX3_drawArrows yX3_drawArrows, Cond.code yX3_drawArrows cX3_drawArrows 4 none, Cond.fieldLink RX3 18 "CakeMarks$Rings" "envied" "[I", Cond.methodLink RX3 45 yX0_envyOf, Cond.instanceMethod yX0_envyOf, Cond.selects RX0 yX0_envyOf yX0_envyOf, Cond.initialized RX0, Cond.code yX0_envyOf cX0_envyOf 3 (some .int), Cond.methodLink RX0 71 Lib.Math.max.name, Cond.static Lib.Math.max.name, Cond.initialized "java/lang/Math"]
def wsX6_exchange_r2 : List Cond := [Cond.code Lib.Math.max.name Lib.Math.max.code 2 (some .int), Cond.methodLink RX0 56 yX0_worth, Cond.instanceMethod yX0_worth, Cond.selects RX0 yX0_worth yX0_worth, Cond.code yX0_worth cX0_worth 3 (some .int), Cond.methodLink RX0 46 yX0_worthWithin, Cond.instanceMethod yX0_worthWithin, Cond.selects RX0 yX0_worthWithin yX0_worthWithin, Cond.code yX0_worthWithin cX0_worthWithin 7 (some .int), Cond.fieldLink RX0 15 "CakeMarks$Cake" "owner" "[I", Cond.fieldLink RX0 21 "CakeMarks$Cake" "values" "[[I", Cond.methodLink RX3 32 yX4_begin, Cond.instanceMethod yX4_begin, Cond.selects RX4 yX4_begin yX4_begin, Cond.initialized RX4, Cond.code yX4_begin cX4_begin 3 none, Cond.methodLink RX4 22 Lib.Math.min.name, Cond.static Lib.Math.min.name, Cond.code Lib.Math.min.name Lib.Math.min.code 2 (some .int), Cond.fieldLink RX4 15 "CakeMarks$Row" "size" "I", Cond.fieldLink RX4 19 "CakeMarks$Row" "guests" "I", Cond.methodLink RX4 28 yX4_fill, Cond.instanceMethod yX4_fill, Cond.selects RX4 yX4_fill yX4_fill]
def wsX6_exchange_r3 : List Cond := [Cond.code yX4_fill cX4_fill 3 none, Cond.fieldLink RX4 9 "CakeMarks$Row" "at" "[I", Cond.methodLink RX4 32 yX4_firstFree, Cond.instanceMethod yX4_firstFree, Cond.selects RX4 yX4_firstFree yX4_firstFree, Cond.code yX4_firstFree cX4_firstFree 5 (some .int), Cond.methodLink RX3 37 yX3_isRing, Cond.instanceMethod yX3_isRing, Cond.selects RX3 yX3_isRing yX3_isRing, Cond.code yX3_isRing cX3_isRing 3 (some .boolean), Cond.fieldLink RX3 49 "CakeMarks$Row" "size" "I", Cond.fieldLink RX3 52 "CakeMarks$Row" "at" "[I", Cond.methodLink RX3 41 yX4_advance, Cond.instanceMethod yX4_advance, Cond.selects RX4 yX4_advance yX4_advance, Cond.code yX4_advance cX4_advance 4 (some .boolean), Cond.methodLink RX6 59 yX6_record, Cond.instanceMethod yX6_record, Cond.selects RX6 yX6_record yX6_record, Cond.initialized RX6, Cond.code yX6_record cX6_record 1 none, Cond.fieldLink RX6 20 "CakeMarks" "states" "I", Cond.fieldLink RX6 16 "CakeMarks" "history" "[LCakeMarks$Cake;", Cond.fieldLink RX6 52 "CakeMarks" "searched" "Z"]
def wsX6_exchange_r4 : List Cond := [Cond.methodLink RX6 212 yX6_dropOldest, Cond.instanceMethod yX6_dropOldest, Cond.selects RX6 yX6_dropOldest yX6_dropOldest, Cond.code yX6_dropOldest cX6_dropOldest 3 none, Cond.methodLink RX6 148 yX0_become, Cond.instanceMethod yX0_become, Cond.selects RX0 yX0_become yX0_become, Cond.code yX0_become cX0_become 3 none, Cond.fieldLink RX0 9 "CakeMarks$Cake" "guests" "I", Cond.methodLink RX0 24 yX0_takeOwners, Cond.instanceMethod yX0_takeOwners, Cond.selects RX0 yX0_takeOwners yX0_takeOwners, Cond.code yX0_takeOwners cX0_takeOwners 2 none, Cond.methodLink RX0 32 arraycopyName, Cond.native arraycopyName, Cond.static arraycopyName, Cond.initialized "java/lang/System", Cond.methodLink RX0 28 yX0_takeValues, Cond.instanceMethod yX0_takeValues, Cond.selects RX0 yX0_takeValues yX0_takeValues, Cond.code yX0_takeValues cX0_takeValues 3 none, Cond.methodLink RX6 144 yX0_passPieces, Cond.instanceMethod yX0_passPieces, Cond.selects RX0 yX0_passPieces yX0_passPieces]
def wsX6_exchange_r5 : List Cond := [Cond.code yX0_passPieces cX0_passPieces 4 none, Cond.fieldLink RX0 65 "CakeMarks$Row" "size" "I", Cond.fieldLink RX0 68 "CakeMarks$Row" "at" "[I", Cond.methodLink RX0 60 yX4_placeOf, Cond.instanceMethod yX4_placeOf, Cond.selects RX4 yX4_placeOf yX4_placeOf, Cond.code yX4_placeOf cX4_placeOf 3 (some .int)]
def wsX6_exchange : List Cond := .code yX6_exchange cX6_exchange 2 (some .int) :: ((wsX6_exchange_r1 ++ (wsX6_exchange_r2 ++ (wsX6_exchange_r3 ++ (wsX6_exchange_r4 ++ wsX6_exchange_r5)))) ++ wsX60 ++ wsX30 ++ wsX00 ++ wsX40)
def wsX6_undo : List Cond := .code yX6_undo cX6_undo 1 (some .int) :: ([.fieldLink RX6 20 "CakeMarks" "states" "I", .fieldLink RX6 10 "CakeMarks" "cake" "LCakeMarks$Cake;", .fieldLink RX6 16 "CakeMarks" "history" "[LCakeMarks$Cake;", .fieldLink RX6 52 "CakeMarks" "searched" "Z", .methodLink RX6 148 yX0_become, .instanceMethod yX0_become, .selects RX0 yX0_become yX0_become, .initialized RX0, .code yX0_become cX0_become 3 none, .fieldLink RX0 9 "CakeMarks$Cake" "guests" "I", .fieldLink RX0 15 "CakeMarks$Cake" "owner" "[I", .fieldLink RX0 21 "CakeMarks$Cake" "values" "[[I", .methodLink RX0 24 yX0_takeOwners, .instanceMethod yX0_takeOwners, .selects RX0 yX0_takeOwners yX0_takeOwners, .code yX0_takeOwners cX0_takeOwners 2 none, .methodLink RX0 32 arraycopyName, .native arraycopyName, .static arraycopyName, .initialized "java/lang/System", .methodLink RX0 28 yX0_takeValues, .instanceMethod yX0_takeValues, .selects RX0 yX0_takeValues yX0_takeValues, .code yX0_takeValues cX0_takeValues 3 none] ++ wsX60 ++ wsX00)
def wsX6_count_r1 : List Cond := [Cond.fieldLink RX6 10 "CakeMarks" "cake" "LCakeMarks$Cake;", Cond.fieldLink RX6 56 "CakeMarks$Cake" "guests" "I", Cond.fieldLink RX6 20 "CakeMarks" "states" "I", Cond.fieldLink RX6 27 "CakeMarks" "text" "LCakeMarks$ValueText;", Cond.fieldLink RX6 82 "CakeMarks$ValueText" "length" "I", Cond.methodLink RX6 152 yX0_crumbsOf, Cond.instanceMethod yX0_crumbsOf, Cond.selects RX0 yX0_crumbsOf yX0_crumbsOf, Cond.initialized RX0, Cond.code yX0_crumbsOf cX0_crumbsOf 4 (some .int), Cond.fieldLink RX0 15 "CakeMarks$Cake" "owner" "[I", Cond.methodLink RX6 155 yX0_arrows, Cond.instanceMethod yX0_arrows, Cond.selects RX0 yX0_arrows yX0_arrows, Cond.code yX0_arrows cX0_arrows 4 (some .int), Cond.fieldLink RX0 9 "CakeMarks$Cake" "guests" "I", Cond.methodLink RX0 74 yX0_envyOf, Cond.instanceMethod yX0_envyOf, Cond.selects RX0 yX0_envyOf yX0_envyOf, Cond.code yX0_envyOf cX0_envyOf 3 (some .int), Cond.methodLink RX0 71 Lib.Math.max.name, Cond.static Lib.Math.max.name, Cond.initialized "java/lang/Math", Cond.code Lib.Math.max.name Lib.Math.max.code 2 (some .int)]
def wsX6_count_r2 : List Cond := [Cond.methodLink RX0 56 yX0_worth, Cond.instanceMethod yX0_worth, Cond.selects RX0 yX0_worth yX0_worth, Cond.code yX0_worth cX0_worth 3 (some .int), Cond.methodLink RX0 46 yX0_worthWithin, Cond.instanceMethod yX0_worthWithin, Cond.selects RX0 yX0_worthWithin yX0_worthWithin, Cond.code yX0_worthWithin cX0_worthWithin 7 (some .int), Cond.fieldLink RX0 21 "CakeMarks$Cake" "values" "[[I", Cond.methodLink RX6 158 yX0_allEnvies, Cond.instanceMethod yX0_allEnvies, Cond.selects RX0 yX0_allEnvies yX0_allEnvies, Cond.code yX0_allEnvies cX0_allEnvies 4 (some .int), Cond.methodLink RX6 161 yX0_contentGuests, Cond.instanceMethod yX0_contentGuests, Cond.selects RX0 yX0_contentGuests yX0_contentGuests, Cond.code yX0_contentGuests cX0_contentGuests 4 (some .int), Cond.methodLink RX0 77 yX0_total, Cond.instanceMethod yX0_total, Cond.selects RX0 yX0_total yX0_total, Cond.code yX0_total cX0_total 2 (some .int), Cond.methodLink RX0 42 yX0_spanWorth, Cond.instanceMethod yX0_spanWorth, Cond.selects RX0 yX0_spanWorth yX0_spanWorth]
def wsX6_count_r3 : List Cond := [Cond.code yX0_spanWorth cX0_spanWorth 6 (some .int)]
def wsX6_count : List Cond := .code yX6_count cX6_count 2 (some .int) :: ((wsX6_count_r1 ++ (wsX6_count_r2 ++ wsX6_count_r3)) ++ wsX60 ++ wsX00 ++ wsX50)
def wsX6_commonDivisor : List Cond := .code yX6_commonDivisor cX6_commonDivisor 6 (some .int) :: ([.constant RX6 221 (1000000)])
def wsX6_lowestNumerator : List Cond := .code yX6_lowestNumerator cX6_lowestNumerator 3 (some .int) :: ([.methodLink RX6 218 yX6_commonDivisor, .static yX6_commonDivisor, .initialized RX6, .code yX6_commonDivisor cX6_commonDivisor 6 (some .int), .constant RX6 221 (1000000)])
def wsX6_lowestDenominator : List Cond := .code yX6_lowestDenominator cX6_lowestDenominator 3 (some .int) :: ([.methodLink RX6 218 yX6_commonDivisor, .static yX6_commonDivisor, .initialized RX6, .code yX6_commonDivisor cX6_commonDivisor 6 (some .int), .constant RX6 221 (1000000)])
def wsX6_guest_r1 : List Cond := [Cond.fieldLink RX6 10 "CakeMarks" "cake" "LCakeMarks$Cake;", Cond.methodLink RX6 66 yX0_isGuest, Cond.instanceMethod yX0_isGuest, Cond.selects RX0 yX0_isGuest yX0_isGuest, Cond.initialized RX0, Cond.code yX0_isGuest cX0_isGuest 2 (some .boolean), Cond.fieldLink RX0 9 "CakeMarks$Cake" "guests" "I", Cond.methodLink RX6 78 yX0_total, Cond.instanceMethod yX0_total, Cond.selects RX0 yX0_total yX0_total, Cond.code yX0_total cX0_total 2 (some .int), Cond.methodLink RX0 42 yX0_spanWorth, Cond.instanceMethod yX0_spanWorth, Cond.selects RX0 yX0_spanWorth yX0_spanWorth, Cond.code yX0_spanWorth cX0_spanWorth 6 (some .int), Cond.fieldLink RX0 21 "CakeMarks$Cake" "values" "[[I", Cond.methodLink RX6 164 yX0_worth, Cond.instanceMethod yX0_worth, Cond.selects RX0 yX0_worth yX0_worth, Cond.code yX0_worth cX0_worth 3 (some .int), Cond.methodLink RX0 46 yX0_worthWithin, Cond.instanceMethod yX0_worthWithin, Cond.selects RX0 yX0_worthWithin yX0_worthWithin, Cond.code yX0_worthWithin cX0_worthWithin 7 (some .int)]
def wsX6_guest_r2 : List Cond := [Cond.fieldLink RX0 15 "CakeMarks$Cake" "owner" "[I", Cond.methodLink RX6 152 yX0_crumbsOf, Cond.instanceMethod yX0_crumbsOf, Cond.selects RX0 yX0_crumbsOf yX0_crumbsOf, Cond.code yX0_crumbsOf cX0_crumbsOf 4 (some .int), Cond.methodLink RX6 167 yX6_lowestNumerator, Cond.static yX6_lowestNumerator, Cond.initialized RX6, Cond.code yX6_lowestNumerator cX6_lowestNumerator 3 (some .int), Cond.methodLink RX6 218 yX6_commonDivisor, Cond.static yX6_commonDivisor, Cond.code yX6_commonDivisor cX6_commonDivisor 6 (some .int), Cond.constant RX6 221 (1000000), Cond.methodLink RX6 170 yX6_lowestDenominator, Cond.static yX6_lowestDenominator, Cond.code yX6_lowestDenominator cX6_lowestDenominator 3 (some .int), Cond.methodLink RX6 173 yX0_spansOf, Cond.instanceMethod yX0_spansOf, Cond.selects RX0 yX0_spansOf yX0_spansOf, Cond.code yX0_spansOf cX0_spansOf 4 (some .int)]
def wsX6_guest : List Cond := .code yX6_guest cX6_guest 3 (some .int) :: ((wsX6_guest_r1 ++ wsX6_guest_r2) ++ wsX60 ++ wsX00)
def wsX6_crumb : List Cond := .code yX6_crumb cX6_crumb 3 (some .int) :: ([.fieldLink RX6 10 "CakeMarks" "cake" "LCakeMarks$Cake;", .fieldLink RX6 176 "CakeMarks$Cake" "owner" "[I"] ++ wsX60 ++ wsX00)
def wsX6_value : List Cond := .code yX6_value cX6_value 3 (some .int) :: ([.fieldLink RX6 10 "CakeMarks" "cake" "LCakeMarks$Cake;", .fieldLink RX6 177 "CakeMarks$Cake" "values" "[[I", .methodLink RX6 66 yX0_isGuest, .instanceMethod yX0_isGuest, .selects RX0 yX0_isGuest yX0_isGuest, .initialized RX0, .code yX0_isGuest cX0_isGuest 2 (some .boolean), .fieldLink RX0 9 "CakeMarks$Cake" "guests" "I"] ++ wsX60 ++ wsX00)
def wsX6_envy_r1 : List Cond := [Cond.fieldLink RX6 10 "CakeMarks" "cake" "LCakeMarks$Cake;", Cond.methodLink RX6 121 yX6_isPair, Cond.instanceMethod yX6_isPair, Cond.selects RX6 yX6_isPair yX6_isPair, Cond.initialized RX6, Cond.code yX6_isPair cX6_isPair 3 (some .boolean), Cond.methodLink RX6 66 yX0_isGuest, Cond.instanceMethod yX0_isGuest, Cond.selects RX0 yX0_isGuest yX0_isGuest, Cond.initialized RX0, Cond.code yX0_isGuest cX0_isGuest 2 (some .boolean), Cond.fieldLink RX0 9 "CakeMarks$Cake" "guests" "I", Cond.methodLink RX6 180 yX0_envyOf, Cond.instanceMethod yX0_envyOf, Cond.selects RX0 yX0_envyOf yX0_envyOf, Cond.code yX0_envyOf cX0_envyOf 3 (some .int), Cond.methodLink RX0 71 Lib.Math.max.name, Cond.static Lib.Math.max.name, Cond.initialized "java/lang/Math", Cond.code Lib.Math.max.name Lib.Math.max.code 2 (some .int), Cond.methodLink RX0 56 yX0_worth, Cond.instanceMethod yX0_worth, Cond.selects RX0 yX0_worth yX0_worth, Cond.code yX0_worth cX0_worth 3 (some .int)]
def wsX6_envy_r2 : List Cond := [Cond.methodLink RX0 46 yX0_worthWithin, Cond.instanceMethod yX0_worthWithin, Cond.selects RX0 yX0_worthWithin yX0_worthWithin, Cond.code yX0_worthWithin cX0_worthWithin 7 (some .int), Cond.fieldLink RX0 15 "CakeMarks$Cake" "owner" "[I", Cond.fieldLink RX0 21 "CakeMarks$Cake" "values" "[[I"]
def wsX6_envy : List Cond := .code yX6_envy cX6_envy 3 (some .int) :: ((wsX6_envy_r1 ++ wsX6_envy_r2) ++ wsX60 ++ wsX00)
def wsX6_ring_r1 : List Cond := [Cond.fieldLink RX6 41 "CakeMarks" "rings" "LCakeMarks$Rings;", Cond.fieldLink RX6 10 "CakeMarks" "cake" "LCakeMarks$Cake;", Cond.fieldLink RX6 140 "CakeMarks$Rings" "row" "LCakeMarks$Row;", Cond.fieldLink RX6 183 "CakeMarks$Row" "at" "[I", Cond.methodLink RX6 136 yX3_find, Cond.instanceMethod yX3_find, Cond.selects RX3 yX3_find yX3_find, Cond.initialized RX3, Cond.code yX3_find cX3_find 5 (some .int), Cond.fieldLink RX3 26 "CakeMarks$Cake" "guests" "I", Cond.fieldLink RX3 12 "CakeMarks$Rings" "row" "LCakeMarks$Row;", Cond.constant RX3 36 (1000000), Cond.methodLink RX3 22 yX3_drawArrows, Cond.instanceMethod yX3_drawArrows, Cond.selects RX3 yX3_drawArrows yX3_drawArrows, Cond.code yX3_drawArrows cX3_drawArrows 4 none, Cond.fieldLink RX3 18 "CakeMarks$Rings" "envied" "[I", Cond.methodLink RX3 45 yX0_envyOf, Cond.instanceMethod yX0_envyOf, Cond.selects RX0 yX0_envyOf yX0_envyOf, Cond.initialized RX0, Cond.code yX0_envyOf cX0_envyOf 3 (some .int), Cond.methodLink RX0 71 Lib.Math.max.name, Cond.static Lib.Math.max.name]
def wsX6_ring_r2 : List Cond := [Cond.initialized "java/lang/Math", Cond.code Lib.Math.max.name Lib.Math.max.code 2 (some .int), Cond.methodLink RX0 56 yX0_worth, Cond.instanceMethod yX0_worth, Cond.selects RX0 yX0_worth yX0_worth, Cond.code yX0_worth cX0_worth 3 (some .int), Cond.methodLink RX0 46 yX0_worthWithin, Cond.instanceMethod yX0_worthWithin, Cond.selects RX0 yX0_worthWithin yX0_worthWithin, Cond.code yX0_worthWithin cX0_worthWithin 7 (some .int), Cond.fieldLink RX0 15 "CakeMarks$Cake" "owner" "[I", Cond.fieldLink RX0 21 "CakeMarks$Cake" "values" "[[I", Cond.methodLink RX3 32 yX4_begin, Cond.instanceMethod yX4_begin, Cond.selects RX4 yX4_begin yX4_begin, Cond.initialized RX4, Cond.code yX4_begin cX4_begin 3 none, Cond.methodLink RX4 22 Lib.Math.min.name, Cond.static Lib.Math.min.name, Cond.code Lib.Math.min.name Lib.Math.min.code 2 (some .int), Cond.fieldLink RX4 15 "CakeMarks$Row" "size" "I", Cond.fieldLink RX4 19 "CakeMarks$Row" "guests" "I", Cond.methodLink RX4 28 yX4_fill, Cond.instanceMethod yX4_fill]
def wsX6_ring_r3 : List Cond := [Cond.selects RX4 yX4_fill yX4_fill, Cond.code yX4_fill cX4_fill 3 none, Cond.fieldLink RX4 9 "CakeMarks$Row" "at" "[I", Cond.methodLink RX4 32 yX4_firstFree, Cond.instanceMethod yX4_firstFree, Cond.selects RX4 yX4_firstFree yX4_firstFree, Cond.code yX4_firstFree cX4_firstFree 5 (some .int), Cond.methodLink RX3 37 yX3_isRing, Cond.instanceMethod yX3_isRing, Cond.selects RX3 yX3_isRing yX3_isRing, Cond.code yX3_isRing cX3_isRing 3 (some .boolean), Cond.fieldLink RX3 49 "CakeMarks$Row" "size" "I", Cond.fieldLink RX3 52 "CakeMarks$Row" "at" "[I", Cond.methodLink RX3 41 yX4_advance, Cond.instanceMethod yX4_advance, Cond.selects RX4 yX4_advance yX4_advance, Cond.code yX4_advance cX4_advance 4 (some .boolean)]
def wsX6_ring : List Cond := .code yX6_ring cX6_ring 2 (some .int) :: ((wsX6_ring_r1 ++ (wsX6_ring_r2 ++ wsX6_ring_r3)) ++ wsX60 ++ wsX30 ++ wsX40 ++ wsX00)
def wsX6_middle : List Cond := .code yX6_middle cX6_middle 2 (some .int) :: ([.fieldLink RX6 10 "CakeMarks" "cake" "LCakeMarks$Cake;", .methodLink RX6 66 yX0_isGuest, .instanceMethod yX0_isGuest, .selects RX0 yX0_isGuest yX0_isGuest, .initialized RX0, .code yX0_isGuest cX0_isGuest 2 (some .boolean), .fieldLink RX0 9 "CakeMarks$Cake" "guests" "I", .methodLink RX6 127 yX0_findCut, .instanceMethod yX0_findCut, .selects RX0 yX0_findCut yX0_findCut, .code yX0_findCut cX0_findCut 10 (some .int), .fieldLink RX0 21 "CakeMarks$Cake" "values" "[[I", .methodLink RX0 50 Lib.Math.abs.name, .static Lib.Math.abs.name, .initialized "java/lang/Math", .code Lib.Math.abs.name Lib.Math.abs.code 1 (some .int), .methodLink RX0 42 yX0_spanWorth, .instanceMethod yX0_spanWorth, .selects RX0 yX0_spanWorth yX0_spanWorth, .code yX0_spanWorth cX0_spanWorth 6 (some .int)] ++ wsX60 ++ wsX00)
def wsX6_searchOnce_r1 : List Cond := [Cond.fieldLink RX6 52 "CakeMarks" "searched" "Z", Cond.fieldLink RX6 48 "CakeMarks" "divisions" "LCakeMarks$Divisions;", Cond.fieldLink RX6 10 "CakeMarks" "cake" "LCakeMarks$Cake;", Cond.methodLink RX6 215 yX1_search, Cond.instanceMethod yX1_search, Cond.selects RX1 yX1_search yX1_search, Cond.initialized RX1, Cond.code yX1_search cX1_search 4 none, Cond.fieldLink RX1 34 "CakeMarks$Divisions" "spans" "I", Cond.constant RX1 65 (1000000), Cond.methodLink RX1 61 yX1_prepare, Cond.instanceMethod yX1_prepare, Cond.selects RX1 yX1_prepare yX1_prepare, Cond.code yX1_prepare cX1_prepare 4 none, Cond.fieldLink RX1 79 "CakeMarks$Cake" "guests" "I", Cond.fieldLink RX1 9 "CakeMarks$Divisions" "fairPart" "I", Cond.fieldLink RX1 15 "CakeMarks$Divisions" "fairTotal" "I", Cond.fieldLink RX1 25 "CakeMarks$Divisions" "quietCount" "I", Cond.fieldLink RX1 52 "CakeMarks$Divisions" "ahead" "[[I", Cond.fieldLink RX1 84 "CakeMarks$Cake" "values" "[[I", Cond.fieldLink RX1 47 "CakeMarks$Divisions" "totals" "[I", Cond.methodLink RX1 87 Lib.Math.max.name, Cond.static Lib.Math.max.name, Cond.initialized "java/lang/Math"]
def wsX6_searchOnce_r2 : List Cond := [Cond.code Lib.Math.max.name Lib.Math.max.code 2 (some .int), Cond.fieldLink RX1 44 "CakeMarks$Divisions" "start" "[I", Cond.methodLink RX1 66 yX1_measureSpans, Cond.instanceMethod yX1_measureSpans, Cond.selects RX1 yX1_measureSpans yX1_measureSpans, Cond.code yX1_measureSpans cX1_measureSpans 3 none, Cond.fieldLink RX1 58 "CakeMarks$Divisions" "greatest" "[I", Cond.fieldLink RX1 55 "CakeMarks$Divisions" "parts" "[[I", Cond.methodLink RX1 69 yX1_seekFair, Cond.instanceMethod yX1_seekFair, Cond.selects RX1 yX1_seekFair yX1_seekFair, Cond.code yX1_seekFair cX1_seekFair 4 none, Cond.fieldLink RX1 40 "CakeMarks$Divisions" "order" "LCakeMarks$Row;", Cond.methodLink RX1 93 yX4_begin, Cond.instanceMethod yX4_begin, Cond.selects RX4 yX4_begin yX4_begin, Cond.initialized RX4, Cond.code yX4_begin cX4_begin 3 none, Cond.methodLink RX4 22 Lib.Math.min.name, Cond.static Lib.Math.min.name, Cond.code Lib.Math.min.name Lib.Math.min.code 2 (some .int), Cond.fieldLink RX4 15 "CakeMarks$Row" "size" "I", Cond.fieldLink RX4 19 "CakeMarks$Row" "guests" "I", Cond.methodLink RX4 28 yX4_fill]
def wsX6_searchOnce_r3 : List Cond := [Cond.instanceMethod yX4_fill, Cond.selects RX4 yX4_fill yX4_fill, Cond.code yX4_fill cX4_fill 3 none, Cond.fieldLink RX4 9 "CakeMarks$Row" "at" "[I", Cond.methodLink RX4 32 yX4_firstFree, Cond.instanceMethod yX4_firstFree, Cond.selects RX4 yX4_firstFree yX4_firstFree, Cond.code yX4_firstFree cX4_firstFree 5 (some .int), Cond.methodLink RX1 97 yX1_firstPoor, Cond.instanceMethod yX1_firstPoor, Cond.selects RX1 yX1_firstPoor yX1_firstPoor, Cond.code yX1_firstPoor cX1_firstPoor 3 (some .int), Cond.fieldLink RX1 108 "CakeMarks$Row" "at" "[I", Cond.methodLink RX1 101 yX1_keepFair, Cond.instanceMethod yX1_keepFair, Cond.selects RX1 yX1_keepFair yX1_keepFair, Cond.code yX1_keepFair cX1_keepFair 3 none, Cond.fieldLink RX1 18 "CakeMarks$Divisions" "fairGuest" "I", Cond.fieldLink RX1 21 "CakeMarks$Divisions" "fairStart" "[I", Cond.methodLink RX1 104 yX4_advance, Cond.instanceMethod yX4_advance, Cond.selects RX4 yX4_advance yX4_advance, Cond.code yX4_advance cX4_advance 4 (some .boolean), Cond.methodLink RX1 72 yX1_seekQuiet]
def wsX6_searchOnce_r4 : List Cond := [Cond.instanceMethod yX1_seekQuiet, Cond.selects RX1 yX1_seekQuiet yX1_seekQuiet, Cond.code yX1_seekQuiet cX1_seekQuiet 4 none, Cond.methodLink RX1 111 yX1_firstEnvious, Cond.instanceMethod yX1_firstEnvious, Cond.selects RX1 yX1_firstEnvious yX1_firstEnvious, Cond.code yX1_firstEnvious cX1_firstEnvious 3 (some .int), Cond.methodLink RX1 114 yX1_countQuiet, Cond.instanceMethod yX1_countQuiet, Cond.selects RX1 yX1_countQuiet yX1_countQuiet, Cond.code yX1_countQuiet cX1_countQuiet 1 none, Cond.fieldLink RX1 28 "CakeMarks$Divisions" "quietGuest" "I", Cond.fieldLink RX1 31 "CakeMarks$Divisions" "quietCut" "I", Cond.methodLink RX1 75 yX1_nextCuts, Cond.instanceMethod yX1_nextCuts, Cond.selects RX1 yX1_nextCuts yX1_nextCuts, Cond.code yX1_nextCuts cX1_nextCuts 3 (some .boolean)]
def wsX6_searchOnce : List Cond := .code yX6_searchOnce cX6_searchOnce 1 none :: ((wsX6_searchOnce_r1 ++ (wsX6_searchOnce_r2 ++ (wsX6_searchOnce_r3 ++ wsX6_searchOnce_r4))) ++ wsX60 ++ wsX10 ++ wsX00 ++ wsX40)
def wsX6_best_r1 : List Cond := [Cond.fieldLink RX6 10 "CakeMarks" "cake" "LCakeMarks$Cake;", Cond.fieldLink RX6 56 "CakeMarks$Cake" "guests" "I", Cond.fieldLink RX6 48 "CakeMarks" "divisions" "LCakeMarks$Divisions;", Cond.fieldLink RX6 191 "CakeMarks$Divisions" "fairPart" "I", Cond.fieldLink RX6 194 "CakeMarks$Divisions" "fairTotal" "I", Cond.fieldLink RX6 197 "CakeMarks$Divisions" "fairGuest" "I", Cond.fieldLink RX6 200 "CakeMarks$Divisions" "fairStart" "[I", Cond.methodLink RX6 188 yX6_searchOnce, Cond.instanceMethod yX6_searchOnce, Cond.selects RX6 yX6_searchOnce yX6_searchOnce, Cond.initialized RX6, Cond.code yX6_searchOnce cX6_searchOnce 1 none, Cond.fieldLink RX6 52 "CakeMarks" "searched" "Z", Cond.methodLink RX6 215 yX1_search, Cond.instanceMethod yX1_search, Cond.selects RX1 yX1_search yX1_search, Cond.initialized RX1, Cond.code yX1_search cX1_search 4 none, Cond.fieldLink RX1 34 "CakeMarks$Divisions" "spans" "I", Cond.constant RX1 65 (1000000), Cond.methodLink RX1 61 yX1_prepare, Cond.instanceMethod yX1_prepare, Cond.selects RX1 yX1_prepare yX1_prepare, Cond.code yX1_prepare cX1_prepare 4 none]
def wsX6_best_r2 : List Cond := [Cond.fieldLink RX1 79 "CakeMarks$Cake" "guests" "I", Cond.fieldLink RX1 9 "CakeMarks$Divisions" "fairPart" "I", Cond.fieldLink RX1 15 "CakeMarks$Divisions" "fairTotal" "I", Cond.fieldLink RX1 25 "CakeMarks$Divisions" "quietCount" "I", Cond.fieldLink RX1 52 "CakeMarks$Divisions" "ahead" "[[I", Cond.fieldLink RX1 84 "CakeMarks$Cake" "values" "[[I", Cond.fieldLink RX1 47 "CakeMarks$Divisions" "totals" "[I", Cond.methodLink RX1 87 Lib.Math.max.name, Cond.static Lib.Math.max.name, Cond.initialized "java/lang/Math", Cond.code Lib.Math.max.name Lib.Math.max.code 2 (some .int), Cond.fieldLink RX1 44 "CakeMarks$Divisions" "start" "[I", Cond.methodLink RX1 66 yX1_measureSpans, Cond.instanceMethod yX1_measureSpans, Cond.selects RX1 yX1_measureSpans yX1_measureSpans, Cond.code yX1_measureSpans cX1_measureSpans 3 none, Cond.fieldLink RX1 58 "CakeMarks$Divisions" "greatest" "[I", Cond.fieldLink RX1 55 "CakeMarks$Divisions" "parts" "[[I", Cond.methodLink RX1 69 yX1_seekFair, Cond.instanceMethod yX1_seekFair, Cond.selects RX1 yX1_seekFair yX1_seekFair, Cond.code yX1_seekFair cX1_seekFair 4 none, Cond.fieldLink RX1 40 "CakeMarks$Divisions" "order" "LCakeMarks$Row;", Cond.methodLink RX1 93 yX4_begin]
def wsX6_best_r3 : List Cond := [Cond.instanceMethod yX4_begin, Cond.selects RX4 yX4_begin yX4_begin, Cond.initialized RX4, Cond.code yX4_begin cX4_begin 3 none, Cond.methodLink RX4 22 Lib.Math.min.name, Cond.static Lib.Math.min.name, Cond.code Lib.Math.min.name Lib.Math.min.code 2 (some .int), Cond.fieldLink RX4 15 "CakeMarks$Row" "size" "I", Cond.fieldLink RX4 19 "CakeMarks$Row" "guests" "I", Cond.methodLink RX4 28 yX4_fill, Cond.instanceMethod yX4_fill, Cond.selects RX4 yX4_fill yX4_fill, Cond.code yX4_fill cX4_fill 3 none, Cond.fieldLink RX4 9 "CakeMarks$Row" "at" "[I", Cond.methodLink RX4 32 yX4_firstFree, Cond.instanceMethod yX4_firstFree, Cond.selects RX4 yX4_firstFree yX4_firstFree, Cond.code yX4_firstFree cX4_firstFree 5 (some .int), Cond.methodLink RX1 97 yX1_firstPoor, Cond.instanceMethod yX1_firstPoor, Cond.selects RX1 yX1_firstPoor yX1_firstPoor, Cond.code yX1_firstPoor cX1_firstPoor 3 (some .int), Cond.fieldLink RX1 108 "CakeMarks$Row" "at" "[I", Cond.methodLink RX1 101 yX1_keepFair]
def wsX6_best_r4 : List Cond := [Cond.instanceMethod yX1_keepFair, Cond.selects RX1 yX1_keepFair yX1_keepFair, Cond.code yX1_keepFair cX1_keepFair 3 none, Cond.fieldLink RX1 18 "CakeMarks$Divisions" "fairGuest" "I", Cond.fieldLink RX1 21 "CakeMarks$Divisions" "fairStart" "[I", Cond.methodLink RX1 104 yX4_advance, Cond.instanceMethod yX4_advance, Cond.selects RX4 yX4_advance yX4_advance, Cond.code yX4_advance cX4_advance 4 (some .boolean), Cond.methodLink RX1 72 yX1_seekQuiet, Cond.instanceMethod yX1_seekQuiet, Cond.selects RX1 yX1_seekQuiet yX1_seekQuiet, Cond.code yX1_seekQuiet cX1_seekQuiet 4 none, Cond.methodLink RX1 111 yX1_firstEnvious, Cond.instanceMethod yX1_firstEnvious, Cond.selects RX1 yX1_firstEnvious yX1_firstEnvious, Cond.code yX1_firstEnvious cX1_firstEnvious 3 (some .int), Cond.methodLink RX1 114 yX1_countQuiet, Cond.instanceMethod yX1_countQuiet, Cond.selects RX1 yX1_countQuiet yX1_countQuiet, Cond.code yX1_countQuiet cX1_countQuiet 1 none, Cond.fieldLink RX1 28 "CakeMarks$Divisions" "quietGuest" "I", Cond.fieldLink RX1 31 "CakeMarks$Divisions" "quietCut" "I", Cond.methodLink RX1 75 yX1_nextCuts]
def wsX6_best_r5 : List Cond := [Cond.instanceMethod yX1_nextCuts, Cond.selects RX1 yX1_nextCuts yX1_nextCuts, Cond.code yX1_nextCuts cX1_nextCuts 3 (some .boolean), Cond.methodLink RX6 167 yX6_lowestNumerator, Cond.static yX6_lowestNumerator, Cond.code yX6_lowestNumerator cX6_lowestNumerator 3 (some .int), Cond.methodLink RX6 218 yX6_commonDivisor, Cond.static yX6_commonDivisor, Cond.code yX6_commonDivisor cX6_commonDivisor 6 (some .int), Cond.constant RX6 221 (1000000), Cond.methodLink RX6 170 yX6_lowestDenominator, Cond.static yX6_lowestDenominator, Cond.code yX6_lowestDenominator cX6_lowestDenominator 3 (some .int)]
def wsX6_best : List Cond := .code yX6_best cX6_best 3 (some .int) :: ((wsX6_best_r1 ++ (wsX6_best_r2 ++ (wsX6_best_r3 ++ (wsX6_best_r4 ++ wsX6_best_r5)))) ++ wsX60 ++ wsX00 ++ wsX10 ++ wsX40)
def wsX6_calm_r1 : List Cond := [Cond.fieldLink RX6 10 "CakeMarks" "cake" "LCakeMarks$Cake;", Cond.fieldLink RX6 56 "CakeMarks$Cake" "guests" "I", Cond.fieldLink RX6 48 "CakeMarks" "divisions" "LCakeMarks$Divisions;", Cond.fieldLink RX6 203 "CakeMarks$Divisions" "quietCount" "I", Cond.fieldLink RX6 206 "CakeMarks$Divisions" "quietGuest" "I", Cond.fieldLink RX6 209 "CakeMarks$Divisions" "quietCut" "I", Cond.methodLink RX6 188 yX6_searchOnce, Cond.instanceMethod yX6_searchOnce, Cond.selects RX6 yX6_searchOnce yX6_searchOnce, Cond.initialized RX6, Cond.code yX6_searchOnce cX6_searchOnce 1 none, Cond.fieldLink RX6 52 "CakeMarks" "searched" "Z", Cond.methodLink RX6 215 yX1_search, Cond.instanceMethod yX1_search, Cond.selects RX1 yX1_search yX1_search, Cond.initialized RX1, Cond.code yX1_search cX1_search 4 none, Cond.fieldLink RX1 34 "CakeMarks$Divisions" "spans" "I", Cond.constant RX1 65 (1000000), Cond.methodLink RX1 61 yX1_prepare, Cond.instanceMethod yX1_prepare, Cond.selects RX1 yX1_prepare yX1_prepare, Cond.code yX1_prepare cX1_prepare 4 none, Cond.fieldLink RX1 79 "CakeMarks$Cake" "guests" "I"]
def wsX6_calm_r2 : List Cond := [Cond.fieldLink RX1 9 "CakeMarks$Divisions" "fairPart" "I", Cond.fieldLink RX1 15 "CakeMarks$Divisions" "fairTotal" "I", Cond.fieldLink RX1 25 "CakeMarks$Divisions" "quietCount" "I", Cond.fieldLink RX1 52 "CakeMarks$Divisions" "ahead" "[[I", Cond.fieldLink RX1 84 "CakeMarks$Cake" "values" "[[I", Cond.fieldLink RX1 47 "CakeMarks$Divisions" "totals" "[I", Cond.methodLink RX1 87 Lib.Math.max.name, Cond.static Lib.Math.max.name, Cond.initialized "java/lang/Math", Cond.code Lib.Math.max.name Lib.Math.max.code 2 (some .int), Cond.fieldLink RX1 44 "CakeMarks$Divisions" "start" "[I", Cond.methodLink RX1 66 yX1_measureSpans, Cond.instanceMethod yX1_measureSpans, Cond.selects RX1 yX1_measureSpans yX1_measureSpans, Cond.code yX1_measureSpans cX1_measureSpans 3 none, Cond.fieldLink RX1 58 "CakeMarks$Divisions" "greatest" "[I", Cond.fieldLink RX1 55 "CakeMarks$Divisions" "parts" "[[I", Cond.methodLink RX1 69 yX1_seekFair, Cond.instanceMethod yX1_seekFair, Cond.selects RX1 yX1_seekFair yX1_seekFair, Cond.code yX1_seekFair cX1_seekFair 4 none, Cond.fieldLink RX1 40 "CakeMarks$Divisions" "order" "LCakeMarks$Row;", Cond.methodLink RX1 93 yX4_begin, Cond.instanceMethod yX4_begin]
def wsX6_calm_r3 : List Cond := [Cond.selects RX4 yX4_begin yX4_begin, Cond.initialized RX4, Cond.code yX4_begin cX4_begin 3 none, Cond.methodLink RX4 22 Lib.Math.min.name, Cond.static Lib.Math.min.name, Cond.code Lib.Math.min.name Lib.Math.min.code 2 (some .int), Cond.fieldLink RX4 15 "CakeMarks$Row" "size" "I", Cond.fieldLink RX4 19 "CakeMarks$Row" "guests" "I", Cond.methodLink RX4 28 yX4_fill, Cond.instanceMethod yX4_fill, Cond.selects RX4 yX4_fill yX4_fill, Cond.code yX4_fill cX4_fill 3 none, Cond.fieldLink RX4 9 "CakeMarks$Row" "at" "[I", Cond.methodLink RX4 32 yX4_firstFree, Cond.instanceMethod yX4_firstFree, Cond.selects RX4 yX4_firstFree yX4_firstFree, Cond.code yX4_firstFree cX4_firstFree 5 (some .int), Cond.methodLink RX1 97 yX1_firstPoor, Cond.instanceMethod yX1_firstPoor, Cond.selects RX1 yX1_firstPoor yX1_firstPoor, Cond.code yX1_firstPoor cX1_firstPoor 3 (some .int), Cond.fieldLink RX1 108 "CakeMarks$Row" "at" "[I", Cond.methodLink RX1 101 yX1_keepFair, Cond.instanceMethod yX1_keepFair]
def wsX6_calm_r4 : List Cond := [Cond.selects RX1 yX1_keepFair yX1_keepFair, Cond.code yX1_keepFair cX1_keepFair 3 none, Cond.fieldLink RX1 18 "CakeMarks$Divisions" "fairGuest" "I", Cond.fieldLink RX1 21 "CakeMarks$Divisions" "fairStart" "[I", Cond.methodLink RX1 104 yX4_advance, Cond.instanceMethod yX4_advance, Cond.selects RX4 yX4_advance yX4_advance, Cond.code yX4_advance cX4_advance 4 (some .boolean), Cond.methodLink RX1 72 yX1_seekQuiet, Cond.instanceMethod yX1_seekQuiet, Cond.selects RX1 yX1_seekQuiet yX1_seekQuiet, Cond.code yX1_seekQuiet cX1_seekQuiet 4 none, Cond.methodLink RX1 111 yX1_firstEnvious, Cond.instanceMethod yX1_firstEnvious, Cond.selects RX1 yX1_firstEnvious yX1_firstEnvious, Cond.code yX1_firstEnvious cX1_firstEnvious 3 (some .int), Cond.methodLink RX1 114 yX1_countQuiet, Cond.instanceMethod yX1_countQuiet, Cond.selects RX1 yX1_countQuiet yX1_countQuiet, Cond.code yX1_countQuiet cX1_countQuiet 1 none, Cond.fieldLink RX1 28 "CakeMarks$Divisions" "quietGuest" "I", Cond.fieldLink RX1 31 "CakeMarks$Divisions" "quietCut" "I", Cond.methodLink RX1 75 yX1_nextCuts, Cond.instanceMethod yX1_nextCuts]
def wsX6_calm_r5 : List Cond := [Cond.selects RX1 yX1_nextCuts yX1_nextCuts, Cond.code yX1_nextCuts cX1_nextCuts 3 (some .boolean)]
def wsX6_calm : List Cond := .code yX6_calm cX6_calm 2 (some .int) :: ((wsX6_calm_r1 ++ (wsX6_calm_r2 ++ (wsX6_calm_r3 ++ (wsX6_calm_r4 ++ wsX6_calm_r5)))) ++ wsX60 ++ wsX00 ++ wsX10 ++ wsX40)
def wsX6_calls_r1 : List Cond := [Cond.fieldLink RX6 34 "CakeMarks" "mark" "LCakeMarks$Mark;", Cond.fieldLink RX6 10 "CakeMarks" "cake" "LCakeMarks$Cake;", Cond.methodLink RX6 107 yX6_isMove, Cond.instanceMethod yX6_isMove, Cond.selects RX6 yX6_isMove yX6_isMove, Cond.initialized RX6, Cond.code yX6_isMove cX6_isMove 3 (some .boolean), Cond.fieldLink RX6 56 "CakeMarks$Cake" "guests" "I", Cond.methodLink RX6 110 yX2_pass, Cond.instanceMethod yX2_pass, Cond.selects RX2 yX2_pass yX2_pass, Cond.initialized RX2, Cond.code yX2_pass cX2_pass 9 (some .int), Cond.fieldLink RX2 15 "CakeMarks$Cake" "owner" "[I", Cond.fieldLink RX2 9 "CakeMarks$Mark" "owner" "[I", Cond.methodLink RX2 18 arraycopyName, Cond.native arraycopyName, Cond.static arraycopyName, Cond.initialized "java/lang/System", Cond.methodLink RX2 24 yX2_firstCaller, Cond.static yX2_firstCaller, Cond.code yX2_firstCaller cX2_firstCaller 7 (some .int), Cond.fieldLink RX2 32 "CakeMarks$Cake" "guests" "I", Cond.methodLink RX2 36 yX0_worthWithin]
def wsX6_calls_r2 : List Cond := [Cond.instanceMethod yX0_worthWithin, Cond.selects RX0 yX0_worthWithin yX0_worthWithin, Cond.initialized RX0, Cond.code yX0_worthWithin cX0_worthWithin 7 (some .int), Cond.fieldLink RX0 15 "CakeMarks$Cake" "owner" "[I", Cond.fieldLink RX0 21 "CakeMarks$Cake" "values" "[[I", Cond.methodLink RX2 40 yX0_total, Cond.instanceMethod yX0_total, Cond.selects RX0 yX0_total yX0_total, Cond.code yX0_total cX0_total 2 (some .int), Cond.methodLink RX0 42 yX0_spanWorth, Cond.instanceMethod yX0_spanWorth, Cond.selects RX0 yX0_spanWorth yX0_spanWorth, Cond.code yX0_spanWorth cX0_spanWorth 6 (some .int), Cond.methodLink RX2 28 yX2_giveTo, Cond.instanceMethod yX2_giveTo, Cond.selects RX2 yX2_giveTo yX2_giveTo, Cond.code yX2_giveTo cX2_giveTo 5 none]
def wsX6_calls : List Cond := .code yX6_calls cX6_calls 3 (some .int) :: ((wsX6_calls_r1 ++ wsX6_calls_r2) ++ wsX60 ++ wsX00 ++ wsX20)
def wsX7_init : List Cond := .code yX7_init cX7_init 2 none :: ([.methodLink RX7 1 objectInit, .instanceMethod objectInit, .code objectInit ⟨#[0xb1]⟩ 1 none, .arrayClass .int, .fieldLink RX7 7 "CakeMarksModel" "row" "[I", .fieldLink RX7 13 "CakeMarksModel" "text" "[I", .fieldLink RX7 16 "CakeMarksModel" "told" "[I", .fieldLink RX7 19 "CakeMarksModel" "ring" "[I", .fieldLink RX7 22 "CakeMarksModel" "first" "[I", .fieldLink RX7 25 "CakeMarksModel" "who" "[I", .fieldLink RX7 28 "CakeMarksModel" "bestFirst" "[I"] ++ wsX70)
def wsX7_in : List Cond := .code yX7_in cX7_in 3 (some .boolean) :: ([])
def wsX7_copies : List Cond := .code yX7_copies cX7_copies 4 none :: ([.fieldLink RX7 7 "CakeMarksModel" "row" "[I"] ++ wsX70)
def wsX7_records : List Cond := .code yX7_records cX7_records 2 none :: ([.fieldLink RX7 31 "CakeMarksModel" "kept" "I", .methodLink RX7 35 yX7_copies, .instanceMethod yX7_copies, .selects RX7 yX7_copies yX7_copies, .initialized RX7, .code yX7_copies cX7_copies 4 none, .fieldLink RX7 7 "CakeMarksModel" "row" "[I"] ++ wsX70)
def wsX7_isGuest : List Cond := .code yX7_isGuest cX7_isGuest 2 (some .boolean) :: ([.fieldLink RX7 7 "CakeMarksModel" "row" "[I", .methodLink RX7 39 yX7_in, .static yX7_in, .initialized RX7, .code yX7_in cX7_in 3 (some .boolean)] ++ wsX70)
def wsX7_areGuests : List Cond := .code yX7_areGuests cX7_areGuests 3 (some .boolean) :: ([.methodLink RX7 43 yX7_isGuest, .instanceMethod yX7_isGuest, .selects RX7 yX7_isGuest yX7_isGuest, .initialized RX7, .code yX7_isGuest cX7_isGuest 2 (some .boolean), .fieldLink RX7 7 "CakeMarksModel" "row" "[I", .methodLink RX7 39 yX7_in, .static yX7_in, .code yX7_in cX7_in 3 (some .boolean)] ++ wsX70)
def wsX7_isSpan : List Cond := .code yX7_isSpan cX7_isSpan 2 (some .boolean) :: ([.methodLink RX7 39 yX7_in, .static yX7_in, .initialized RX7, .code yX7_in cX7_in 3 (some .boolean)])
def wsX7_valueOf : List Cond := .code yX7_valueOf cX7_valueOf 3 (some .int) :: ([.fieldLink RX7 7 "CakeMarksModel" "row" "[I"] ++ wsX70)
def wsX7_spanValue : List Cond := .code yX7_spanValue cX7_spanValue 6 (some .int) :: ([.methodLink RX7 47 yX7_valueOf, .instanceMethod yX7_valueOf, .selects RX7 yX7_valueOf yX7_valueOf, .initialized RX7, .code yX7_valueOf cX7_valueOf 3 (some .int), .fieldLink RX7 7 "CakeMarksModel" "row" "[I"] ++ wsX70)
def wsX7_total : List Cond := .code yX7_total cX7_total 2 (some .int) :: ([.methodLink RX7 51 yX7_spanValue, .instanceMethod yX7_spanValue, .selects RX7 yX7_spanValue yX7_spanValue, .initialized RX7, .code yX7_spanValue cX7_spanValue 6 (some .int), .methodLink RX7 47 yX7_valueOf, .instanceMethod yX7_valueOf, .selects RX7 yX7_valueOf yX7_valueOf, .code yX7_valueOf cX7_valueOf 3 (some .int), .fieldLink RX7 7 "CakeMarksModel" "row" "[I"] ++ wsX70)
def wsX7_pieceValue : List Cond := .code yX7_pieceValue cX7_pieceValue 5 (some .int) :: ([.fieldLink RX7 7 "CakeMarksModel" "row" "[I", .methodLink RX7 47 yX7_valueOf, .instanceMethod yX7_valueOf, .selects RX7 yX7_valueOf yX7_valueOf, .initialized RX7, .code yX7_valueOf cX7_valueOf 3 (some .int)] ++ wsX70)
def wsX7_envyOf : List Cond := .code yX7_envyOf cX7_envyOf 4 (some .int) :: ([.methodLink RX7 55 yX7_pieceValue, .instanceMethod yX7_pieceValue, .selects RX7 yX7_pieceValue yX7_pieceValue, .initialized RX7, .code yX7_pieceValue cX7_pieceValue 5 (some .int), .fieldLink RX7 7 "CakeMarksModel" "row" "[I", .methodLink RX7 47 yX7_valueOf, .instanceMethod yX7_valueOf, .selects RX7 yX7_valueOf yX7_valueOf, .code yX7_valueOf cX7_valueOf 3 (some .int)] ++ wsX70)
def wsX7_addGuest : List Cond := .code yX7_addGuest cX7_addGuest 3 (some .int) :: ([.fieldLink RX7 7 "CakeMarksModel" "row" "[I", .methodLink RX7 58 yX7_records, .instanceMethod yX7_records, .selects RX7 yX7_records yX7_records, .initialized RX7, .code yX7_records cX7_records 2 none, .fieldLink RX7 31 "CakeMarksModel" "kept" "I", .methodLink RX7 35 yX7_copies, .instanceMethod yX7_copies, .selects RX7 yX7_copies yX7_copies, .code yX7_copies cX7_copies 4 none] ++ wsX70)
def wsX7_setValue_r1 : List Cond := [Cond.fieldLink RX7 7 "CakeMarksModel" "row" "[I", Cond.methodLink RX7 43 yX7_isGuest, Cond.instanceMethod yX7_isGuest, Cond.selects RX7 yX7_isGuest yX7_isGuest, Cond.initialized RX7, Cond.code yX7_isGuest cX7_isGuest 2 (some .boolean), Cond.methodLink RX7 39 yX7_in, Cond.static yX7_in, Cond.code yX7_in cX7_in 3 (some .boolean), Cond.methodLink RX7 61 yX7_isSpan, Cond.static yX7_isSpan, Cond.code yX7_isSpan cX7_isSpan 2 (some .boolean), Cond.methodLink RX7 58 yX7_records, Cond.instanceMethod yX7_records, Cond.selects RX7 yX7_records yX7_records, Cond.code yX7_records cX7_records 2 none, Cond.fieldLink RX7 31 "CakeMarksModel" "kept" "I", Cond.methodLink RX7 35 yX7_copies, Cond.instanceMethod yX7_copies, Cond.selects RX7 yX7_copies yX7_copies, Cond.code yX7_copies cX7_copies 4 none, Cond.methodLink RX7 65 yX7_total, Cond.instanceMethod yX7_total, Cond.selects RX7 yX7_total yX7_total]
def wsX7_setValue_r2 : List Cond := [Cond.code yX7_total cX7_total 2 (some .int), Cond.methodLink RX7 51 yX7_spanValue, Cond.instanceMethod yX7_spanValue, Cond.selects RX7 yX7_spanValue yX7_spanValue, Cond.code yX7_spanValue cX7_spanValue 6 (some .int), Cond.methodLink RX7 47 yX7_valueOf, Cond.instanceMethod yX7_valueOf, Cond.selects RX7 yX7_valueOf yX7_valueOf, Cond.code yX7_valueOf cX7_valueOf 3 (some .int)]
def wsX7_setValue : List Cond := .code yX7_setValue cX7_setValue 6 (some .int) :: ((wsX7_setValue_r1 ++ wsX7_setValue_r2) ++ wsX70)
def wsX7_append : List Cond := .code yX7_append cX7_append 2 (some .int) :: ([.fieldLink RX7 69 "CakeMarksModel" "length" "I", .fieldLink RX7 13 "CakeMarksModel" "text" "[I", .methodLink RX7 39 yX7_in, .static yX7_in, .initialized RX7, .code yX7_in cX7_in 3 (some .boolean)] ++ wsX70)
def wsX7_clearText : List Cond := .code yX7_clearText cX7_clearText 2 (some .int) :: ([.fieldLink RX7 69 "CakeMarksModel" "length" "I"] ++ wsX70)
def wsX7_isDigit : List Cond := .code yX7_isDigit cX7_isDigit 3 (some .boolean) :: ([.fieldLink RX7 69 "CakeMarksModel" "length" "I", .fieldLink RX7 13 "CakeMarksModel" "text" "[I", .methodLink RX7 39 yX7_in, .static yX7_in, .initialized RX7, .code yX7_in cX7_in 3 (some .boolean)] ++ wsX70)
def wsX7_reads : List Cond := .code yX7_reads cX7_reads 7 (some .int) :: ([.fieldLink RX7 13 "CakeMarksModel" "text" "[I", .fieldLink RX7 69 "CakeMarksModel" "length" "I", .fieldLink RX7 16 "CakeMarksModel" "told" "[I", .methodLink RX7 72 yX7_isDigit, .instanceMethod yX7_isDigit, .selects RX7 yX7_isDigit yX7_isDigit, .initialized RX7, .code yX7_isDigit cX7_isDigit 3 (some .boolean), .methodLink RX7 39 yX7_in, .static yX7_in, .code yX7_in cX7_in 3 (some .boolean)] ++ wsX70)
def wsX7_read_r1 : List Cond := [Cond.fieldLink RX7 79 "CakeMarksModel" "fail" "I", Cond.fieldLink RX7 7 "CakeMarksModel" "row" "[I", Cond.fieldLink RX7 16 "CakeMarksModel" "told" "[I", Cond.methodLink RX7 43 yX7_isGuest, Cond.instanceMethod yX7_isGuest, Cond.selects RX7 yX7_isGuest yX7_isGuest, Cond.initialized RX7, Cond.code yX7_isGuest cX7_isGuest 2 (some .boolean), Cond.methodLink RX7 39 yX7_in, Cond.static yX7_in, Cond.code yX7_in cX7_in 3 (some .boolean), Cond.methodLink RX7 75 yX7_reads, Cond.instanceMethod yX7_reads, Cond.selects RX7 yX7_reads yX7_reads, Cond.code yX7_reads cX7_reads 7 (some .int), Cond.fieldLink RX7 13 "CakeMarksModel" "text" "[I", Cond.fieldLink RX7 69 "CakeMarksModel" "length" "I", Cond.methodLink RX7 72 yX7_isDigit, Cond.instanceMethod yX7_isDigit, Cond.selects RX7 yX7_isDigit yX7_isDigit, Cond.code yX7_isDigit cX7_isDigit 3 (some .boolean), Cond.methodLink RX7 58 yX7_records, Cond.instanceMethod yX7_records, Cond.selects RX7 yX7_records yX7_records]
def wsX7_read_r2 : List Cond := [Cond.code yX7_records cX7_records 2 none, Cond.fieldLink RX7 31 "CakeMarksModel" "kept" "I", Cond.methodLink RX7 35 yX7_copies, Cond.instanceMethod yX7_copies, Cond.selects RX7 yX7_copies yX7_copies, Cond.code yX7_copies cX7_copies 4 none, Cond.methodLink RX7 65 yX7_total, Cond.instanceMethod yX7_total, Cond.selects RX7 yX7_total yX7_total, Cond.code yX7_total cX7_total 2 (some .int), Cond.methodLink RX7 51 yX7_spanValue, Cond.instanceMethod yX7_spanValue, Cond.selects RX7 yX7_spanValue yX7_spanValue, Cond.code yX7_spanValue cX7_spanValue 6 (some .int), Cond.methodLink RX7 47 yX7_valueOf, Cond.instanceMethod yX7_valueOf, Cond.selects RX7 yX7_valueOf yX7_valueOf, Cond.code yX7_valueOf cX7_valueOf 3 (some .int)]
def wsX7_read : List Cond := .code yX7_read cX7_read 3 (some .int) :: ((wsX7_read_r1 ++ wsX7_read_r2) ++ wsX70)
def wsX7_brings : List Cond := .code yX7_brings cX7_brings 7 (some .int) :: ([.fieldLink RX7 7 "CakeMarksModel" "row" "[I"] ++ wsX70)
def wsX7_give_r1 : List Cond := [Cond.methodLink RX7 43 yX7_isGuest, Cond.instanceMethod yX7_isGuest, Cond.selects RX7 yX7_isGuest yX7_isGuest, Cond.initialized RX7, Cond.code yX7_isGuest cX7_isGuest 2 (some .boolean), Cond.fieldLink RX7 7 "CakeMarksModel" "row" "[I", Cond.methodLink RX7 39 yX7_in, Cond.static yX7_in, Cond.code yX7_in cX7_in 3 (some .boolean), Cond.methodLink RX7 61 yX7_isSpan, Cond.static yX7_isSpan, Cond.code yX7_isSpan cX7_isSpan 2 (some .boolean), Cond.methodLink RX7 58 yX7_records, Cond.instanceMethod yX7_records, Cond.selects RX7 yX7_records yX7_records, Cond.code yX7_records cX7_records 2 none, Cond.fieldLink RX7 31 "CakeMarksModel" "kept" "I", Cond.methodLink RX7 35 yX7_copies, Cond.instanceMethod yX7_copies, Cond.selects RX7 yX7_copies yX7_copies, Cond.code yX7_copies cX7_copies 4 none, Cond.methodLink RX7 82 yX7_brings, Cond.instanceMethod yX7_brings, Cond.selects RX7 yX7_brings yX7_brings]
def wsX7_give_r2 : List Cond := [Cond.code yX7_brings cX7_brings 7 (some .int)]
def wsX7_give : List Cond := .code yX7_give cX7_give 4 (some .int) :: ((wsX7_give_r1 ++ wsX7_give_r2) ++ wsX70)
def wsX7_putBack : List Cond := .code yX7_putBack cX7_putBack 3 (some .int) :: ([.methodLink RX7 61 yX7_isSpan, .static yX7_isSpan, .initialized RX7, .code yX7_isSpan cX7_isSpan 2 (some .boolean), .methodLink RX7 39 yX7_in, .static yX7_in, .code yX7_in cX7_in 3 (some .boolean), .methodLink RX7 58 yX7_records, .instanceMethod yX7_records, .selects RX7 yX7_records yX7_records, .code yX7_records cX7_records 2 none, .fieldLink RX7 31 "CakeMarksModel" "kept" "I", .methodLink RX7 35 yX7_copies, .instanceMethod yX7_copies, .selects RX7 yX7_copies yX7_copies, .code yX7_copies cX7_copies 4 none, .fieldLink RX7 7 "CakeMarksModel" "row" "[I", .methodLink RX7 82 yX7_brings, .instanceMethod yX7_brings, .selects RX7 yX7_brings yX7_brings, .code yX7_brings cX7_brings 7 (some .int)] ++ wsX70)
def wsX7_isMove : List Cond := .code yX7_isMove cX7_isMove 3 (some .boolean) :: ([.fieldLink RX7 7 "CakeMarksModel" "row" "[I", .methodLink RX7 39 yX7_in, .static yX7_in, .initialized RX7, .code yX7_in cX7_in 3 (some .boolean)] ++ wsX70)
def wsX7_caller : List Cond := .code yX7_caller cX7_caller 8 (some .int) :: ([.fieldLink RX7 7 "CakeMarksModel" "row" "[I", .methodLink RX7 47 yX7_valueOf, .instanceMethod yX7_valueOf, .selects RX7 yX7_valueOf yX7_valueOf, .initialized RX7, .code yX7_valueOf cX7_valueOf 3 (some .int), .methodLink RX7 65 yX7_total, .instanceMethod yX7_total, .selects RX7 yX7_total yX7_total, .code yX7_total cX7_total 2 (some .int), .methodLink RX7 51 yX7_spanValue, .instanceMethod yX7_spanValue, .selects RX7 yX7_spanValue yX7_spanValue, .code yX7_spanValue cX7_spanValue 6 (some .int)] ++ wsX70)
def wsX7_moves : List Cond := .code yX7_moves cX7_moves 8 (some .int) :: ([.fieldLink RX7 7 "CakeMarksModel" "row" "[I", .methodLink RX7 86 yX7_caller, .instanceMethod yX7_caller, .selects RX7 yX7_caller yX7_caller, .initialized RX7, .code yX7_caller cX7_caller 8 (some .int), .methodLink RX7 47 yX7_valueOf, .instanceMethod yX7_valueOf, .selects RX7 yX7_valueOf yX7_valueOf, .code yX7_valueOf cX7_valueOf 3 (some .int), .methodLink RX7 65 yX7_total, .instanceMethod yX7_total, .selects RX7 yX7_total yX7_total, .code yX7_total cX7_total 2 (some .int), .methodLink RX7 51 yX7_spanValue, .instanceMethod yX7_spanValue, .selects RX7 yX7_spanValue yX7_spanValue, .code yX7_spanValue cX7_spanValue 6 (some .int), .methodLink RX7 82 yX7_brings, .instanceMethod yX7_brings, .selects RX7 yX7_brings yX7_brings, .code yX7_brings cX7_brings 7 (some .int)] ++ wsX70)
def wsX7_move_r1 : List Cond := [Cond.methodLink RX7 90 yX7_isMove, Cond.instanceMethod yX7_isMove, Cond.selects RX7 yX7_isMove yX7_isMove, Cond.initialized RX7, Cond.code yX7_isMove cX7_isMove 3 (some .boolean), Cond.fieldLink RX7 7 "CakeMarksModel" "row" "[I", Cond.methodLink RX7 39 yX7_in, Cond.static yX7_in, Cond.code yX7_in cX7_in 3 (some .boolean), Cond.methodLink RX7 58 yX7_records, Cond.instanceMethod yX7_records, Cond.selects RX7 yX7_records yX7_records, Cond.code yX7_records cX7_records 2 none, Cond.fieldLink RX7 31 "CakeMarksModel" "kept" "I", Cond.methodLink RX7 35 yX7_copies, Cond.instanceMethod yX7_copies, Cond.selects RX7 yX7_copies yX7_copies, Cond.code yX7_copies cX7_copies 4 none, Cond.methodLink RX7 93 yX7_moves, Cond.instanceMethod yX7_moves, Cond.selects RX7 yX7_moves yX7_moves, Cond.code yX7_moves cX7_moves 8 (some .int), Cond.methodLink RX7 86 yX7_caller, Cond.instanceMethod yX7_caller]
def wsX7_move_r2 : List Cond := [Cond.selects RX7 yX7_caller yX7_caller, Cond.code yX7_caller cX7_caller 8 (some .int), Cond.methodLink RX7 47 yX7_valueOf, Cond.instanceMethod yX7_valueOf, Cond.selects RX7 yX7_valueOf yX7_valueOf, Cond.code yX7_valueOf cX7_valueOf 3 (some .int), Cond.methodLink RX7 65 yX7_total, Cond.instanceMethod yX7_total, Cond.selects RX7 yX7_total yX7_total, Cond.code yX7_total cX7_total 2 (some .int), Cond.methodLink RX7 51 yX7_spanValue, Cond.instanceMethod yX7_spanValue, Cond.selects RX7 yX7_spanValue yX7_spanValue, Cond.code yX7_spanValue cX7_spanValue 6 (some .int), Cond.methodLink RX7 82 yX7_brings, Cond.instanceMethod yX7_brings, Cond.selects RX7 yX7_brings yX7_brings, Cond.code yX7_brings cX7_brings 7 (some .int)]
def wsX7_move : List Cond := .code yX7_move cX7_move 3 (some .int) :: ((wsX7_move_r1 ++ wsX7_move_r2) ++ wsX70)
def wsX7_cutAt : List Cond := .code yX7_cutAt cX7_cutAt 8 (some .int) :: ([.methodLink RX7 51 yX7_spanValue, .instanceMethod yX7_spanValue, .selects RX7 yX7_spanValue yX7_spanValue, .initialized RX7, .code yX7_spanValue cX7_spanValue 6 (some .int), .methodLink RX7 47 yX7_valueOf, .instanceMethod yX7_valueOf, .selects RX7 yX7_valueOf yX7_valueOf, .code yX7_valueOf cX7_valueOf 3 (some .int), .fieldLink RX7 7 "CakeMarksModel" "row" "[I"] ++ wsX70)
def wsX7_cut_r1 : List Cond := [Cond.fieldLink RX7 7 "CakeMarksModel" "row" "[I", Cond.methodLink RX7 96 yX7_areGuests, Cond.instanceMethod yX7_areGuests, Cond.selects RX7 yX7_areGuests yX7_areGuests, Cond.initialized RX7, Cond.code yX7_areGuests cX7_areGuests 3 (some .boolean), Cond.methodLink RX7 43 yX7_isGuest, Cond.instanceMethod yX7_isGuest, Cond.selects RX7 yX7_isGuest yX7_isGuest, Cond.code yX7_isGuest cX7_isGuest 2 (some .boolean), Cond.methodLink RX7 39 yX7_in, Cond.static yX7_in, Cond.code yX7_in cX7_in 3 (some .boolean), Cond.methodLink RX7 58 yX7_records, Cond.instanceMethod yX7_records, Cond.selects RX7 yX7_records yX7_records, Cond.code yX7_records cX7_records 2 none, Cond.fieldLink RX7 31 "CakeMarksModel" "kept" "I", Cond.methodLink RX7 35 yX7_copies, Cond.instanceMethod yX7_copies, Cond.selects RX7 yX7_copies yX7_copies, Cond.code yX7_copies cX7_copies 4 none, Cond.methodLink RX7 99 yX7_cutAt, Cond.instanceMethod yX7_cutAt]
def wsX7_cut_r2 : List Cond := [Cond.selects RX7 yX7_cutAt yX7_cutAt, Cond.code yX7_cutAt cX7_cutAt 8 (some .int), Cond.methodLink RX7 51 yX7_spanValue, Cond.instanceMethod yX7_spanValue, Cond.selects RX7 yX7_spanValue yX7_spanValue, Cond.code yX7_spanValue cX7_spanValue 6 (some .int), Cond.methodLink RX7 47 yX7_valueOf, Cond.instanceMethod yX7_valueOf, Cond.selects RX7 yX7_valueOf yX7_valueOf, Cond.code yX7_valueOf cX7_valueOf 3 (some .int), Cond.methodLink RX7 82 yX7_brings, Cond.instanceMethod yX7_brings, Cond.selects RX7 yX7_brings yX7_brings, Cond.code yX7_brings cX7_brings 7 (some .int)]
def wsX7_cut : List Cond := .code yX7_cut cX7_cut 7 (some .int) :: ((wsX7_cut_r1 ++ wsX7_cut_r2) ++ wsX70)
def wsX7_trim_r1 : List Cond := [Cond.fieldLink RX7 7 "CakeMarksModel" "row" "[I", Cond.methodLink RX7 96 yX7_areGuests, Cond.instanceMethod yX7_areGuests, Cond.selects RX7 yX7_areGuests yX7_areGuests, Cond.initialized RX7, Cond.code yX7_areGuests cX7_areGuests 3 (some .boolean), Cond.methodLink RX7 43 yX7_isGuest, Cond.instanceMethod yX7_isGuest, Cond.selects RX7 yX7_isGuest yX7_isGuest, Cond.code yX7_isGuest cX7_isGuest 2 (some .boolean), Cond.methodLink RX7 39 yX7_in, Cond.static yX7_in, Cond.code yX7_in cX7_in 3 (some .boolean), Cond.methodLink RX7 58 yX7_records, Cond.instanceMethod yX7_records, Cond.selects RX7 yX7_records yX7_records, Cond.code yX7_records cX7_records 2 none, Cond.fieldLink RX7 31 "CakeMarksModel" "kept" "I", Cond.methodLink RX7 35 yX7_copies, Cond.instanceMethod yX7_copies, Cond.selects RX7 yX7_copies yX7_copies, Cond.code yX7_copies cX7_copies 4 none, Cond.methodLink RX7 102 yX7_envyOf, Cond.instanceMethod yX7_envyOf]
def wsX7_trim_r2 : List Cond := [Cond.selects RX7 yX7_envyOf yX7_envyOf, Cond.code yX7_envyOf cX7_envyOf 4 (some .int), Cond.methodLink RX7 55 yX7_pieceValue, Cond.instanceMethod yX7_pieceValue, Cond.selects RX7 yX7_pieceValue yX7_pieceValue, Cond.code yX7_pieceValue cX7_pieceValue 5 (some .int), Cond.methodLink RX7 47 yX7_valueOf, Cond.instanceMethod yX7_valueOf, Cond.selects RX7 yX7_valueOf yX7_valueOf, Cond.code yX7_valueOf cX7_valueOf 3 (some .int)]
def wsX7_trim : List Cond := .code yX7_trim cX7_trim 5 (some .int) :: ((wsX7_trim_r1 ++ wsX7_trim_r2) ++ wsX70)
def wsX7_isRing : List Cond := .code yX7_isRing cX7_isRing 8 (some .boolean) :: ([.fieldLink RX7 19 "CakeMarksModel" "ring" "[I", .fieldLink RX7 7 "CakeMarksModel" "row" "[I", .methodLink RX7 102 yX7_envyOf, .instanceMethod yX7_envyOf, .selects RX7 yX7_envyOf yX7_envyOf, .initialized RX7, .code yX7_envyOf cX7_envyOf 4 (some .int), .methodLink RX7 55 yX7_pieceValue, .instanceMethod yX7_pieceValue, .selects RX7 yX7_pieceValue yX7_pieceValue, .code yX7_pieceValue cX7_pieceValue 5 (some .int), .methodLink RX7 47 yX7_valueOf, .instanceMethod yX7_valueOf, .selects RX7 yX7_valueOf yX7_valueOf, .code yX7_valueOf cX7_valueOf 3 (some .int)] ++ wsX70)
def wsX7_layRing : List Cond := .code yX7_layRing cX7_layRing 4 (some .int) :: ([.fieldLink RX7 7 "CakeMarksModel" "row" "[I", .methodLink RX7 105 yX7_isRing, .instanceMethod yX7_isRing, .selects RX7 yX7_isRing yX7_isRing, .initialized RX7, .code yX7_isRing cX7_isRing 8 (some .boolean), .fieldLink RX7 19 "CakeMarksModel" "ring" "[I", .methodLink RX7 102 yX7_envyOf, .instanceMethod yX7_envyOf, .selects RX7 yX7_envyOf yX7_envyOf, .code yX7_envyOf cX7_envyOf 4 (some .int), .methodLink RX7 55 yX7_pieceValue, .instanceMethod yX7_pieceValue, .selects RX7 yX7_pieceValue yX7_pieceValue, .code yX7_pieceValue cX7_pieceValue 5 (some .int), .methodLink RX7 47 yX7_valueOf, .instanceMethod yX7_valueOf, .selects RX7 yX7_valueOf yX7_valueOf, .code yX7_valueOf cX7_valueOf 3 (some .int)] ++ wsX70)
def wsX7_exchange_r1 : List Cond := [Cond.fieldLink RX7 7 "CakeMarksModel" "row" "[I", Cond.fieldLink RX7 19 "CakeMarksModel" "ring" "[I", Cond.methodLink RX7 108 yX7_layRing, Cond.instanceMethod yX7_layRing, Cond.selects RX7 yX7_layRing yX7_layRing, Cond.initialized RX7, Cond.code yX7_layRing cX7_layRing 4 (some .int), Cond.methodLink RX7 105 yX7_isRing, Cond.instanceMethod yX7_isRing, Cond.selects RX7 yX7_isRing yX7_isRing, Cond.code yX7_isRing cX7_isRing 8 (some .boolean), Cond.methodLink RX7 102 yX7_envyOf, Cond.instanceMethod yX7_envyOf, Cond.selects RX7 yX7_envyOf yX7_envyOf, Cond.code yX7_envyOf cX7_envyOf 4 (some .int), Cond.methodLink RX7 55 yX7_pieceValue, Cond.instanceMethod yX7_pieceValue, Cond.selects RX7 yX7_pieceValue yX7_pieceValue, Cond.code yX7_pieceValue cX7_pieceValue 5 (some .int), Cond.methodLink RX7 47 yX7_valueOf, Cond.instanceMethod yX7_valueOf, Cond.selects RX7 yX7_valueOf yX7_valueOf, Cond.code yX7_valueOf cX7_valueOf 3 (some .int), Cond.methodLink RX7 58 yX7_records]
def wsX7_exchange_r2 : List Cond := [Cond.instanceMethod yX7_records, Cond.selects RX7 yX7_records yX7_records, Cond.code yX7_records cX7_records 2 none, Cond.fieldLink RX7 31 "CakeMarksModel" "kept" "I", Cond.methodLink RX7 35 yX7_copies, Cond.instanceMethod yX7_copies, Cond.selects RX7 yX7_copies yX7_copies, Cond.code yX7_copies cX7_copies 4 none]
def wsX7_exchange : List Cond := .code yX7_exchange cX7_exchange 5 (some .int) :: ((wsX7_exchange_r1 ++ wsX7_exchange_r2) ++ wsX70)
def wsX7_undo : List Cond := .code yX7_undo cX7_undo 1 (some .int) :: ([.fieldLink RX7 31 "CakeMarksModel" "kept" "I", .methodLink RX7 35 yX7_copies, .instanceMethod yX7_copies, .selects RX7 yX7_copies yX7_copies, .initialized RX7, .code yX7_copies cX7_copies 4 none, .fieldLink RX7 7 "CakeMarksModel" "row" "[I"] ++ wsX70)
def wsX7_onTable : List Cond := .code yX7_onTable cX7_onTable 3 (some .int) :: ([.fieldLink RX7 7 "CakeMarksModel" "row" "[I"] ++ wsX70)
def wsX7_envies : List Cond := .code yX7_envies cX7_envies 6 (some .int) :: ([.fieldLink RX7 7 "CakeMarksModel" "row" "[I", .methodLink RX7 102 yX7_envyOf, .instanceMethod yX7_envyOf, .selects RX7 yX7_envyOf yX7_envyOf, .initialized RX7, .code yX7_envyOf cX7_envyOf 4 (some .int), .methodLink RX7 55 yX7_pieceValue, .instanceMethod yX7_pieceValue, .selects RX7 yX7_pieceValue yX7_pieceValue, .code yX7_pieceValue cX7_pieceValue 5 (some .int), .methodLink RX7 47 yX7_valueOf, .instanceMethod yX7_valueOf, .selects RX7 yX7_valueOf yX7_valueOf, .code yX7_valueOf cX7_valueOf 3 (some .int)] ++ wsX70)
def wsX7_served : List Cond := .code yX7_served cX7_served 3 (some .int) :: ([.fieldLink RX7 7 "CakeMarksModel" "row" "[I", .methodLink RX7 65 yX7_total, .instanceMethod yX7_total, .selects RX7 yX7_total yX7_total, .initialized RX7, .code yX7_total cX7_total 2 (some .int), .methodLink RX7 51 yX7_spanValue, .instanceMethod yX7_spanValue, .selects RX7 yX7_spanValue yX7_spanValue, .code yX7_spanValue cX7_spanValue 6 (some .int), .methodLink RX7 47 yX7_valueOf, .instanceMethod yX7_valueOf, .selects RX7 yX7_valueOf yX7_valueOf, .code yX7_valueOf cX7_valueOf 3 (some .int), .methodLink RX7 55 yX7_pieceValue, .instanceMethod yX7_pieceValue, .selects RX7 yX7_pieceValue yX7_pieceValue, .code yX7_pieceValue cX7_pieceValue 5 (some .int)] ++ wsX70)
def wsX7_count_r1 : List Cond := [Cond.fieldLink RX7 7 "CakeMarksModel" "row" "[I", Cond.fieldLink RX7 31 "CakeMarksModel" "kept" "I", Cond.fieldLink RX7 69 "CakeMarksModel" "length" "I", Cond.methodLink RX7 111 yX7_onTable, Cond.instanceMethod yX7_onTable, Cond.selects RX7 yX7_onTable yX7_onTable, Cond.initialized RX7, Cond.code yX7_onTable cX7_onTable 3 (some .int), Cond.methodLink RX7 114 yX7_envies, Cond.instanceMethod yX7_envies, Cond.selects RX7 yX7_envies yX7_envies, Cond.code yX7_envies cX7_envies 6 (some .int), Cond.methodLink RX7 102 yX7_envyOf, Cond.instanceMethod yX7_envyOf, Cond.selects RX7 yX7_envyOf yX7_envyOf, Cond.code yX7_envyOf cX7_envyOf 4 (some .int), Cond.methodLink RX7 55 yX7_pieceValue, Cond.instanceMethod yX7_pieceValue, Cond.selects RX7 yX7_pieceValue yX7_pieceValue, Cond.code yX7_pieceValue cX7_pieceValue 5 (some .int), Cond.methodLink RX7 47 yX7_valueOf, Cond.instanceMethod yX7_valueOf, Cond.selects RX7 yX7_valueOf yX7_valueOf, Cond.code yX7_valueOf cX7_valueOf 3 (some .int)]
def wsX7_count_r2 : List Cond := [Cond.methodLink RX7 118 yX7_served, Cond.instanceMethod yX7_served, Cond.selects RX7 yX7_served yX7_served, Cond.code yX7_served cX7_served 3 (some .int), Cond.methodLink RX7 65 yX7_total, Cond.instanceMethod yX7_total, Cond.selects RX7 yX7_total yX7_total, Cond.code yX7_total cX7_total 2 (some .int), Cond.methodLink RX7 51 yX7_spanValue, Cond.instanceMethod yX7_spanValue, Cond.selects RX7 yX7_spanValue yX7_spanValue, Cond.code yX7_spanValue cX7_spanValue 6 (some .int)]
def wsX7_count : List Cond := .code yX7_count cX7_count 2 (some .int) :: ((wsX7_count_r1 ++ wsX7_count_r2) ++ wsX70)
def wsX7_divisor : List Cond := .code yX7_divisor cX7_divisor 5 (some .int) :: ([])
def wsX7_part : List Cond := .code yX7_part cX7_part 4 (some .int) :: ([.methodLink RX7 121 yX7_divisor, .static yX7_divisor, .initialized RX7, .code yX7_divisor cX7_divisor 5 (some .int)])
def wsX7_crumbsOf : List Cond := .code yX7_crumbsOf cX7_crumbsOf 6 (some .int) :: ([.fieldLink RX7 7 "CakeMarksModel" "row" "[I"] ++ wsX70)
def wsX7_guest_r1 : List Cond := [Cond.methodLink RX7 43 yX7_isGuest, Cond.instanceMethod yX7_isGuest, Cond.selects RX7 yX7_isGuest yX7_isGuest, Cond.initialized RX7, Cond.code yX7_isGuest cX7_isGuest 2 (some .boolean), Cond.fieldLink RX7 7 "CakeMarksModel" "row" "[I", Cond.methodLink RX7 39 yX7_in, Cond.static yX7_in, Cond.code yX7_in cX7_in 3 (some .boolean), Cond.methodLink RX7 65 yX7_total, Cond.instanceMethod yX7_total, Cond.selects RX7 yX7_total yX7_total, Cond.code yX7_total cX7_total 2 (some .int), Cond.methodLink RX7 51 yX7_spanValue, Cond.instanceMethod yX7_spanValue, Cond.selects RX7 yX7_spanValue yX7_spanValue, Cond.code yX7_spanValue cX7_spanValue 6 (some .int), Cond.methodLink RX7 47 yX7_valueOf, Cond.instanceMethod yX7_valueOf, Cond.selects RX7 yX7_valueOf yX7_valueOf, Cond.code yX7_valueOf cX7_valueOf 3 (some .int), Cond.methodLink RX7 55 yX7_pieceValue, Cond.instanceMethod yX7_pieceValue, Cond.selects RX7 yX7_pieceValue yX7_pieceValue]
def wsX7_guest_r2 : List Cond := [Cond.code yX7_pieceValue cX7_pieceValue 5 (some .int), Cond.methodLink RX7 124 yX7_crumbsOf, Cond.instanceMethod yX7_crumbsOf, Cond.selects RX7 yX7_crumbsOf yX7_crumbsOf, Cond.code yX7_crumbsOf cX7_crumbsOf 6 (some .int), Cond.methodLink RX7 128 yX7_part, Cond.static yX7_part, Cond.code yX7_part cX7_part 4 (some .int), Cond.methodLink RX7 121 yX7_divisor, Cond.static yX7_divisor, Cond.code yX7_divisor cX7_divisor 5 (some .int)]
def wsX7_guest : List Cond := .code yX7_guest cX7_guest 3 (some .int) :: ((wsX7_guest_r1 ++ wsX7_guest_r2) ++ wsX70)
def wsX7_crumb : List Cond := .code yX7_crumb cX7_crumb 2 (some .int) :: ([.fieldLink RX7 7 "CakeMarksModel" "row" "[I", .methodLink RX7 39 yX7_in, .static yX7_in, .initialized RX7, .code yX7_in cX7_in 3 (some .boolean)] ++ wsX70)
def wsX7_value : List Cond := .code yX7_value cX7_value 3 (some .int) :: ([.methodLink RX7 43 yX7_isGuest, .instanceMethod yX7_isGuest, .selects RX7 yX7_isGuest yX7_isGuest, .initialized RX7, .code yX7_isGuest cX7_isGuest 2 (some .boolean), .fieldLink RX7 7 "CakeMarksModel" "row" "[I", .methodLink RX7 39 yX7_in, .static yX7_in, .code yX7_in cX7_in 3 (some .boolean), .methodLink RX7 47 yX7_valueOf, .instanceMethod yX7_valueOf, .selects RX7 yX7_valueOf yX7_valueOf, .code yX7_valueOf cX7_valueOf 3 (some .int)] ++ wsX70)
def wsX7_envy_r1 : List Cond := [Cond.methodLink RX7 96 yX7_areGuests, Cond.instanceMethod yX7_areGuests, Cond.selects RX7 yX7_areGuests yX7_areGuests, Cond.initialized RX7, Cond.code yX7_areGuests cX7_areGuests 3 (some .boolean), Cond.methodLink RX7 43 yX7_isGuest, Cond.instanceMethod yX7_isGuest, Cond.selects RX7 yX7_isGuest yX7_isGuest, Cond.code yX7_isGuest cX7_isGuest 2 (some .boolean), Cond.fieldLink RX7 7 "CakeMarksModel" "row" "[I", Cond.methodLink RX7 39 yX7_in, Cond.static yX7_in, Cond.code yX7_in cX7_in 3 (some .boolean), Cond.methodLink RX7 102 yX7_envyOf, Cond.instanceMethod yX7_envyOf, Cond.selects RX7 yX7_envyOf yX7_envyOf, Cond.code yX7_envyOf cX7_envyOf 4 (some .int), Cond.methodLink RX7 55 yX7_pieceValue, Cond.instanceMethod yX7_pieceValue, Cond.selects RX7 yX7_pieceValue yX7_pieceValue, Cond.code yX7_pieceValue cX7_pieceValue 5 (some .int), Cond.methodLink RX7 47 yX7_valueOf, Cond.instanceMethod yX7_valueOf, Cond.selects RX7 yX7_valueOf yX7_valueOf]
def wsX7_envy_r2 : List Cond := [Cond.code yX7_valueOf cX7_valueOf 3 (some .int)]
def wsX7_envy : List Cond := .code yX7_envy cX7_envy 3 (some .int) :: ((wsX7_envy_r1 ++ wsX7_envy_r2) ++ wsX70)
def wsX7_ring : List Cond := .code yX7_ring cX7_ring 2 (some .int) :: ([.fieldLink RX7 19 "CakeMarksModel" "ring" "[I", .methodLink RX7 108 yX7_layRing, .instanceMethod yX7_layRing, .selects RX7 yX7_layRing yX7_layRing, .initialized RX7, .code yX7_layRing cX7_layRing 4 (some .int), .fieldLink RX7 7 "CakeMarksModel" "row" "[I", .methodLink RX7 105 yX7_isRing, .instanceMethod yX7_isRing, .selects RX7 yX7_isRing yX7_isRing, .code yX7_isRing cX7_isRing 8 (some .boolean), .methodLink RX7 102 yX7_envyOf, .instanceMethod yX7_envyOf, .selects RX7 yX7_envyOf yX7_envyOf, .code yX7_envyOf cX7_envyOf 4 (some .int), .methodLink RX7 55 yX7_pieceValue, .instanceMethod yX7_pieceValue, .selects RX7 yX7_pieceValue yX7_pieceValue, .code yX7_pieceValue cX7_pieceValue 5 (some .int), .methodLink RX7 47 yX7_valueOf, .instanceMethod yX7_valueOf, .selects RX7 yX7_valueOf yX7_valueOf, .code yX7_valueOf cX7_valueOf 3 (some .int)] ++ wsX70)
def wsX7_middle : List Cond := .code yX7_middle cX7_middle 2 (some .int) :: ([.methodLink RX7 43 yX7_isGuest, .instanceMethod yX7_isGuest, .selects RX7 yX7_isGuest yX7_isGuest, .initialized RX7, .code yX7_isGuest cX7_isGuest 2 (some .boolean), .fieldLink RX7 7 "CakeMarksModel" "row" "[I", .methodLink RX7 39 yX7_in, .static yX7_in, .code yX7_in cX7_in 3 (some .boolean), .methodLink RX7 99 yX7_cutAt, .instanceMethod yX7_cutAt, .selects RX7 yX7_cutAt yX7_cutAt, .code yX7_cutAt cX7_cutAt 8 (some .int), .methodLink RX7 51 yX7_spanValue, .instanceMethod yX7_spanValue, .selects RX7 yX7_spanValue yX7_spanValue, .code yX7_spanValue cX7_spanValue 6 (some .int), .methodLink RX7 47 yX7_valueOf, .instanceMethod yX7_valueOf, .selects RX7 yX7_valueOf yX7_valueOf, .code yX7_valueOf cX7_valueOf 3 (some .int)] ++ wsX70)
def wsX7_layGuests : List Cond := .code yX7_layGuests cX7_layGuests 5 (some .boolean) :: ([.fieldLink RX7 7 "CakeMarksModel" "row" "[I", .fieldLink RX7 25 "CakeMarksModel" "who" "[I"] ++ wsX70)
def wsX7_weighs : List Cond := .code yX7_weighs cX7_weighs 7 none :: ([.fieldLink RX7 7 "CakeMarksModel" "row" "[I", .fieldLink RX7 25 "CakeMarksModel" "who" "[I", .fieldLink RX7 22 "CakeMarksModel" "first" "[I", .fieldLink RX7 132 "CakeMarksModel" "bestDown" "I", .fieldLink RX7 135 "CakeMarksModel" "bestUp" "I", .fieldLink RX7 138 "CakeMarksModel" "bestWho" "I", .fieldLink RX7 28 "CakeMarksModel" "bestFirst" "[I", .methodLink RX7 51 yX7_spanValue, .instanceMethod yX7_spanValue, .selects RX7 yX7_spanValue yX7_spanValue, .initialized RX7, .code yX7_spanValue cX7_spanValue 6 (some .int), .methodLink RX7 47 yX7_valueOf, .instanceMethod yX7_valueOf, .selects RX7 yX7_valueOf yX7_valueOf, .code yX7_valueOf cX7_valueOf 3 (some .int), .methodLink RX7 65 yX7_total, .instanceMethod yX7_total, .selects RX7 yX7_total yX7_total, .code yX7_total cX7_total 2 (some .int)] ++ wsX70)
def wsX7_isCalm : List Cond := .code yX7_isCalm cX7_isCalm 4 (some .boolean) :: ([.fieldLink RX7 7 "CakeMarksModel" "row" "[I", .fieldLink RX7 25 "CakeMarksModel" "who" "[I", .fieldLink RX7 22 "CakeMarksModel" "first" "[I", .methodLink RX7 51 yX7_spanValue, .instanceMethod yX7_spanValue, .selects RX7 yX7_spanValue yX7_spanValue, .initialized RX7, .code yX7_spanValue cX7_spanValue 6 (some .int), .methodLink RX7 47 yX7_valueOf, .instanceMethod yX7_valueOf, .selects RX7 yX7_valueOf yX7_valueOf, .code yX7_valueOf cX7_valueOf 3 (some .int)] ++ wsX70)
def wsX7_looksAt_r1 : List Cond := [Cond.fieldLink RX7 7 "CakeMarksModel" "row" "[I", Cond.fieldLink RX7 151 "CakeMarksModel" "calmMany" "I", Cond.fieldLink RX7 25 "CakeMarksModel" "who" "[I", Cond.fieldLink RX7 154 "CakeMarksModel" "calmWho" "I", Cond.fieldLink RX7 22 "CakeMarksModel" "first" "[I", Cond.fieldLink RX7 157 "CakeMarksModel" "calmFirst" "I", Cond.methodLink RX7 141 yX7_layGuests, Cond.instanceMethod yX7_layGuests, Cond.selects RX7 yX7_layGuests yX7_layGuests, Cond.initialized RX7, Cond.code yX7_layGuests cX7_layGuests 5 (some .boolean), Cond.methodLink RX7 144 yX7_weighs, Cond.instanceMethod yX7_weighs, Cond.selects RX7 yX7_weighs yX7_weighs, Cond.code yX7_weighs cX7_weighs 7 none, Cond.fieldLink RX7 132 "CakeMarksModel" "bestDown" "I", Cond.fieldLink RX7 135 "CakeMarksModel" "bestUp" "I", Cond.fieldLink RX7 138 "CakeMarksModel" "bestWho" "I", Cond.fieldLink RX7 28 "CakeMarksModel" "bestFirst" "[I", Cond.methodLink RX7 51 yX7_spanValue, Cond.instanceMethod yX7_spanValue, Cond.selects RX7 yX7_spanValue yX7_spanValue, Cond.code yX7_spanValue cX7_spanValue 6 (some .int), Cond.methodLink RX7 47 yX7_valueOf]
def wsX7_looksAt_r2 : List Cond := [Cond.instanceMethod yX7_valueOf, Cond.selects RX7 yX7_valueOf yX7_valueOf, Cond.code yX7_valueOf cX7_valueOf 3 (some .int), Cond.methodLink RX7 65 yX7_total, Cond.instanceMethod yX7_total, Cond.selects RX7 yX7_total yX7_total, Cond.code yX7_total cX7_total 2 (some .int), Cond.methodLink RX7 147 yX7_isCalm, Cond.instanceMethod yX7_isCalm, Cond.selects RX7 yX7_isCalm yX7_isCalm, Cond.code yX7_isCalm cX7_isCalm 4 (some .boolean)]
def wsX7_looksAt : List Cond := .code yX7_looksAt cX7_looksAt 4 none :: ((wsX7_looksAt_r1 ++ wsX7_looksAt_r2) ++ wsX70)
def wsX7_searches_r1 : List Cond := [Cond.fieldLink RX7 7 "CakeMarksModel" "row" "[I", Cond.fieldLink RX7 132 "CakeMarksModel" "bestDown" "I", Cond.fieldLink RX7 151 "CakeMarksModel" "calmMany" "I", Cond.fieldLink RX7 22 "CakeMarksModel" "first" "[I", Cond.methodLink RX7 160 yX7_looksAt, Cond.instanceMethod yX7_looksAt, Cond.selects RX7 yX7_looksAt yX7_looksAt, Cond.initialized RX7, Cond.code yX7_looksAt cX7_looksAt 4 none, Cond.fieldLink RX7 25 "CakeMarksModel" "who" "[I", Cond.fieldLink RX7 154 "CakeMarksModel" "calmWho" "I", Cond.fieldLink RX7 157 "CakeMarksModel" "calmFirst" "I", Cond.methodLink RX7 141 yX7_layGuests, Cond.instanceMethod yX7_layGuests, Cond.selects RX7 yX7_layGuests yX7_layGuests, Cond.code yX7_layGuests cX7_layGuests 5 (some .boolean), Cond.methodLink RX7 144 yX7_weighs, Cond.instanceMethod yX7_weighs, Cond.selects RX7 yX7_weighs yX7_weighs, Cond.code yX7_weighs cX7_weighs 7 none, Cond.fieldLink RX7 135 "CakeMarksModel" "bestUp" "I", Cond.fieldLink RX7 138 "CakeMarksModel" "bestWho" "I", Cond.fieldLink RX7 28 "CakeMarksModel" "bestFirst" "[I", Cond.methodLink RX7 51 yX7_spanValue]
def wsX7_searches_r2 : List Cond := [Cond.instanceMethod yX7_spanValue, Cond.selects RX7 yX7_spanValue yX7_spanValue, Cond.code yX7_spanValue cX7_spanValue 6 (some .int), Cond.methodLink RX7 47 yX7_valueOf, Cond.instanceMethod yX7_valueOf, Cond.selects RX7 yX7_valueOf yX7_valueOf, Cond.code yX7_valueOf cX7_valueOf 3 (some .int), Cond.methodLink RX7 65 yX7_total, Cond.instanceMethod yX7_total, Cond.selects RX7 yX7_total yX7_total, Cond.code yX7_total cX7_total 2 (some .int), Cond.methodLink RX7 147 yX7_isCalm, Cond.instanceMethod yX7_isCalm, Cond.selects RX7 yX7_isCalm yX7_isCalm, Cond.code yX7_isCalm cX7_isCalm 4 (some .boolean)]
def wsX7_searches : List Cond := .code yX7_searches cX7_searches 7 none :: ((wsX7_searches_r1 ++ wsX7_searches_r2) ++ wsX70)
def wsX7_best_r1 : List Cond := [Cond.fieldLink RX7 7 "CakeMarksModel" "row" "[I", Cond.fieldLink RX7 135 "CakeMarksModel" "bestUp" "I", Cond.fieldLink RX7 132 "CakeMarksModel" "bestDown" "I", Cond.fieldLink RX7 138 "CakeMarksModel" "bestWho" "I", Cond.fieldLink RX7 28 "CakeMarksModel" "bestFirst" "[I", Cond.methodLink RX7 39 yX7_in, Cond.static yX7_in, Cond.initialized RX7, Cond.code yX7_in cX7_in 3 (some .boolean), Cond.methodLink RX7 164 yX7_searches, Cond.instanceMethod yX7_searches, Cond.selects RX7 yX7_searches yX7_searches, Cond.code yX7_searches cX7_searches 7 none, Cond.fieldLink RX7 151 "CakeMarksModel" "calmMany" "I", Cond.fieldLink RX7 22 "CakeMarksModel" "first" "[I", Cond.methodLink RX7 160 yX7_looksAt, Cond.instanceMethod yX7_looksAt, Cond.selects RX7 yX7_looksAt yX7_looksAt, Cond.code yX7_looksAt cX7_looksAt 4 none, Cond.fieldLink RX7 25 "CakeMarksModel" "who" "[I", Cond.fieldLink RX7 154 "CakeMarksModel" "calmWho" "I", Cond.fieldLink RX7 157 "CakeMarksModel" "calmFirst" "I", Cond.methodLink RX7 141 yX7_layGuests, Cond.instanceMethod yX7_layGuests]
def wsX7_best_r2 : List Cond := [Cond.selects RX7 yX7_layGuests yX7_layGuests, Cond.code yX7_layGuests cX7_layGuests 5 (some .boolean), Cond.methodLink RX7 144 yX7_weighs, Cond.instanceMethod yX7_weighs, Cond.selects RX7 yX7_weighs yX7_weighs, Cond.code yX7_weighs cX7_weighs 7 none, Cond.methodLink RX7 51 yX7_spanValue, Cond.instanceMethod yX7_spanValue, Cond.selects RX7 yX7_spanValue yX7_spanValue, Cond.code yX7_spanValue cX7_spanValue 6 (some .int), Cond.methodLink RX7 47 yX7_valueOf, Cond.instanceMethod yX7_valueOf, Cond.selects RX7 yX7_valueOf yX7_valueOf, Cond.code yX7_valueOf cX7_valueOf 3 (some .int), Cond.methodLink RX7 65 yX7_total, Cond.instanceMethod yX7_total, Cond.selects RX7 yX7_total yX7_total, Cond.code yX7_total cX7_total 2 (some .int), Cond.methodLink RX7 147 yX7_isCalm, Cond.instanceMethod yX7_isCalm, Cond.selects RX7 yX7_isCalm yX7_isCalm, Cond.code yX7_isCalm cX7_isCalm 4 (some .boolean), Cond.methodLink RX7 128 yX7_part, Cond.static yX7_part]
def wsX7_best_r3 : List Cond := [Cond.code yX7_part cX7_part 4 (some .int), Cond.methodLink RX7 121 yX7_divisor, Cond.static yX7_divisor, Cond.code yX7_divisor cX7_divisor 5 (some .int)]
def wsX7_best : List Cond := .code yX7_best cX7_best 2 (some .int) :: ((wsX7_best_r1 ++ (wsX7_best_r2 ++ wsX7_best_r3)) ++ wsX70)
def wsX7_calm_r1 : List Cond := [Cond.fieldLink RX7 7 "CakeMarksModel" "row" "[I", Cond.fieldLink RX7 151 "CakeMarksModel" "calmMany" "I", Cond.fieldLink RX7 154 "CakeMarksModel" "calmWho" "I", Cond.fieldLink RX7 157 "CakeMarksModel" "calmFirst" "I", Cond.methodLink RX7 39 yX7_in, Cond.static yX7_in, Cond.initialized RX7, Cond.code yX7_in cX7_in 3 (some .boolean), Cond.methodLink RX7 164 yX7_searches, Cond.instanceMethod yX7_searches, Cond.selects RX7 yX7_searches yX7_searches, Cond.code yX7_searches cX7_searches 7 none, Cond.fieldLink RX7 132 "CakeMarksModel" "bestDown" "I", Cond.fieldLink RX7 22 "CakeMarksModel" "first" "[I", Cond.methodLink RX7 160 yX7_looksAt, Cond.instanceMethod yX7_looksAt, Cond.selects RX7 yX7_looksAt yX7_looksAt, Cond.code yX7_looksAt cX7_looksAt 4 none, Cond.fieldLink RX7 25 "CakeMarksModel" "who" "[I", Cond.methodLink RX7 141 yX7_layGuests, Cond.instanceMethod yX7_layGuests, Cond.selects RX7 yX7_layGuests yX7_layGuests, Cond.code yX7_layGuests cX7_layGuests 5 (some .boolean), Cond.methodLink RX7 144 yX7_weighs]
def wsX7_calm_r2 : List Cond := [Cond.instanceMethod yX7_weighs, Cond.selects RX7 yX7_weighs yX7_weighs, Cond.code yX7_weighs cX7_weighs 7 none, Cond.fieldLink RX7 135 "CakeMarksModel" "bestUp" "I", Cond.fieldLink RX7 138 "CakeMarksModel" "bestWho" "I", Cond.fieldLink RX7 28 "CakeMarksModel" "bestFirst" "[I", Cond.methodLink RX7 51 yX7_spanValue, Cond.instanceMethod yX7_spanValue, Cond.selects RX7 yX7_spanValue yX7_spanValue, Cond.code yX7_spanValue cX7_spanValue 6 (some .int), Cond.methodLink RX7 47 yX7_valueOf, Cond.instanceMethod yX7_valueOf, Cond.selects RX7 yX7_valueOf yX7_valueOf, Cond.code yX7_valueOf cX7_valueOf 3 (some .int), Cond.methodLink RX7 65 yX7_total, Cond.instanceMethod yX7_total, Cond.selects RX7 yX7_total yX7_total, Cond.code yX7_total cX7_total 2 (some .int), Cond.methodLink RX7 147 yX7_isCalm, Cond.instanceMethod yX7_isCalm, Cond.selects RX7 yX7_isCalm yX7_isCalm, Cond.code yX7_isCalm cX7_isCalm 4 (some .boolean)]
def wsX7_calm : List Cond := .code yX7_calm cX7_calm 2 (some .int) :: ((wsX7_calm_r1 ++ wsX7_calm_r2) ++ wsX70)
def wsX7_calls_r1 : List Cond := [Cond.methodLink RX7 90 yX7_isMove, Cond.instanceMethod yX7_isMove, Cond.selects RX7 yX7_isMove yX7_isMove, Cond.initialized RX7, Cond.code yX7_isMove cX7_isMove 3 (some .boolean), Cond.fieldLink RX7 7 "CakeMarksModel" "row" "[I", Cond.methodLink RX7 39 yX7_in, Cond.static yX7_in, Cond.code yX7_in cX7_in 3 (some .boolean), Cond.methodLink RX7 35 yX7_copies, Cond.instanceMethod yX7_copies, Cond.selects RX7 yX7_copies yX7_copies, Cond.code yX7_copies cX7_copies 4 none, Cond.methodLink RX7 93 yX7_moves, Cond.instanceMethod yX7_moves, Cond.selects RX7 yX7_moves yX7_moves, Cond.code yX7_moves cX7_moves 8 (some .int), Cond.methodLink RX7 86 yX7_caller, Cond.instanceMethod yX7_caller, Cond.selects RX7 yX7_caller yX7_caller, Cond.code yX7_caller cX7_caller 8 (some .int), Cond.methodLink RX7 47 yX7_valueOf, Cond.instanceMethod yX7_valueOf, Cond.selects RX7 yX7_valueOf yX7_valueOf]
def wsX7_calls_r2 : List Cond := [Cond.code yX7_valueOf cX7_valueOf 3 (some .int), Cond.methodLink RX7 65 yX7_total, Cond.instanceMethod yX7_total, Cond.selects RX7 yX7_total yX7_total, Cond.code yX7_total cX7_total 2 (some .int), Cond.methodLink RX7 51 yX7_spanValue, Cond.instanceMethod yX7_spanValue, Cond.selects RX7 yX7_spanValue yX7_spanValue, Cond.code yX7_spanValue cX7_spanValue 6 (some .int), Cond.methodLink RX7 82 yX7_brings, Cond.instanceMethod yX7_brings, Cond.selects RX7 yX7_brings yX7_brings, Cond.code yX7_brings cX7_brings 7 (some .int)]
def wsX7_calls : List Cond := .code yX7_calls cX7_calls 5 (some .int) :: ((wsX7_calls_r1 ++ wsX7_calls_r2) ++ wsX70)
def wsJ9_abs_0f7a4 : List Cond := .code yJ9_abs_0f7a4 cJ9_abs_0f7a4 1 (some .int) :: ([])
def wsJ9_max_7cf53 : List Cond := .code yJ9_max_7cf53 cJ9_max_7cf53 2 (some .int) :: ([])
def wsJ9_min_7cf53 : List Cond := .code yJ9_min_7cf53 cJ9_min_7cf53 2 (some .int) :: ([])
def wsL_law_r1 : List Cond := [Cond.classLink RL 7 RX6, Cond.instantiable RX6 8, Cond.initialized RX6, Cond.classLink RL 10 RX7, Cond.instantiable RX7 16, Cond.initialized RX7, Cond.methodLink RL 9 yX6_init, Cond.instanceMethod yX6_init, Cond.code yX6_init cX6_init 2 none, Cond.methodLink RX6 1 objectInit, Cond.instanceMethod objectInit, Cond.code objectInit ⟨#[0xb1]⟩ 1 none, Cond.classLink RX6 7 RX0, Cond.instantiable RX0 3, Cond.initialized RX0, Cond.fieldLink RX6 10 "CakeMarks" "cake" "LCakeMarks$Cake;", Cond.fieldLink RX6 16 "CakeMarks" "history" "[LCakeMarks$Cake;", Cond.fieldLink RX6 20 "CakeMarks" "states" "I", Cond.classLink RX6 24 RX5, Cond.instantiable RX5 5, Cond.initialized RX5, Cond.fieldLink RX6 27 "CakeMarks" "text" "LCakeMarks$ValueText;", Cond.classLink RX6 31 RX2, Cond.instantiable RX2 1]
def wsL_law_r2 : List Cond := [Cond.initialized RX2, Cond.fieldLink RX6 34 "CakeMarks" "mark" "LCakeMarks$Mark;", Cond.classLink RX6 38 RX3, Cond.instantiable RX3 2, Cond.initialized RX3, Cond.fieldLink RX6 41 "CakeMarks" "rings" "LCakeMarks$Rings;", Cond.classLink RX6 45 RX1, Cond.instantiable RX1 14, Cond.initialized RX1, Cond.fieldLink RX6 48 "CakeMarks" "divisions" "LCakeMarks$Divisions;", Cond.fieldLink RX6 52 "CakeMarks" "searched" "Z", Cond.methodLink RX6 9 yX0_init, Cond.instanceMethod yX0_init, Cond.code yX0_init cX0_init 2 none, Cond.methodLink RX0 3 objectInit, Cond.fieldLink RX0 9 "CakeMarks$Cake" "guests" "I", Cond.arrayClass .int, Cond.fieldLink RX0 15 "CakeMarks$Cake" "owner" "[I", Cond.classLink RX0 19 "[[I", Cond.fieldLink RX0 21 "CakeMarks$Cake" "values" "[[I", Cond.instanceMethod yX5_init, Cond.code yX5_init cX5_init 1 none, Cond.methodLink RX5 3 objectInit, Cond.fieldLink RX5 9 "CakeMarks$ValueText" "length" "I"]
def wsL_law_r3 : List Cond := [Cond.fieldLink RX5 15 "CakeMarks$ValueText" "signs" "[I", Cond.fieldLink RX5 19 "CakeMarks$ValueText" "values" "[I", Cond.fieldLink RX5 22 "CakeMarks$ValueText" "told" "I", Cond.fieldLink RX5 25 "CakeMarks$ValueText" "place" "I", Cond.instanceMethod yX2_init, Cond.code yX2_init cX2_init 1 none, Cond.methodLink RX2 3 objectInit, Cond.fieldLink RX2 9 "CakeMarks$Mark" "owner" "[I", Cond.instanceMethod yX3_init, Cond.code yX3_init cX3_init 1 none, Cond.methodLink RX3 3 objectInit, Cond.classLink RX3 9 RX4, Cond.instantiable RX4 3, Cond.initialized RX4, Cond.fieldLink RX3 12 "CakeMarks$Rings" "row" "LCakeMarks$Row;", Cond.fieldLink RX3 18 "CakeMarks$Rings" "envied" "[I", Cond.instanceMethod yX4_init, Cond.code yX4_init cX4_init 1 none, Cond.methodLink RX4 3 objectInit, Cond.fieldLink RX4 9 "CakeMarks$Row" "at" "[I", Cond.fieldLink RX4 15 "CakeMarks$Row" "size" "I", Cond.fieldLink RX4 19 "CakeMarks$Row" "guests" "I", Cond.instanceMethod yX1_init, Cond.code yX1_init cX1_init 1 none]
def wsL_law_r4 : List Cond := [Cond.methodLink RX1 3 objectInit, Cond.fieldLink RX1 9 "CakeMarks$Divisions" "fairPart" "I", Cond.fieldLink RX1 15 "CakeMarks$Divisions" "fairTotal" "I", Cond.fieldLink RX1 18 "CakeMarks$Divisions" "fairGuest" "I", Cond.fieldLink RX1 21 "CakeMarks$Divisions" "fairStart" "[I", Cond.fieldLink RX1 25 "CakeMarks$Divisions" "quietCount" "I", Cond.fieldLink RX1 28 "CakeMarks$Divisions" "quietGuest" "I", Cond.fieldLink RX1 31 "CakeMarks$Divisions" "quietCut" "I", Cond.fieldLink RX1 34 "CakeMarks$Divisions" "spans" "I", Cond.classLink RX1 37 RX4, Cond.fieldLink RX1 40 "CakeMarks$Divisions" "order" "LCakeMarks$Row;", Cond.fieldLink RX1 44 "CakeMarks$Divisions" "start" "[I", Cond.fieldLink RX1 47 "CakeMarks$Divisions" "totals" "[I", Cond.classLink RX1 50 "[[I", Cond.fieldLink RX1 52 "CakeMarks$Divisions" "ahead" "[[I", Cond.fieldLink RX1 55 "CakeMarks$Divisions" "parts" "[[I", Cond.fieldLink RX1 58 "CakeMarks$Divisions" "greatest" "[I", Cond.methodLink RL 12 yX7_init, Cond.instanceMethod yX7_init, Cond.code yX7_init cX7_init 2 none, Cond.methodLink RX7 1 objectInit, Cond.fieldLink RX7 7 "CakeMarksModel" "row" "[I", Cond.fieldLink RX7 13 "CakeMarksModel" "text" "[I", Cond.fieldLink RX7 16 "CakeMarksModel" "told" "[I"]
def wsL_law_r5 : List Cond := [Cond.fieldLink RX7 19 "CakeMarksModel" "ring" "[I", Cond.fieldLink RX7 22 "CakeMarksModel" "first" "[I", Cond.fieldLink RX7 25 "CakeMarksModel" "who" "[I", Cond.fieldLink RX7 28 "CakeMarksModel" "bestFirst" "[I", Cond.methodLink RL 13 yX6_addGuest, Cond.instanceMethod yX6_addGuest, Cond.selects RX6 yX6_addGuest yX6_addGuest, Cond.code yX6_addGuest cX6_addGuest 1 (some .int), Cond.fieldLink RX6 56 "CakeMarks$Cake" "guests" "I", Cond.methodLink RX6 59 yX6_record, Cond.instanceMethod yX6_record, Cond.selects RX6 yX6_record yX6_record, Cond.code yX6_record cX6_record 1 none, Cond.methodLink RX6 212 yX6_dropOldest, Cond.instanceMethod yX6_dropOldest, Cond.selects RX6 yX6_dropOldest yX6_dropOldest, Cond.code yX6_dropOldest cX6_dropOldest 3 none, Cond.methodLink RX6 148 yX0_become, Cond.instanceMethod yX0_become, Cond.selects RX0 yX0_become yX0_become, Cond.code yX0_become cX0_become 3 none, Cond.methodLink RX0 24 yX0_takeOwners, Cond.instanceMethod yX0_takeOwners, Cond.selects RX0 yX0_takeOwners yX0_takeOwners]
def wsL_law_r6 : List Cond := [Cond.code yX0_takeOwners cX0_takeOwners 2 none, Cond.methodLink RX0 32 arraycopyName, Cond.native arraycopyName, Cond.static arraycopyName, Cond.initialized "java/lang/System", Cond.methodLink RX0 28 yX0_takeValues, Cond.instanceMethod yX0_takeValues, Cond.selects RX0 yX0_takeValues yX0_takeValues, Cond.code yX0_takeValues cX0_takeValues 3 none, Cond.methodLink RX6 62 yX0_seatGuest, Cond.instanceMethod yX0_seatGuest, Cond.selects RX0 yX0_seatGuest yX0_seatGuest, Cond.code yX0_seatGuest cX0_seatGuest 2 (some .int), Cond.methodLink RX0 38 yX0_setValues, Cond.instanceMethod yX0_setValues, Cond.selects RX0 yX0_setValues yX0_setValues, Cond.code yX0_setValues cX0_setValues 6 none, Cond.methodLink RL 17 yX7_addGuest, Cond.instanceMethod yX7_addGuest, Cond.selects RX7 yX7_addGuest yX7_addGuest, Cond.code yX7_addGuest cX7_addGuest 3 (some .int), Cond.methodLink RX7 58 yX7_records, Cond.instanceMethod yX7_records, Cond.selects RX7 yX7_records yX7_records]
def wsL_law_r7 : List Cond := [Cond.code yX7_records cX7_records 2 none, Cond.fieldLink RX7 31 "CakeMarksModel" "kept" "I", Cond.methodLink RX7 35 yX7_copies, Cond.instanceMethod yX7_copies, Cond.selects RX7 yX7_copies yX7_copies, Cond.code yX7_copies cX7_copies 4 none, Cond.methodLink RL 18 yX6_setValue, Cond.instanceMethod yX6_setValue, Cond.selects RX6 yX6_setValue yX6_setValue, Cond.code yX6_setValue cX6_setValue 5 (some .int), Cond.methodLink RX6 66 yX0_isGuest, Cond.instanceMethod yX0_isGuest, Cond.selects RX0 yX0_isGuest yX0_isGuest, Cond.code yX0_isGuest cX0_isGuest 2 (some .boolean), Cond.methodLink RX6 70 yX6_isSpan, Cond.static yX6_isSpan, Cond.code yX6_isSpan cX6_isSpan 2 (some .boolean), Cond.methodLink RX6 74 yX0_setValues, Cond.methodLink RX6 78 yX0_total, Cond.instanceMethod yX0_total, Cond.selects RX0 yX0_total yX0_total, Cond.code yX0_total cX0_total 2 (some .int), Cond.methodLink RX0 42 yX0_spanWorth, Cond.instanceMethod yX0_spanWorth]
def wsL_law_r8 : List Cond := [Cond.selects RX0 yX0_spanWorth yX0_spanWorth, Cond.code yX0_spanWorth cX0_spanWorth 6 (some .int), Cond.methodLink RL 22 yX7_setValue, Cond.instanceMethod yX7_setValue, Cond.selects RX7 yX7_setValue yX7_setValue, Cond.code yX7_setValue cX7_setValue 6 (some .int), Cond.methodLink RX7 43 yX7_isGuest, Cond.instanceMethod yX7_isGuest, Cond.selects RX7 yX7_isGuest yX7_isGuest, Cond.code yX7_isGuest cX7_isGuest 2 (some .boolean), Cond.methodLink RX7 39 yX7_in, Cond.static yX7_in, Cond.code yX7_in cX7_in 3 (some .boolean), Cond.methodLink RX7 61 yX7_isSpan, Cond.static yX7_isSpan, Cond.code yX7_isSpan cX7_isSpan 2 (some .boolean), Cond.methodLink RX7 65 yX7_total, Cond.instanceMethod yX7_total, Cond.selects RX7 yX7_total yX7_total, Cond.code yX7_total cX7_total 2 (some .int), Cond.methodLink RX7 51 yX7_spanValue, Cond.instanceMethod yX7_spanValue, Cond.selects RX7 yX7_spanValue yX7_spanValue, Cond.code yX7_spanValue cX7_spanValue 6 (some .int)]
def wsL_law_r9 : List Cond := [Cond.methodLink RX7 47 yX7_valueOf, Cond.instanceMethod yX7_valueOf, Cond.selects RX7 yX7_valueOf yX7_valueOf, Cond.code yX7_valueOf cX7_valueOf 3 (some .int), Cond.methodLink RL 23 yX6_append, Cond.instanceMethod yX6_append, Cond.selects RX6 yX6_append yX6_append, Cond.code yX6_append cX6_append 2 (some .int), Cond.fieldLink RX6 82 "CakeMarks$ValueText" "length" "I", Cond.methodLink RX6 85 yX5_put, Cond.instanceMethod yX5_put, Cond.selects RX5 yX5_put yX5_put, Cond.code yX5_put cX5_put 2 (some .int), Cond.methodLink RL 27 yX7_append, Cond.instanceMethod yX7_append, Cond.selects RX7 yX7_append yX7_append, Cond.code yX7_append cX7_append 2 (some .int), Cond.fieldLink RX7 69 "CakeMarksModel" "length" "I", Cond.methodLink RL 28 yX6_clearText, Cond.instanceMethod yX6_clearText, Cond.selects RX6 yX6_clearText yX6_clearText, Cond.code yX6_clearText cX6_clearText 2 (some .int), Cond.methodLink RL 31 yX7_clearText, Cond.instanceMethod yX7_clearText]
def wsL_law_r10 : List Cond := [Cond.selects RX7 yX7_clearText yX7_clearText, Cond.code yX7_clearText cX7_clearText 2 (some .int), Cond.methodLink RL 32 yX6_read, Cond.instanceMethod yX6_read, Cond.selects RX6 yX6_read yX6_read, Cond.code yX6_read cX6_read 3 (some .int), Cond.fieldLink RX6 91 "CakeMarks$ValueText" "values" "[I", Cond.methodLink RX6 88 yX5_findFailure, Cond.instanceMethod yX5_findFailure, Cond.selects RX5 yX5_findFailure yX5_findFailure, Cond.code yX5_findFailure cX5_findFailure 3 (some .int), Cond.methodLink RX5 28 yX5_readPart, Cond.instanceMethod yX5_readPart, Cond.selects RX5 yX5_readPart yX5_readPart, Cond.code yX5_readPart cX5_readPart 4 (some .int), Cond.methodLink RX5 32 yX5_isDigit, Cond.instanceMethod yX5_isDigit, Cond.selects RX5 yX5_isDigit yX5_isDigit, Cond.code yX5_isDigit cX5_isDigit 2 (some .boolean), Cond.methodLink RX5 36 yX5_readTimes, Cond.instanceMethod yX5_readTimes, Cond.selects RX5 yX5_readTimes yX5_readTimes, Cond.code yX5_readTimes cX5_readTimes 3 (some .int), Cond.methodLink RX6 95 yX0_takeValues]
def wsL_law_r11 : List Cond := [Cond.methodLink RL 35 yX7_read, Cond.instanceMethod yX7_read, Cond.selects RX7 yX7_read yX7_read, Cond.code yX7_read cX7_read 3 (some .int), Cond.fieldLink RX7 79 "CakeMarksModel" "fail" "I", Cond.methodLink RX7 75 yX7_reads, Cond.instanceMethod yX7_reads, Cond.selects RX7 yX7_reads yX7_reads, Cond.code yX7_reads cX7_reads 7 (some .int), Cond.methodLink RX7 72 yX7_isDigit, Cond.instanceMethod yX7_isDigit, Cond.selects RX7 yX7_isDigit yX7_isDigit, Cond.code yX7_isDigit cX7_isDigit 3 (some .boolean), Cond.methodLink RL 36 yX6_give, Cond.instanceMethod yX6_give, Cond.selects RX6 yX6_give yX6_give, Cond.code yX6_give cX6_give 4 (some .int), Cond.methodLink RX6 99 yX0_handOut, Cond.instanceMethod yX0_handOut, Cond.selects RX0 yX0_handOut yX0_handOut, Cond.code yX0_handOut cX0_handOut 6 (some .int), Cond.methodLink RL 40 yX7_give, Cond.instanceMethod yX7_give, Cond.selects RX7 yX7_give yX7_give]
def wsL_law_r12 : List Cond := [Cond.code yX7_give cX7_give 4 (some .int), Cond.methodLink RX7 82 yX7_brings, Cond.instanceMethod yX7_brings, Cond.selects RX7 yX7_brings yX7_brings, Cond.code yX7_brings cX7_brings 7 (some .int), Cond.methodLink RL 41 yX6_putBack, Cond.instanceMethod yX6_putBack, Cond.selects RX6 yX6_putBack yX6_putBack, Cond.code yX6_putBack cX6_putBack 3 (some .int), Cond.methodLink RX6 103 yX0_takeBack, Cond.instanceMethod yX0_takeBack, Cond.selects RX0 yX0_takeBack yX0_takeBack, Cond.code yX0_takeBack cX0_takeBack 5 (some .int), Cond.methodLink RL 45 yX7_putBack, Cond.instanceMethod yX7_putBack, Cond.selects RX7 yX7_putBack yX7_putBack, Cond.code yX7_putBack cX7_putBack 3 (some .int), Cond.methodLink RL 46 yX6_move, Cond.instanceMethod yX6_move, Cond.selects RX6 yX6_move yX6_move, Cond.code yX6_move cX6_move 4 (some .int), Cond.fieldLink RX6 114 "CakeMarks$Mark" "owner" "[I", Cond.methodLink RX6 107 yX6_isMove, Cond.instanceMethod yX6_isMove]
def wsL_law_r13 : List Cond := [Cond.selects RX6 yX6_isMove yX6_isMove, Cond.code yX6_isMove cX6_isMove 3 (some .boolean), Cond.methodLink RX6 110 yX2_pass, Cond.instanceMethod yX2_pass, Cond.selects RX2 yX2_pass yX2_pass, Cond.code yX2_pass cX2_pass 9 (some .int), Cond.fieldLink RX2 15 "CakeMarks$Cake" "owner" "[I", Cond.methodLink RX2 18 arraycopyName, Cond.methodLink RX2 24 yX2_firstCaller, Cond.static yX2_firstCaller, Cond.code yX2_firstCaller cX2_firstCaller 7 (some .int), Cond.fieldLink RX2 32 "CakeMarks$Cake" "guests" "I", Cond.methodLink RX2 36 yX0_worthWithin, Cond.instanceMethod yX0_worthWithin, Cond.selects RX0 yX0_worthWithin yX0_worthWithin, Cond.code yX0_worthWithin cX0_worthWithin 7 (some .int), Cond.methodLink RX2 40 yX0_total, Cond.methodLink RX2 28 yX2_giveTo, Cond.instanceMethod yX2_giveTo, Cond.selects RX2 yX2_giveTo yX2_giveTo, Cond.code yX2_giveTo cX2_giveTo 5 none, Cond.methodLink RX6 117 yX0_takeOwners, Cond.methodLink RL 49 yX7_move, Cond.instanceMethod yX7_move]
def wsL_law_r14 : List Cond := [Cond.selects RX7 yX7_move yX7_move, Cond.code yX7_move cX7_move 3 (some .int), Cond.methodLink RX7 90 yX7_isMove, Cond.instanceMethod yX7_isMove, Cond.selects RX7 yX7_isMove yX7_isMove, Cond.code yX7_isMove cX7_isMove 3 (some .boolean), Cond.methodLink RX7 93 yX7_moves, Cond.instanceMethod yX7_moves, Cond.selects RX7 yX7_moves yX7_moves, Cond.code yX7_moves cX7_moves 8 (some .int), Cond.methodLink RX7 86 yX7_caller, Cond.instanceMethod yX7_caller, Cond.selects RX7 yX7_caller yX7_caller, Cond.code yX7_caller cX7_caller 8 (some .int), Cond.methodLink RL 50 yX6_cut, Cond.instanceMethod yX6_cut, Cond.selects RX6 yX6_cut yX6_cut, Cond.code yX6_cut cX6_cut 7 (some .int), Cond.methodLink RX6 121 yX6_isPair, Cond.instanceMethod yX6_isPair, Cond.selects RX6 yX6_isPair yX6_isPair, Cond.code yX6_isPair cX6_isPair 3 (some .boolean), Cond.methodLink RX6 124 yX0_liesOnTable, Cond.instanceMethod yX0_liesOnTable]
def wsL_law_r15 : List Cond := [Cond.selects RX0 yX0_liesOnTable yX0_liesOnTable, Cond.code yX0_liesOnTable cX0_liesOnTable 4 (some .boolean), Cond.methodLink RX6 127 yX0_findCut, Cond.instanceMethod yX0_findCut, Cond.selects RX0 yX0_findCut yX0_findCut, Cond.code yX0_findCut cX0_findCut 10 (some .int), Cond.methodLink RX0 50 Lib.Math.abs.name, Cond.static Lib.Math.abs.name, Cond.initialized "java/lang/Math", Cond.code Lib.Math.abs.name Lib.Math.abs.code 1 (some .int), Cond.methodLink RX6 130 yX0_spanWorth, Cond.methodLink RL 53 yX7_cut, Cond.instanceMethod yX7_cut, Cond.selects RX7 yX7_cut yX7_cut, Cond.code yX7_cut cX7_cut 7 (some .int), Cond.methodLink RX7 96 yX7_areGuests, Cond.instanceMethod yX7_areGuests, Cond.selects RX7 yX7_areGuests yX7_areGuests, Cond.code yX7_areGuests cX7_areGuests 3 (some .boolean), Cond.methodLink RX7 99 yX7_cutAt, Cond.instanceMethod yX7_cutAt, Cond.selects RX7 yX7_cutAt yX7_cutAt, Cond.code yX7_cutAt cX7_cutAt 8 (some .int), Cond.methodLink RL 54 yX6_trim]
def wsL_law_r16 : List Cond := [Cond.instanceMethod yX6_trim, Cond.selects RX6 yX6_trim yX6_trim, Cond.code yX6_trim cX6_trim 3 (some .int), Cond.methodLink RX6 133 yX0_trimPiece, Cond.instanceMethod yX0_trimPiece, Cond.selects RX0 yX0_trimPiece yX0_trimPiece, Cond.code yX0_trimPiece cX0_trimPiece 7 (some .int), Cond.methodLink RX0 56 yX0_worth, Cond.instanceMethod yX0_worth, Cond.selects RX0 yX0_worth yX0_worth, Cond.code yX0_worth cX0_worth 3 (some .int), Cond.methodLink RX0 46 yX0_worthWithin, Cond.methodLink RL 57 yX7_trim, Cond.instanceMethod yX7_trim, Cond.selects RX7 yX7_trim yX7_trim, Cond.code yX7_trim cX7_trim 5 (some .int), Cond.methodLink RX7 102 yX7_envyOf, Cond.instanceMethod yX7_envyOf, Cond.selects RX7 yX7_envyOf yX7_envyOf, Cond.code yX7_envyOf cX7_envyOf 4 (some .int), Cond.methodLink RX7 55 yX7_pieceValue, Cond.instanceMethod yX7_pieceValue, Cond.selects RX7 yX7_pieceValue yX7_pieceValue, Cond.code yX7_pieceValue cX7_pieceValue 5 (some .int)]
def wsL_law_r17 : List Cond := [Cond.methodLink RL 58 yX6_exchange, Cond.instanceMethod yX6_exchange, Cond.selects RX6 yX6_exchange yX6_exchange, Cond.code yX6_exchange cX6_exchange 2 (some .int), Cond.fieldLink RX6 140 "CakeMarks$Rings" "row" "LCakeMarks$Row;", Cond.methodLink RX6 136 yX3_find, Cond.instanceMethod yX3_find, Cond.selects RX3 yX3_find yX3_find, Cond.code yX3_find cX3_find 5 (some .int), Cond.fieldLink RX3 26 "CakeMarks$Cake" "guests" "I", Cond.constant RX3 36 (1000000), Cond.methodLink RX3 22 yX3_drawArrows, Cond.instanceMethod yX3_drawArrows, Cond.selects RX3 yX3_drawArrows yX3_drawArrows, Cond.code yX3_drawArrows cX3_drawArrows 4 none, Cond.methodLink RX3 45 yX0_envyOf, Cond.instanceMethod yX0_envyOf, Cond.selects RX0 yX0_envyOf yX0_envyOf, Cond.code yX0_envyOf cX0_envyOf 3 (some .int), Cond.methodLink RX0 71 Lib.Math.max.name, Cond.static Lib.Math.max.name, Cond.code Lib.Math.max.name Lib.Math.max.code 2 (some .int), Cond.methodLink RX3 32 yX4_begin, Cond.instanceMethod yX4_begin]
def wsL_law_r18 : List Cond := [Cond.selects RX4 yX4_begin yX4_begin, Cond.code yX4_begin cX4_begin 3 none, Cond.methodLink RX4 22 Lib.Math.min.name, Cond.static Lib.Math.min.name, Cond.code Lib.Math.min.name Lib.Math.min.code 2 (some .int), Cond.methodLink RX4 28 yX4_fill, Cond.instanceMethod yX4_fill, Cond.selects RX4 yX4_fill yX4_fill, Cond.code yX4_fill cX4_fill 3 none, Cond.methodLink RX4 32 yX4_firstFree, Cond.instanceMethod yX4_firstFree, Cond.selects RX4 yX4_firstFree yX4_firstFree, Cond.code yX4_firstFree cX4_firstFree 5 (some .int), Cond.methodLink RX3 37 yX3_isRing, Cond.instanceMethod yX3_isRing, Cond.selects RX3 yX3_isRing yX3_isRing, Cond.code yX3_isRing cX3_isRing 3 (some .boolean), Cond.fieldLink RX3 49 "CakeMarks$Row" "size" "I", Cond.fieldLink RX3 52 "CakeMarks$Row" "at" "[I", Cond.methodLink RX3 41 yX4_advance, Cond.instanceMethod yX4_advance, Cond.selects RX4 yX4_advance yX4_advance, Cond.code yX4_advance cX4_advance 4 (some .boolean), Cond.methodLink RX6 144 yX0_passPieces]
def wsL_law_r19 : List Cond := [Cond.instanceMethod yX0_passPieces, Cond.selects RX0 yX0_passPieces yX0_passPieces, Cond.code yX0_passPieces cX0_passPieces 4 none, Cond.fieldLink RX0 65 "CakeMarks$Row" "size" "I", Cond.fieldLink RX0 68 "CakeMarks$Row" "at" "[I", Cond.methodLink RX0 60 yX4_placeOf, Cond.instanceMethod yX4_placeOf, Cond.selects RX4 yX4_placeOf yX4_placeOf, Cond.code yX4_placeOf cX4_placeOf 3 (some .int), Cond.methodLink RL 61 yX7_exchange, Cond.instanceMethod yX7_exchange, Cond.selects RX7 yX7_exchange yX7_exchange, Cond.code yX7_exchange cX7_exchange 5 (some .int), Cond.methodLink RX7 108 yX7_layRing, Cond.instanceMethod yX7_layRing, Cond.selects RX7 yX7_layRing yX7_layRing, Cond.code yX7_layRing cX7_layRing 4 (some .int), Cond.methodLink RX7 105 yX7_isRing, Cond.instanceMethod yX7_isRing, Cond.selects RX7 yX7_isRing yX7_isRing, Cond.code yX7_isRing cX7_isRing 8 (some .boolean), Cond.methodLink RL 62 yX6_undo, Cond.instanceMethod yX6_undo, Cond.selects RX6 yX6_undo yX6_undo]
def wsL_law_r20 : List Cond := [Cond.code yX6_undo cX6_undo 1 (some .int), Cond.methodLink RL 65 yX7_undo, Cond.instanceMethod yX7_undo, Cond.selects RX7 yX7_undo yX7_undo, Cond.code yX7_undo cX7_undo 1 (some .int), Cond.methodLink RL 66 yX6_count, Cond.instanceMethod yX6_count, Cond.selects RX6 yX6_count yX6_count, Cond.code yX6_count cX6_count 2 (some .int), Cond.methodLink RX6 152 yX0_crumbsOf, Cond.instanceMethod yX0_crumbsOf, Cond.selects RX0 yX0_crumbsOf yX0_crumbsOf, Cond.code yX0_crumbsOf cX0_crumbsOf 4 (some .int), Cond.methodLink RX6 155 yX0_arrows, Cond.instanceMethod yX0_arrows, Cond.selects RX0 yX0_arrows yX0_arrows, Cond.code yX0_arrows cX0_arrows 4 (some .int), Cond.methodLink RX0 74 yX0_envyOf, Cond.methodLink RX6 158 yX0_allEnvies, Cond.instanceMethod yX0_allEnvies, Cond.selects RX0 yX0_allEnvies yX0_allEnvies, Cond.code yX0_allEnvies cX0_allEnvies 4 (some .int), Cond.methodLink RX6 161 yX0_contentGuests, Cond.instanceMethod yX0_contentGuests]
def wsL_law_r21 : List Cond := [Cond.selects RX0 yX0_contentGuests yX0_contentGuests, Cond.code yX0_contentGuests cX0_contentGuests 4 (some .int), Cond.methodLink RX0 77 yX0_total, Cond.methodLink RL 69 yX7_count, Cond.instanceMethod yX7_count, Cond.selects RX7 yX7_count yX7_count, Cond.code yX7_count cX7_count 2 (some .int), Cond.methodLink RX7 111 yX7_onTable, Cond.instanceMethod yX7_onTable, Cond.selects RX7 yX7_onTable yX7_onTable, Cond.code yX7_onTable cX7_onTable 3 (some .int), Cond.methodLink RX7 114 yX7_envies, Cond.instanceMethod yX7_envies, Cond.selects RX7 yX7_envies yX7_envies, Cond.code yX7_envies cX7_envies 6 (some .int), Cond.methodLink RX7 118 yX7_served, Cond.instanceMethod yX7_served, Cond.selects RX7 yX7_served yX7_served, Cond.code yX7_served cX7_served 3 (some .int), Cond.methodLink RL 70 yX6_guest, Cond.instanceMethod yX6_guest, Cond.selects RX6 yX6_guest yX6_guest, Cond.code yX6_guest cX6_guest 3 (some .int), Cond.methodLink RX6 164 yX0_worth]
def wsL_law_r22 : List Cond := [Cond.methodLink RX6 167 yX6_lowestNumerator, Cond.static yX6_lowestNumerator, Cond.code yX6_lowestNumerator cX6_lowestNumerator 3 (some .int), Cond.methodLink RX6 218 yX6_commonDivisor, Cond.static yX6_commonDivisor, Cond.code yX6_commonDivisor cX6_commonDivisor 6 (some .int), Cond.constant RX6 221 (1000000), Cond.methodLink RX6 170 yX6_lowestDenominator, Cond.static yX6_lowestDenominator, Cond.code yX6_lowestDenominator cX6_lowestDenominator 3 (some .int), Cond.methodLink RX6 173 yX0_spansOf, Cond.instanceMethod yX0_spansOf, Cond.selects RX0 yX0_spansOf yX0_spansOf, Cond.code yX0_spansOf cX0_spansOf 4 (some .int), Cond.methodLink RL 73 yX7_guest, Cond.instanceMethod yX7_guest, Cond.selects RX7 yX7_guest yX7_guest, Cond.code yX7_guest cX7_guest 3 (some .int), Cond.methodLink RX7 124 yX7_crumbsOf, Cond.instanceMethod yX7_crumbsOf, Cond.selects RX7 yX7_crumbsOf yX7_crumbsOf, Cond.code yX7_crumbsOf cX7_crumbsOf 6 (some .int), Cond.methodLink RX7 128 yX7_part, Cond.static yX7_part]
def wsL_law_r23 : List Cond := [Cond.code yX7_part cX7_part 4 (some .int), Cond.methodLink RX7 121 yX7_divisor, Cond.static yX7_divisor, Cond.code yX7_divisor cX7_divisor 5 (some .int), Cond.methodLink RL 74 yX6_crumb, Cond.instanceMethod yX6_crumb, Cond.selects RX6 yX6_crumb yX6_crumb, Cond.code yX6_crumb cX6_crumb 3 (some .int), Cond.fieldLink RX6 176 "CakeMarks$Cake" "owner" "[I", Cond.methodLink RL 77 yX7_crumb, Cond.instanceMethod yX7_crumb, Cond.selects RX7 yX7_crumb yX7_crumb, Cond.code yX7_crumb cX7_crumb 2 (some .int), Cond.methodLink RL 78 yX6_value, Cond.instanceMethod yX6_value, Cond.selects RX6 yX6_value yX6_value, Cond.code yX6_value cX6_value 3 (some .int), Cond.fieldLink RX6 177 "CakeMarks$Cake" "values" "[[I", Cond.methodLink RL 81 yX7_value, Cond.instanceMethod yX7_value, Cond.selects RX7 yX7_value yX7_value, Cond.code yX7_value cX7_value 3 (some .int), Cond.methodLink RL 82 yX6_envy, Cond.instanceMethod yX6_envy]
def wsL_law_r24 : List Cond := [Cond.selects RX6 yX6_envy yX6_envy, Cond.code yX6_envy cX6_envy 3 (some .int), Cond.methodLink RX6 180 yX0_envyOf, Cond.methodLink RL 85 yX7_envy, Cond.instanceMethod yX7_envy, Cond.selects RX7 yX7_envy yX7_envy, Cond.code yX7_envy cX7_envy 3 (some .int), Cond.methodLink RL 86 yX6_ring, Cond.instanceMethod yX6_ring, Cond.selects RX6 yX6_ring yX6_ring, Cond.code yX6_ring cX6_ring 2 (some .int), Cond.fieldLink RX6 183 "CakeMarks$Row" "at" "[I", Cond.methodLink RL 89 yX7_ring, Cond.instanceMethod yX7_ring, Cond.selects RX7 yX7_ring yX7_ring, Cond.code yX7_ring cX7_ring 2 (some .int), Cond.methodLink RL 90 yX6_middle, Cond.instanceMethod yX6_middle, Cond.selects RX6 yX6_middle yX6_middle, Cond.code yX6_middle cX6_middle 2 (some .int), Cond.methodLink RL 93 yX7_middle, Cond.instanceMethod yX7_middle, Cond.selects RX7 yX7_middle yX7_middle, Cond.code yX7_middle cX7_middle 2 (some .int)]
def wsL_law_r25 : List Cond := [Cond.methodLink RL 94 yX6_best, Cond.instanceMethod yX6_best, Cond.selects RX6 yX6_best yX6_best, Cond.code yX6_best cX6_best 3 (some .int), Cond.fieldLink RX6 191 "CakeMarks$Divisions" "fairPart" "I", Cond.fieldLink RX6 194 "CakeMarks$Divisions" "fairTotal" "I", Cond.fieldLink RX6 197 "CakeMarks$Divisions" "fairGuest" "I", Cond.fieldLink RX6 200 "CakeMarks$Divisions" "fairStart" "[I", Cond.methodLink RX6 188 yX6_searchOnce, Cond.instanceMethod yX6_searchOnce, Cond.selects RX6 yX6_searchOnce yX6_searchOnce, Cond.code yX6_searchOnce cX6_searchOnce 1 none, Cond.methodLink RX6 215 yX1_search, Cond.instanceMethod yX1_search, Cond.selects RX1 yX1_search yX1_search, Cond.code yX1_search cX1_search 4 none, Cond.constant RX1 65 (1000000), Cond.methodLink RX1 61 yX1_prepare, Cond.instanceMethod yX1_prepare, Cond.selects RX1 yX1_prepare yX1_prepare, Cond.code yX1_prepare cX1_prepare 4 none, Cond.fieldLink RX1 79 "CakeMarks$Cake" "guests" "I", Cond.fieldLink RX1 84 "CakeMarks$Cake" "values" "[[I", Cond.methodLink RX1 87 Lib.Math.max.name]
def wsL_law_r26 : List Cond := [Cond.methodLink RX1 66 yX1_measureSpans, Cond.instanceMethod yX1_measureSpans, Cond.selects RX1 yX1_measureSpans yX1_measureSpans, Cond.code yX1_measureSpans cX1_measureSpans 3 none, Cond.methodLink RX1 69 yX1_seekFair, Cond.instanceMethod yX1_seekFair, Cond.selects RX1 yX1_seekFair yX1_seekFair, Cond.code yX1_seekFair cX1_seekFair 4 none, Cond.methodLink RX1 93 yX4_begin, Cond.methodLink RX1 97 yX1_firstPoor, Cond.instanceMethod yX1_firstPoor, Cond.selects RX1 yX1_firstPoor yX1_firstPoor, Cond.code yX1_firstPoor cX1_firstPoor 3 (some .int), Cond.fieldLink RX1 108 "CakeMarks$Row" "at" "[I", Cond.methodLink RX1 101 yX1_keepFair, Cond.instanceMethod yX1_keepFair, Cond.selects RX1 yX1_keepFair yX1_keepFair, Cond.code yX1_keepFair cX1_keepFair 3 none, Cond.methodLink RX1 104 yX4_advance, Cond.methodLink RX1 72 yX1_seekQuiet, Cond.instanceMethod yX1_seekQuiet, Cond.selects RX1 yX1_seekQuiet yX1_seekQuiet, Cond.code yX1_seekQuiet cX1_seekQuiet 4 none, Cond.methodLink RX1 111 yX1_firstEnvious]
def wsL_law_r27 : List Cond := [Cond.instanceMethod yX1_firstEnvious, Cond.selects RX1 yX1_firstEnvious yX1_firstEnvious, Cond.code yX1_firstEnvious cX1_firstEnvious 3 (some .int), Cond.methodLink RX1 114 yX1_countQuiet, Cond.instanceMethod yX1_countQuiet, Cond.selects RX1 yX1_countQuiet yX1_countQuiet, Cond.code yX1_countQuiet cX1_countQuiet 1 none, Cond.methodLink RX1 75 yX1_nextCuts, Cond.instanceMethod yX1_nextCuts, Cond.selects RX1 yX1_nextCuts yX1_nextCuts, Cond.code yX1_nextCuts cX1_nextCuts 3 (some .boolean), Cond.methodLink RL 97 yX7_best, Cond.instanceMethod yX7_best, Cond.selects RX7 yX7_best yX7_best, Cond.code yX7_best cX7_best 2 (some .int), Cond.fieldLink RX7 135 "CakeMarksModel" "bestUp" "I", Cond.fieldLink RX7 132 "CakeMarksModel" "bestDown" "I", Cond.fieldLink RX7 138 "CakeMarksModel" "bestWho" "I", Cond.methodLink RX7 164 yX7_searches, Cond.instanceMethod yX7_searches, Cond.selects RX7 yX7_searches yX7_searches, Cond.code yX7_searches cX7_searches 7 none, Cond.fieldLink RX7 151 "CakeMarksModel" "calmMany" "I", Cond.methodLink RX7 160 yX7_looksAt]
def wsL_law_r28 : List Cond := [Cond.instanceMethod yX7_looksAt, Cond.selects RX7 yX7_looksAt yX7_looksAt, Cond.code yX7_looksAt cX7_looksAt 4 none, Cond.fieldLink RX7 154 "CakeMarksModel" "calmWho" "I", Cond.fieldLink RX7 157 "CakeMarksModel" "calmFirst" "I", Cond.methodLink RX7 141 yX7_layGuests, Cond.instanceMethod yX7_layGuests, Cond.selects RX7 yX7_layGuests yX7_layGuests, Cond.code yX7_layGuests cX7_layGuests 5 (some .boolean), Cond.methodLink RX7 144 yX7_weighs, Cond.instanceMethod yX7_weighs, Cond.selects RX7 yX7_weighs yX7_weighs, Cond.code yX7_weighs cX7_weighs 7 none, Cond.methodLink RX7 147 yX7_isCalm, Cond.instanceMethod yX7_isCalm, Cond.selects RX7 yX7_isCalm yX7_isCalm, Cond.code yX7_isCalm cX7_isCalm 4 (some .boolean), Cond.methodLink RL 98 yX6_calm, Cond.instanceMethod yX6_calm, Cond.selects RX6 yX6_calm yX6_calm, Cond.code yX6_calm cX6_calm 2 (some .int), Cond.fieldLink RX6 203 "CakeMarks$Divisions" "quietCount" "I", Cond.fieldLink RX6 206 "CakeMarks$Divisions" "quietGuest" "I", Cond.fieldLink RX6 209 "CakeMarks$Divisions" "quietCut" "I"]
def wsL_law_r29 : List Cond := [Cond.methodLink RL 101 yX7_calm, Cond.instanceMethod yX7_calm, Cond.selects RX7 yX7_calm yX7_calm, Cond.code yX7_calm cX7_calm 2 (some .int), Cond.methodLink RL 102 yX6_calls, Cond.instanceMethod yX6_calls, Cond.selects RX6 yX6_calls yX6_calls, Cond.code yX6_calls cX6_calls 3 (some .int), Cond.methodLink RL 105 yX7_calls, Cond.instanceMethod yX7_calls, Cond.selects RX7 yX7_calls yX7_calls, Cond.code yX7_calls cX7_calls 5 (some .int)]
def wsL_law : List Cond := (wsL_law_r1 ++ (wsL_law_r2 ++ (wsL_law_r3 ++ (wsL_law_r4 ++ (wsL_law_r5 ++ (wsL_law_r6 ++ (wsL_law_r7 ++ (wsL_law_r8 ++ (wsL_law_r9 ++ (wsL_law_r10 ++ (wsL_law_r11 ++ (wsL_law_r12 ++ (wsL_law_r13 ++ (wsL_law_r14 ++ (wsL_law_r15 ++ (wsL_law_r16 ++ (wsL_law_r17 ++ (wsL_law_r18 ++ (wsL_law_r19 ++ (wsL_law_r20 ++ (wsL_law_r21 ++ (wsL_law_r22 ++ (wsL_law_r23 ++ (wsL_law_r24 ++ (wsL_law_r25 ++ (wsL_law_r26 ++ (wsL_law_r27 ++ (wsL_law_r28 ++ wsL_law_r29)))))))))))))))))))))))))))) ++ wsX60 ++ wsX70 ++ wsX00 ++ wsX50 ++ wsX20 ++ wsX30 ++ wsX10 ++ wsX40 ++ ([] : List Cond)
set_option maxRecDepth 20000 in
theorem wsL_in_r1 : ∀ w ∈ wsL_law_r1, w ∈ lw_tbl := fun w h => (goodIn_p wsL_law_r1 [64, 67] (by decide +kernel) (by decide +kernel) w h).1
set_option maxRecDepth 20000 in
theorem wsL_in_r2 : ∀ w ∈ wsL_law_r2, w ∈ lw_tbl := fun w h => (goodIn_p wsL_law_r2 [72, 100] (by decide +kernel) (by decide +kernel) w h).1
set_option maxRecDepth 20000 in
theorem wsL_in_r3 : ∀ w ∈ wsL_law_r3, w ∈ lw_tbl := fun w h => (goodIn_p wsL_law_r3 [124, 135, 141, 171] (by decide +kernel) (by decide +kernel) w h).1
set_option maxRecDepth 20000 in
theorem wsL_in_r4 : ∀ w ∈ wsL_law_r4, w ∈ lw_tbl := fun w h => (goodIn_p wsL_law_r4 [595] (by decide +kernel) (by decide +kernel) w h).1
set_option maxRecDepth 20000 in
theorem wsL_in_r5 : ∀ w ∈ wsL_law_r5, w ∈ lw_tbl := fun w h => (goodIn_p wsL_law_r5 [254, 258, 262, 266] (by decide +kernel) (by decide +kernel) w h).1
set_option maxRecDepth 20000 in
theorem wsL_in_r6 : ∀ w ∈ wsL_law_r6, w ∈ lw_tbl := fun w h => (goodIn_p wsL_law_r6 [270, 277, 281, 285, 649] (by decide +kernel) (by decide +kernel) w h).1
set_option maxRecDepth 20000 in
theorem wsL_in_r7 : ∀ w ∈ wsL_law_r7, w ∈ lw_tbl := fun w h => (goodIn_p wsL_law_r7 [653, 657, 289, 293, 296, 301] (by decide +kernel) (by decide +kernel) w h).1
set_option maxRecDepth 20000 in
theorem wsL_in_r8 : ∀ w ∈ wsL_law_r8, w ∈ lw_tbl := fun w h => (goodIn_p wsL_law_r8 [305, 661, 665, 668, 671, 675, 679] (by decide +kernel) (by decide +kernel) w h).1
set_option maxRecDepth 20000 in
theorem wsL_in_r9 : ∀ w ∈ wsL_law_r9, w ∈ lw_tbl := fun w h => (goodIn_p wsL_law_r9 [683, 309, 313, 687, 317] (by decide +kernel) (by decide +kernel) w h).1
set_option maxRecDepth 20000 in
theorem wsL_in_r10 : ∀ w ∈ wsL_law_r10, w ∈ lw_tbl := fun w h => (goodIn_p wsL_law_r10 [691, 321, 325, 329, 333, 337] (by decide +kernel) (by decide +kernel) w h).1
set_option maxRecDepth 20000 in
theorem wsL_in_r11 : ∀ w ∈ wsL_law_r11, w ∈ lw_tbl := fun w h => (goodIn_p wsL_law_r11 [695, 699, 703, 342, 346] (by decide +kernel) (by decide +kernel) w h).1
set_option maxRecDepth 20000 in
theorem wsL_in_r12 : ∀ w ∈ wsL_law_r12, w ∈ lw_tbl := fun w h => (goodIn_p wsL_law_r12 [707, 711, 350, 354, 715, 358] (by decide +kernel) (by decide +kernel) w h).1
set_option maxRecDepth 20000 in
theorem wsL_in_r13 : ∀ w ∈ wsL_law_r13, w ∈ lw_tbl := fun w h => (goodIn_p wsL_law_r13 [362, 366, 370, 374, 379] (by decide +kernel) (by decide +kernel) w h).1
set_option maxRecDepth 20000 in
theorem wsL_in_r14 : ∀ w ∈ wsL_law_r14, w ∈ lw_tbl := fun w h => (goodIn_p wsL_law_r14 [719, 723, 727, 731, 384, 388] (by decide +kernel) (by decide +kernel) w h).1
set_option maxRecDepth 20000 in
theorem wsL_in_r15 : ∀ w ∈ wsL_law_r15, w ∈ lw_tbl := fun w h => (goodIn_p wsL_law_r15 [392, 396, 399, 735, 739, 743] (by decide +kernel) (by decide +kernel) w h).1
set_option maxRecDepth 20000 in
theorem wsL_in_r16 : ∀ w ∈ wsL_law_r16, w ∈ lw_tbl := fun w h => (goodIn_p wsL_law_r16 [404, 408, 412, 747, 751, 755] (by decide +kernel) (by decide +kernel) w h).1
set_option maxRecDepth 20000 in
theorem wsL_in_r17 : ∀ w ∈ wsL_law_r17, w ∈ lw_tbl := fun w h => (goodIn_p wsL_law_r17 [417, 421, 425, 429, 432] (by decide +kernel) (by decide +kernel) w h).1
set_option maxRecDepth 20000 in
theorem wsL_in_r18 : ∀ w ∈ wsL_law_r18, w ∈ lw_tbl := fun w h => (goodIn_p wsL_law_r18 [436, 439, 443, 447, 452, 456] (by decide +kernel) (by decide +kernel) w h).1
set_option maxRecDepth 20000 in
theorem wsL_in_r19 : ∀ w ∈ wsL_law_r19, w ∈ lw_tbl := fun w h => (goodIn_p wsL_law_r19 [460, 464, 759, 763, 767] (by decide +kernel) (by decide +kernel) w h).1
set_option maxRecDepth 20000 in
theorem wsL_in_r20 : ∀ w ∈ wsL_law_r20, w ∈ lw_tbl := fun w h => (goodIn_p wsL_law_r20 [468, 771, 472, 476, 480, 485] (by decide +kernel) (by decide +kernel) w h).1
set_option maxRecDepth 20000 in
theorem wsL_in_r21 : ∀ w ∈ wsL_law_r21, w ∈ lw_tbl := fun w h => (goodIn_p wsL_law_r21 [489, 775, 779, 783, 787, 494] (by decide +kernel) (by decide +kernel) w h).1
set_option maxRecDepth 20000 in
theorem wsL_in_r22 : ∀ w ∈ wsL_law_r22, w ∈ lw_tbl := fun w h => (goodIn_p wsL_law_r22 [498, 501, 505, 509, 791, 795] (by decide +kernel) (by decide +kernel) w h).1
set_option maxRecDepth 20000 in
theorem wsL_in_r23 : ∀ w ∈ wsL_law_r23, w ∈ lw_tbl := fun w h => (goodIn_p wsL_law_r23 [798, 801, 513, 805, 517, 809] (by decide +kernel) (by decide +kernel) w h).1
set_option maxRecDepth 20000 in
theorem wsL_in_r24 : ∀ w ∈ wsL_law_r24, w ∈ lw_tbl := fun w h => (goodIn_p wsL_law_r24 [521, 813, 526, 817, 530, 821] (by decide +kernel) (by decide +kernel) w h).1
set_option maxRecDepth 20000 in
theorem wsL_in_r25 : ∀ w ∈ wsL_law_r25, w ∈ lw_tbl := fun w h => (goodIn_p wsL_law_r25 [534, 538, 542, 546] (by decide +kernel) (by decide +kernel) w h).1
set_option maxRecDepth 20000 in
theorem wsL_in_r26 : ∀ w ∈ wsL_law_r26, w ∈ lw_tbl := fun w h => (goodIn_p wsL_law_r26 [552, 556, 561, 565, 570] (by decide +kernel) (by decide +kernel) w h).1
set_option maxRecDepth 20000 in
theorem wsL_in_r27 : ∀ w ∈ wsL_law_r27, w ∈ lw_tbl := fun w h => (goodIn_p wsL_law_r27 [574, 578, 582, 825, 829] (by decide +kernel) (by decide +kernel) w h).1
set_option maxRecDepth 20000 in
theorem wsL_in_r28 : ∀ w ∈ wsL_law_r28, w ∈ lw_tbl := fun w h => (goodIn_p wsL_law_r28 [833, 837, 841, 845, 586] (by decide +kernel) (by decide +kernel) w h).1
set_option maxRecDepth 20000 in
theorem wsL_in_r29 : ∀ w ∈ wsL_law_r29, w ∈ lw_tbl := fun w h => (goodIn_p wsL_law_r29 [849, 590, 853] (by decide +kernel) (by decide +kernel) w h).1
set_option maxRecDepth 20000 in
theorem wsL_in_wsX60 : ∀ w ∈ wsX60, w ∈ lw_tbl := by decide +kernel
set_option maxRecDepth 20000 in
theorem wsL_in_wsX70 : ∀ w ∈ wsX70, w ∈ lw_tbl := by decide +kernel
set_option maxRecDepth 20000 in
theorem wsL_in_wsX00 : ∀ w ∈ wsX00, w ∈ lw_tbl := by decide +kernel
set_option maxRecDepth 20000 in
theorem wsL_in_wsX50 : ∀ w ∈ wsX50, w ∈ lw_tbl := by decide +kernel
set_option maxRecDepth 20000 in
theorem wsL_in_wsX20 : ∀ w ∈ wsX20, w ∈ lw_tbl := by decide +kernel
set_option maxRecDepth 20000 in
theorem wsL_in_wsX30 : ∀ w ∈ wsX30, w ∈ lw_tbl := by decide +kernel
set_option maxRecDepth 20000 in
theorem wsL_in_wsX10 : ∀ w ∈ wsX10, w ∈ lw_tbl := by decide +kernel
set_option maxRecDepth 20000 in
theorem wsL_in_wsX40 : ∀ w ∈ wsX40, w ∈ lw_tbl := by decide +kernel
theorem wsL_law_in : ∀ w ∈ wsL_law, w ∈ lw_tbl := List.forall_mem_append.mpr ⟨List.forall_mem_append.mpr ⟨List.forall_mem_append.mpr ⟨List.forall_mem_append.mpr ⟨List.forall_mem_append.mpr ⟨List.forall_mem_append.mpr ⟨List.forall_mem_append.mpr ⟨List.forall_mem_append.mpr ⟨List.forall_mem_append.mpr ⟨List.forall_mem_append.mpr ⟨wsL_in_r1, List.forall_mem_append.mpr ⟨wsL_in_r2, List.forall_mem_append.mpr ⟨wsL_in_r3, List.forall_mem_append.mpr ⟨wsL_in_r4, List.forall_mem_append.mpr ⟨wsL_in_r5, List.forall_mem_append.mpr ⟨wsL_in_r6, List.forall_mem_append.mpr ⟨wsL_in_r7, List.forall_mem_append.mpr ⟨wsL_in_r8, List.forall_mem_append.mpr ⟨wsL_in_r9, List.forall_mem_append.mpr ⟨wsL_in_r10, List.forall_mem_append.mpr ⟨wsL_in_r11, List.forall_mem_append.mpr ⟨wsL_in_r12, List.forall_mem_append.mpr ⟨wsL_in_r13, List.forall_mem_append.mpr ⟨wsL_in_r14, List.forall_mem_append.mpr ⟨wsL_in_r15, List.forall_mem_append.mpr ⟨wsL_in_r16, List.forall_mem_append.mpr ⟨wsL_in_r17, List.forall_mem_append.mpr ⟨wsL_in_r18, List.forall_mem_append.mpr ⟨wsL_in_r19, List.forall_mem_append.mpr ⟨wsL_in_r20, List.forall_mem_append.mpr ⟨wsL_in_r21, List.forall_mem_append.mpr ⟨wsL_in_r22, List.forall_mem_append.mpr ⟨wsL_in_r23, List.forall_mem_append.mpr ⟨wsL_in_r24, List.forall_mem_append.mpr ⟨wsL_in_r25, List.forall_mem_append.mpr ⟨wsL_in_r26, List.forall_mem_append.mpr ⟨wsL_in_r27, List.forall_mem_append.mpr ⟨wsL_in_r28, wsL_in_r29⟩⟩⟩⟩⟩⟩⟩⟩⟩⟩⟩⟩⟩⟩⟩⟩⟩⟩⟩⟩⟩⟩⟩⟩⟩⟩⟩⟩, wsL_in_wsX60⟩, wsL_in_wsX70⟩, wsL_in_wsX00⟩, wsL_in_wsX50⟩, wsL_in_wsX20⟩, wsL_in_wsX30⟩, wsL_in_wsX10⟩, wsL_in_wsX40⟩, fun _ h => absurd h List.not_mem_nil⟩
theorem inlX0 : ∀ w ∈ wsX00, w ∈ wsL_law := fun _ h => List.mem_append_left _ (List.mem_append_left _ (List.mem_append_left _ (List.mem_append_left _ (List.mem_append_left _ (List.mem_append_left _ (List.mem_append_right _ h))))))
theorem inX0 : ∀ w ∈ wsX00, w ∈ lw_tbl := fun w h => wsL_law_in w (inlX0 w h)
theorem inlX1 : ∀ w ∈ wsX10, w ∈ wsL_law := fun _ h => List.mem_append_left _ (List.mem_append_left _ (List.mem_append_right _ h))
theorem inX1 : ∀ w ∈ wsX10, w ∈ lw_tbl := fun w h => wsL_law_in w (inlX1 w h)
theorem inlX2 : ∀ w ∈ wsX20, w ∈ wsL_law := fun _ h => List.mem_append_left _ (List.mem_append_left _ (List.mem_append_left _ (List.mem_append_left _ (List.mem_append_right _ h))))
theorem inX2 : ∀ w ∈ wsX20, w ∈ lw_tbl := fun w h => wsL_law_in w (inlX2 w h)
theorem inlX3 : ∀ w ∈ wsX30, w ∈ wsL_law := fun _ h => List.mem_append_left _ (List.mem_append_left _ (List.mem_append_left _ (List.mem_append_right _ h)))
theorem inX3 : ∀ w ∈ wsX30, w ∈ lw_tbl := fun w h => wsL_law_in w (inlX3 w h)
theorem inlX4 : ∀ w ∈ wsX40, w ∈ wsL_law := fun _ h => List.mem_append_left _ (List.mem_append_right _ h)
theorem inX4 : ∀ w ∈ wsX40, w ∈ lw_tbl := fun w h => wsL_law_in w (inlX4 w h)
theorem inlX5 : ∀ w ∈ wsX50, w ∈ wsL_law := fun _ h => List.mem_append_left _ (List.mem_append_left _ (List.mem_append_left _ (List.mem_append_left _ (List.mem_append_left _ (List.mem_append_right _ h)))))
theorem inX5 : ∀ w ∈ wsX50, w ∈ lw_tbl := fun w h => wsL_law_in w (inlX5 w h)
theorem inlX6 : ∀ w ∈ wsX60, w ∈ wsL_law := fun _ h => List.mem_append_left _ (List.mem_append_left _ (List.mem_append_left _ (List.mem_append_left _ (List.mem_append_left _ (List.mem_append_left _ (List.mem_append_left _ (List.mem_append_left _ (List.mem_append_right _ h))))))))
theorem inX6 : ∀ w ∈ wsX60, w ∈ lw_tbl := fun w h => wsL_law_in w (inlX6 w h)
theorem inlX7 : ∀ w ∈ wsX70, w ∈ wsL_law := fun _ h => List.mem_append_left _ (List.mem_append_left _ (List.mem_append_left _ (List.mem_append_left _ (List.mem_append_left _ (List.mem_append_left _ (List.mem_append_left _ (List.mem_append_right _ h)))))))
theorem inX7 : ∀ w ∈ wsX70, w ∈ lw_tbl := fun w h => wsL_law_in w (inlX7 w h)
theorem inJ9 : ∀ w ∈ wsJ90, w ∈ lw_tbl := by decide +kernel
theorem inJ10 : ∀ w ∈ wsJ100, w ∈ lw_tbl := by decide +kernel
end
section
theorem dX0_init_0 : decode cX0_init 0 = .ok (.aload_n 0, 1) := by decide +kernel
theorem dX0_init_1 : decode cX0_init 1 = .ok (.invokespecial 3, 3) := by decide +kernel
theorem dX0_init_4 : decode cX0_init 4 = .ok (.aload_n 0, 1) := by decide +kernel
theorem dX0_init_5 : decode cX0_init 5 = .ok (.iconst 0, 1) := by decide +kernel
theorem dX0_init_6 : decode cX0_init 6 = .ok (.putfield 9, 3) := by decide +kernel
theorem dX0_init_9 : decode cX0_init 9 = .ok (.aload_n 0, 1) := by decide +kernel
theorem dX0_init_10 : decode cX0_init 10 = .ok (.bipush 24, 2) := by decide +kernel
theorem dX0_init_12 : decode cX0_init 12 = .ok (.newarray .int, 2) := by decide +kernel
theorem dX0_init_14 : decode cX0_init 14 = .ok (.putfield 15, 3) := by decide +kernel
theorem dX0_init_17 : decode cX0_init 17 = .ok (.aload_n 0, 1) := by decide +kernel
theorem dX0_init_18 : decode cX0_init 18 = .ok (.iconst 4, 1) := by decide +kernel
theorem dX0_init_19 : decode cX0_init 19 = .ok (.bipush 24, 2) := by decide +kernel
theorem dX0_init_21 : decode cX0_init 21 = .ok (.multianewarray 19 2, 4) := by decide +kernel
theorem dX0_init_25 : decode cX0_init 25 = .ok (.putfield 21, 3) := by decide +kernel
theorem dX0_init_28 : decode cX0_init 28 = .ok (.iconst 0, 1) := by decide +kernel
theorem dX0_init_29 : decode cX0_init 29 = .ok (.istore_n 1, 1) := by decide +kernel
theorem dX0_init_30 : decode cX0_init 30 = .ok (.iload_n 1, 1) := by decide +kernel
theorem dX0_init_31 : decode cX0_init 31 = .ok (.bipush 24, 2) := by decide +kernel
theorem dX0_init_33 : decode cX0_init 33 = .ok (.if_icmp .ge 16, 3) := by decide +kernel
theorem dX0_init_36 : decode cX0_init 36 = .ok (.aload_n 0, 1) := by decide +kernel
theorem dX0_init_37 : decode cX0_init 37 = .ok (.getfield 15, 3) := by decide +kernel
theorem dX0_init_40 : decode cX0_init 40 = .ok (.iload_n 1, 1) := by decide +kernel
theorem dX0_init_41 : decode cX0_init 41 = .ok (.iconst (-1), 1) := by decide +kernel
theorem dX0_init_42 : decode cX0_init 42 = .ok (.iastore, 1) := by decide +kernel
theorem dX0_init_43 : decode cX0_init 43 = .ok (.iinc 1 1, 3) := by decide +kernel
theorem dX0_init_46 : decode cX0_init 46 = .ok (.goto (-16), 3) := by decide +kernel
theorem dX0_init_49 : decode cX0_init 49 = .ok (.return_, 1) := by decide +kernel
set_option maxRecDepth 20000 in
theorem ggX0_become_X0_takeOwners : GoodIn wsX0_become wsX0_takeOwners := goodIn_r _ [8, 2, 9, 10, 11, 12, 17, 18, 19] (by decide +kernel) (by decide +kernel)
set_option maxRecDepth 20000 in
theorem gX0_become_X0_takeOwners : GoodIn wsX0_become (wsV RX0 24 RX0 yX0_takeOwners wsX0_takeOwners) := goodIn_app (goodIn_of _ (by decide +kernel)) ggX0_become_X0_takeOwners
set_option maxRecDepth 20000 in
theorem ggX0_become_X0_takeValues : GoodIn wsX0_become wsX0_takeValues := goodIn_r _ [16, 3, 9, 10, 11, 12, 17, 18, 19] (by decide +kernel) (by decide +kernel)
set_option maxRecDepth 20000 in
theorem gX0_become_X0_takeValues : GoodIn wsX0_become (wsV RX0 28 RX0 yX0_takeValues wsX0_takeValues) := goodIn_app (goodIn_of _ (by decide +kernel)) ggX0_become_X0_takeValues
theorem dX0_become_0 : decode cX0_become 0 = .ok (.aload_n 0, 1) := by decide +kernel
theorem dX0_become_1 : decode cX0_become 1 = .ok (.aload_n 1, 1) := by decide +kernel
theorem dX0_become_2 : decode cX0_become 2 = .ok (.getfield 9, 3) := by decide +kernel
theorem dX0_become_5 : decode cX0_become 5 = .ok (.putfield 9, 3) := by decide +kernel
theorem dX0_become_8 : decode cX0_become 8 = .ok (.aload_n 0, 1) := by decide +kernel
theorem dX0_become_9 : decode cX0_become 9 = .ok (.aload_n 1, 1) := by decide +kernel
theorem dX0_become_10 : decode cX0_become 10 = .ok (.getfield 15, 3) := by decide +kernel
theorem dX0_become_13 : decode cX0_become 13 = .ok (.invokevirtual 24, 3) := by decide +kernel
theorem dX0_become_16 : decode cX0_become 16 = .ok (.iconst 0, 1) := by decide +kernel
theorem dX0_become_17 : decode cX0_become 17 = .ok (.istore_n 2, 1) := by decide +kernel
theorem dX0_become_18 : decode cX0_become 18 = .ok (.iload_n 2, 1) := by decide +kernel
theorem dX0_become_19 : decode cX0_become 19 = .ok (.iconst 4, 1) := by decide +kernel
theorem dX0_become_20 : decode cX0_become 20 = .ok (.if_icmp .ge 20, 3) := by decide +kernel
theorem dX0_become_23 : decode cX0_become 23 = .ok (.aload_n 0, 1) := by decide +kernel
theorem dX0_become_24 : decode cX0_become 24 = .ok (.iload_n 2, 1) := by decide +kernel
theorem dX0_become_25 : decode cX0_become 25 = .ok (.aload_n 1, 1) := by decide +kernel
theorem dX0_become_26 : decode cX0_become 26 = .ok (.getfield 21, 3) := by decide +kernel
theorem dX0_become_29 : decode cX0_become 29 = .ok (.iload_n 2, 1) := by decide +kernel
theorem dX0_become_30 : decode cX0_become 30 = .ok (.aaload, 1) := by decide +kernel
theorem dX0_become_31 : decode cX0_become 31 = .ok (.invokevirtual 28, 3) := by decide +kernel
theorem dX0_become_34 : decode cX0_become 34 = .ok (.iinc 2 1, 3) := by decide +kernel
theorem dX0_become_37 : decode cX0_become 37 = .ok (.goto (-19), 3) := by decide +kernel
theorem dX0_become_40 : decode cX0_become 40 = .ok (.return_, 1) := by decide +kernel
theorem dX0_takeOwners_0 : decode cX0_takeOwners 0 = .ok (.aload_n 1, 1) := by decide +kernel
theorem dX0_takeOwners_1 : decode cX0_takeOwners 1 = .ok (.iconst 0, 1) := by decide +kernel
theorem dX0_takeOwners_2 : decode cX0_takeOwners 2 = .ok (.aload_n 0, 1) := by decide +kernel
theorem dX0_takeOwners_3 : decode cX0_takeOwners 3 = .ok (.getfield 15, 3) := by decide +kernel
theorem dX0_takeOwners_6 : decode cX0_takeOwners 6 = .ok (.iconst 0, 1) := by decide +kernel
theorem dX0_takeOwners_7 : decode cX0_takeOwners 7 = .ok (.bipush 24, 2) := by decide +kernel
theorem dX0_takeOwners_9 : decode cX0_takeOwners 9 = .ok (.invokestatic 32, 3) := by decide +kernel
theorem dX0_takeOwners_12 : decode cX0_takeOwners 12 = .ok (.return_, 1) := by decide +kernel
theorem dX0_takeValues_0 : decode cX0_takeValues 0 = .ok (.aload_n 2, 1) := by decide +kernel
theorem dX0_takeValues_1 : decode cX0_takeValues 1 = .ok (.iconst 0, 1) := by decide +kernel
theorem dX0_takeValues_2 : decode cX0_takeValues 2 = .ok (.aload_n 0, 1) := by decide +kernel
theorem dX0_takeValues_3 : decode cX0_takeValues 3 = .ok (.getfield 21, 3) := by decide +kernel
theorem dX0_takeValues_6 : decode cX0_takeValues 6 = .ok (.iload_n 1, 1) := by decide +kernel
theorem dX0_takeValues_7 : decode cX0_takeValues 7 = .ok (.aaload, 1) := by decide +kernel
theorem dX0_takeValues_8 : decode cX0_takeValues 8 = .ok (.iconst 0, 1) := by decide +kernel
theorem dX0_takeValues_9 : decode cX0_takeValues 9 = .ok (.bipush 24, 2) := by decide +kernel
theorem dX0_takeValues_11 : decode cX0_takeValues 11 = .ok (.invokestatic 32, 3) := by decide +kernel
theorem dX0_takeValues_14 : decode cX0_takeValues 14 = .ok (.return_, 1) := by decide +kernel
theorem dX0_isGuest_0 : decode cX0_isGuest 0 = .ok (.iload_n 1, 1) := by decide +kernel
theorem dX0_isGuest_1 : decode cX0_isGuest 1 = .ok (.ifCond .lt 15, 3) := by decide +kernel
theorem dX0_isGuest_4 : decode cX0_isGuest 4 = .ok (.iload_n 1, 1) := by decide +kernel
theorem dX0_isGuest_5 : decode cX0_isGuest 5 = .ok (.aload_n 0, 1) := by decide +kernel
theorem dX0_isGuest_6 : decode cX0_isGuest 6 = .ok (.getfield 9, 3) := by decide +kernel
theorem dX0_isGuest_9 : decode cX0_isGuest 9 = .ok (.if_icmp .ge 7, 3) := by decide +kernel
theorem dX0_isGuest_12 : decode cX0_isGuest 12 = .ok (.iconst 1, 1) := by decide +kernel
theorem dX0_isGuest_13 : decode cX0_isGuest 13 = .ok (.goto 4, 3) := by decide +kernel
theorem dX0_isGuest_16 : decode cX0_isGuest 16 = .ok (.iconst 0, 1) := by decide +kernel
theorem dX0_isGuest_17 : decode cX0_isGuest 17 = .ok (.ireturn, 1) := by decide +kernel
set_option maxRecDepth 20000 in
theorem ggX0_seatGuest_X0_setValues : GoodIn wsX0_seatGuest wsX0_setValues := goodIn_r _ [6, 7, 8, 9, 10] (by decide +kernel) (by decide +kernel)
set_option maxRecDepth 20000 in
theorem gX0_seatGuest_X0_setValues : GoodIn wsX0_seatGuest (wsV RX0 38 RX0 yX0_setValues wsX0_setValues) := goodIn_app (goodIn_of _ (by decide +kernel)) ggX0_seatGuest_X0_setValues
theorem dX0_seatGuest_0 : decode cX0_seatGuest 0 = .ok (.aload_n 0, 1) := by decide +kernel
theorem dX0_seatGuest_1 : decode cX0_seatGuest 1 = .ok (.getfield 9, 3) := by decide +kernel
theorem dX0_seatGuest_4 : decode cX0_seatGuest 4 = .ok (.istore_n 1, 1) := by decide +kernel
theorem dX0_seatGuest_5 : decode cX0_seatGuest 5 = .ok (.aload_n 0, 1) := by decide +kernel
theorem dX0_seatGuest_6 : decode cX0_seatGuest 6 = .ok (.dup, 1) := by decide +kernel
theorem dX0_seatGuest_7 : decode cX0_seatGuest 7 = .ok (.getfield 9, 3) := by decide +kernel
theorem dX0_seatGuest_10 : decode cX0_seatGuest 10 = .ok (.iconst 1, 1) := by decide +kernel
theorem dX0_seatGuest_11 : decode cX0_seatGuest 11 = .ok (.iadd, 1) := by decide +kernel
theorem dX0_seatGuest_12 : decode cX0_seatGuest 12 = .ok (.putfield 9, 3) := by decide +kernel
theorem dX0_seatGuest_15 : decode cX0_seatGuest 15 = .ok (.aload_n 0, 1) := by decide +kernel
theorem dX0_seatGuest_16 : decode cX0_seatGuest 16 = .ok (.iload_n 1, 1) := by decide +kernel
theorem dX0_seatGuest_17 : decode cX0_seatGuest 17 = .ok (.iconst 0, 1) := by decide +kernel
theorem dX0_seatGuest_18 : decode cX0_seatGuest 18 = .ok (.bipush 23, 2) := by decide +kernel
theorem dX0_seatGuest_20 : decode cX0_seatGuest 20 = .ok (.iconst 1, 1) := by decide +kernel
theorem dX0_seatGuest_21 : decode cX0_seatGuest 21 = .ok (.invokevirtual 38, 3) := by decide +kernel
theorem dX0_seatGuest_24 : decode cX0_seatGuest 24 = .ok (.iload_n 1, 1) := by decide +kernel
theorem dX0_seatGuest_25 : decode cX0_seatGuest 25 = .ok (.ireturn, 1) := by decide +kernel
theorem dX0_setValues_0 : decode cX0_setValues 0 = .ok (.iload_n 2, 1) := by decide +kernel
theorem dX0_setValues_1 : decode cX0_setValues 1 = .ok (.istore 5, 2) := by decide +kernel
theorem dX0_setValues_3 : decode cX0_setValues 3 = .ok (.iload 5, 2) := by decide +kernel
theorem dX0_setValues_5 : decode cX0_setValues 5 = .ok (.iload_n 3, 1) := by decide +kernel
theorem dX0_setValues_6 : decode cX0_setValues 6 = .ok (.if_icmp .gt 20, 3) := by decide +kernel
theorem dX0_setValues_9 : decode cX0_setValues 9 = .ok (.aload_n 0, 1) := by decide +kernel
theorem dX0_setValues_10 : decode cX0_setValues 10 = .ok (.getfield 21, 3) := by decide +kernel
theorem dX0_setValues_13 : decode cX0_setValues 13 = .ok (.iload_n 1, 1) := by decide +kernel
theorem dX0_setValues_14 : decode cX0_setValues 14 = .ok (.aaload, 1) := by decide +kernel
theorem dX0_setValues_15 : decode cX0_setValues 15 = .ok (.iload 5, 2) := by decide +kernel
theorem dX0_setValues_17 : decode cX0_setValues 17 = .ok (.iload 4, 2) := by decide +kernel
theorem dX0_setValues_19 : decode cX0_setValues 19 = .ok (.iastore, 1) := by decide +kernel
theorem dX0_setValues_20 : decode cX0_setValues 20 = .ok (.iinc 5 1, 3) := by decide +kernel
theorem dX0_setValues_23 : decode cX0_setValues 23 = .ok (.goto (-20), 3) := by decide +kernel
theorem dX0_setValues_26 : decode cX0_setValues 26 = .ok (.return_, 1) := by decide +kernel
set_option maxRecDepth 20000 in
theorem ggX0_total_X0_spanWorth : GoodIn wsX0_total wsX0_spanWorth := goodIn_r _ [5, 6, 7, 8, 9] (by decide +kernel) (by decide +kernel)
set_option maxRecDepth 20000 in
theorem gX0_total_X0_spanWorth : GoodIn wsX0_total (wsV RX0 42 RX0 yX0_spanWorth wsX0_spanWorth) := goodIn_app (goodIn_of _ (by decide +kernel)) ggX0_total_X0_spanWorth
theorem dX0_total_0 : decode cX0_total 0 = .ok (.aload_n 0, 1) := by decide +kernel
theorem dX0_total_1 : decode cX0_total 1 = .ok (.iload_n 1, 1) := by decide +kernel
theorem dX0_total_2 : decode cX0_total 2 = .ok (.iconst 0, 1) := by decide +kernel
theorem dX0_total_3 : decode cX0_total 3 = .ok (.bipush 23, 2) := by decide +kernel
theorem dX0_total_5 : decode cX0_total 5 = .ok (.invokevirtual 42, 3) := by decide +kernel
theorem dX0_total_8 : decode cX0_total 8 = .ok (.ireturn, 1) := by decide +kernel
theorem dX0_spanWorth_0 : decode cX0_spanWorth 0 = .ok (.iconst 0, 1) := by decide +kernel
theorem dX0_spanWorth_1 : decode cX0_spanWorth 1 = .ok (.istore 4, 2) := by decide +kernel
theorem dX0_spanWorth_3 : decode cX0_spanWorth 3 = .ok (.iload_n 2, 1) := by decide +kernel
theorem dX0_spanWorth_4 : decode cX0_spanWorth 4 = .ok (.istore 5, 2) := by decide +kernel
theorem dX0_spanWorth_6 : decode cX0_spanWorth 6 = .ok (.iload 5, 2) := by decide +kernel
theorem dX0_spanWorth_8 : decode cX0_spanWorth 8 = .ok (.iload_n 3, 1) := by decide +kernel
theorem dX0_spanWorth_9 : decode cX0_spanWorth 9 = .ok (.if_icmp .gt 23, 3) := by decide +kernel
theorem dX0_spanWorth_12 : decode cX0_spanWorth 12 = .ok (.iload 4, 2) := by decide +kernel
theorem dX0_spanWorth_14 : decode cX0_spanWorth 14 = .ok (.aload_n 0, 1) := by decide +kernel
theorem dX0_spanWorth_15 : decode cX0_spanWorth 15 = .ok (.getfield 21, 3) := by decide +kernel
theorem dX0_spanWorth_18 : decode cX0_spanWorth 18 = .ok (.iload_n 1, 1) := by decide +kernel
theorem dX0_spanWorth_19 : decode cX0_spanWorth 19 = .ok (.aaload, 1) := by decide +kernel
theorem dX0_spanWorth_20 : decode cX0_spanWorth 20 = .ok (.iload 5, 2) := by decide +kernel
theorem dX0_spanWorth_22 : decode cX0_spanWorth 22 = .ok (.iaload, 1) := by decide +kernel
theorem dX0_spanWorth_23 : decode cX0_spanWorth 23 = .ok (.iadd, 1) := by decide +kernel
theorem dX0_spanWorth_24 : decode cX0_spanWorth 24 = .ok (.istore 4, 2) := by decide +kernel
theorem dX0_spanWorth_26 : decode cX0_spanWorth 26 = .ok (.iinc 5 1, 3) := by decide +kernel
theorem dX0_spanWorth_29 : decode cX0_spanWorth 29 = .ok (.goto (-23), 3) := by decide +kernel
theorem dX0_spanWorth_32 : decode cX0_spanWorth 32 = .ok (.iload 4, 2) := by decide +kernel
theorem dX0_spanWorth_34 : decode cX0_spanWorth 34 = .ok (.ireturn, 1) := by decide +kernel
set_option maxRecDepth 20000 in
theorem ggX0_worth_X0_worthWithin : GoodIn wsX0_worth wsX0_worthWithin := goodIn_r _ [5, 6, 7, 8, 9, 10] (by decide +kernel) (by decide +kernel)
set_option maxRecDepth 20000 in
theorem gX0_worth_X0_worthWithin : GoodIn wsX0_worth (wsV RX0 46 RX0 yX0_worthWithin wsX0_worthWithin) := goodIn_app (goodIn_of _ (by decide +kernel)) ggX0_worth_X0_worthWithin
theorem dX0_worth_0 : decode cX0_worth 0 = .ok (.aload_n 0, 1) := by decide +kernel
theorem dX0_worth_1 : decode cX0_worth 1 = .ok (.iload_n 1, 1) := by decide +kernel
theorem dX0_worth_2 : decode cX0_worth 2 = .ok (.iload_n 2, 1) := by decide +kernel
theorem dX0_worth_3 : decode cX0_worth 3 = .ok (.iconst 0, 1) := by decide +kernel
theorem dX0_worth_4 : decode cX0_worth 4 = .ok (.bipush 23, 2) := by decide +kernel
theorem dX0_worth_6 : decode cX0_worth 6 = .ok (.invokevirtual 46, 3) := by decide +kernel
theorem dX0_worth_9 : decode cX0_worth 9 = .ok (.ireturn, 1) := by decide +kernel
theorem dX0_worthWithin_0 : decode cX0_worthWithin 0 = .ok (.iconst 0, 1) := by decide +kernel
theorem dX0_worthWithin_1 : decode cX0_worthWithin 1 = .ok (.istore 5, 2) := by decide +kernel
theorem dX0_worthWithin_3 : decode cX0_worthWithin 3 = .ok (.iload_n 3, 1) := by decide +kernel
theorem dX0_worthWithin_4 : decode cX0_worthWithin 4 = .ok (.istore 6, 2) := by decide +kernel
theorem dX0_worthWithin_6 : decode cX0_worthWithin 6 = .ok (.iload 6, 2) := by decide +kernel
theorem dX0_worthWithin_8 : decode cX0_worthWithin 8 = .ok (.iload 4, 2) := by decide +kernel
theorem dX0_worthWithin_10 : decode cX0_worthWithin 10 = .ok (.if_icmp .gt 34, 3) := by decide +kernel
theorem dX0_worthWithin_13 : decode cX0_worthWithin 13 = .ok (.aload_n 0, 1) := by decide +kernel
theorem dX0_worthWithin_14 : decode cX0_worthWithin 14 = .ok (.getfield 15, 3) := by decide +kernel
theorem dX0_worthWithin_17 : decode cX0_worthWithin 17 = .ok (.iload 6, 2) := by decide +kernel
theorem dX0_worthWithin_19 : decode cX0_worthWithin 19 = .ok (.iaload, 1) := by decide +kernel
theorem dX0_worthWithin_20 : decode cX0_worthWithin 20 = .ok (.iload_n 2, 1) := by decide +kernel
theorem dX0_worthWithin_21 : decode cX0_worthWithin 21 = .ok (.if_icmp .ne 17, 3) := by decide +kernel
theorem dX0_worthWithin_24 : decode cX0_worthWithin 24 = .ok (.iload 5, 2) := by decide +kernel
theorem dX0_worthWithin_26 : decode cX0_worthWithin 26 = .ok (.aload_n 0, 1) := by decide +kernel
theorem dX0_worthWithin_27 : decode cX0_worthWithin 27 = .ok (.getfield 21, 3) := by decide +kernel
theorem dX0_worthWithin_30 : decode cX0_worthWithin 30 = .ok (.iload_n 1, 1) := by decide +kernel
theorem dX0_worthWithin_31 : decode cX0_worthWithin 31 = .ok (.aaload, 1) := by decide +kernel
theorem dX0_worthWithin_32 : decode cX0_worthWithin 32 = .ok (.iload 6, 2) := by decide +kernel
theorem dX0_worthWithin_34 : decode cX0_worthWithin 34 = .ok (.iaload, 1) := by decide +kernel
theorem dX0_worthWithin_35 : decode cX0_worthWithin 35 = .ok (.iadd, 1) := by decide +kernel
theorem dX0_worthWithin_36 : decode cX0_worthWithin 36 = .ok (.istore 5, 2) := by decide +kernel
theorem dX0_worthWithin_38 : decode cX0_worthWithin 38 = .ok (.iinc 6 1, 3) := by decide +kernel
theorem dX0_worthWithin_41 : decode cX0_worthWithin 41 = .ok (.goto (-35), 3) := by decide +kernel
theorem dX0_worthWithin_44 : decode cX0_worthWithin 44 = .ok (.iload 5, 2) := by decide +kernel
theorem dX0_worthWithin_46 : decode cX0_worthWithin 46 = .ok (.ireturn, 1) := by decide +kernel
theorem dX0_crumbsOf_0 : decode cX0_crumbsOf 0 = .ok (.iconst 0, 1) := by decide +kernel
theorem dX0_crumbsOf_1 : decode cX0_crumbsOf 1 = .ok (.istore_n 2, 1) := by decide +kernel
theorem dX0_crumbsOf_2 : decode cX0_crumbsOf 2 = .ok (.iconst 0, 1) := by decide +kernel
theorem dX0_crumbsOf_3 : decode cX0_crumbsOf 3 = .ok (.istore_n 3, 1) := by decide +kernel
theorem dX0_crumbsOf_4 : decode cX0_crumbsOf 4 = .ok (.iload_n 3, 1) := by decide +kernel
theorem dX0_crumbsOf_5 : decode cX0_crumbsOf 5 = .ok (.bipush 24, 2) := by decide +kernel
theorem dX0_crumbsOf_7 : decode cX0_crumbsOf 7 = .ok (.if_icmp .ge 22, 3) := by decide +kernel
theorem dX0_crumbsOf_10 : decode cX0_crumbsOf 10 = .ok (.aload_n 0, 1) := by decide +kernel
theorem dX0_crumbsOf_11 : decode cX0_crumbsOf 11 = .ok (.getfield 15, 3) := by decide +kernel
theorem dX0_crumbsOf_14 : decode cX0_crumbsOf 14 = .ok (.iload_n 3, 1) := by decide +kernel
theorem dX0_crumbsOf_15 : decode cX0_crumbsOf 15 = .ok (.iaload, 1) := by decide +kernel
theorem dX0_crumbsOf_16 : decode cX0_crumbsOf 16 = .ok (.iload_n 1, 1) := by decide +kernel
theorem dX0_crumbsOf_17 : decode cX0_crumbsOf 17 = .ok (.if_icmp .ne 6, 3) := by decide +kernel
theorem dX0_crumbsOf_20 : decode cX0_crumbsOf 20 = .ok (.iinc 2 1, 3) := by decide +kernel
theorem dX0_crumbsOf_23 : decode cX0_crumbsOf 23 = .ok (.iinc 3 1, 3) := by decide +kernel
theorem dX0_crumbsOf_26 : decode cX0_crumbsOf 26 = .ok (.goto (-22), 3) := by decide +kernel
theorem dX0_crumbsOf_29 : decode cX0_crumbsOf 29 = .ok (.iload_n 2, 1) := by decide +kernel
theorem dX0_crumbsOf_30 : decode cX0_crumbsOf 30 = .ok (.ireturn, 1) := by decide +kernel
theorem dX0_spansOf_0 : decode cX0_spansOf 0 = .ok (.iconst 0, 1) := by decide +kernel
theorem dX0_spansOf_1 : decode cX0_spansOf 1 = .ok (.istore_n 2, 1) := by decide +kernel
theorem dX0_spansOf_2 : decode cX0_spansOf 2 = .ok (.iconst 0, 1) := by decide +kernel
theorem dX0_spansOf_3 : decode cX0_spansOf 3 = .ok (.istore_n 3, 1) := by decide +kernel
theorem dX0_spansOf_4 : decode cX0_spansOf 4 = .ok (.iload_n 3, 1) := by decide +kernel
theorem dX0_spansOf_5 : decode cX0_spansOf 5 = .ok (.bipush 24, 2) := by decide +kernel
theorem dX0_spansOf_7 : decode cX0_spansOf 7 = .ok (.if_icmp .ge 38, 3) := by decide +kernel
theorem dX0_spansOf_10 : decode cX0_spansOf 10 = .ok (.aload_n 0, 1) := by decide +kernel
theorem dX0_spansOf_11 : decode cX0_spansOf 11 = .ok (.getfield 15, 3) := by decide +kernel
theorem dX0_spansOf_14 : decode cX0_spansOf 14 = .ok (.iload_n 3, 1) := by decide +kernel
theorem dX0_spansOf_15 : decode cX0_spansOf 15 = .ok (.iaload, 1) := by decide +kernel
theorem dX0_spansOf_16 : decode cX0_spansOf 16 = .ok (.iload_n 1, 1) := by decide +kernel
theorem dX0_spansOf_17 : decode cX0_spansOf 17 = .ok (.if_icmp .ne 22, 3) := by decide +kernel
theorem dX0_spansOf_20 : decode cX0_spansOf 20 = .ok (.iload_n 3, 1) := by decide +kernel
theorem dX0_spansOf_21 : decode cX0_spansOf 21 = .ok (.ifCond .eq 15, 3) := by decide +kernel
theorem dX0_spansOf_24 : decode cX0_spansOf 24 = .ok (.aload_n 0, 1) := by decide +kernel
theorem dX0_spansOf_25 : decode cX0_spansOf 25 = .ok (.getfield 15, 3) := by decide +kernel
theorem dX0_spansOf_28 : decode cX0_spansOf 28 = .ok (.iload_n 3, 1) := by decide +kernel
theorem dX0_spansOf_29 : decode cX0_spansOf 29 = .ok (.iconst 1, 1) := by decide +kernel
theorem dX0_spansOf_30 : decode cX0_spansOf 30 = .ok (.isub, 1) := by decide +kernel
theorem dX0_spansOf_31 : decode cX0_spansOf 31 = .ok (.iaload, 1) := by decide +kernel
theorem dX0_spansOf_32 : decode cX0_spansOf 32 = .ok (.iload_n 1, 1) := by decide +kernel
theorem dX0_spansOf_33 : decode cX0_spansOf 33 = .ok (.if_icmp .eq 6, 3) := by decide +kernel
theorem dX0_spansOf_36 : decode cX0_spansOf 36 = .ok (.iinc 2 1, 3) := by decide +kernel
theorem dX0_spansOf_39 : decode cX0_spansOf 39 = .ok (.iinc 3 1, 3) := by decide +kernel
theorem dX0_spansOf_42 : decode cX0_spansOf 42 = .ok (.goto (-38), 3) := by decide +kernel
theorem dX0_spansOf_45 : decode cX0_spansOf 45 = .ok (.iload_n 2, 1) := by decide +kernel
theorem dX0_spansOf_46 : decode cX0_spansOf 46 = .ok (.ireturn, 1) := by decide +kernel
theorem dX0_liesOnTable_0 : decode cX0_liesOnTable 0 = .ok (.iload_n 1, 1) := by decide +kernel
theorem dX0_liesOnTable_1 : decode cX0_liesOnTable 1 = .ok (.istore_n 3, 1) := by decide +kernel
theorem dX0_liesOnTable_2 : decode cX0_liesOnTable 2 = .ok (.iload_n 3, 1) := by decide +kernel
theorem dX0_liesOnTable_3 : decode cX0_liesOnTable 3 = .ok (.iload_n 2, 1) := by decide +kernel
theorem dX0_liesOnTable_4 : decode cX0_liesOnTable 4 = .ok (.if_icmp .gt 21, 3) := by decide +kernel
theorem dX0_liesOnTable_7 : decode cX0_liesOnTable 7 = .ok (.aload_n 0, 1) := by decide +kernel
theorem dX0_liesOnTable_8 : decode cX0_liesOnTable 8 = .ok (.getfield 15, 3) := by decide +kernel
theorem dX0_liesOnTable_11 : decode cX0_liesOnTable 11 = .ok (.iload_n 3, 1) := by decide +kernel
theorem dX0_liesOnTable_12 : decode cX0_liesOnTable 12 = .ok (.iaload, 1) := by decide +kernel
theorem dX0_liesOnTable_13 : decode cX0_liesOnTable 13 = .ok (.iconst (-1), 1) := by decide +kernel
theorem dX0_liesOnTable_14 : decode cX0_liesOnTable 14 = .ok (.if_icmp .eq 5, 3) := by decide +kernel
theorem dX0_liesOnTable_17 : decode cX0_liesOnTable 17 = .ok (.iconst 0, 1) := by decide +kernel
theorem dX0_liesOnTable_18 : decode cX0_liesOnTable 18 = .ok (.ireturn, 1) := by decide +kernel
theorem dX0_liesOnTable_19 : decode cX0_liesOnTable 19 = .ok (.iinc 3 1, 3) := by decide +kernel
theorem dX0_liesOnTable_22 : decode cX0_liesOnTable 22 = .ok (.goto (-20), 3) := by decide +kernel
theorem dX0_liesOnTable_25 : decode cX0_liesOnTable 25 = .ok (.iconst 1, 1) := by decide +kernel
theorem dX0_liesOnTable_26 : decode cX0_liesOnTable 26 = .ok (.ireturn, 1) := by decide +kernel
theorem dX0_handOut_0 : decode cX0_handOut 0 = .ok (.iconst 0, 1) := by decide +kernel
theorem dX0_handOut_1 : decode cX0_handOut 1 = .ok (.istore 4, 2) := by decide +kernel
theorem dX0_handOut_3 : decode cX0_handOut 3 = .ok (.iload_n 2, 1) := by decide +kernel
theorem dX0_handOut_4 : decode cX0_handOut 4 = .ok (.istore 5, 2) := by decide +kernel
theorem dX0_handOut_6 : decode cX0_handOut 6 = .ok (.iload 5, 2) := by decide +kernel
theorem dX0_handOut_8 : decode cX0_handOut 8 = .ok (.iload_n 3, 1) := by decide +kernel
theorem dX0_handOut_9 : decode cX0_handOut 9 = .ok (.if_icmp .gt 31, 3) := by decide +kernel
theorem dX0_handOut_12 : decode cX0_handOut 12 = .ok (.aload_n 0, 1) := by decide +kernel
theorem dX0_handOut_13 : decode cX0_handOut 13 = .ok (.getfield 15, 3) := by decide +kernel
theorem dX0_handOut_16 : decode cX0_handOut 16 = .ok (.iload 5, 2) := by decide +kernel
theorem dX0_handOut_18 : decode cX0_handOut 18 = .ok (.iaload, 1) := by decide +kernel
theorem dX0_handOut_19 : decode cX0_handOut 19 = .ok (.iconst (-1), 1) := by decide +kernel
theorem dX0_handOut_20 : decode cX0_handOut 20 = .ok (.if_icmp .ne 14, 3) := by decide +kernel
theorem dX0_handOut_23 : decode cX0_handOut 23 = .ok (.aload_n 0, 1) := by decide +kernel
theorem dX0_handOut_24 : decode cX0_handOut 24 = .ok (.getfield 15, 3) := by decide +kernel
theorem dX0_handOut_27 : decode cX0_handOut 27 = .ok (.iload 5, 2) := by decide +kernel
theorem dX0_handOut_29 : decode cX0_handOut 29 = .ok (.iload_n 1, 1) := by decide +kernel
theorem dX0_handOut_30 : decode cX0_handOut 30 = .ok (.iastore, 1) := by decide +kernel
theorem dX0_handOut_31 : decode cX0_handOut 31 = .ok (.iinc 4 1, 3) := by decide +kernel
theorem dX0_handOut_34 : decode cX0_handOut 34 = .ok (.iinc 5 1, 3) := by decide +kernel
theorem dX0_handOut_37 : decode cX0_handOut 37 = .ok (.goto (-31), 3) := by decide +kernel
theorem dX0_handOut_40 : decode cX0_handOut 40 = .ok (.iload 4, 2) := by decide +kernel
theorem dX0_handOut_42 : decode cX0_handOut 42 = .ok (.ireturn, 1) := by decide +kernel
theorem dX0_takeBack_0 : decode cX0_takeBack 0 = .ok (.iconst 0, 1) := by decide +kernel
theorem dX0_takeBack_1 : decode cX0_takeBack 1 = .ok (.istore_n 3, 1) := by decide +kernel
theorem dX0_takeBack_2 : decode cX0_takeBack 2 = .ok (.iload_n 1, 1) := by decide +kernel
theorem dX0_takeBack_3 : decode cX0_takeBack 3 = .ok (.istore 4, 2) := by decide +kernel
theorem dX0_takeBack_5 : decode cX0_takeBack 5 = .ok (.iload 4, 2) := by decide +kernel
theorem dX0_takeBack_7 : decode cX0_takeBack 7 = .ok (.iload_n 2, 1) := by decide +kernel
theorem dX0_takeBack_8 : decode cX0_takeBack 8 = .ok (.if_icmp .gt 31, 3) := by decide +kernel
theorem dX0_takeBack_11 : decode cX0_takeBack 11 = .ok (.aload_n 0, 1) := by decide +kernel
theorem dX0_takeBack_12 : decode cX0_takeBack 12 = .ok (.getfield 15, 3) := by decide +kernel
theorem dX0_takeBack_15 : decode cX0_takeBack 15 = .ok (.iload 4, 2) := by decide +kernel
theorem dX0_takeBack_17 : decode cX0_takeBack 17 = .ok (.iaload, 1) := by decide +kernel
theorem dX0_takeBack_18 : decode cX0_takeBack 18 = .ok (.iconst (-1), 1) := by decide +kernel
theorem dX0_takeBack_19 : decode cX0_takeBack 19 = .ok (.if_icmp .eq 14, 3) := by decide +kernel
theorem dX0_takeBack_22 : decode cX0_takeBack 22 = .ok (.aload_n 0, 1) := by decide +kernel
theorem dX0_takeBack_23 : decode cX0_takeBack 23 = .ok (.getfield 15, 3) := by decide +kernel
theorem dX0_takeBack_26 : decode cX0_takeBack 26 = .ok (.iload 4, 2) := by decide +kernel
theorem dX0_takeBack_28 : decode cX0_takeBack 28 = .ok (.iconst (-1), 1) := by decide +kernel
theorem dX0_takeBack_29 : decode cX0_takeBack 29 = .ok (.iastore, 1) := by decide +kernel
theorem dX0_takeBack_30 : decode cX0_takeBack 30 = .ok (.iinc 3 1, 3) := by decide +kernel
theorem dX0_takeBack_33 : decode cX0_takeBack 33 = .ok (.iinc 4 1, 3) := by decide +kernel
theorem dX0_takeBack_36 : decode cX0_takeBack 36 = .ok (.goto (-31), 3) := by decide +kernel
theorem dX0_takeBack_39 : decode cX0_takeBack 39 = .ok (.iload_n 3, 1) := by decide +kernel
theorem dX0_takeBack_40 : decode cX0_takeBack 40 = .ok (.ireturn, 1) := by decide +kernel
set_option maxRecDepth 20000 in
theorem ggX0_findCut_X0_spanWorth : GoodIn wsX0_findCut wsX0_spanWorth := goodIn_r _ [10, 1, 11, 12, 13] (by decide +kernel) (by decide +kernel)
set_option maxRecDepth 20000 in
theorem gX0_findCut_X0_spanWorth : GoodIn wsX0_findCut (wsV RX0 42 RX0 yX0_spanWorth wsX0_spanWorth) := goodIn_app (goodIn_of _ (by decide +kernel)) ggX0_findCut_X0_spanWorth
theorem dX0_findCut_0 : decode cX0_findCut 0 = .ok (.aload_n 0, 1) := by decide +kernel
theorem dX0_findCut_1 : decode cX0_findCut 1 = .ok (.iload_n 1, 1) := by decide +kernel
theorem dX0_findCut_2 : decode cX0_findCut 2 = .ok (.iload_n 2, 1) := by decide +kernel
theorem dX0_findCut_3 : decode cX0_findCut 3 = .ok (.iload_n 3, 1) := by decide +kernel
theorem dX0_findCut_4 : decode cX0_findCut 4 = .ok (.invokevirtual 42, 3) := by decide +kernel
theorem dX0_findCut_7 : decode cX0_findCut 7 = .ok (.istore 4, 2) := by decide +kernel
theorem dX0_findCut_9 : decode cX0_findCut 9 = .ok (.iconst 0, 1) := by decide +kernel
theorem dX0_findCut_10 : decode cX0_findCut 10 = .ok (.istore 5, 2) := by decide +kernel
theorem dX0_findCut_12 : decode cX0_findCut 12 = .ok (.iload_n 2, 1) := by decide +kernel
theorem dX0_findCut_13 : decode cX0_findCut 13 = .ok (.iconst 1, 1) := by decide +kernel
theorem dX0_findCut_14 : decode cX0_findCut 14 = .ok (.iadd, 1) := by decide +kernel
theorem dX0_findCut_15 : decode cX0_findCut 15 = .ok (.istore 6, 2) := by decide +kernel
theorem dX0_findCut_17 : decode cX0_findCut 17 = .ok (.iload 4, 2) := by decide +kernel
theorem dX0_findCut_19 : decode cX0_findCut 19 = .ok (.iconst 1, 1) := by decide +kernel
theorem dX0_findCut_20 : decode cX0_findCut 20 = .ok (.iadd, 1) := by decide +kernel
theorem dX0_findCut_21 : decode cX0_findCut 21 = .ok (.istore 7, 2) := by decide +kernel
theorem dX0_findCut_23 : decode cX0_findCut 23 = .ok (.iload_n 2, 1) := by decide +kernel
theorem dX0_findCut_24 : decode cX0_findCut 24 = .ok (.iconst 1, 1) := by decide +kernel
theorem dX0_findCut_25 : decode cX0_findCut 25 = .ok (.iadd, 1) := by decide +kernel
theorem dX0_findCut_26 : decode cX0_findCut 26 = .ok (.istore 8, 2) := by decide +kernel
theorem dX0_findCut_28 : decode cX0_findCut 28 = .ok (.iload 8, 2) := by decide +kernel
theorem dX0_findCut_30 : decode cX0_findCut 30 = .ok (.iload_n 3, 1) := by decide +kernel
theorem dX0_findCut_31 : decode cX0_findCut 31 = .ok (.if_icmp .gt 52, 3) := by decide +kernel
theorem dX0_findCut_34 : decode cX0_findCut 34 = .ok (.iload 5, 2) := by decide +kernel
theorem dX0_findCut_36 : decode cX0_findCut 36 = .ok (.aload_n 0, 1) := by decide +kernel
theorem dX0_findCut_37 : decode cX0_findCut 37 = .ok (.getfield 21, 3) := by decide +kernel
theorem dX0_findCut_40 : decode cX0_findCut 40 = .ok (.iload_n 1, 1) := by decide +kernel
theorem dX0_findCut_41 : decode cX0_findCut 41 = .ok (.aaload, 1) := by decide +kernel
theorem dX0_findCut_42 : decode cX0_findCut 42 = .ok (.iload 8, 2) := by decide +kernel
theorem dX0_findCut_44 : decode cX0_findCut 44 = .ok (.iconst 1, 1) := by decide +kernel
theorem dX0_findCut_45 : decode cX0_findCut 45 = .ok (.isub, 1) := by decide +kernel
theorem dX0_findCut_46 : decode cX0_findCut 46 = .ok (.iaload, 1) := by decide +kernel
theorem dX0_findCut_47 : decode cX0_findCut 47 = .ok (.iadd, 1) := by decide +kernel
theorem dX0_findCut_48 : decode cX0_findCut 48 = .ok (.istore 5, 2) := by decide +kernel
theorem dX0_findCut_50 : decode cX0_findCut 50 = .ok (.iload 4, 2) := by decide +kernel
theorem dX0_findCut_52 : decode cX0_findCut 52 = .ok (.iconst 2, 1) := by decide +kernel
theorem dX0_findCut_53 : decode cX0_findCut 53 = .ok (.iload 5, 2) := by decide +kernel
theorem dX0_findCut_55 : decode cX0_findCut 55 = .ok (.imul, 1) := by decide +kernel
theorem dX0_findCut_56 : decode cX0_findCut 56 = .ok (.isub, 1) := by decide +kernel
theorem dX0_findCut_57 : decode cX0_findCut 57 = .ok (.invokestatic 50, 3) := by decide +kernel
theorem dX0_findCut_60 : decode cX0_findCut 60 = .ok (.istore 9, 2) := by decide +kernel
theorem dX0_findCut_62 : decode cX0_findCut 62 = .ok (.iload 9, 2) := by decide +kernel
theorem dX0_findCut_64 : decode cX0_findCut 64 = .ok (.iload 7, 2) := by decide +kernel
theorem dX0_findCut_66 : decode cX0_findCut 66 = .ok (.if_icmp .ge 11, 3) := by decide +kernel
theorem dX0_findCut_69 : decode cX0_findCut 69 = .ok (.iload 9, 2) := by decide +kernel
theorem dX0_findCut_71 : decode cX0_findCut 71 = .ok (.istore 7, 2) := by decide +kernel
theorem dX0_findCut_73 : decode cX0_findCut 73 = .ok (.iload 8, 2) := by decide +kernel
theorem dX0_findCut_75 : decode cX0_findCut 75 = .ok (.istore 6, 2) := by decide +kernel
theorem dX0_findCut_77 : decode cX0_findCut 77 = .ok (.iinc 8 1, 3) := by decide +kernel
theorem dX0_findCut_80 : decode cX0_findCut 80 = .ok (.goto (-52), 3) := by decide +kernel
theorem dX0_findCut_83 : decode cX0_findCut 83 = .ok (.iload 6, 2) := by decide +kernel
theorem dX0_findCut_85 : decode cX0_findCut 85 = .ok (.ireturn, 1) := by decide +kernel
set_option maxRecDepth 20000 in
theorem ggX0_trimPiece_X0_worth : GoodIn wsX0_trimPiece wsX0_worth := goodIn_r _ [7, 8, 9, 10, 6, 11, 1, 2, 12, 13, 14] (by decide +kernel) (by decide +kernel)
set_option maxRecDepth 20000 in
theorem gX0_trimPiece_X0_worth : GoodIn wsX0_trimPiece (wsV RX0 56 RX0 yX0_worth wsX0_worth) := goodIn_app (goodIn_of _ (by decide +kernel)) ggX0_trimPiece_X0_worth
theorem dX0_trimPiece_0 : decode cX0_trimPiece 0 = .ok (.aload_n 0, 1) := by decide +kernel
theorem dX0_trimPiece_1 : decode cX0_trimPiece 1 = .ok (.iload_n 2, 1) := by decide +kernel
theorem dX0_trimPiece_2 : decode cX0_trimPiece 2 = .ok (.iload_n 2, 1) := by decide +kernel
theorem dX0_trimPiece_3 : decode cX0_trimPiece 3 = .ok (.invokevirtual 56, 3) := by decide +kernel
theorem dX0_trimPiece_6 : decode cX0_trimPiece 6 = .ok (.istore_n 3, 1) := by decide +kernel
theorem dX0_trimPiece_7 : decode cX0_trimPiece 7 = .ok (.aload_n 0, 1) := by decide +kernel
theorem dX0_trimPiece_8 : decode cX0_trimPiece 8 = .ok (.iload_n 2, 1) := by decide +kernel
theorem dX0_trimPiece_9 : decode cX0_trimPiece 9 = .ok (.iload_n 1, 1) := by decide +kernel
theorem dX0_trimPiece_10 : decode cX0_trimPiece 10 = .ok (.invokevirtual 56, 3) := by decide +kernel
theorem dX0_trimPiece_13 : decode cX0_trimPiece 13 = .ok (.istore 4, 2) := by decide +kernel
theorem dX0_trimPiece_15 : decode cX0_trimPiece 15 = .ok (.iconst 0, 1) := by decide +kernel
theorem dX0_trimPiece_16 : decode cX0_trimPiece 16 = .ok (.istore 5, 2) := by decide +kernel
theorem dX0_trimPiece_18 : decode cX0_trimPiece 18 = .ok (.bipush 23, 2) := by decide +kernel
theorem dX0_trimPiece_20 : decode cX0_trimPiece 20 = .ok (.istore 6, 2) := by decide +kernel
theorem dX0_trimPiece_22 : decode cX0_trimPiece 22 = .ok (.iload 6, 2) := by decide +kernel
theorem dX0_trimPiece_24 : decode cX0_trimPiece 24 = .ok (.ifCond .lt 51, 3) := by decide +kernel
theorem dX0_trimPiece_27 : decode cX0_trimPiece 27 = .ok (.iload 4, 2) := by decide +kernel
theorem dX0_trimPiece_29 : decode cX0_trimPiece 29 = .ok (.iload_n 3, 1) := by decide +kernel
theorem dX0_trimPiece_30 : decode cX0_trimPiece 30 = .ok (.if_icmp .le 45, 3) := by decide +kernel
theorem dX0_trimPiece_33 : decode cX0_trimPiece 33 = .ok (.aload_n 0, 1) := by decide +kernel
theorem dX0_trimPiece_34 : decode cX0_trimPiece 34 = .ok (.getfield 15, 3) := by decide +kernel
theorem dX0_trimPiece_37 : decode cX0_trimPiece 37 = .ok (.iload 6, 2) := by decide +kernel
theorem dX0_trimPiece_39 : decode cX0_trimPiece 39 = .ok (.iaload, 1) := by decide +kernel
theorem dX0_trimPiece_40 : decode cX0_trimPiece 40 = .ok (.iload_n 1, 1) := by decide +kernel
theorem dX0_trimPiece_41 : decode cX0_trimPiece 41 = .ok (.if_icmp .ne 28, 3) := by decide +kernel
theorem dX0_trimPiece_44 : decode cX0_trimPiece 44 = .ok (.aload_n 0, 1) := by decide +kernel
theorem dX0_trimPiece_45 : decode cX0_trimPiece 45 = .ok (.getfield 15, 3) := by decide +kernel
theorem dX0_trimPiece_48 : decode cX0_trimPiece 48 = .ok (.iload 6, 2) := by decide +kernel
theorem dX0_trimPiece_50 : decode cX0_trimPiece 50 = .ok (.iconst (-1), 1) := by decide +kernel
theorem dX0_trimPiece_51 : decode cX0_trimPiece 51 = .ok (.iastore, 1) := by decide +kernel
theorem dX0_trimPiece_52 : decode cX0_trimPiece 52 = .ok (.iload 4, 2) := by decide +kernel
theorem dX0_trimPiece_54 : decode cX0_trimPiece 54 = .ok (.aload_n 0, 1) := by decide +kernel
theorem dX0_trimPiece_55 : decode cX0_trimPiece 55 = .ok (.getfield 21, 3) := by decide +kernel
theorem dX0_trimPiece_58 : decode cX0_trimPiece 58 = .ok (.iload_n 2, 1) := by decide +kernel
theorem dX0_trimPiece_59 : decode cX0_trimPiece 59 = .ok (.aaload, 1) := by decide +kernel
theorem dX0_trimPiece_60 : decode cX0_trimPiece 60 = .ok (.iload 6, 2) := by decide +kernel
theorem dX0_trimPiece_62 : decode cX0_trimPiece 62 = .ok (.iaload, 1) := by decide +kernel
theorem dX0_trimPiece_63 : decode cX0_trimPiece 63 = .ok (.isub, 1) := by decide +kernel
theorem dX0_trimPiece_64 : decode cX0_trimPiece 64 = .ok (.istore 4, 2) := by decide +kernel
theorem dX0_trimPiece_66 : decode cX0_trimPiece 66 = .ok (.iinc 5 1, 3) := by decide +kernel
theorem dX0_trimPiece_69 : decode cX0_trimPiece 69 = .ok (.iinc 6 (-1), 3) := by decide +kernel
theorem dX0_trimPiece_72 : decode cX0_trimPiece 72 = .ok (.goto (-50), 3) := by decide +kernel
theorem dX0_trimPiece_75 : decode cX0_trimPiece 75 = .ok (.iload 5, 2) := by decide +kernel
theorem dX0_trimPiece_77 : decode cX0_trimPiece 77 = .ok (.ireturn, 1) := by decide +kernel
set_option maxRecDepth 20000 in
theorem ggX0_passPieces_X4_placeOf : GoodIn wsX0_passPieces wsX4_placeOf := goodIn_r _ [8, 9, 10, 14, 15, 16] (by decide +kernel) (by decide +kernel)
set_option maxRecDepth 20000 in
theorem gX0_passPieces_X4_placeOf : GoodIn wsX0_passPieces (wsV RX0 60 RX4 yX4_placeOf wsX4_placeOf) := goodIn_app (goodIn_of _ (by decide +kernel)) ggX0_passPieces_X4_placeOf
theorem dX0_passPieces_0 : decode cX0_passPieces 0 = .ok (.iconst 0, 1) := by decide +kernel
theorem dX0_passPieces_1 : decode cX0_passPieces 1 = .ok (.istore_n 2, 1) := by decide +kernel
theorem dX0_passPieces_2 : decode cX0_passPieces 2 = .ok (.iload_n 2, 1) := by decide +kernel
theorem dX0_passPieces_3 : decode cX0_passPieces 3 = .ok (.bipush 24, 2) := by decide +kernel
theorem dX0_passPieces_5 : decode cX0_passPieces 5 = .ok (.if_icmp .ge 55, 3) := by decide +kernel
theorem dX0_passPieces_8 : decode cX0_passPieces 8 = .ok (.aload_n 1, 1) := by decide +kernel
theorem dX0_passPieces_9 : decode cX0_passPieces 9 = .ok (.aload_n 0, 1) := by decide +kernel
theorem dX0_passPieces_10 : decode cX0_passPieces 10 = .ok (.getfield 15, 3) := by decide +kernel
theorem dX0_passPieces_13 : decode cX0_passPieces 13 = .ok (.iload_n 2, 1) := by decide +kernel
theorem dX0_passPieces_14 : decode cX0_passPieces 14 = .ok (.iaload, 1) := by decide +kernel
theorem dX0_passPieces_15 : decode cX0_passPieces 15 = .ok (.invokevirtual 60, 3) := by decide +kernel
theorem dX0_passPieces_18 : decode cX0_passPieces 18 = .ok (.istore_n 3, 1) := by decide +kernel
theorem dX0_passPieces_19 : decode cX0_passPieces 19 = .ok (.iload_n 3, 1) := by decide +kernel
theorem dX0_passPieces_20 : decode cX0_passPieces 20 = .ok (.aload_n 1, 1) := by decide +kernel
theorem dX0_passPieces_21 : decode cX0_passPieces 21 = .ok (.getfield 65, 3) := by decide +kernel
theorem dX0_passPieces_24 : decode cX0_passPieces 24 = .ok (.if_icmp .ge 30, 3) := by decide +kernel
theorem dX0_passPieces_27 : decode cX0_passPieces 27 = .ok (.aload_n 0, 1) := by decide +kernel
theorem dX0_passPieces_28 : decode cX0_passPieces 28 = .ok (.getfield 15, 3) := by decide +kernel
theorem dX0_passPieces_31 : decode cX0_passPieces 31 = .ok (.iload_n 2, 1) := by decide +kernel
theorem dX0_passPieces_32 : decode cX0_passPieces 32 = .ok (.aload_n 1, 1) := by decide +kernel
theorem dX0_passPieces_33 : decode cX0_passPieces 33 = .ok (.getfield 68, 3) := by decide +kernel
theorem dX0_passPieces_36 : decode cX0_passPieces 36 = .ok (.iload_n 3, 1) := by decide +kernel
theorem dX0_passPieces_37 : decode cX0_passPieces 37 = .ok (.ifCond .ne 12, 3) := by decide +kernel
theorem dX0_passPieces_40 : decode cX0_passPieces 40 = .ok (.aload_n 1, 1) := by decide +kernel
theorem dX0_passPieces_41 : decode cX0_passPieces 41 = .ok (.getfield 65, 3) := by decide +kernel
theorem dX0_passPieces_44 : decode cX0_passPieces 44 = .ok (.iconst 1, 1) := by decide +kernel
theorem dX0_passPieces_45 : decode cX0_passPieces 45 = .ok (.isub, 1) := by decide +kernel
theorem dX0_passPieces_46 : decode cX0_passPieces 46 = .ok (.goto 6, 3) := by decide +kernel
theorem dX0_passPieces_49 : decode cX0_passPieces 49 = .ok (.iload_n 3, 1) := by decide +kernel
theorem dX0_passPieces_50 : decode cX0_passPieces 50 = .ok (.iconst 1, 1) := by decide +kernel
theorem dX0_passPieces_51 : decode cX0_passPieces 51 = .ok (.isub, 1) := by decide +kernel
theorem dX0_passPieces_52 : decode cX0_passPieces 52 = .ok (.iaload, 1) := by decide +kernel
theorem dX0_passPieces_53 : decode cX0_passPieces 53 = .ok (.iastore, 1) := by decide +kernel
theorem dX0_passPieces_54 : decode cX0_passPieces 54 = .ok (.iinc 2 1, 3) := by decide +kernel
theorem dX0_passPieces_57 : decode cX0_passPieces 57 = .ok (.goto (-55), 3) := by decide +kernel
theorem dX0_passPieces_60 : decode cX0_passPieces 60 = .ok (.return_, 1) := by decide +kernel
set_option maxRecDepth 20000 in
theorem ggX0_envyOf_X0_worth : GoodIn wsX0_envyOf wsX0_worth := goodIn_r _ [9, 10, 11, 12, 8, 13, 14, 15, 16, 17, 18] (by decide +kernel) (by decide +kernel)
set_option maxRecDepth 20000 in
theorem gX0_envyOf_X0_worth : GoodIn wsX0_envyOf (wsV RX0 56 RX0 yX0_worth wsX0_worth) := goodIn_app (goodIn_of _ (by decide +kernel)) ggX0_envyOf_X0_worth
theorem dX0_envyOf_0 : decode cX0_envyOf 0 = .ok (.iconst 0, 1) := by decide +kernel
theorem dX0_envyOf_1 : decode cX0_envyOf 1 = .ok (.aload_n 0, 1) := by decide +kernel
theorem dX0_envyOf_2 : decode cX0_envyOf 2 = .ok (.iload_n 1, 1) := by decide +kernel
theorem dX0_envyOf_3 : decode cX0_envyOf 3 = .ok (.iload_n 2, 1) := by decide +kernel
theorem dX0_envyOf_4 : decode cX0_envyOf 4 = .ok (.invokevirtual 56, 3) := by decide +kernel
theorem dX0_envyOf_7 : decode cX0_envyOf 7 = .ok (.aload_n 0, 1) := by decide +kernel
theorem dX0_envyOf_8 : decode cX0_envyOf 8 = .ok (.iload_n 1, 1) := by decide +kernel
theorem dX0_envyOf_9 : decode cX0_envyOf 9 = .ok (.iload_n 1, 1) := by decide +kernel
theorem dX0_envyOf_10 : decode cX0_envyOf 10 = .ok (.invokevirtual 56, 3) := by decide +kernel
theorem dX0_envyOf_13 : decode cX0_envyOf 13 = .ok (.isub, 1) := by decide +kernel
theorem dX0_envyOf_14 : decode cX0_envyOf 14 = .ok (.invokestatic 71, 3) := by decide +kernel
theorem dX0_envyOf_17 : decode cX0_envyOf 17 = .ok (.ireturn, 1) := by decide +kernel
set_option maxRecDepth 20000 in
theorem ggX0_arrows_X0_envyOf : GoodIn wsX0_arrows wsX0_envyOf := goodIn_r _ [6, 7, 8, 9, 10, 11, 12, 13, 5, 14, 15, 16, 17, 18, 19, 20, 21, 22, 23] (by decide +kernel) (by decide +kernel)
set_option maxRecDepth 20000 in
theorem gX0_arrows_X0_envyOf : GoodIn wsX0_arrows (wsV RX0 74 RX0 yX0_envyOf wsX0_envyOf) := goodIn_app (goodIn_of _ (by decide +kernel)) ggX0_arrows_X0_envyOf
theorem dX0_arrows_0 : decode cX0_arrows 0 = .ok (.iconst 0, 1) := by decide +kernel
theorem dX0_arrows_1 : decode cX0_arrows 1 = .ok (.istore_n 1, 1) := by decide +kernel
theorem dX0_arrows_2 : decode cX0_arrows 2 = .ok (.iconst 0, 1) := by decide +kernel
theorem dX0_arrows_3 : decode cX0_arrows 3 = .ok (.istore_n 2, 1) := by decide +kernel
theorem dX0_arrows_4 : decode cX0_arrows 4 = .ok (.iload_n 2, 1) := by decide +kernel
theorem dX0_arrows_5 : decode cX0_arrows 5 = .ok (.aload_n 0, 1) := by decide +kernel
theorem dX0_arrows_6 : decode cX0_arrows 6 = .ok (.getfield 9, 3) := by decide +kernel
theorem dX0_arrows_9 : decode cX0_arrows 9 = .ok (.if_icmp .ge 37, 3) := by decide +kernel
theorem dX0_arrows_12 : decode cX0_arrows 12 = .ok (.iconst 0, 1) := by decide +kernel
theorem dX0_arrows_13 : decode cX0_arrows 13 = .ok (.istore_n 3, 1) := by decide +kernel
theorem dX0_arrows_14 : decode cX0_arrows 14 = .ok (.iload_n 3, 1) := by decide +kernel
theorem dX0_arrows_15 : decode cX0_arrows 15 = .ok (.aload_n 0, 1) := by decide +kernel
theorem dX0_arrows_16 : decode cX0_arrows 16 = .ok (.getfield 9, 3) := by decide +kernel
theorem dX0_arrows_19 : decode cX0_arrows 19 = .ok (.if_icmp .ge 21, 3) := by decide +kernel
theorem dX0_arrows_22 : decode cX0_arrows 22 = .ok (.aload_n 0, 1) := by decide +kernel
theorem dX0_arrows_23 : decode cX0_arrows 23 = .ok (.iload_n 2, 1) := by decide +kernel
theorem dX0_arrows_24 : decode cX0_arrows 24 = .ok (.iload_n 3, 1) := by decide +kernel
theorem dX0_arrows_25 : decode cX0_arrows 25 = .ok (.invokevirtual 74, 3) := by decide +kernel
theorem dX0_arrows_28 : decode cX0_arrows 28 = .ok (.ifCond .le 6, 3) := by decide +kernel
theorem dX0_arrows_31 : decode cX0_arrows 31 = .ok (.iinc 1 1, 3) := by decide +kernel
theorem dX0_arrows_34 : decode cX0_arrows 34 = .ok (.iinc 3 1, 3) := by decide +kernel
theorem dX0_arrows_37 : decode cX0_arrows 37 = .ok (.goto (-23), 3) := by decide +kernel
theorem dX0_arrows_40 : decode cX0_arrows 40 = .ok (.iinc 2 1, 3) := by decide +kernel
theorem dX0_arrows_43 : decode cX0_arrows 43 = .ok (.goto (-39), 3) := by decide +kernel
theorem dX0_arrows_46 : decode cX0_arrows 46 = .ok (.iload_n 1, 1) := by decide +kernel
theorem dX0_arrows_47 : decode cX0_arrows 47 = .ok (.ireturn, 1) := by decide +kernel
set_option maxRecDepth 20000 in
theorem ggX0_allEnvies_X0_envyOf : GoodIn wsX0_allEnvies wsX0_envyOf := goodIn_r _ [6, 7, 8, 9, 10, 11, 12, 13, 5, 14, 15, 16, 17, 18, 19, 20, 21, 22, 23] (by decide +kernel) (by decide +kernel)
set_option maxRecDepth 20000 in
theorem gX0_allEnvies_X0_envyOf : GoodIn wsX0_allEnvies (wsV RX0 74 RX0 yX0_envyOf wsX0_envyOf) := goodIn_app (goodIn_of _ (by decide +kernel)) ggX0_allEnvies_X0_envyOf
theorem dX0_allEnvies_0 : decode cX0_allEnvies 0 = .ok (.iconst 0, 1) := by decide +kernel
theorem dX0_allEnvies_1 : decode cX0_allEnvies 1 = .ok (.istore_n 1, 1) := by decide +kernel
theorem dX0_allEnvies_2 : decode cX0_allEnvies 2 = .ok (.iconst 0, 1) := by decide +kernel
theorem dX0_allEnvies_3 : decode cX0_allEnvies 3 = .ok (.istore_n 2, 1) := by decide +kernel
theorem dX0_allEnvies_4 : decode cX0_allEnvies 4 = .ok (.iload_n 2, 1) := by decide +kernel
theorem dX0_allEnvies_5 : decode cX0_allEnvies 5 = .ok (.aload_n 0, 1) := by decide +kernel
theorem dX0_allEnvies_6 : decode cX0_allEnvies 6 = .ok (.getfield 9, 3) := by decide +kernel
theorem dX0_allEnvies_9 : decode cX0_allEnvies 9 = .ok (.if_icmp .ge 34, 3) := by decide +kernel
theorem dX0_allEnvies_12 : decode cX0_allEnvies 12 = .ok (.iconst 0, 1) := by decide +kernel
theorem dX0_allEnvies_13 : decode cX0_allEnvies 13 = .ok (.istore_n 3, 1) := by decide +kernel
theorem dX0_allEnvies_14 : decode cX0_allEnvies 14 = .ok (.iload_n 3, 1) := by decide +kernel
theorem dX0_allEnvies_15 : decode cX0_allEnvies 15 = .ok (.aload_n 0, 1) := by decide +kernel
theorem dX0_allEnvies_16 : decode cX0_allEnvies 16 = .ok (.getfield 9, 3) := by decide +kernel
theorem dX0_allEnvies_19 : decode cX0_allEnvies 19 = .ok (.if_icmp .ge 18, 3) := by decide +kernel
theorem dX0_allEnvies_22 : decode cX0_allEnvies 22 = .ok (.iload_n 1, 1) := by decide +kernel
theorem dX0_allEnvies_23 : decode cX0_allEnvies 23 = .ok (.aload_n 0, 1) := by decide +kernel
theorem dX0_allEnvies_24 : decode cX0_allEnvies 24 = .ok (.iload_n 2, 1) := by decide +kernel
theorem dX0_allEnvies_25 : decode cX0_allEnvies 25 = .ok (.iload_n 3, 1) := by decide +kernel
theorem dX0_allEnvies_26 : decode cX0_allEnvies 26 = .ok (.invokevirtual 74, 3) := by decide +kernel
theorem dX0_allEnvies_29 : decode cX0_allEnvies 29 = .ok (.iadd, 1) := by decide +kernel
theorem dX0_allEnvies_30 : decode cX0_allEnvies 30 = .ok (.istore_n 1, 1) := by decide +kernel
theorem dX0_allEnvies_31 : decode cX0_allEnvies 31 = .ok (.iinc 3 1, 3) := by decide +kernel
theorem dX0_allEnvies_34 : decode cX0_allEnvies 34 = .ok (.goto (-20), 3) := by decide +kernel
theorem dX0_allEnvies_37 : decode cX0_allEnvies 37 = .ok (.iinc 2 1, 3) := by decide +kernel
theorem dX0_allEnvies_40 : decode cX0_allEnvies 40 = .ok (.goto (-36), 3) := by decide +kernel
theorem dX0_allEnvies_43 : decode cX0_allEnvies 43 = .ok (.iload_n 1, 1) := by decide +kernel
theorem dX0_allEnvies_44 : decode cX0_allEnvies 44 = .ok (.ireturn, 1) := by decide +kernel
set_option maxRecDepth 20000 in
theorem ggX0_contentGuests_X0_total : GoodIn wsX0_contentGuests wsX0_total := goodIn_r _ [6, 7, 8, 9, 5, 10, 11, 21, 22, 23] (by decide +kernel) (by decide +kernel)
set_option maxRecDepth 20000 in
theorem gX0_contentGuests_X0_total : GoodIn wsX0_contentGuests (wsV RX0 77 RX0 yX0_total wsX0_total) := goodIn_app (goodIn_of _ (by decide +kernel)) ggX0_contentGuests_X0_total
set_option maxRecDepth 20000 in
theorem ggX0_contentGuests_X0_worth : GoodIn wsX0_contentGuests wsX0_worth := goodIn_r _ [15, 16, 17, 18, 5, 19, 20, 11, 21, 22, 23] (by decide +kernel) (by decide +kernel)
set_option maxRecDepth 20000 in
theorem gX0_contentGuests_X0_worth : GoodIn wsX0_contentGuests (wsV RX0 56 RX0 yX0_worth wsX0_worth) := goodIn_app (goodIn_of _ (by decide +kernel)) ggX0_contentGuests_X0_worth
theorem dX0_contentGuests_0 : decode cX0_contentGuests 0 = .ok (.iconst 0, 1) := by decide +kernel
theorem dX0_contentGuests_1 : decode cX0_contentGuests 1 = .ok (.istore_n 1, 1) := by decide +kernel
theorem dX0_contentGuests_2 : decode cX0_contentGuests 2 = .ok (.iconst 0, 1) := by decide +kernel
theorem dX0_contentGuests_3 : decode cX0_contentGuests 3 = .ok (.istore_n 2, 1) := by decide +kernel
theorem dX0_contentGuests_4 : decode cX0_contentGuests 4 = .ok (.iload_n 2, 1) := by decide +kernel
theorem dX0_contentGuests_5 : decode cX0_contentGuests 5 = .ok (.aload_n 0, 1) := by decide +kernel
theorem dX0_contentGuests_6 : decode cX0_contentGuests 6 = .ok (.getfield 9, 3) := by decide +kernel
theorem dX0_contentGuests_9 : decode cX0_contentGuests 9 = .ok (.if_icmp .ge 37, 3) := by decide +kernel
theorem dX0_contentGuests_12 : decode cX0_contentGuests 12 = .ok (.aload_n 0, 1) := by decide +kernel
theorem dX0_contentGuests_13 : decode cX0_contentGuests 13 = .ok (.iload_n 2, 1) := by decide +kernel
theorem dX0_contentGuests_14 : decode cX0_contentGuests 14 = .ok (.invokevirtual 77, 3) := by decide +kernel
theorem dX0_contentGuests_17 : decode cX0_contentGuests 17 = .ok (.istore_n 3, 1) := by decide +kernel
theorem dX0_contentGuests_18 : decode cX0_contentGuests 18 = .ok (.iload_n 3, 1) := by decide +kernel
theorem dX0_contentGuests_19 : decode cX0_contentGuests 19 = .ok (.ifCond .le 21, 3) := by decide +kernel
theorem dX0_contentGuests_22 : decode cX0_contentGuests 22 = .ok (.aload_n 0, 1) := by decide +kernel
theorem dX0_contentGuests_23 : decode cX0_contentGuests 23 = .ok (.iload_n 2, 1) := by decide +kernel
theorem dX0_contentGuests_24 : decode cX0_contentGuests 24 = .ok (.iload_n 2, 1) := by decide +kernel
theorem dX0_contentGuests_25 : decode cX0_contentGuests 25 = .ok (.invokevirtual 56, 3) := by decide +kernel
theorem dX0_contentGuests_28 : decode cX0_contentGuests 28 = .ok (.aload_n 0, 1) := by decide +kernel
theorem dX0_contentGuests_29 : decode cX0_contentGuests 29 = .ok (.getfield 9, 3) := by decide +kernel
theorem dX0_contentGuests_32 : decode cX0_contentGuests 32 = .ok (.imul, 1) := by decide +kernel
theorem dX0_contentGuests_33 : decode cX0_contentGuests 33 = .ok (.iload_n 3, 1) := by decide +kernel
theorem dX0_contentGuests_34 : decode cX0_contentGuests 34 = .ok (.if_icmp .lt 6, 3) := by decide +kernel
theorem dX0_contentGuests_37 : decode cX0_contentGuests 37 = .ok (.iinc 1 1, 3) := by decide +kernel
theorem dX0_contentGuests_40 : decode cX0_contentGuests 40 = .ok (.iinc 2 1, 3) := by decide +kernel
theorem dX0_contentGuests_43 : decode cX0_contentGuests 43 = .ok (.goto (-39), 3) := by decide +kernel
theorem dX0_contentGuests_46 : decode cX0_contentGuests 46 = .ok (.iload_n 1, 1) := by decide +kernel
theorem dX0_contentGuests_47 : decode cX0_contentGuests 47 = .ok (.ireturn, 1) := by decide +kernel
set_option maxRecDepth 20000 in
theorem ggX1_init_X4_init : GoodIn wsX1_init wsX4_init := goodIn_r _ [24, 25, 2, 3, 7, 26, 27, 28, 43, 44, 45] (by decide +kernel) (by decide +kernel)
set_option maxRecDepth 20000 in
theorem gX1_init_X4_init_n39 : GoodIn wsX1_init (wsX4_init) := ggX1_init_X4_init
theorem dX1_init_0 : decode cX1_init 0 = .ok (.aload_n 0, 1) := by decide +kernel
theorem dX1_init_1 : decode cX1_init 1 = .ok (.invokespecial 3, 3) := by decide +kernel
theorem dX1_init_4 : decode cX1_init 4 = .ok (.aload_n 0, 1) := by decide +kernel
theorem dX1_init_5 : decode cX1_init 5 = .ok (.iconst 0, 1) := by decide +kernel
theorem dX1_init_6 : decode cX1_init 6 = .ok (.putfield 9, 3) := by decide +kernel
theorem dX1_init_9 : decode cX1_init 9 = .ok (.aload_n 0, 1) := by decide +kernel
theorem dX1_init_10 : decode cX1_init 10 = .ok (.iconst 1, 1) := by decide +kernel
theorem dX1_init_11 : decode cX1_init 11 = .ok (.putfield 15, 3) := by decide +kernel
theorem dX1_init_14 : decode cX1_init 14 = .ok (.aload_n 0, 1) := by decide +kernel
theorem dX1_init_15 : decode cX1_init 15 = .ok (.iconst 0, 1) := by decide +kernel
theorem dX1_init_16 : decode cX1_init 16 = .ok (.putfield 18, 3) := by decide +kernel
theorem dX1_init_19 : decode cX1_init 19 = .ok (.aload_n 0, 1) := by decide +kernel
theorem dX1_init_20 : decode cX1_init 20 = .ok (.iconst 4, 1) := by decide +kernel
theorem dX1_init_21 : decode cX1_init 21 = .ok (.newarray .int, 2) := by decide +kernel
theorem dX1_init_23 : decode cX1_init 23 = .ok (.putfield 21, 3) := by decide +kernel
theorem dX1_init_26 : decode cX1_init 26 = .ok (.aload_n 0, 1) := by decide +kernel
theorem dX1_init_27 : decode cX1_init 27 = .ok (.iconst 0, 1) := by decide +kernel
theorem dX1_init_28 : decode cX1_init 28 = .ok (.putfield 25, 3) := by decide +kernel
theorem dX1_init_31 : decode cX1_init 31 = .ok (.aload_n 0, 1) := by decide +kernel
theorem dX1_init_32 : decode cX1_init 32 = .ok (.iconst 0, 1) := by decide +kernel
theorem dX1_init_33 : decode cX1_init 33 = .ok (.putfield 28, 3) := by decide +kernel
theorem dX1_init_36 : decode cX1_init 36 = .ok (.aload_n 0, 1) := by decide +kernel
theorem dX1_init_37 : decode cX1_init 37 = .ok (.iconst 0, 1) := by decide +kernel
theorem dX1_init_38 : decode cX1_init 38 = .ok (.putfield 31, 3) := by decide +kernel
theorem dX1_init_41 : decode cX1_init 41 = .ok (.aload_n 0, 1) := by decide +kernel
theorem dX1_init_42 : decode cX1_init 42 = .ok (.iconst 0, 1) := by decide +kernel
theorem dX1_init_43 : decode cX1_init 43 = .ok (.putfield 34, 3) := by decide +kernel
theorem dX1_init_46 : decode cX1_init 46 = .ok (.aload_n 0, 1) := by decide +kernel
theorem dX1_init_47 : decode cX1_init 47 = .ok (.new 37, 3) := by decide +kernel
theorem dX1_init_50 : decode cX1_init 50 = .ok (.dup, 1) := by decide +kernel
theorem dX1_init_51 : decode cX1_init 51 = .ok (.invokespecial 39, 3) := by decide +kernel
theorem dX1_init_54 : decode cX1_init 54 = .ok (.putfield 40, 3) := by decide +kernel
theorem dX1_init_57 : decode cX1_init 57 = .ok (.aload_n 0, 1) := by decide +kernel
theorem dX1_init_58 : decode cX1_init 58 = .ok (.iconst 5, 1) := by decide +kernel
theorem dX1_init_59 : decode cX1_init 59 = .ok (.newarray .int, 2) := by decide +kernel
theorem dX1_init_61 : decode cX1_init 61 = .ok (.putfield 44, 3) := by decide +kernel
theorem dX1_init_64 : decode cX1_init 64 = .ok (.aload_n 0, 1) := by decide +kernel
theorem dX1_init_65 : decode cX1_init 65 = .ok (.iconst 4, 1) := by decide +kernel
theorem dX1_init_66 : decode cX1_init 66 = .ok (.newarray .int, 2) := by decide +kernel
theorem dX1_init_68 : decode cX1_init 68 = .ok (.putfield 47, 3) := by decide +kernel
theorem dX1_init_71 : decode cX1_init 71 = .ok (.aload_n 0, 1) := by decide +kernel
theorem dX1_init_72 : decode cX1_init 72 = .ok (.iconst 4, 1) := by decide +kernel
theorem dX1_init_73 : decode cX1_init 73 = .ok (.bipush 25, 2) := by decide +kernel
theorem dX1_init_75 : decode cX1_init 75 = .ok (.multianewarray 50 2, 4) := by decide +kernel
theorem dX1_init_79 : decode cX1_init 79 = .ok (.putfield 52, 3) := by decide +kernel
theorem dX1_init_82 : decode cX1_init 82 = .ok (.aload_n 0, 1) := by decide +kernel
theorem dX1_init_83 : decode cX1_init 83 = .ok (.iconst 4, 1) := by decide +kernel
theorem dX1_init_84 : decode cX1_init 84 = .ok (.iconst 4, 1) := by decide +kernel
theorem dX1_init_85 : decode cX1_init 85 = .ok (.multianewarray 50 2, 4) := by decide +kernel
theorem dX1_init_89 : decode cX1_init 89 = .ok (.putfield 55, 3) := by decide +kernel
theorem dX1_init_92 : decode cX1_init 92 = .ok (.aload_n 0, 1) := by decide +kernel
theorem dX1_init_93 : decode cX1_init 93 = .ok (.iconst 4, 1) := by decide +kernel
theorem dX1_init_94 : decode cX1_init 94 = .ok (.newarray .int, 2) := by decide +kernel
theorem dX1_init_96 : decode cX1_init 96 = .ok (.putfield 58, 3) := by decide +kernel
theorem dX1_init_99 : decode cX1_init 99 = .ok (.return_, 1) := by decide +kernel
set_option maxRecDepth 20000 in
theorem ggX1_search_X1_prepare : GoodIn wsX1_search wsX1_prepare := goodIn_r _ [7, 8, 1, 9, 10, 11, 12, 13, 14, 15, 16, 17, 18, 19, 97, 98, 99, 83, 84, 85, 86, 87, 88, 89, 90, 91, 92, 93, 94, 95, 96] (by decide +kernel) (by decide +kernel)
set_option maxRecDepth 20000 in
theorem gX1_search_X1_prepare : GoodIn wsX1_search (wsV RX1 61 RX1 yX1_prepare wsX1_prepare) := goodIn_app (goodIn_of _ (by decide +kernel)) ggX1_search_X1_prepare
set_option maxRecDepth 20000 in
theorem ggX1_search_X1_measureSpans : GoodIn wsX1_search wsX1_measureSpans := goodIn_r _ [23, 1, 24, 25, 12, 19, 15, 16, 17, 18, 83, 84, 85, 86, 87, 88, 89, 90, 91, 92, 93, 94, 95, 96] (by decide +kernel) (by decide +kernel)
set_option maxRecDepth 20000 in
theorem gX1_search_X1_measureSpans : GoodIn wsX1_search (wsV RX1 66 RX1 yX1_measureSpans wsX1_measureSpans) := goodIn_app (goodIn_of _ (by decide +kernel)) ggX1_search_X1_measureSpans
set_option maxRecDepth 20000 in
theorem ggX1_search_X1_seekFair : GoodIn wsX1_search wsX1_seekFair := goodIn_r _ [29, 30, 1, 2, 31, 32, 33, 34, 35, 36, 37, 17, 38, 39, 40, 41, 42, 43, 44, 45, 46, 47, 48, 49, 50, 51, 52, 6, 53, 54, 25, 10, 9, 14, 55, 56, 57, 58, 59, 60, 19, 61, 62, 63, 64, 83, 84, 85, 86, 87, 88, 89, 90, 91, 92, 93, 94, 95, 96, 100, 101, 102] (by decide +kernel) (by decide +kernel)
set_option maxRecDepth 20000 in
theorem gX1_search_X1_seekFair : GoodIn wsX1_search (wsV RX1 69 RX1 yX1_seekFair wsX1_seekFair) := goodIn_app (goodIn_of _ (by decide +kernel)) ggX1_search_X1_seekFair
set_option maxRecDepth 20000 in
theorem ggX1_search_X1_seekQuiet : GoodIn wsX1_search wsX1_seekQuiet := goodIn_r _ [68, 30, 1, 2, 31, 32, 33, 34, 35, 36, 37, 17, 38, 39, 40, 41, 42, 43, 44, 45, 46, 47, 48, 49, 69, 70, 71, 6, 72, 54, 25, 24, 73, 74, 75, 76, 11, 77, 19, 78, 61, 62, 63, 64, 83, 84, 85, 86, 87, 88, 89, 90, 91, 92, 93, 94, 95, 96, 100, 101, 102] (by decide +kernel) (by decide +kernel)
set_option maxRecDepth 20000 in
theorem gX1_search_X1_seekQuiet : GoodIn wsX1_search (wsV RX1 72 RX1 yX1_seekQuiet wsX1_seekQuiet) := goodIn_app (goodIn_of _ (by decide +kernel)) ggX1_search_X1_seekQuiet
set_option maxRecDepth 20000 in
theorem ggX1_search_X1_nextCuts : GoodIn wsX1_search wsX1_nextCuts := goodIn_r _ [82, 1, 19, 83, 84, 85, 86, 87, 88, 89, 90, 91, 92, 93, 94, 95, 96] (by decide +kernel) (by decide +kernel)
set_option maxRecDepth 20000 in
theorem gX1_search_X1_nextCuts : GoodIn wsX1_search (wsV RX1 75 RX1 yX1_nextCuts wsX1_nextCuts) := goodIn_app (goodIn_of _ (by decide +kernel)) ggX1_search_X1_nextCuts
theorem dX1_search_0 : decode cX1_search 0 = .ok (.aload_n 0, 1) := by decide +kernel
theorem dX1_search_1 : decode cX1_search 1 = .ok (.aload_n 1, 1) := by decide +kernel
theorem dX1_search_2 : decode cX1_search 2 = .ok (.invokevirtual 61, 3) := by decide +kernel
theorem dX1_search_5 : decode cX1_search 5 = .ok (.aload_n 0, 1) := by decide +kernel
theorem dX1_search_6 : decode cX1_search 6 = .ok (.getfield 34, 3) := by decide +kernel
theorem dX1_search_9 : decode cX1_search 9 = .ok (.iconst 1, 1) := by decide +kernel
theorem dX1_search_10 : decode cX1_search 10 = .ok (.if_icmp .lt 7, 3) := by decide +kernel
theorem dX1_search_13 : decode cX1_search 13 = .ok (.iconst 1, 1) := by decide +kernel
theorem dX1_search_14 : decode cX1_search 14 = .ok (.goto 4, 3) := by decide +kernel
theorem dX1_search_17 : decode cX1_search 17 = .ok (.iconst 0, 1) := by decide +kernel
theorem dX1_search_18 : decode cX1_search 18 = .ok (.istore_n 2, 1) := by decide +kernel
theorem dX1_search_19 : decode cX1_search 19 = .ok (.iconst 0, 1) := by decide +kernel
theorem dX1_search_20 : decode cX1_search 20 = .ok (.istore_n 3, 1) := by decide +kernel
theorem dX1_search_21 : decode cX1_search 21 = .ok (.iload_n 2, 1) := by decide +kernel
theorem dX1_search_22 : decode cX1_search 22 = .ok (.ifCond .eq 32, 3) := by decide +kernel
theorem dX1_search_25 : decode cX1_search 25 = .ok (.iload_n 3, 1) := by decide +kernel
theorem dX1_search_26 : decode cX1_search 26 = .ok (.ldc 65, 2) := by decide +kernel
theorem dX1_search_28 : decode cX1_search 28 = .ok (.if_icmp .ge 26, 3) := by decide +kernel
theorem dX1_search_31 : decode cX1_search 31 = .ok (.aload_n 0, 1) := by decide +kernel
theorem dX1_search_32 : decode cX1_search 32 = .ok (.invokevirtual 66, 3) := by decide +kernel
theorem dX1_search_35 : decode cX1_search 35 = .ok (.aload_n 0, 1) := by decide +kernel
theorem dX1_search_36 : decode cX1_search 36 = .ok (.invokevirtual 69, 3) := by decide +kernel
theorem dX1_search_39 : decode cX1_search 39 = .ok (.aload_n 0, 1) := by decide +kernel
theorem dX1_search_40 : decode cX1_search 40 = .ok (.invokevirtual 72, 3) := by decide +kernel
theorem dX1_search_43 : decode cX1_search 43 = .ok (.aload_n 0, 1) := by decide +kernel
theorem dX1_search_44 : decode cX1_search 44 = .ok (.invokevirtual 75, 3) := by decide +kernel
theorem dX1_search_47 : decode cX1_search 47 = .ok (.istore_n 2, 1) := by decide +kernel
theorem dX1_search_48 : decode cX1_search 48 = .ok (.iinc 3 1, 3) := by decide +kernel
theorem dX1_search_51 : decode cX1_search 51 = .ok (.goto (-30), 3) := by decide +kernel
theorem dX1_search_54 : decode cX1_search 54 = .ok (.return_, 1) := by decide +kernel
theorem dX1_prepare_0 : decode cX1_prepare 0 = .ok (.aload_n 0, 1) := by decide +kernel
theorem dX1_prepare_1 : decode cX1_prepare 1 = .ok (.aload_n 1, 1) := by decide +kernel
theorem dX1_prepare_2 : decode cX1_prepare 2 = .ok (.getfield 79, 3) := by decide +kernel
theorem dX1_prepare_5 : decode cX1_prepare 5 = .ok (.putfield 34, 3) := by decide +kernel
theorem dX1_prepare_8 : decode cX1_prepare 8 = .ok (.aload_n 0, 1) := by decide +kernel
theorem dX1_prepare_9 : decode cX1_prepare 9 = .ok (.iconst (-1), 1) := by decide +kernel
theorem dX1_prepare_10 : decode cX1_prepare 10 = .ok (.putfield 9, 3) := by decide +kernel
theorem dX1_prepare_13 : decode cX1_prepare 13 = .ok (.aload_n 0, 1) := by decide +kernel
theorem dX1_prepare_14 : decode cX1_prepare 14 = .ok (.iconst 1, 1) := by decide +kernel
theorem dX1_prepare_15 : decode cX1_prepare 15 = .ok (.putfield 15, 3) := by decide +kernel
theorem dX1_prepare_18 : decode cX1_prepare 18 = .ok (.aload_n 0, 1) := by decide +kernel
theorem dX1_prepare_19 : decode cX1_prepare 19 = .ok (.iconst 0, 1) := by decide +kernel
theorem dX1_prepare_20 : decode cX1_prepare 20 = .ok (.putfield 25, 3) := by decide +kernel
theorem dX1_prepare_23 : decode cX1_prepare 23 = .ok (.iconst 0, 1) := by decide +kernel
theorem dX1_prepare_24 : decode cX1_prepare 24 = .ok (.istore_n 2, 1) := by decide +kernel
theorem dX1_prepare_25 : decode cX1_prepare 25 = .ok (.iload_n 2, 1) := by decide +kernel
theorem dX1_prepare_26 : decode cX1_prepare 26 = .ok (.aload_n 0, 1) := by decide +kernel
theorem dX1_prepare_27 : decode cX1_prepare 27 = .ok (.getfield 34, 3) := by decide +kernel
theorem dX1_prepare_30 : decode cX1_prepare 30 = .ok (.if_icmp .ge 69, 3) := by decide +kernel
theorem dX1_prepare_33 : decode cX1_prepare 33 = .ok (.iconst 0, 1) := by decide +kernel
theorem dX1_prepare_34 : decode cX1_prepare 34 = .ok (.istore_n 3, 1) := by decide +kernel
theorem dX1_prepare_35 : decode cX1_prepare 35 = .ok (.iload_n 3, 1) := by decide +kernel
theorem dX1_prepare_36 : decode cX1_prepare 36 = .ok (.bipush 24, 2) := by decide +kernel
theorem dX1_prepare_38 : decode cX1_prepare 38 = .ok (.if_icmp .ge 36, 3) := by decide +kernel
theorem dX1_prepare_41 : decode cX1_prepare 41 = .ok (.aload_n 0, 1) := by decide +kernel
theorem dX1_prepare_42 : decode cX1_prepare 42 = .ok (.getfield 52, 3) := by decide +kernel
theorem dX1_prepare_45 : decode cX1_prepare 45 = .ok (.iload_n 2, 1) := by decide +kernel
theorem dX1_prepare_46 : decode cX1_prepare 46 = .ok (.aaload, 1) := by decide +kernel
theorem dX1_prepare_47 : decode cX1_prepare 47 = .ok (.iload_n 3, 1) := by decide +kernel
theorem dX1_prepare_48 : decode cX1_prepare 48 = .ok (.iconst 1, 1) := by decide +kernel
theorem dX1_prepare_49 : decode cX1_prepare 49 = .ok (.iadd, 1) := by decide +kernel
theorem dX1_prepare_50 : decode cX1_prepare 50 = .ok (.aload_n 0, 1) := by decide +kernel
theorem dX1_prepare_51 : decode cX1_prepare 51 = .ok (.getfield 52, 3) := by decide +kernel
theorem dX1_prepare_54 : decode cX1_prepare 54 = .ok (.iload_n 2, 1) := by decide +kernel
theorem dX1_prepare_55 : decode cX1_prepare 55 = .ok (.aaload, 1) := by decide +kernel
theorem dX1_prepare_56 : decode cX1_prepare 56 = .ok (.iload_n 3, 1) := by decide +kernel
theorem dX1_prepare_57 : decode cX1_prepare 57 = .ok (.iaload, 1) := by decide +kernel
theorem dX1_prepare_58 : decode cX1_prepare 58 = .ok (.aload_n 1, 1) := by decide +kernel
theorem dX1_prepare_59 : decode cX1_prepare 59 = .ok (.getfield 84, 3) := by decide +kernel
theorem dX1_prepare_62 : decode cX1_prepare 62 = .ok (.iload_n 2, 1) := by decide +kernel
theorem dX1_prepare_63 : decode cX1_prepare 63 = .ok (.aaload, 1) := by decide +kernel
theorem dX1_prepare_64 : decode cX1_prepare 64 = .ok (.iload_n 3, 1) := by decide +kernel
theorem dX1_prepare_65 : decode cX1_prepare 65 = .ok (.iaload, 1) := by decide +kernel
theorem dX1_prepare_66 : decode cX1_prepare 66 = .ok (.iadd, 1) := by decide +kernel
theorem dX1_prepare_67 : decode cX1_prepare 67 = .ok (.iastore, 1) := by decide +kernel
theorem dX1_prepare_68 : decode cX1_prepare 68 = .ok (.iinc 3 1, 3) := by decide +kernel
theorem dX1_prepare_71 : decode cX1_prepare 71 = .ok (.goto (-36), 3) := by decide +kernel
theorem dX1_prepare_74 : decode cX1_prepare 74 = .ok (.aload_n 0, 1) := by decide +kernel
theorem dX1_prepare_75 : decode cX1_prepare 75 = .ok (.getfield 47, 3) := by decide +kernel
theorem dX1_prepare_78 : decode cX1_prepare 78 = .ok (.iload_n 2, 1) := by decide +kernel
theorem dX1_prepare_79 : decode cX1_prepare 79 = .ok (.iconst 1, 1) := by decide +kernel
theorem dX1_prepare_80 : decode cX1_prepare 80 = .ok (.aload_n 0, 1) := by decide +kernel
theorem dX1_prepare_81 : decode cX1_prepare 81 = .ok (.getfield 52, 3) := by decide +kernel
theorem dX1_prepare_84 : decode cX1_prepare 84 = .ok (.iload_n 2, 1) := by decide +kernel
theorem dX1_prepare_85 : decode cX1_prepare 85 = .ok (.aaload, 1) := by decide +kernel
theorem dX1_prepare_86 : decode cX1_prepare 86 = .ok (.bipush 24, 2) := by decide +kernel
theorem dX1_prepare_88 : decode cX1_prepare 88 = .ok (.iaload, 1) := by decide +kernel
theorem dX1_prepare_89 : decode cX1_prepare 89 = .ok (.invokestatic 87, 3) := by decide +kernel
theorem dX1_prepare_92 : decode cX1_prepare 92 = .ok (.iastore, 1) := by decide +kernel
theorem dX1_prepare_93 : decode cX1_prepare 93 = .ok (.iinc 2 1, 3) := by decide +kernel
theorem dX1_prepare_96 : decode cX1_prepare 96 = .ok (.goto (-71), 3) := by decide +kernel
theorem dX1_prepare_99 : decode cX1_prepare 99 = .ok (.iconst 0, 1) := by decide +kernel
theorem dX1_prepare_100 : decode cX1_prepare 100 = .ok (.istore_n 2, 1) := by decide +kernel
theorem dX1_prepare_101 : decode cX1_prepare 101 = .ok (.iload_n 2, 1) := by decide +kernel
theorem dX1_prepare_102 : decode cX1_prepare 102 = .ok (.aload_n 0, 1) := by decide +kernel
theorem dX1_prepare_103 : decode cX1_prepare 103 = .ok (.getfield 34, 3) := by decide +kernel
theorem dX1_prepare_106 : decode cX1_prepare 106 = .ok (.if_icmp .ge 16, 3) := by decide +kernel
theorem dX1_prepare_109 : decode cX1_prepare 109 = .ok (.aload_n 0, 1) := by decide +kernel
theorem dX1_prepare_110 : decode cX1_prepare 110 = .ok (.getfield 44, 3) := by decide +kernel
theorem dX1_prepare_113 : decode cX1_prepare 113 = .ok (.iload_n 2, 1) := by decide +kernel
theorem dX1_prepare_114 : decode cX1_prepare 114 = .ok (.iload_n 2, 1) := by decide +kernel
theorem dX1_prepare_115 : decode cX1_prepare 115 = .ok (.iastore, 1) := by decide +kernel
theorem dX1_prepare_116 : decode cX1_prepare 116 = .ok (.iinc 2 1, 3) := by decide +kernel
theorem dX1_prepare_119 : decode cX1_prepare 119 = .ok (.goto (-18), 3) := by decide +kernel
theorem dX1_prepare_122 : decode cX1_prepare 122 = .ok (.aload_n 0, 1) := by decide +kernel
theorem dX1_prepare_123 : decode cX1_prepare 123 = .ok (.getfield 44, 3) := by decide +kernel
theorem dX1_prepare_126 : decode cX1_prepare 126 = .ok (.aload_n 0, 1) := by decide +kernel
theorem dX1_prepare_127 : decode cX1_prepare 127 = .ok (.getfield 34, 3) := by decide +kernel
theorem dX1_prepare_130 : decode cX1_prepare 130 = .ok (.bipush 24, 2) := by decide +kernel
theorem dX1_prepare_132 : decode cX1_prepare 132 = .ok (.iastore, 1) := by decide +kernel
theorem dX1_prepare_133 : decode cX1_prepare 133 = .ok (.return_, 1) := by decide +kernel
theorem dX1_nextCuts_0 : decode cX1_nextCuts 0 = .ok (.aload_n 0, 1) := by decide +kernel
theorem dX1_nextCuts_1 : decode cX1_nextCuts 1 = .ok (.getfield 34, 3) := by decide +kernel
theorem dX1_nextCuts_4 : decode cX1_nextCuts 4 = .ok (.iconst 1, 1) := by decide +kernel
theorem dX1_nextCuts_5 : decode cX1_nextCuts 5 = .ok (.isub, 1) := by decide +kernel
theorem dX1_nextCuts_6 : decode cX1_nextCuts 6 = .ok (.istore_n 1, 1) := by decide +kernel
theorem dX1_nextCuts_7 : decode cX1_nextCuts 7 = .ok (.iload_n 1, 1) := by decide +kernel
theorem dX1_nextCuts_8 : decode cX1_nextCuts 8 = .ok (.iconst 1, 1) := by decide +kernel
theorem dX1_nextCuts_9 : decode cX1_nextCuts 9 = .ok (.if_icmp .lt 73, 3) := by decide +kernel
theorem dX1_nextCuts_12 : decode cX1_nextCuts 12 = .ok (.aload_n 0, 1) := by decide +kernel
theorem dX1_nextCuts_13 : decode cX1_nextCuts 13 = .ok (.getfield 44, 3) := by decide +kernel
theorem dX1_nextCuts_16 : decode cX1_nextCuts 16 = .ok (.iload_n 1, 1) := by decide +kernel
theorem dX1_nextCuts_17 : decode cX1_nextCuts 17 = .ok (.iaload, 1) := by decide +kernel
theorem dX1_nextCuts_18 : decode cX1_nextCuts 18 = .ok (.bipush 24, 2) := by decide +kernel
theorem dX1_nextCuts_20 : decode cX1_nextCuts 20 = .ok (.aload_n 0, 1) := by decide +kernel
theorem dX1_nextCuts_21 : decode cX1_nextCuts 21 = .ok (.getfield 34, 3) := by decide +kernel
theorem dX1_nextCuts_24 : decode cX1_nextCuts 24 = .ok (.isub, 1) := by decide +kernel
theorem dX1_nextCuts_25 : decode cX1_nextCuts 25 = .ok (.iload_n 1, 1) := by decide +kernel
theorem dX1_nextCuts_26 : decode cX1_nextCuts 26 = .ok (.iadd, 1) := by decide +kernel
theorem dX1_nextCuts_27 : decode cX1_nextCuts 27 = .ok (.if_icmp .ge 49, 3) := by decide +kernel
theorem dX1_nextCuts_30 : decode cX1_nextCuts 30 = .ok (.aload_n 0, 1) := by decide +kernel
theorem dX1_nextCuts_31 : decode cX1_nextCuts 31 = .ok (.getfield 44, 3) := by decide +kernel
theorem dX1_nextCuts_34 : decode cX1_nextCuts 34 = .ok (.iload_n 1, 1) := by decide +kernel
theorem dX1_nextCuts_35 : decode cX1_nextCuts 35 = .ok (.dup2, 1) := by decide +kernel
theorem dX1_nextCuts_36 : decode cX1_nextCuts 36 = .ok (.iaload, 1) := by decide +kernel
theorem dX1_nextCuts_37 : decode cX1_nextCuts 37 = .ok (.iconst 1, 1) := by decide +kernel
theorem dX1_nextCuts_38 : decode cX1_nextCuts 38 = .ok (.iadd, 1) := by decide +kernel
theorem dX1_nextCuts_39 : decode cX1_nextCuts 39 = .ok (.iastore, 1) := by decide +kernel
theorem dX1_nextCuts_40 : decode cX1_nextCuts 40 = .ok (.iload_n 1, 1) := by decide +kernel
theorem dX1_nextCuts_41 : decode cX1_nextCuts 41 = .ok (.iconst 1, 1) := by decide +kernel
theorem dX1_nextCuts_42 : decode cX1_nextCuts 42 = .ok (.iadd, 1) := by decide +kernel
theorem dX1_nextCuts_43 : decode cX1_nextCuts 43 = .ok (.istore_n 2, 1) := by decide +kernel
theorem dX1_nextCuts_44 : decode cX1_nextCuts 44 = .ok (.iload_n 2, 1) := by decide +kernel
theorem dX1_nextCuts_45 : decode cX1_nextCuts 45 = .ok (.aload_n 0, 1) := by decide +kernel
theorem dX1_nextCuts_46 : decode cX1_nextCuts 46 = .ok (.getfield 34, 3) := by decide +kernel
theorem dX1_nextCuts_49 : decode cX1_nextCuts 49 = .ok (.if_icmp .ge 25, 3) := by decide +kernel
theorem dX1_nextCuts_52 : decode cX1_nextCuts 52 = .ok (.aload_n 0, 1) := by decide +kernel
theorem dX1_nextCuts_53 : decode cX1_nextCuts 53 = .ok (.getfield 44, 3) := by decide +kernel
theorem dX1_nextCuts_56 : decode cX1_nextCuts 56 = .ok (.iload_n 2, 1) := by decide +kernel
theorem dX1_nextCuts_57 : decode cX1_nextCuts 57 = .ok (.aload_n 0, 1) := by decide +kernel
theorem dX1_nextCuts_58 : decode cX1_nextCuts 58 = .ok (.getfield 44, 3) := by decide +kernel
theorem dX1_nextCuts_61 : decode cX1_nextCuts 61 = .ok (.iload_n 2, 1) := by decide +kernel
theorem dX1_nextCuts_62 : decode cX1_nextCuts 62 = .ok (.iconst 1, 1) := by decide +kernel
theorem dX1_nextCuts_63 : decode cX1_nextCuts 63 = .ok (.isub, 1) := by decide +kernel
theorem dX1_nextCuts_64 : decode cX1_nextCuts 64 = .ok (.iaload, 1) := by decide +kernel
theorem dX1_nextCuts_65 : decode cX1_nextCuts 65 = .ok (.iconst 1, 1) := by decide +kernel
theorem dX1_nextCuts_66 : decode cX1_nextCuts 66 = .ok (.iadd, 1) := by decide +kernel
theorem dX1_nextCuts_67 : decode cX1_nextCuts 67 = .ok (.iastore, 1) := by decide +kernel
theorem dX1_nextCuts_68 : decode cX1_nextCuts 68 = .ok (.iinc 2 1, 3) := by decide +kernel
theorem dX1_nextCuts_71 : decode cX1_nextCuts 71 = .ok (.goto (-27), 3) := by decide +kernel
theorem dX1_nextCuts_74 : decode cX1_nextCuts 74 = .ok (.iconst 1, 1) := by decide +kernel
theorem dX1_nextCuts_75 : decode cX1_nextCuts 75 = .ok (.ireturn, 1) := by decide +kernel
theorem dX1_nextCuts_76 : decode cX1_nextCuts 76 = .ok (.iinc 1 (-1), 3) := by decide +kernel
theorem dX1_nextCuts_79 : decode cX1_nextCuts 79 = .ok (.goto (-72), 3) := by decide +kernel
theorem dX1_nextCuts_82 : decode cX1_nextCuts 82 = .ok (.iconst 0, 1) := by decide +kernel
theorem dX1_nextCuts_83 : decode cX1_nextCuts 83 = .ok (.ireturn, 1) := by decide +kernel
theorem dX1_measureSpans_0 : decode cX1_measureSpans 0 = .ok (.iconst 0, 1) := by decide +kernel
theorem dX1_measureSpans_1 : decode cX1_measureSpans 1 = .ok (.istore_n 1, 1) := by decide +kernel
theorem dX1_measureSpans_2 : decode cX1_measureSpans 2 = .ok (.iload_n 1, 1) := by decide +kernel
theorem dX1_measureSpans_3 : decode cX1_measureSpans 3 = .ok (.aload_n 0, 1) := by decide +kernel
theorem dX1_measureSpans_4 : decode cX1_measureSpans 4 = .ok (.getfield 34, 3) := by decide +kernel
theorem dX1_measureSpans_7 : decode cX1_measureSpans 7 = .ok (.if_icmp .ge 92, 3) := by decide +kernel
theorem dX1_measureSpans_10 : decode cX1_measureSpans 10 = .ok (.aload_n 0, 1) := by decide +kernel
theorem dX1_measureSpans_11 : decode cX1_measureSpans 11 = .ok (.getfield 58, 3) := by decide +kernel
theorem dX1_measureSpans_14 : decode cX1_measureSpans 14 = .ok (.iload_n 1, 1) := by decide +kernel
theorem dX1_measureSpans_15 : decode cX1_measureSpans 15 = .ok (.iconst 0, 1) := by decide +kernel
theorem dX1_measureSpans_16 : decode cX1_measureSpans 16 = .ok (.iastore, 1) := by decide +kernel
theorem dX1_measureSpans_17 : decode cX1_measureSpans 17 = .ok (.iconst 0, 1) := by decide +kernel
theorem dX1_measureSpans_18 : decode cX1_measureSpans 18 = .ok (.istore_n 2, 1) := by decide +kernel
theorem dX1_measureSpans_19 : decode cX1_measureSpans 19 = .ok (.iload_n 2, 1) := by decide +kernel
theorem dX1_measureSpans_20 : decode cX1_measureSpans 20 = .ok (.aload_n 0, 1) := by decide +kernel
theorem dX1_measureSpans_21 : decode cX1_measureSpans 21 = .ok (.getfield 34, 3) := by decide +kernel
theorem dX1_measureSpans_24 : decode cX1_measureSpans 24 = .ok (.if_icmp .ge 69, 3) := by decide +kernel
theorem dX1_measureSpans_27 : decode cX1_measureSpans 27 = .ok (.aload_n 0, 1) := by decide +kernel
theorem dX1_measureSpans_28 : decode cX1_measureSpans 28 = .ok (.getfield 55, 3) := by decide +kernel
theorem dX1_measureSpans_31 : decode cX1_measureSpans 31 = .ok (.iload_n 1, 1) := by decide +kernel
theorem dX1_measureSpans_32 : decode cX1_measureSpans 32 = .ok (.aaload, 1) := by decide +kernel
theorem dX1_measureSpans_33 : decode cX1_measureSpans 33 = .ok (.iload_n 2, 1) := by decide +kernel
theorem dX1_measureSpans_34 : decode cX1_measureSpans 34 = .ok (.aload_n 0, 1) := by decide +kernel
theorem dX1_measureSpans_35 : decode cX1_measureSpans 35 = .ok (.getfield 52, 3) := by decide +kernel
theorem dX1_measureSpans_38 : decode cX1_measureSpans 38 = .ok (.iload_n 1, 1) := by decide +kernel
theorem dX1_measureSpans_39 : decode cX1_measureSpans 39 = .ok (.aaload, 1) := by decide +kernel
theorem dX1_measureSpans_40 : decode cX1_measureSpans 40 = .ok (.aload_n 0, 1) := by decide +kernel
theorem dX1_measureSpans_41 : decode cX1_measureSpans 41 = .ok (.getfield 44, 3) := by decide +kernel
theorem dX1_measureSpans_44 : decode cX1_measureSpans 44 = .ok (.iload_n 2, 1) := by decide +kernel
theorem dX1_measureSpans_45 : decode cX1_measureSpans 45 = .ok (.iconst 1, 1) := by decide +kernel
theorem dX1_measureSpans_46 : decode cX1_measureSpans 46 = .ok (.iadd, 1) := by decide +kernel
theorem dX1_measureSpans_47 : decode cX1_measureSpans 47 = .ok (.iaload, 1) := by decide +kernel
theorem dX1_measureSpans_48 : decode cX1_measureSpans 48 = .ok (.iaload, 1) := by decide +kernel
theorem dX1_measureSpans_49 : decode cX1_measureSpans 49 = .ok (.aload_n 0, 1) := by decide +kernel
theorem dX1_measureSpans_50 : decode cX1_measureSpans 50 = .ok (.getfield 52, 3) := by decide +kernel
theorem dX1_measureSpans_53 : decode cX1_measureSpans 53 = .ok (.iload_n 1, 1) := by decide +kernel
theorem dX1_measureSpans_54 : decode cX1_measureSpans 54 = .ok (.aaload, 1) := by decide +kernel
theorem dX1_measureSpans_55 : decode cX1_measureSpans 55 = .ok (.aload_n 0, 1) := by decide +kernel
theorem dX1_measureSpans_56 : decode cX1_measureSpans 56 = .ok (.getfield 44, 3) := by decide +kernel
theorem dX1_measureSpans_59 : decode cX1_measureSpans 59 = .ok (.iload_n 2, 1) := by decide +kernel
theorem dX1_measureSpans_60 : decode cX1_measureSpans 60 = .ok (.iaload, 1) := by decide +kernel
theorem dX1_measureSpans_61 : decode cX1_measureSpans 61 = .ok (.iaload, 1) := by decide +kernel
theorem dX1_measureSpans_62 : decode cX1_measureSpans 62 = .ok (.isub, 1) := by decide +kernel
theorem dX1_measureSpans_63 : decode cX1_measureSpans 63 = .ok (.iastore, 1) := by decide +kernel
theorem dX1_measureSpans_64 : decode cX1_measureSpans 64 = .ok (.aload_n 0, 1) := by decide +kernel
theorem dX1_measureSpans_65 : decode cX1_measureSpans 65 = .ok (.getfield 58, 3) := by decide +kernel
theorem dX1_measureSpans_68 : decode cX1_measureSpans 68 = .ok (.iload_n 1, 1) := by decide +kernel
theorem dX1_measureSpans_69 : decode cX1_measureSpans 69 = .ok (.aload_n 0, 1) := by decide +kernel
theorem dX1_measureSpans_70 : decode cX1_measureSpans 70 = .ok (.getfield 58, 3) := by decide +kernel
theorem dX1_measureSpans_73 : decode cX1_measureSpans 73 = .ok (.iload_n 1, 1) := by decide +kernel
theorem dX1_measureSpans_74 : decode cX1_measureSpans 74 = .ok (.iaload, 1) := by decide +kernel
theorem dX1_measureSpans_75 : decode cX1_measureSpans 75 = .ok (.aload_n 0, 1) := by decide +kernel
theorem dX1_measureSpans_76 : decode cX1_measureSpans 76 = .ok (.getfield 55, 3) := by decide +kernel
theorem dX1_measureSpans_79 : decode cX1_measureSpans 79 = .ok (.iload_n 1, 1) := by decide +kernel
theorem dX1_measureSpans_80 : decode cX1_measureSpans 80 = .ok (.aaload, 1) := by decide +kernel
theorem dX1_measureSpans_81 : decode cX1_measureSpans 81 = .ok (.iload_n 2, 1) := by decide +kernel
theorem dX1_measureSpans_82 : decode cX1_measureSpans 82 = .ok (.iaload, 1) := by decide +kernel
theorem dX1_measureSpans_83 : decode cX1_measureSpans 83 = .ok (.invokestatic 87, 3) := by decide +kernel
theorem dX1_measureSpans_86 : decode cX1_measureSpans 86 = .ok (.iastore, 1) := by decide +kernel
theorem dX1_measureSpans_87 : decode cX1_measureSpans 87 = .ok (.iinc 2 1, 3) := by decide +kernel
theorem dX1_measureSpans_90 : decode cX1_measureSpans 90 = .ok (.goto (-71), 3) := by decide +kernel
theorem dX1_measureSpans_93 : decode cX1_measureSpans 93 = .ok (.iinc 1 1, 3) := by decide +kernel
theorem dX1_measureSpans_96 : decode cX1_measureSpans 96 = .ok (.goto (-94), 3) := by decide +kernel
theorem dX1_measureSpans_99 : decode cX1_measureSpans 99 = .ok (.return_, 1) := by decide +kernel
set_option maxRecDepth 20000 in
theorem ggX1_seekFair_X4_begin : GoodIn wsX1_seekFair wsX4_begin := goodIn_r _ [8, 9, 10, 11, 12, 13, 14, 15, 16, 17, 7, 18, 19, 20, 21, 22, 23, 59, 60, 61] (by decide +kernel) (by decide +kernel)
set_option maxRecDepth 20000 in
theorem gX1_seekFair_X4_begin : GoodIn wsX1_seekFair (wsV RX1 93 RX4 yX4_begin wsX4_begin) := goodIn_app (goodIn_of _ (by decide +kernel)) ggX1_seekFair_X4_begin
set_option maxRecDepth 20000 in
theorem ggX1_seekFair_X1_firstPoor : GoodIn wsX1_seekFair wsX1_firstPoor := goodIn_r _ [28, 2, 1, 29, 30, 31, 32, 33, 45, 46, 47, 48, 49, 50, 51, 52, 53, 54, 55, 56, 57, 58, 59, 60, 61] (by decide +kernel) (by decide +kernel)
set_option maxRecDepth 20000 in
theorem gX1_seekFair_X1_firstPoor : GoodIn wsX1_seekFair (wsV RX1 97 RX1 yX1_firstPoor wsX1_firstPoor) := goodIn_app (goodIn_of _ (by decide +kernel)) ggX1_seekFair_X1_firstPoor
set_option maxRecDepth 20000 in
theorem ggX1_seekFair_X1_keepFair : GoodIn wsX1_seekFair wsX1_keepFair := goodIn_r _ [37, 1, 29, 38, 30, 32, 33, 31, 2, 39, 40, 45, 46, 47, 48, 49, 50, 51, 52, 53, 54, 55, 56, 57, 58, 59, 60, 61] (by decide +kernel) (by decide +kernel)
set_option maxRecDepth 20000 in
theorem gX1_seekFair_X1_keepFair : GoodIn wsX1_seekFair (wsV RX1 101 RX1 yX1_keepFair wsX1_keepFair) := goodIn_app (goodIn_of _ (by decide +kernel)) ggX1_seekFair_X1_keepFair
set_option maxRecDepth 20000 in
theorem ggX1_seekFair_X4_advance : GoodIn wsX1_seekFair wsX4_advance := goodIn_r _ [44, 13, 9, 10, 11, 12, 19, 14, 20, 21, 22, 7, 23, 15, 16, 17, 18, 59, 60, 61] (by decide +kernel) (by decide +kernel)
set_option maxRecDepth 20000 in
theorem gX1_seekFair_X4_advance : GoodIn wsX1_seekFair (wsV RX1 104 RX4 yX4_advance wsX4_advance) := goodIn_app (goodIn_of _ (by decide +kernel)) ggX1_seekFair_X4_advance
theorem dX1_seekFair_0 : decode cX1_seekFair 0 = .ok (.aload_n 0, 1) := by decide +kernel
theorem dX1_seekFair_1 : decode cX1_seekFair 1 = .ok (.getfield 40, 3) := by decide +kernel
theorem dX1_seekFair_4 : decode cX1_seekFair 4 = .ok (.aload_n 0, 1) := by decide +kernel
theorem dX1_seekFair_5 : decode cX1_seekFair 5 = .ok (.getfield 34, 3) := by decide +kernel
theorem dX1_seekFair_8 : decode cX1_seekFair 8 = .ok (.aload_n 0, 1) := by decide +kernel
theorem dX1_seekFair_9 : decode cX1_seekFair 9 = .ok (.getfield 34, 3) := by decide +kernel
theorem dX1_seekFair_12 : decode cX1_seekFair 12 = .ok (.invokevirtual 93, 3) := by decide +kernel
theorem dX1_seekFair_15 : decode cX1_seekFair 15 = .ok (.iconst 1, 1) := by decide +kernel
theorem dX1_seekFair_16 : decode cX1_seekFair 16 = .ok (.istore_n 1, 1) := by decide +kernel
theorem dX1_seekFair_17 : decode cX1_seekFair 17 = .ok (.iconst 0, 1) := by decide +kernel
theorem dX1_seekFair_18 : decode cX1_seekFair 18 = .ok (.istore_n 2, 1) := by decide +kernel
theorem dX1_seekFair_19 : decode cX1_seekFair 19 = .ok (.iload_n 1, 1) := by decide +kernel
theorem dX1_seekFair_20 : decode cX1_seekFair 20 = .ok (.ifCond .eq 41, 3) := by decide +kernel
theorem dX1_seekFair_23 : decode cX1_seekFair 23 = .ok (.iload_n 2, 1) := by decide +kernel
theorem dX1_seekFair_24 : decode cX1_seekFair 24 = .ok (.ldc 65, 2) := by decide +kernel
theorem dX1_seekFair_26 : decode cX1_seekFair 26 = .ok (.if_icmp .ge 35, 3) := by decide +kernel
theorem dX1_seekFair_29 : decode cX1_seekFair 29 = .ok (.aload_n 0, 1) := by decide +kernel
theorem dX1_seekFair_30 : decode cX1_seekFair 30 = .ok (.invokevirtual 97, 3) := by decide +kernel
theorem dX1_seekFair_33 : decode cX1_seekFair 33 = .ok (.istore_n 3, 1) := by decide +kernel
theorem dX1_seekFair_34 : decode cX1_seekFair 34 = .ok (.iload_n 3, 1) := by decide +kernel
theorem dX1_seekFair_35 : decode cX1_seekFair 35 = .ok (.aload_n 0, 1) := by decide +kernel
theorem dX1_seekFair_36 : decode cX1_seekFair 36 = .ok (.getfield 34, 3) := by decide +kernel
theorem dX1_seekFair_39 : decode cX1_seekFair 39 = .ok (.if_icmp .ne 7, 3) := by decide +kernel
theorem dX1_seekFair_42 : decode cX1_seekFair 42 = .ok (.aload_n 0, 1) := by decide +kernel
theorem dX1_seekFair_43 : decode cX1_seekFair 43 = .ok (.invokevirtual 101, 3) := by decide +kernel
theorem dX1_seekFair_46 : decode cX1_seekFair 46 = .ok (.aload_n 0, 1) := by decide +kernel
theorem dX1_seekFair_47 : decode cX1_seekFair 47 = .ok (.getfield 40, 3) := by decide +kernel
theorem dX1_seekFair_50 : decode cX1_seekFair 50 = .ok (.iload_n 3, 1) := by decide +kernel
theorem dX1_seekFair_51 : decode cX1_seekFair 51 = .ok (.invokevirtual 104, 3) := by decide +kernel
theorem dX1_seekFair_54 : decode cX1_seekFair 54 = .ok (.istore_n 1, 1) := by decide +kernel
theorem dX1_seekFair_55 : decode cX1_seekFair 55 = .ok (.iinc 2 1, 3) := by decide +kernel
theorem dX1_seekFair_58 : decode cX1_seekFair 58 = .ok (.goto (-39), 3) := by decide +kernel
theorem dX1_seekFair_61 : decode cX1_seekFair 61 = .ok (.return_, 1) := by decide +kernel
theorem dX1_firstPoor_0 : decode cX1_firstPoor 0 = .ok (.iconst 0, 1) := by decide +kernel
theorem dX1_firstPoor_1 : decode cX1_firstPoor 1 = .ok (.istore_n 1, 1) := by decide +kernel
theorem dX1_firstPoor_2 : decode cX1_firstPoor 2 = .ok (.iload_n 1, 1) := by decide +kernel
theorem dX1_firstPoor_3 : decode cX1_firstPoor 3 = .ok (.aload_n 0, 1) := by decide +kernel
theorem dX1_firstPoor_4 : decode cX1_firstPoor 4 = .ok (.getfield 34, 3) := by decide +kernel
theorem dX1_firstPoor_7 : decode cX1_firstPoor 7 = .ok (.if_icmp .ge 48, 3) := by decide +kernel
theorem dX1_firstPoor_10 : decode cX1_firstPoor 10 = .ok (.aload_n 0, 1) := by decide +kernel
theorem dX1_firstPoor_11 : decode cX1_firstPoor 11 = .ok (.getfield 40, 3) := by decide +kernel
theorem dX1_firstPoor_14 : decode cX1_firstPoor 14 = .ok (.getfield 108, 3) := by decide +kernel
theorem dX1_firstPoor_17 : decode cX1_firstPoor 17 = .ok (.iload_n 1, 1) := by decide +kernel
theorem dX1_firstPoor_18 : decode cX1_firstPoor 18 = .ok (.iaload, 1) := by decide +kernel
theorem dX1_firstPoor_19 : decode cX1_firstPoor 19 = .ok (.istore_n 2, 1) := by decide +kernel
theorem dX1_firstPoor_20 : decode cX1_firstPoor 20 = .ok (.aload_n 0, 1) := by decide +kernel
theorem dX1_firstPoor_21 : decode cX1_firstPoor 21 = .ok (.getfield 55, 3) := by decide +kernel
theorem dX1_firstPoor_24 : decode cX1_firstPoor 24 = .ok (.iload_n 2, 1) := by decide +kernel
theorem dX1_firstPoor_25 : decode cX1_firstPoor 25 = .ok (.aaload, 1) := by decide +kernel
theorem dX1_firstPoor_26 : decode cX1_firstPoor 26 = .ok (.iload_n 1, 1) := by decide +kernel
theorem dX1_firstPoor_27 : decode cX1_firstPoor 27 = .ok (.iaload, 1) := by decide +kernel
theorem dX1_firstPoor_28 : decode cX1_firstPoor 28 = .ok (.aload_n 0, 1) := by decide +kernel
theorem dX1_firstPoor_29 : decode cX1_firstPoor 29 = .ok (.getfield 15, 3) := by decide +kernel
theorem dX1_firstPoor_32 : decode cX1_firstPoor 32 = .ok (.imul, 1) := by decide +kernel
theorem dX1_firstPoor_33 : decode cX1_firstPoor 33 = .ok (.aload_n 0, 1) := by decide +kernel
theorem dX1_firstPoor_34 : decode cX1_firstPoor 34 = .ok (.getfield 9, 3) := by decide +kernel
theorem dX1_firstPoor_37 : decode cX1_firstPoor 37 = .ok (.aload_n 0, 1) := by decide +kernel
theorem dX1_firstPoor_38 : decode cX1_firstPoor 38 = .ok (.getfield 47, 3) := by decide +kernel
theorem dX1_firstPoor_41 : decode cX1_firstPoor 41 = .ok (.iload_n 2, 1) := by decide +kernel
theorem dX1_firstPoor_42 : decode cX1_firstPoor 42 = .ok (.iaload, 1) := by decide +kernel
theorem dX1_firstPoor_43 : decode cX1_firstPoor 43 = .ok (.imul, 1) := by decide +kernel
theorem dX1_firstPoor_44 : decode cX1_firstPoor 44 = .ok (.if_icmp .gt 5, 3) := by decide +kernel
theorem dX1_firstPoor_47 : decode cX1_firstPoor 47 = .ok (.iload_n 1, 1) := by decide +kernel
theorem dX1_firstPoor_48 : decode cX1_firstPoor 48 = .ok (.ireturn, 1) := by decide +kernel
theorem dX1_firstPoor_49 : decode cX1_firstPoor 49 = .ok (.iinc 1 1, 3) := by decide +kernel
theorem dX1_firstPoor_52 : decode cX1_firstPoor 52 = .ok (.goto (-50), 3) := by decide +kernel
theorem dX1_firstPoor_55 : decode cX1_firstPoor 55 = .ok (.aload_n 0, 1) := by decide +kernel
theorem dX1_firstPoor_56 : decode cX1_firstPoor 56 = .ok (.getfield 34, 3) := by decide +kernel
theorem dX1_firstPoor_59 : decode cX1_firstPoor 59 = .ok (.ireturn, 1) := by decide +kernel
theorem dX1_keepFair_0 : decode cX1_keepFair 0 = .ok (.aload_n 0, 1) := by decide +kernel
theorem dX1_keepFair_1 : decode cX1_keepFair 1 = .ok (.aload_n 0, 1) := by decide +kernel
theorem dX1_keepFair_2 : decode cX1_keepFair 2 = .ok (.getfield 40, 3) := by decide +kernel
theorem dX1_keepFair_5 : decode cX1_keepFair 5 = .ok (.getfield 108, 3) := by decide +kernel
theorem dX1_keepFair_8 : decode cX1_keepFair 8 = .ok (.iconst 0, 1) := by decide +kernel
theorem dX1_keepFair_9 : decode cX1_keepFair 9 = .ok (.iaload, 1) := by decide +kernel
theorem dX1_keepFair_10 : decode cX1_keepFair 10 = .ok (.putfield 18, 3) := by decide +kernel
theorem dX1_keepFair_13 : decode cX1_keepFair 13 = .ok (.aload_n 0, 1) := by decide +kernel
theorem dX1_keepFair_14 : decode cX1_keepFair 14 = .ok (.aload_n 0, 1) := by decide +kernel
theorem dX1_keepFair_15 : decode cX1_keepFair 15 = .ok (.getfield 55, 3) := by decide +kernel
theorem dX1_keepFair_18 : decode cX1_keepFair 18 = .ok (.aload_n 0, 1) := by decide +kernel
theorem dX1_keepFair_19 : decode cX1_keepFair 19 = .ok (.getfield 18, 3) := by decide +kernel
theorem dX1_keepFair_22 : decode cX1_keepFair 22 = .ok (.aaload, 1) := by decide +kernel
theorem dX1_keepFair_23 : decode cX1_keepFair 23 = .ok (.iconst 0, 1) := by decide +kernel
theorem dX1_keepFair_24 : decode cX1_keepFair 24 = .ok (.iaload, 1) := by decide +kernel
theorem dX1_keepFair_25 : decode cX1_keepFair 25 = .ok (.putfield 9, 3) := by decide +kernel
theorem dX1_keepFair_28 : decode cX1_keepFair 28 = .ok (.aload_n 0, 1) := by decide +kernel
theorem dX1_keepFair_29 : decode cX1_keepFair 29 = .ok (.aload_n 0, 1) := by decide +kernel
theorem dX1_keepFair_30 : decode cX1_keepFair 30 = .ok (.getfield 47, 3) := by decide +kernel
theorem dX1_keepFair_33 : decode cX1_keepFair 33 = .ok (.aload_n 0, 1) := by decide +kernel
theorem dX1_keepFair_34 : decode cX1_keepFair 34 = .ok (.getfield 18, 3) := by decide +kernel
theorem dX1_keepFair_37 : decode cX1_keepFair 37 = .ok (.iaload, 1) := by decide +kernel
theorem dX1_keepFair_38 : decode cX1_keepFair 38 = .ok (.putfield 15, 3) := by decide +kernel
theorem dX1_keepFair_41 : decode cX1_keepFair 41 = .ok (.iconst 0, 1) := by decide +kernel
theorem dX1_keepFair_42 : decode cX1_keepFair 42 = .ok (.istore_n 1, 1) := by decide +kernel
theorem dX1_keepFair_43 : decode cX1_keepFair 43 = .ok (.iload_n 1, 1) := by decide +kernel
theorem dX1_keepFair_44 : decode cX1_keepFair 44 = .ok (.aload_n 0, 1) := by decide +kernel
theorem dX1_keepFair_45 : decode cX1_keepFair 45 = .ok (.getfield 34, 3) := by decide +kernel
theorem dX1_keepFair_48 : decode cX1_keepFair 48 = .ok (.if_icmp .ge 80, 3) := by decide +kernel
theorem dX1_keepFair_51 : decode cX1_keepFair 51 = .ok (.aload_n 0, 1) := by decide +kernel
theorem dX1_keepFair_52 : decode cX1_keepFair 52 = .ok (.getfield 40, 3) := by decide +kernel
theorem dX1_keepFair_55 : decode cX1_keepFair 55 = .ok (.getfield 108, 3) := by decide +kernel
theorem dX1_keepFair_58 : decode cX1_keepFair 58 = .ok (.iload_n 1, 1) := by decide +kernel
theorem dX1_keepFair_59 : decode cX1_keepFair 59 = .ok (.iaload, 1) := by decide +kernel
theorem dX1_keepFair_60 : decode cX1_keepFair 60 = .ok (.istore_n 2, 1) := by decide +kernel
theorem dX1_keepFair_61 : decode cX1_keepFair 61 = .ok (.aload_n 0, 1) := by decide +kernel
theorem dX1_keepFair_62 : decode cX1_keepFair 62 = .ok (.getfield 21, 3) := by decide +kernel
theorem dX1_keepFair_65 : decode cX1_keepFair 65 = .ok (.iload_n 1, 1) := by decide +kernel
theorem dX1_keepFair_66 : decode cX1_keepFair 66 = .ok (.aload_n 0, 1) := by decide +kernel
theorem dX1_keepFair_67 : decode cX1_keepFair 67 = .ok (.getfield 44, 3) := by decide +kernel
theorem dX1_keepFair_70 : decode cX1_keepFair 70 = .ok (.iload_n 1, 1) := by decide +kernel
theorem dX1_keepFair_71 : decode cX1_keepFair 71 = .ok (.iaload, 1) := by decide +kernel
theorem dX1_keepFair_72 : decode cX1_keepFair 72 = .ok (.iastore, 1) := by decide +kernel
theorem dX1_keepFair_73 : decode cX1_keepFair 73 = .ok (.aload_n 0, 1) := by decide +kernel
theorem dX1_keepFair_74 : decode cX1_keepFair 74 = .ok (.getfield 55, 3) := by decide +kernel
theorem dX1_keepFair_77 : decode cX1_keepFair 77 = .ok (.iload_n 2, 1) := by decide +kernel
theorem dX1_keepFair_78 : decode cX1_keepFair 78 = .ok (.aaload, 1) := by decide +kernel
theorem dX1_keepFair_79 : decode cX1_keepFair 79 = .ok (.iload_n 1, 1) := by decide +kernel
theorem dX1_keepFair_80 : decode cX1_keepFair 80 = .ok (.iaload, 1) := by decide +kernel
theorem dX1_keepFair_81 : decode cX1_keepFair 81 = .ok (.aload_n 0, 1) := by decide +kernel
theorem dX1_keepFair_82 : decode cX1_keepFair 82 = .ok (.getfield 15, 3) := by decide +kernel
theorem dX1_keepFair_85 : decode cX1_keepFair 85 = .ok (.imul, 1) := by decide +kernel
theorem dX1_keepFair_86 : decode cX1_keepFair 86 = .ok (.aload_n 0, 1) := by decide +kernel
theorem dX1_keepFair_87 : decode cX1_keepFair 87 = .ok (.getfield 9, 3) := by decide +kernel
theorem dX1_keepFair_90 : decode cX1_keepFair 90 = .ok (.aload_n 0, 1) := by decide +kernel
theorem dX1_keepFair_91 : decode cX1_keepFair 91 = .ok (.getfield 47, 3) := by decide +kernel
theorem dX1_keepFair_94 : decode cX1_keepFair 94 = .ok (.iload_n 2, 1) := by decide +kernel
theorem dX1_keepFair_95 : decode cX1_keepFair 95 = .ok (.iaload, 1) := by decide +kernel
theorem dX1_keepFair_96 : decode cX1_keepFair 96 = .ok (.imul, 1) := by decide +kernel
theorem dX1_keepFair_97 : decode cX1_keepFair 97 = .ok (.if_icmp .ge 25, 3) := by decide +kernel
theorem dX1_keepFair_100 : decode cX1_keepFair 100 = .ok (.aload_n 0, 1) := by decide +kernel
theorem dX1_keepFair_101 : decode cX1_keepFair 101 = .ok (.aload_n 0, 1) := by decide +kernel
theorem dX1_keepFair_102 : decode cX1_keepFair 102 = .ok (.getfield 55, 3) := by decide +kernel
theorem dX1_keepFair_105 : decode cX1_keepFair 105 = .ok (.iload_n 2, 1) := by decide +kernel
theorem dX1_keepFair_106 : decode cX1_keepFair 106 = .ok (.aaload, 1) := by decide +kernel
theorem dX1_keepFair_107 : decode cX1_keepFair 107 = .ok (.iload_n 1, 1) := by decide +kernel
theorem dX1_keepFair_108 : decode cX1_keepFair 108 = .ok (.iaload, 1) := by decide +kernel
theorem dX1_keepFair_109 : decode cX1_keepFair 109 = .ok (.putfield 9, 3) := by decide +kernel
theorem dX1_keepFair_112 : decode cX1_keepFair 112 = .ok (.aload_n 0, 1) := by decide +kernel
theorem dX1_keepFair_113 : decode cX1_keepFair 113 = .ok (.aload_n 0, 1) := by decide +kernel
theorem dX1_keepFair_114 : decode cX1_keepFair 114 = .ok (.getfield 47, 3) := by decide +kernel
theorem dX1_keepFair_117 : decode cX1_keepFair 117 = .ok (.iload_n 2, 1) := by decide +kernel
theorem dX1_keepFair_118 : decode cX1_keepFair 118 = .ok (.iaload, 1) := by decide +kernel
theorem dX1_keepFair_119 : decode cX1_keepFair 119 = .ok (.putfield 15, 3) := by decide +kernel
theorem dX1_keepFair_122 : decode cX1_keepFair 122 = .ok (.iinc 1 1, 3) := by decide +kernel
theorem dX1_keepFair_125 : decode cX1_keepFair 125 = .ok (.goto (-82), 3) := by decide +kernel
theorem dX1_keepFair_128 : decode cX1_keepFair 128 = .ok (.return_, 1) := by decide +kernel
set_option maxRecDepth 20000 in
theorem ggX1_seekQuiet_X4_begin : GoodIn wsX1_seekQuiet wsX4_begin := goodIn_r _ [8, 9, 10, 11, 12, 13, 14, 15, 16, 17, 7, 18, 19, 20, 21, 22, 23, 58, 59, 60] (by decide +kernel) (by decide +kernel)
set_option maxRecDepth 20000 in
theorem gX1_seekQuiet_X4_begin : GoodIn wsX1_seekQuiet (wsV RX1 93 RX4 yX4_begin wsX4_begin) := goodIn_app (goodIn_of _ (by decide +kernel)) ggX1_seekQuiet_X4_begin
set_option maxRecDepth 20000 in
theorem ggX1_seekQuiet_X1_firstEnvious : GoodIn wsX1_seekQuiet wsX1_firstEnvious := goodIn_r _ [28, 2, 1, 29, 30, 31, 44, 45, 46, 47, 48, 49, 50, 51, 52, 53, 54, 55, 56, 57, 58, 59, 60] (by decide +kernel) (by decide +kernel)
set_option maxRecDepth 20000 in
theorem gX1_seekQuiet_X1_firstEnvious : GoodIn wsX1_seekQuiet (wsV RX1 111 RX1 yX1_firstEnvious wsX1_firstEnvious) := goodIn_app (goodIn_of _ (by decide +kernel)) ggX1_seekQuiet_X1_firstEnvious
set_option maxRecDepth 20000 in
theorem ggX1_seekQuiet_X1_countQuiet : GoodIn wsX1_seekQuiet wsX1_countQuiet := goodIn_r _ [35, 36, 1, 29, 37, 38, 39, 44, 45, 46, 47, 48, 49, 50, 51, 52, 53, 54, 55, 56, 57, 58, 59, 60] (by decide +kernel) (by decide +kernel)
set_option maxRecDepth 20000 in
theorem gX1_seekQuiet_X1_countQuiet : GoodIn wsX1_seekQuiet (wsV RX1 114 RX1 yX1_countQuiet wsX1_countQuiet) := goodIn_app (goodIn_of _ (by decide +kernel)) ggX1_seekQuiet_X1_countQuiet
set_option maxRecDepth 20000 in
theorem ggX1_seekQuiet_X4_advance : GoodIn wsX1_seekQuiet wsX4_advance := goodIn_r _ [43, 13, 9, 10, 11, 12, 19, 14, 20, 21, 22, 7, 23, 15, 16, 17, 18, 58, 59, 60] (by decide +kernel) (by decide +kernel)
set_option maxRecDepth 20000 in
theorem gX1_seekQuiet_X4_advance : GoodIn wsX1_seekQuiet (wsV RX1 104 RX4 yX4_advance wsX4_advance) := goodIn_app (goodIn_of _ (by decide +kernel)) ggX1_seekQuiet_X4_advance
theorem dX1_seekQuiet_0 : decode cX1_seekQuiet 0 = .ok (.aload_n 0, 1) := by decide +kernel
theorem dX1_seekQuiet_1 : decode cX1_seekQuiet 1 = .ok (.getfield 40, 3) := by decide +kernel
theorem dX1_seekQuiet_4 : decode cX1_seekQuiet 4 = .ok (.aload_n 0, 1) := by decide +kernel
theorem dX1_seekQuiet_5 : decode cX1_seekQuiet 5 = .ok (.getfield 34, 3) := by decide +kernel
theorem dX1_seekQuiet_8 : decode cX1_seekQuiet 8 = .ok (.aload_n 0, 1) := by decide +kernel
theorem dX1_seekQuiet_9 : decode cX1_seekQuiet 9 = .ok (.getfield 34, 3) := by decide +kernel
theorem dX1_seekQuiet_12 : decode cX1_seekQuiet 12 = .ok (.invokevirtual 93, 3) := by decide +kernel
theorem dX1_seekQuiet_15 : decode cX1_seekQuiet 15 = .ok (.iconst 1, 1) := by decide +kernel
theorem dX1_seekQuiet_16 : decode cX1_seekQuiet 16 = .ok (.istore_n 1, 1) := by decide +kernel
theorem dX1_seekQuiet_17 : decode cX1_seekQuiet 17 = .ok (.iconst 0, 1) := by decide +kernel
theorem dX1_seekQuiet_18 : decode cX1_seekQuiet 18 = .ok (.istore_n 2, 1) := by decide +kernel
theorem dX1_seekQuiet_19 : decode cX1_seekQuiet 19 = .ok (.iload_n 1, 1) := by decide +kernel
theorem dX1_seekQuiet_20 : decode cX1_seekQuiet 20 = .ok (.ifCond .eq 41, 3) := by decide +kernel
theorem dX1_seekQuiet_23 : decode cX1_seekQuiet 23 = .ok (.iload_n 2, 1) := by decide +kernel
theorem dX1_seekQuiet_24 : decode cX1_seekQuiet 24 = .ok (.ldc 65, 2) := by decide +kernel
theorem dX1_seekQuiet_26 : decode cX1_seekQuiet 26 = .ok (.if_icmp .ge 35, 3) := by decide +kernel
theorem dX1_seekQuiet_29 : decode cX1_seekQuiet 29 = .ok (.aload_n 0, 1) := by decide +kernel
theorem dX1_seekQuiet_30 : decode cX1_seekQuiet 30 = .ok (.invokevirtual 111, 3) := by decide +kernel
theorem dX1_seekQuiet_33 : decode cX1_seekQuiet 33 = .ok (.istore_n 3, 1) := by decide +kernel
theorem dX1_seekQuiet_34 : decode cX1_seekQuiet 34 = .ok (.iload_n 3, 1) := by decide +kernel
theorem dX1_seekQuiet_35 : decode cX1_seekQuiet 35 = .ok (.aload_n 0, 1) := by decide +kernel
theorem dX1_seekQuiet_36 : decode cX1_seekQuiet 36 = .ok (.getfield 34, 3) := by decide +kernel
theorem dX1_seekQuiet_39 : decode cX1_seekQuiet 39 = .ok (.if_icmp .ne 7, 3) := by decide +kernel
theorem dX1_seekQuiet_42 : decode cX1_seekQuiet 42 = .ok (.aload_n 0, 1) := by decide +kernel
theorem dX1_seekQuiet_43 : decode cX1_seekQuiet 43 = .ok (.invokevirtual 114, 3) := by decide +kernel
theorem dX1_seekQuiet_46 : decode cX1_seekQuiet 46 = .ok (.aload_n 0, 1) := by decide +kernel
theorem dX1_seekQuiet_47 : decode cX1_seekQuiet 47 = .ok (.getfield 40, 3) := by decide +kernel
theorem dX1_seekQuiet_50 : decode cX1_seekQuiet 50 = .ok (.iload_n 3, 1) := by decide +kernel
theorem dX1_seekQuiet_51 : decode cX1_seekQuiet 51 = .ok (.invokevirtual 104, 3) := by decide +kernel
theorem dX1_seekQuiet_54 : decode cX1_seekQuiet 54 = .ok (.istore_n 1, 1) := by decide +kernel
theorem dX1_seekQuiet_55 : decode cX1_seekQuiet 55 = .ok (.iinc 2 1, 3) := by decide +kernel
theorem dX1_seekQuiet_58 : decode cX1_seekQuiet 58 = .ok (.goto (-39), 3) := by decide +kernel
theorem dX1_seekQuiet_61 : decode cX1_seekQuiet 61 = .ok (.return_, 1) := by decide +kernel
theorem dX1_firstEnvious_0 : decode cX1_firstEnvious 0 = .ok (.iconst 0, 1) := by decide +kernel
theorem dX1_firstEnvious_1 : decode cX1_firstEnvious 1 = .ok (.istore_n 1, 1) := by decide +kernel
theorem dX1_firstEnvious_2 : decode cX1_firstEnvious 2 = .ok (.iload_n 1, 1) := by decide +kernel
theorem dX1_firstEnvious_3 : decode cX1_firstEnvious 3 = .ok (.aload_n 0, 1) := by decide +kernel
theorem dX1_firstEnvious_4 : decode cX1_firstEnvious 4 = .ok (.getfield 34, 3) := by decide +kernel
theorem dX1_firstEnvious_7 : decode cX1_firstEnvious 7 = .ok (.if_icmp .ge 38, 3) := by decide +kernel
theorem dX1_firstEnvious_10 : decode cX1_firstEnvious 10 = .ok (.aload_n 0, 1) := by decide +kernel
theorem dX1_firstEnvious_11 : decode cX1_firstEnvious 11 = .ok (.getfield 40, 3) := by decide +kernel
theorem dX1_firstEnvious_14 : decode cX1_firstEnvious 14 = .ok (.getfield 108, 3) := by decide +kernel
theorem dX1_firstEnvious_17 : decode cX1_firstEnvious 17 = .ok (.iload_n 1, 1) := by decide +kernel
theorem dX1_firstEnvious_18 : decode cX1_firstEnvious 18 = .ok (.iaload, 1) := by decide +kernel
theorem dX1_firstEnvious_19 : decode cX1_firstEnvious 19 = .ok (.istore_n 2, 1) := by decide +kernel
theorem dX1_firstEnvious_20 : decode cX1_firstEnvious 20 = .ok (.aload_n 0, 1) := by decide +kernel
theorem dX1_firstEnvious_21 : decode cX1_firstEnvious 21 = .ok (.getfield 55, 3) := by decide +kernel
theorem dX1_firstEnvious_24 : decode cX1_firstEnvious 24 = .ok (.iload_n 2, 1) := by decide +kernel
theorem dX1_firstEnvious_25 : decode cX1_firstEnvious 25 = .ok (.aaload, 1) := by decide +kernel
theorem dX1_firstEnvious_26 : decode cX1_firstEnvious 26 = .ok (.iload_n 1, 1) := by decide +kernel
theorem dX1_firstEnvious_27 : decode cX1_firstEnvious 27 = .ok (.iaload, 1) := by decide +kernel
theorem dX1_firstEnvious_28 : decode cX1_firstEnvious 28 = .ok (.aload_n 0, 1) := by decide +kernel
theorem dX1_firstEnvious_29 : decode cX1_firstEnvious 29 = .ok (.getfield 58, 3) := by decide +kernel
theorem dX1_firstEnvious_32 : decode cX1_firstEnvious 32 = .ok (.iload_n 2, 1) := by decide +kernel
theorem dX1_firstEnvious_33 : decode cX1_firstEnvious 33 = .ok (.iaload, 1) := by decide +kernel
theorem dX1_firstEnvious_34 : decode cX1_firstEnvious 34 = .ok (.if_icmp .ge 5, 3) := by decide +kernel
theorem dX1_firstEnvious_37 : decode cX1_firstEnvious 37 = .ok (.iload_n 1, 1) := by decide +kernel
theorem dX1_firstEnvious_38 : decode cX1_firstEnvious 38 = .ok (.ireturn, 1) := by decide +kernel
end
section
theorem dX1_firstEnvious_39 : decode cX1_firstEnvious 39 = .ok (.iinc 1 1, 3) := by decide +kernel
theorem dX1_firstEnvious_42 : decode cX1_firstEnvious 42 = .ok (.goto (-40), 3) := by decide +kernel
theorem dX1_firstEnvious_45 : decode cX1_firstEnvious 45 = .ok (.aload_n 0, 1) := by decide +kernel
theorem dX1_firstEnvious_46 : decode cX1_firstEnvious 46 = .ok (.getfield 34, 3) := by decide +kernel
theorem dX1_firstEnvious_49 : decode cX1_firstEnvious 49 = .ok (.ireturn, 1) := by decide +kernel
theorem dX1_countQuiet_0 : decode cX1_countQuiet 0 = .ok (.aload_n 0, 1) := by decide +kernel
theorem dX1_countQuiet_1 : decode cX1_countQuiet 1 = .ok (.getfield 25, 3) := by decide +kernel
theorem dX1_countQuiet_4 : decode cX1_countQuiet 4 = .ok (.ifCond .ne 26, 3) := by decide +kernel
theorem dX1_countQuiet_7 : decode cX1_countQuiet 7 = .ok (.aload_n 0, 1) := by decide +kernel
theorem dX1_countQuiet_8 : decode cX1_countQuiet 8 = .ok (.aload_n 0, 1) := by decide +kernel
theorem dX1_countQuiet_9 : decode cX1_countQuiet 9 = .ok (.getfield 40, 3) := by decide +kernel
theorem dX1_countQuiet_12 : decode cX1_countQuiet 12 = .ok (.getfield 108, 3) := by decide +kernel
theorem dX1_countQuiet_15 : decode cX1_countQuiet 15 = .ok (.iconst 0, 1) := by decide +kernel
theorem dX1_countQuiet_16 : decode cX1_countQuiet 16 = .ok (.iaload, 1) := by decide +kernel
theorem dX1_countQuiet_17 : decode cX1_countQuiet 17 = .ok (.putfield 28, 3) := by decide +kernel
theorem dX1_countQuiet_20 : decode cX1_countQuiet 20 = .ok (.aload_n 0, 1) := by decide +kernel
theorem dX1_countQuiet_21 : decode cX1_countQuiet 21 = .ok (.aload_n 0, 1) := by decide +kernel
theorem dX1_countQuiet_22 : decode cX1_countQuiet 22 = .ok (.getfield 44, 3) := by decide +kernel
theorem dX1_countQuiet_25 : decode cX1_countQuiet 25 = .ok (.iconst 1, 1) := by decide +kernel
theorem dX1_countQuiet_26 : decode cX1_countQuiet 26 = .ok (.iaload, 1) := by decide +kernel
theorem dX1_countQuiet_27 : decode cX1_countQuiet 27 = .ok (.putfield 31, 3) := by decide +kernel
theorem dX1_countQuiet_30 : decode cX1_countQuiet 30 = .ok (.aload_n 0, 1) := by decide +kernel
theorem dX1_countQuiet_31 : decode cX1_countQuiet 31 = .ok (.dup, 1) := by decide +kernel
theorem dX1_countQuiet_32 : decode cX1_countQuiet 32 = .ok (.getfield 25, 3) := by decide +kernel
theorem dX1_countQuiet_35 : decode cX1_countQuiet 35 = .ok (.iconst 1, 1) := by decide +kernel
theorem dX1_countQuiet_36 : decode cX1_countQuiet 36 = .ok (.iadd, 1) := by decide +kernel
theorem dX1_countQuiet_37 : decode cX1_countQuiet 37 = .ok (.putfield 25, 3) := by decide +kernel
theorem dX1_countQuiet_40 : decode cX1_countQuiet 40 = .ok (.return_, 1) := by decide +kernel
theorem dX2_init_0 : decode cX2_init 0 = .ok (.aload_n 0, 1) := by decide +kernel
theorem dX2_init_1 : decode cX2_init 1 = .ok (.invokespecial 3, 3) := by decide +kernel
theorem dX2_init_4 : decode cX2_init 4 = .ok (.aload_n 0, 1) := by decide +kernel
theorem dX2_init_5 : decode cX2_init 5 = .ok (.bipush 24, 2) := by decide +kernel
theorem dX2_init_7 : decode cX2_init 7 = .ok (.newarray .int, 2) := by decide +kernel
theorem dX2_init_9 : decode cX2_init 9 = .ok (.putfield 9, 3) := by decide +kernel
theorem dX2_init_12 : decode cX2_init 12 = .ok (.return_, 1) := by decide +kernel
set_option maxRecDepth 20000 in
theorem ggX2_pass_X2_firstCaller : GoodIn wsX2_pass wsX2_firstCaller := goodIn_r _ [10, 11, 12, 13, 14, 15, 16, 17, 18, 19, 20, 21, 22, 23, 24, 25, 26, 31, 32, 33] (by decide +kernel) (by decide +kernel)
set_option maxRecDepth 20000 in
theorem gX2_pass_X2_firstCaller : GoodIn wsX2_pass (va_wsS RX2 24 yX2_firstCaller wsX2_firstCaller) := goodIn_app (goodIn_of _ (by decide +kernel)) ggX2_pass_X2_firstCaller
set_option maxRecDepth 20000 in
theorem ggX2_pass_X2_giveTo : GoodIn wsX2_pass wsX2_giveTo := goodIn_r _ [30, 2, 34] (by decide +kernel) (by decide +kernel)
set_option maxRecDepth 20000 in
theorem gX2_pass_X2_giveTo : GoodIn wsX2_pass (wsV RX2 28 RX2 yX2_giveTo wsX2_giveTo) := goodIn_app (goodIn_of _ (by decide +kernel)) ggX2_pass_X2_giveTo
theorem dX2_pass_0 : decode cX2_pass 0 = .ok (.aload_n 1, 1) := by decide +kernel
theorem dX2_pass_1 : decode cX2_pass 1 = .ok (.getfield 15, 3) := by decide +kernel
theorem dX2_pass_4 : decode cX2_pass 4 = .ok (.iconst 0, 1) := by decide +kernel
theorem dX2_pass_5 : decode cX2_pass 5 = .ok (.aload_n 0, 1) := by decide +kernel
theorem dX2_pass_6 : decode cX2_pass 6 = .ok (.getfield 9, 3) := by decide +kernel
theorem dX2_pass_9 : decode cX2_pass 9 = .ok (.iconst 0, 1) := by decide +kernel
theorem dX2_pass_10 : decode cX2_pass 10 = .ok (.bipush 24, 2) := by decide +kernel
theorem dX2_pass_12 : decode cX2_pass 12 = .ok (.invokestatic 18, 3) := by decide +kernel
theorem dX2_pass_15 : decode cX2_pass 15 = .ok (.iload_n 3, 1) := by decide +kernel
theorem dX2_pass_16 : decode cX2_pass 16 = .ok (.istore 4, 2) := by decide +kernel
theorem dX2_pass_18 : decode cX2_pass 18 = .ok (.iconst 0, 1) := by decide +kernel
theorem dX2_pass_19 : decode cX2_pass 19 = .ok (.istore 5, 2) := by decide +kernel
theorem dX2_pass_21 : decode cX2_pass 21 = .ok (.iconst 0, 1) := by decide +kernel
theorem dX2_pass_22 : decode cX2_pass 22 = .ok (.istore 6, 2) := by decide +kernel
theorem dX2_pass_24 : decode cX2_pass 24 = .ok (.iconst 0, 1) := by decide +kernel
theorem dX2_pass_25 : decode cX2_pass 25 = .ok (.istore 7, 2) := by decide +kernel
theorem dX2_pass_27 : decode cX2_pass 27 = .ok (.iload 7, 2) := by decide +kernel
theorem dX2_pass_29 : decode cX2_pass 29 = .ok (.bipush 24, 2) := by decide +kernel
theorem dX2_pass_31 : decode cX2_pass 31 = .ok (.if_icmp .ge 77, 3) := by decide +kernel
theorem dX2_pass_34 : decode cX2_pass 34 = .ok (.iload 4, 2) := by decide +kernel
theorem dX2_pass_36 : decode cX2_pass 36 = .ok (.ifCond .eq 72, 3) := by decide +kernel
theorem dX2_pass_39 : decode cX2_pass 39 = .ok (.aload_n 0, 1) := by decide +kernel
theorem dX2_pass_40 : decode cX2_pass 40 = .ok (.getfield 9, 3) := by decide +kernel
theorem dX2_pass_43 : decode cX2_pass 43 = .ok (.iload 7, 2) := by decide +kernel
theorem dX2_pass_45 : decode cX2_pass 45 = .ok (.iaload, 1) := by decide +kernel
theorem dX2_pass_46 : decode cX2_pass 46 = .ok (.iconst (-1), 1) := by decide +kernel
theorem dX2_pass_47 : decode cX2_pass 47 = .ok (.if_icmp .eq 6, 3) := by decide +kernel
theorem dX2_pass_50 : decode cX2_pass 50 = .ok (.goto 52, 3) := by decide +kernel
theorem dX2_pass_53 : decode cX2_pass 53 = .ok (.aload_n 1, 1) := by decide +kernel
theorem dX2_pass_54 : decode cX2_pass 54 = .ok (.iload_n 2, 1) := by decide +kernel
theorem dX2_pass_55 : decode cX2_pass 55 = .ok (.iload 4, 2) := by decide +kernel
theorem dX2_pass_57 : decode cX2_pass 57 = .ok (.iload 5, 2) := by decide +kernel
theorem dX2_pass_59 : decode cX2_pass 59 = .ok (.iload 7, 2) := by decide +kernel
theorem dX2_pass_61 : decode cX2_pass 61 = .ok (.invokestatic 24, 3) := by decide +kernel
theorem dX2_pass_64 : decode cX2_pass 64 = .ok (.istore 8, 2) := by decide +kernel
theorem dX2_pass_66 : decode cX2_pass 66 = .ok (.iload 8, 2) := by decide +kernel
theorem dX2_pass_68 : decode cX2_pass 68 = .ok (.iconst (-1), 1) := by decide +kernel
theorem dX2_pass_69 : decode cX2_pass 69 = .ok (.if_icmp .eq 33, 3) := by decide +kernel
theorem dX2_pass_72 : decode cX2_pass 72 = .ok (.aload_n 0, 1) := by decide +kernel
theorem dX2_pass_73 : decode cX2_pass 73 = .ok (.iload 8, 2) := by decide +kernel
theorem dX2_pass_75 : decode cX2_pass 75 = .ok (.iload 5, 2) := by decide +kernel
theorem dX2_pass_77 : decode cX2_pass 77 = .ok (.iload 7, 2) := by decide +kernel
theorem dX2_pass_79 : decode cX2_pass 79 = .ok (.invokevirtual 28, 3) := by decide +kernel
theorem dX2_pass_82 : decode cX2_pass 82 = .ok (.iload 4, 2) := by decide +kernel
theorem dX2_pass_84 : decode cX2_pass 84 = .ok (.iconst 1, 1) := by decide +kernel
theorem dX2_pass_85 : decode cX2_pass 85 = .ok (.iload 8, 2) := by decide +kernel
theorem dX2_pass_87 : decode cX2_pass 87 = .ok (.ishl, 1) := by decide +kernel
theorem dX2_pass_88 : decode cX2_pass 88 = .ok (.iconst (-1), 1) := by decide +kernel
theorem dX2_pass_89 : decode cX2_pass 89 = .ok (.ixor, 1) := by decide +kernel
theorem dX2_pass_90 : decode cX2_pass 90 = .ok (.iand, 1) := by decide +kernel
theorem dX2_pass_91 : decode cX2_pass 91 = .ok (.istore 4, 2) := by decide +kernel
theorem dX2_pass_93 : decode cX2_pass 93 = .ok (.iload 7, 2) := by decide +kernel
theorem dX2_pass_95 : decode cX2_pass 95 = .ok (.iconst 1, 1) := by decide +kernel
theorem dX2_pass_96 : decode cX2_pass 96 = .ok (.iadd, 1) := by decide +kernel
theorem dX2_pass_97 : decode cX2_pass 97 = .ok (.istore 5, 2) := by decide +kernel
theorem dX2_pass_99 : decode cX2_pass 99 = .ok (.iinc 6 1, 3) := by decide +kernel
theorem dX2_pass_102 : decode cX2_pass 102 = .ok (.iinc 7 1, 3) := by decide +kernel
theorem dX2_pass_105 : decode cX2_pass 105 = .ok (.goto (-78), 3) := by decide +kernel
theorem dX2_pass_108 : decode cX2_pass 108 = .ok (.iload 6, 2) := by decide +kernel
theorem dX2_pass_110 : decode cX2_pass 110 = .ok (.ireturn, 1) := by decide +kernel
set_option maxRecDepth 20000 in
theorem ggX2_firstCaller_X0_worthWithin : GoodIn wsX2_firstCaller wsX0_worthWithin := goodIn_r _ [6, 7, 8, 17, 18, 19] (by decide +kernel) (by decide +kernel)
set_option maxRecDepth 20000 in
theorem gX2_firstCaller_X0_worthWithin : GoodIn wsX2_firstCaller (wsV RX2 36 RX0 yX0_worthWithin wsX0_worthWithin) := goodIn_app (goodIn_of _ (by decide +kernel)) ggX2_firstCaller_X0_worthWithin
set_option maxRecDepth 20000 in
theorem ggX2_firstCaller_X0_total : GoodIn wsX2_firstCaller wsX0_total := goodIn_r _ [12, 13, 14, 15, 5, 16, 8, 17, 18, 19] (by decide +kernel) (by decide +kernel)
set_option maxRecDepth 20000 in
theorem gX2_firstCaller_X0_total : GoodIn wsX2_firstCaller (wsV RX2 40 RX0 yX0_total wsX0_total) := goodIn_app (goodIn_of _ (by decide +kernel)) ggX2_firstCaller_X0_total
theorem dX2_firstCaller_0 : decode cX2_firstCaller 0 = .ok (.iconst 0, 1) := by decide +kernel
theorem dX2_firstCaller_1 : decode cX2_firstCaller 1 = .ok (.istore 5, 2) := by decide +kernel
theorem dX2_firstCaller_3 : decode cX2_firstCaller 3 = .ok (.iload 5, 2) := by decide +kernel
theorem dX2_firstCaller_5 : decode cX2_firstCaller 5 = .ok (.aload_n 0, 1) := by decide +kernel
theorem dX2_firstCaller_6 : decode cX2_firstCaller 6 = .ok (.getfield 32, 3) := by decide +kernel
theorem dX2_firstCaller_9 : decode cX2_firstCaller 9 = .ok (.if_icmp .ge 58, 3) := by decide +kernel
theorem dX2_firstCaller_12 : decode cX2_firstCaller 12 = .ok (.iload_n 2, 1) := by decide +kernel
theorem dX2_firstCaller_13 : decode cX2_firstCaller 13 = .ok (.iload 5, 2) := by decide +kernel
theorem dX2_firstCaller_15 : decode cX2_firstCaller 15 = .ok (.ishr, 1) := by decide +kernel
theorem dX2_firstCaller_16 : decode cX2_firstCaller 16 = .ok (.iconst 1, 1) := by decide +kernel
theorem dX2_firstCaller_17 : decode cX2_firstCaller 17 = .ok (.iand, 1) := by decide +kernel
theorem dX2_firstCaller_18 : decode cX2_firstCaller 18 = .ok (.iconst 1, 1) := by decide +kernel
theorem dX2_firstCaller_19 : decode cX2_firstCaller 19 = .ok (.if_icmp .ne 7, 3) := by decide +kernel
theorem dX2_firstCaller_22 : decode cX2_firstCaller 22 = .ok (.iconst 1, 1) := by decide +kernel
theorem dX2_firstCaller_23 : decode cX2_firstCaller 23 = .ok (.goto 4, 3) := by decide +kernel
theorem dX2_firstCaller_26 : decode cX2_firstCaller 26 = .ok (.iconst 0, 1) := by decide +kernel
theorem dX2_firstCaller_27 : decode cX2_firstCaller 27 = .ok (.istore 6, 2) := by decide +kernel
theorem dX2_firstCaller_29 : decode cX2_firstCaller 29 = .ok (.iload 6, 2) := by decide +kernel
theorem dX2_firstCaller_31 : decode cX2_firstCaller 31 = .ok (.ifCond .eq 30, 3) := by decide +kernel
theorem dX2_firstCaller_34 : decode cX2_firstCaller 34 = .ok (.bipush 100, 2) := by decide +kernel
theorem dX2_firstCaller_36 : decode cX2_firstCaller 36 = .ok (.aload_n 0, 1) := by decide +kernel
theorem dX2_firstCaller_37 : decode cX2_firstCaller 37 = .ok (.iload 5, 2) := by decide +kernel
theorem dX2_firstCaller_39 : decode cX2_firstCaller 39 = .ok (.iconst (-1), 1) := by decide +kernel
theorem dX2_firstCaller_40 : decode cX2_firstCaller 40 = .ok (.iload_n 3, 1) := by decide +kernel
theorem dX2_firstCaller_41 : decode cX2_firstCaller 41 = .ok (.iload 4, 2) := by decide +kernel
theorem dX2_firstCaller_43 : decode cX2_firstCaller 43 = .ok (.invokevirtual 36, 3) := by decide +kernel
theorem dX2_firstCaller_46 : decode cX2_firstCaller 46 = .ok (.imul, 1) := by decide +kernel
theorem dX2_firstCaller_47 : decode cX2_firstCaller 47 = .ok (.iload_n 1, 1) := by decide +kernel
theorem dX2_firstCaller_48 : decode cX2_firstCaller 48 = .ok (.aload_n 0, 1) := by decide +kernel
theorem dX2_firstCaller_49 : decode cX2_firstCaller 49 = .ok (.iload 5, 2) := by decide +kernel
theorem dX2_firstCaller_51 : decode cX2_firstCaller 51 = .ok (.invokevirtual 40, 3) := by decide +kernel
theorem dX2_firstCaller_54 : decode cX2_firstCaller 54 = .ok (.imul, 1) := by decide +kernel
theorem dX2_firstCaller_55 : decode cX2_firstCaller 55 = .ok (.if_icmp .lt 6, 3) := by decide +kernel
theorem dX2_firstCaller_58 : decode cX2_firstCaller 58 = .ok (.iload 5, 2) := by decide +kernel
theorem dX2_firstCaller_60 : decode cX2_firstCaller 60 = .ok (.ireturn, 1) := by decide +kernel
theorem dX2_firstCaller_61 : decode cX2_firstCaller 61 = .ok (.iinc 5 1, 3) := by decide +kernel
theorem dX2_firstCaller_64 : decode cX2_firstCaller 64 = .ok (.goto (-61), 3) := by decide +kernel
theorem dX2_firstCaller_67 : decode cX2_firstCaller 67 = .ok (.iconst (-1), 1) := by decide +kernel
theorem dX2_firstCaller_68 : decode cX2_firstCaller 68 = .ok (.ireturn, 1) := by decide +kernel
theorem dX2_giveTo_0 : decode cX2_giveTo 0 = .ok (.iload_n 2, 1) := by decide +kernel
theorem dX2_giveTo_1 : decode cX2_giveTo 1 = .ok (.istore 4, 2) := by decide +kernel
theorem dX2_giveTo_3 : decode cX2_giveTo 3 = .ok (.iload 4, 2) := by decide +kernel
theorem dX2_giveTo_5 : decode cX2_giveTo 5 = .ok (.iload_n 3, 1) := by decide +kernel
theorem dX2_giveTo_6 : decode cX2_giveTo 6 = .ok (.if_icmp .gt 28, 3) := by decide +kernel
theorem dX2_giveTo_9 : decode cX2_giveTo 9 = .ok (.aload_n 0, 1) := by decide +kernel
theorem dX2_giveTo_10 : decode cX2_giveTo 10 = .ok (.getfield 9, 3) := by decide +kernel
theorem dX2_giveTo_13 : decode cX2_giveTo 13 = .ok (.iload 4, 2) := by decide +kernel
theorem dX2_giveTo_15 : decode cX2_giveTo 15 = .ok (.iaload, 1) := by decide +kernel
theorem dX2_giveTo_16 : decode cX2_giveTo 16 = .ok (.iconst (-1), 1) := by decide +kernel
theorem dX2_giveTo_17 : decode cX2_giveTo 17 = .ok (.if_icmp .ne 11, 3) := by decide +kernel
theorem dX2_giveTo_20 : decode cX2_giveTo 20 = .ok (.aload_n 0, 1) := by decide +kernel
theorem dX2_giveTo_21 : decode cX2_giveTo 21 = .ok (.getfield 9, 3) := by decide +kernel
theorem dX2_giveTo_24 : decode cX2_giveTo 24 = .ok (.iload 4, 2) := by decide +kernel
theorem dX2_giveTo_26 : decode cX2_giveTo 26 = .ok (.iload_n 1, 1) := by decide +kernel
theorem dX2_giveTo_27 : decode cX2_giveTo 27 = .ok (.iastore, 1) := by decide +kernel
theorem dX2_giveTo_28 : decode cX2_giveTo 28 = .ok (.iinc 4 1, 3) := by decide +kernel
theorem dX2_giveTo_31 : decode cX2_giveTo 31 = .ok (.goto (-28), 3) := by decide +kernel
theorem dX2_giveTo_34 : decode cX2_giveTo 34 = .ok (.return_, 1) := by decide +kernel
set_option maxRecDepth 20000 in
theorem ggX3_init_X4_init : GoodIn wsX3_init wsX4_init := goodIn_r _ [11, 12, 2, 3, 8, 13, 14, 15, 16, 17, 18] (by decide +kernel) (by decide +kernel)
set_option maxRecDepth 20000 in
theorem gX3_init_X4_init_n11 : GoodIn wsX3_init (wsX4_init) := ggX3_init_X4_init
theorem dX3_init_0 : decode cX3_init 0 = .ok (.aload_n 0, 1) := by decide +kernel
theorem dX3_init_1 : decode cX3_init 1 = .ok (.invokespecial 3, 3) := by decide +kernel
theorem dX3_init_4 : decode cX3_init 4 = .ok (.aload_n 0, 1) := by decide +kernel
theorem dX3_init_5 : decode cX3_init 5 = .ok (.new 9, 3) := by decide +kernel
theorem dX3_init_8 : decode cX3_init 8 = .ok (.dup, 1) := by decide +kernel
theorem dX3_init_9 : decode cX3_init 9 = .ok (.invokespecial 11, 3) := by decide +kernel
theorem dX3_init_12 : decode cX3_init 12 = .ok (.putfield 12, 3) := by decide +kernel
theorem dX3_init_15 : decode cX3_init 15 = .ok (.aload_n 0, 1) := by decide +kernel
theorem dX3_init_16 : decode cX3_init 16 = .ok (.iconst 4, 1) := by decide +kernel
theorem dX3_init_17 : decode cX3_init 17 = .ok (.newarray .int, 2) := by decide +kernel
theorem dX3_init_19 : decode cX3_init 19 = .ok (.putfield 18, 3) := by decide +kernel
theorem dX3_init_22 : decode cX3_init 22 = .ok (.return_, 1) := by decide +kernel
set_option maxRecDepth 20000 in
theorem ggX3_find_X3_drawArrows : GoodIn wsX3_find wsX3_drawArrows := goodIn_r _ [8, 1, 9, 10, 11, 12, 13, 14, 15, 16, 17, 18, 19, 20, 21, 22, 23, 24, 25, 26, 27, 28, 58, 59, 60, 61, 62] (by decide +kernel) (by decide +kernel)
set_option maxRecDepth 20000 in
theorem gX3_find_X3_drawArrows : GoodIn wsX3_find (wsV RX3 22 RX3 yX3_drawArrows wsX3_drawArrows) := goodIn_app (goodIn_of _ (by decide +kernel)) ggX3_find_X3_drawArrows
set_option maxRecDepth 20000 in
theorem ggX3_find_X4_begin : GoodIn wsX3_find wsX4_begin := goodIn_r _ [33, 34, 35, 17, 36, 37, 38, 39, 40, 41, 32, 42, 43, 44, 45, 46, 47, 63, 64, 65] (by decide +kernel) (by decide +kernel)
set_option maxRecDepth 20000 in
theorem gX3_find_X4_begin : GoodIn wsX3_find (wsV RX3 32 RX4 yX4_begin wsX4_begin) := goodIn_app (goodIn_of _ (by decide +kernel)) ggX3_find_X4_begin
set_option maxRecDepth 20000 in
theorem ggX3_find_X3_isRing : GoodIn wsX3_find wsX3_isRing := goodIn_r _ [51, 2, 52, 53, 9, 61, 62, 63, 64, 65] (by decide +kernel) (by decide +kernel)
set_option maxRecDepth 20000 in
theorem gX3_find_X3_isRing : GoodIn wsX3_find (wsV RX3 37 RX3 yX3_isRing wsX3_isRing) := goodIn_app (goodIn_of _ (by decide +kernel)) ggX3_find_X3_isRing
set_option maxRecDepth 20000 in
theorem ggX3_find_X4_advance : GoodIn wsX3_find wsX4_advance := goodIn_r _ [57, 37, 34, 35, 17, 36, 43, 38, 44, 45, 46, 32, 47, 39, 40, 41, 42, 63, 64, 65] (by decide +kernel) (by decide +kernel)
set_option maxRecDepth 20000 in
theorem gX3_find_X4_advance : GoodIn wsX3_find (wsV RX3 41 RX4 yX4_advance wsX4_advance) := goodIn_app (goodIn_of _ (by decide +kernel)) ggX3_find_X4_advance
theorem dX3_find_0 : decode cX3_find 0 = .ok (.aload_n 0, 1) := by decide +kernel
theorem dX3_find_1 : decode cX3_find 1 = .ok (.aload_n 1, 1) := by decide +kernel
theorem dX3_find_2 : decode cX3_find 2 = .ok (.invokevirtual 22, 3) := by decide +kernel
theorem dX3_find_5 : decode cX3_find 5 = .ok (.iconst 2, 1) := by decide +kernel
theorem dX3_find_6 : decode cX3_find 6 = .ok (.istore_n 2, 1) := by decide +kernel
theorem dX3_find_7 : decode cX3_find 7 = .ok (.iload_n 2, 1) := by decide +kernel
theorem dX3_find_8 : decode cX3_find 8 = .ok (.aload_n 1, 1) := by decide +kernel
theorem dX3_find_9 : decode cX3_find 9 = .ok (.getfield 26, 3) := by decide +kernel
theorem dX3_find_12 : decode cX3_find 12 = .ok (.if_icmp .gt 63, 3) := by decide +kernel
theorem dX3_find_15 : decode cX3_find 15 = .ok (.aload_n 0, 1) := by decide +kernel
theorem dX3_find_16 : decode cX3_find 16 = .ok (.getfield 12, 3) := by decide +kernel
theorem dX3_find_19 : decode cX3_find 19 = .ok (.iload_n 2, 1) := by decide +kernel
theorem dX3_find_20 : decode cX3_find 20 = .ok (.aload_n 1, 1) := by decide +kernel
theorem dX3_find_21 : decode cX3_find 21 = .ok (.getfield 26, 3) := by decide +kernel
theorem dX3_find_24 : decode cX3_find 24 = .ok (.invokevirtual 32, 3) := by decide +kernel
theorem dX3_find_27 : decode cX3_find 27 = .ok (.iconst 1, 1) := by decide +kernel
theorem dX3_find_28 : decode cX3_find 28 = .ok (.istore_n 3, 1) := by decide +kernel
theorem dX3_find_29 : decode cX3_find 29 = .ok (.iconst 0, 1) := by decide +kernel
theorem dX3_find_30 : decode cX3_find 30 = .ok (.istore 4, 2) := by decide +kernel
theorem dX3_find_32 : decode cX3_find 32 = .ok (.iload_n 3, 1) := by decide +kernel
theorem dX3_find_33 : decode cX3_find 33 = .ok (.ifCond .eq 36, 3) := by decide +kernel
theorem dX3_find_36 : decode cX3_find 36 = .ok (.iload 4, 2) := by decide +kernel
theorem dX3_find_38 : decode cX3_find 38 = .ok (.ldc 36, 2) := by decide +kernel
theorem dX3_find_40 : decode cX3_find 40 = .ok (.if_icmp .ge 29, 3) := by decide +kernel
theorem dX3_find_43 : decode cX3_find 43 = .ok (.aload_n 0, 1) := by decide +kernel
theorem dX3_find_44 : decode cX3_find 44 = .ok (.invokevirtual 37, 3) := by decide +kernel
theorem dX3_find_47 : decode cX3_find 47 = .ok (.ifCond .eq 5, 3) := by decide +kernel
theorem dX3_find_50 : decode cX3_find 50 = .ok (.iload_n 2, 1) := by decide +kernel
theorem dX3_find_51 : decode cX3_find 51 = .ok (.ireturn, 1) := by decide +kernel
theorem dX3_find_52 : decode cX3_find 52 = .ok (.aload_n 0, 1) := by decide +kernel
theorem dX3_find_53 : decode cX3_find 53 = .ok (.getfield 12, 3) := by decide +kernel
theorem dX3_find_56 : decode cX3_find 56 = .ok (.iload_n 2, 1) := by decide +kernel
theorem dX3_find_57 : decode cX3_find 57 = .ok (.iconst 1, 1) := by decide +kernel
theorem dX3_find_58 : decode cX3_find 58 = .ok (.isub, 1) := by decide +kernel
theorem dX3_find_59 : decode cX3_find 59 = .ok (.invokevirtual 41, 3) := by decide +kernel
theorem dX3_find_62 : decode cX3_find 62 = .ok (.istore_n 3, 1) := by decide +kernel
theorem dX3_find_63 : decode cX3_find 63 = .ok (.iinc 4 1, 3) := by decide +kernel
theorem dX3_find_66 : decode cX3_find 66 = .ok (.goto (-34), 3) := by decide +kernel
theorem dX3_find_69 : decode cX3_find 69 = .ok (.iinc 2 1, 3) := by decide +kernel
theorem dX3_find_72 : decode cX3_find 72 = .ok (.goto (-65), 3) := by decide +kernel
theorem dX3_find_75 : decode cX3_find 75 = .ok (.iconst 0, 1) := by decide +kernel
theorem dX3_find_76 : decode cX3_find 76 = .ok (.ireturn, 1) := by decide +kernel
set_option maxRecDepth 20000 in
theorem ggX3_drawArrows_X0_envyOf : GoodIn wsX3_drawArrows wsX0_envyOf := goodIn_r _ [7, 8, 9, 10, 11, 12, 13, 14, 6, 15, 16, 17, 18, 19, 20, 21, 22, 23, 24] (by decide +kernel) (by decide +kernel)
set_option maxRecDepth 20000 in
theorem gX3_drawArrows_X0_envyOf : GoodIn wsX3_drawArrows (wsV RX3 45 RX0 yX0_envyOf wsX0_envyOf) := goodIn_app (goodIn_of _ (by decide +kernel)) ggX3_drawArrows_X0_envyOf
theorem dX3_drawArrows_0 : decode cX3_drawArrows 0 = .ok (.iconst 0, 1) := by decide +kernel
theorem dX3_drawArrows_1 : decode cX3_drawArrows 1 = .ok (.istore_n 2, 1) := by decide +kernel
theorem dX3_drawArrows_2 : decode cX3_drawArrows 2 = .ok (.iload_n 2, 1) := by decide +kernel
theorem dX3_drawArrows_3 : decode cX3_drawArrows 3 = .ok (.aload_n 1, 1) := by decide +kernel
theorem dX3_drawArrows_4 : decode cX3_drawArrows 4 = .ok (.getfield 26, 3) := by decide +kernel
theorem dX3_drawArrows_7 : decode cX3_drawArrows 7 = .ok (.if_icmp .ge 53, 3) := by decide +kernel
theorem dX3_drawArrows_10 : decode cX3_drawArrows 10 = .ok (.aload_n 0, 1) := by decide +kernel
theorem dX3_drawArrows_11 : decode cX3_drawArrows 11 = .ok (.getfield 18, 3) := by decide +kernel
theorem dX3_drawArrows_14 : decode cX3_drawArrows 14 = .ok (.iload_n 2, 1) := by decide +kernel
theorem dX3_drawArrows_15 : decode cX3_drawArrows 15 = .ok (.iconst 0, 1) := by decide +kernel
theorem dX3_drawArrows_16 : decode cX3_drawArrows 16 = .ok (.iastore, 1) := by decide +kernel
theorem dX3_drawArrows_17 : decode cX3_drawArrows 17 = .ok (.iconst 0, 1) := by decide +kernel
theorem dX3_drawArrows_18 : decode cX3_drawArrows 18 = .ok (.istore_n 3, 1) := by decide +kernel
theorem dX3_drawArrows_19 : decode cX3_drawArrows 19 = .ok (.iload_n 3, 1) := by decide +kernel
theorem dX3_drawArrows_20 : decode cX3_drawArrows 20 = .ok (.aload_n 1, 1) := by decide +kernel
theorem dX3_drawArrows_21 : decode cX3_drawArrows 21 = .ok (.getfield 26, 3) := by decide +kernel
theorem dX3_drawArrows_24 : decode cX3_drawArrows 24 = .ok (.if_icmp .ge 30, 3) := by decide +kernel
theorem dX3_drawArrows_27 : decode cX3_drawArrows 27 = .ok (.aload_n 1, 1) := by decide +kernel
theorem dX3_drawArrows_28 : decode cX3_drawArrows 28 = .ok (.iload_n 2, 1) := by decide +kernel
theorem dX3_drawArrows_29 : decode cX3_drawArrows 29 = .ok (.iload_n 3, 1) := by decide +kernel
theorem dX3_drawArrows_30 : decode cX3_drawArrows 30 = .ok (.invokevirtual 45, 3) := by decide +kernel
theorem dX3_drawArrows_33 : decode cX3_drawArrows 33 = .ok (.ifCond .le 15, 3) := by decide +kernel
theorem dX3_drawArrows_36 : decode cX3_drawArrows 36 = .ok (.aload_n 0, 1) := by decide +kernel
theorem dX3_drawArrows_37 : decode cX3_drawArrows 37 = .ok (.getfield 18, 3) := by decide +kernel
theorem dX3_drawArrows_40 : decode cX3_drawArrows 40 = .ok (.iload_n 2, 1) := by decide +kernel
theorem dX3_drawArrows_41 : decode cX3_drawArrows 41 = .ok (.dup2, 1) := by decide +kernel
theorem dX3_drawArrows_42 : decode cX3_drawArrows 42 = .ok (.iaload, 1) := by decide +kernel
theorem dX3_drawArrows_43 : decode cX3_drawArrows 43 = .ok (.iconst 1, 1) := by decide +kernel
theorem dX3_drawArrows_44 : decode cX3_drawArrows 44 = .ok (.iload_n 3, 1) := by decide +kernel
theorem dX3_drawArrows_45 : decode cX3_drawArrows 45 = .ok (.ishl, 1) := by decide +kernel
theorem dX3_drawArrows_46 : decode cX3_drawArrows 46 = .ok (.ior, 1) := by decide +kernel
theorem dX3_drawArrows_47 : decode cX3_drawArrows 47 = .ok (.iastore, 1) := by decide +kernel
theorem dX3_drawArrows_48 : decode cX3_drawArrows 48 = .ok (.iinc 3 1, 3) := by decide +kernel
theorem dX3_drawArrows_51 : decode cX3_drawArrows 51 = .ok (.goto (-32), 3) := by decide +kernel
theorem dX3_drawArrows_54 : decode cX3_drawArrows 54 = .ok (.iinc 2 1, 3) := by decide +kernel
theorem dX3_drawArrows_57 : decode cX3_drawArrows 57 = .ok (.goto (-55), 3) := by decide +kernel
theorem dX3_drawArrows_60 : decode cX3_drawArrows 60 = .ok (.return_, 1) := by decide +kernel
theorem dX3_isRing_0 : decode cX3_isRing 0 = .ok (.iconst 0, 1) := by decide +kernel
theorem dX3_isRing_1 : decode cX3_isRing 1 = .ok (.istore_n 1, 1) := by decide +kernel
theorem dX3_isRing_2 : decode cX3_isRing 2 = .ok (.iload_n 1, 1) := by decide +kernel
theorem dX3_isRing_3 : decode cX3_isRing 3 = .ok (.aload_n 0, 1) := by decide +kernel
theorem dX3_isRing_4 : decode cX3_isRing 4 = .ok (.getfield 12, 3) := by decide +kernel
theorem dX3_isRing_7 : decode cX3_isRing 7 = .ok (.getfield 49, 3) := by decide +kernel
theorem dX3_isRing_10 : decode cX3_isRing 10 = .ok (.if_icmp .ge 61, 3) := by decide +kernel
theorem dX3_isRing_13 : decode cX3_isRing 13 = .ok (.aload_n 0, 1) := by decide +kernel
theorem dX3_isRing_14 : decode cX3_isRing 14 = .ok (.getfield 12, 3) := by decide +kernel
theorem dX3_isRing_17 : decode cX3_isRing 17 = .ok (.getfield 52, 3) := by decide +kernel
theorem dX3_isRing_20 : decode cX3_isRing 20 = .ok (.iload_n 1, 1) := by decide +kernel
theorem dX3_isRing_21 : decode cX3_isRing 21 = .ok (.iconst 1, 1) := by decide +kernel
theorem dX3_isRing_22 : decode cX3_isRing 22 = .ok (.iadd, 1) := by decide +kernel
theorem dX3_isRing_23 : decode cX3_isRing 23 = .ok (.aload_n 0, 1) := by decide +kernel
theorem dX3_isRing_24 : decode cX3_isRing 24 = .ok (.getfield 12, 3) := by decide +kernel
theorem dX3_isRing_27 : decode cX3_isRing 27 = .ok (.getfield 49, 3) := by decide +kernel
theorem dX3_isRing_30 : decode cX3_isRing 30 = .ok (.if_icmp .ge 9, 3) := by decide +kernel
theorem dX3_isRing_33 : decode cX3_isRing 33 = .ok (.iload_n 1, 1) := by decide +kernel
theorem dX3_isRing_34 : decode cX3_isRing 34 = .ok (.iconst 1, 1) := by decide +kernel
theorem dX3_isRing_35 : decode cX3_isRing 35 = .ok (.iadd, 1) := by decide +kernel
theorem dX3_isRing_36 : decode cX3_isRing 36 = .ok (.goto 4, 3) := by decide +kernel
theorem dX3_isRing_39 : decode cX3_isRing 39 = .ok (.iconst 0, 1) := by decide +kernel
theorem dX3_isRing_40 : decode cX3_isRing 40 = .ok (.iaload, 1) := by decide +kernel
theorem dX3_isRing_41 : decode cX3_isRing 41 = .ok (.istore_n 2, 1) := by decide +kernel
theorem dX3_isRing_42 : decode cX3_isRing 42 = .ok (.aload_n 0, 1) := by decide +kernel
theorem dX3_isRing_43 : decode cX3_isRing 43 = .ok (.getfield 18, 3) := by decide +kernel
theorem dX3_isRing_46 : decode cX3_isRing 46 = .ok (.aload_n 0, 1) := by decide +kernel
theorem dX3_isRing_47 : decode cX3_isRing 47 = .ok (.getfield 12, 3) := by decide +kernel
theorem dX3_isRing_50 : decode cX3_isRing 50 = .ok (.getfield 52, 3) := by decide +kernel
theorem dX3_isRing_53 : decode cX3_isRing 53 = .ok (.iload_n 1, 1) := by decide +kernel
theorem dX3_isRing_54 : decode cX3_isRing 54 = .ok (.iaload, 1) := by decide +kernel
theorem dX3_isRing_55 : decode cX3_isRing 55 = .ok (.iaload, 1) := by decide +kernel
theorem dX3_isRing_56 : decode cX3_isRing 56 = .ok (.iload_n 2, 1) := by decide +kernel
theorem dX3_isRing_57 : decode cX3_isRing 57 = .ok (.ishr, 1) := by decide +kernel
theorem dX3_isRing_58 : decode cX3_isRing 58 = .ok (.iconst 1, 1) := by decide +kernel
theorem dX3_isRing_59 : decode cX3_isRing 59 = .ok (.iand, 1) := by decide +kernel
theorem dX3_isRing_60 : decode cX3_isRing 60 = .ok (.ifCond .ne 5, 3) := by decide +kernel
theorem dX3_isRing_63 : decode cX3_isRing 63 = .ok (.iconst 0, 1) := by decide +kernel
theorem dX3_isRing_64 : decode cX3_isRing 64 = .ok (.ireturn, 1) := by decide +kernel
theorem dX3_isRing_65 : decode cX3_isRing 65 = .ok (.iinc 1 1, 3) := by decide +kernel
theorem dX3_isRing_68 : decode cX3_isRing 68 = .ok (.goto (-66), 3) := by decide +kernel
theorem dX3_isRing_71 : decode cX3_isRing 71 = .ok (.iconst 1, 1) := by decide +kernel
theorem dX3_isRing_72 : decode cX3_isRing 72 = .ok (.ireturn, 1) := by decide +kernel
theorem dX4_init_0 : decode cX4_init 0 = .ok (.aload_n 0, 1) := by decide +kernel
theorem dX4_init_1 : decode cX4_init 1 = .ok (.invokespecial 3, 3) := by decide +kernel
theorem dX4_init_4 : decode cX4_init 4 = .ok (.aload_n 0, 1) := by decide +kernel
theorem dX4_init_5 : decode cX4_init 5 = .ok (.iconst 4, 1) := by decide +kernel
theorem dX4_init_6 : decode cX4_init 6 = .ok (.newarray .int, 2) := by decide +kernel
theorem dX4_init_8 : decode cX4_init 8 = .ok (.putfield 9, 3) := by decide +kernel
theorem dX4_init_11 : decode cX4_init 11 = .ok (.aload_n 0, 1) := by decide +kernel
theorem dX4_init_12 : decode cX4_init 12 = .ok (.iconst 0, 1) := by decide +kernel
theorem dX4_init_13 : decode cX4_init 13 = .ok (.putfield 15, 3) := by decide +kernel
theorem dX4_init_16 : decode cX4_init 16 = .ok (.aload_n 0, 1) := by decide +kernel
theorem dX4_init_17 : decode cX4_init 17 = .ok (.iconst 0, 1) := by decide +kernel
theorem dX4_init_18 : decode cX4_init 18 = .ok (.putfield 19, 3) := by decide +kernel
theorem dX4_init_21 : decode cX4_init 21 = .ok (.return_, 1) := by decide +kernel
set_option maxRecDepth 20000 in
theorem ggX4_begin_X4_fill : GoodIn wsX4_begin wsX4_fill := goodIn_r _ [11, 5, 12, 13, 14, 15, 10, 16, 6, 17, 18, 19] (by decide +kernel) (by decide +kernel)
set_option maxRecDepth 20000 in
theorem gX4_begin_X4_fill : GoodIn wsX4_begin (wsV RX4 28 RX4 yX4_fill wsX4_fill) := goodIn_app (goodIn_of _ (by decide +kernel)) ggX4_begin_X4_fill
theorem dX4_begin_0 : decode cX4_begin 0 = .ok (.aload_n 0, 1) := by decide +kernel
theorem dX4_begin_1 : decode cX4_begin 1 = .ok (.iload_n 1, 1) := by decide +kernel
theorem dX4_begin_2 : decode cX4_begin 2 = .ok (.iconst 4, 1) := by decide +kernel
theorem dX4_begin_3 : decode cX4_begin 3 = .ok (.invokestatic 22, 3) := by decide +kernel
theorem dX4_begin_6 : decode cX4_begin 6 = .ok (.putfield 15, 3) := by decide +kernel
theorem dX4_begin_9 : decode cX4_begin 9 = .ok (.aload_n 0, 1) := by decide +kernel
theorem dX4_begin_10 : decode cX4_begin 10 = .ok (.iload_n 2, 1) := by decide +kernel
theorem dX4_begin_11 : decode cX4_begin 11 = .ok (.putfield 19, 3) := by decide +kernel
theorem dX4_begin_14 : decode cX4_begin 14 = .ok (.aload_n 0, 1) := by decide +kernel
theorem dX4_begin_15 : decode cX4_begin 15 = .ok (.iconst 0, 1) := by decide +kernel
theorem dX4_begin_16 : decode cX4_begin 16 = .ok (.invokevirtual 28, 3) := by decide +kernel
theorem dX4_begin_19 : decode cX4_begin 19 = .ok (.return_, 1) := by decide +kernel
set_option maxRecDepth 20000 in
theorem ggX4_advance_X4_firstFree : GoodIn wsX4_advance wsX4_firstFree := goodIn_r _ [12, 6, 7, 17, 18, 19] (by decide +kernel) (by decide +kernel)
set_option maxRecDepth 20000 in
theorem gX4_advance_X4_firstFree : GoodIn wsX4_advance (wsV RX4 32 RX4 yX4_firstFree wsX4_firstFree) := goodIn_app (goodIn_of _ (by decide +kernel)) ggX4_advance_X4_firstFree
set_option maxRecDepth 20000 in
theorem ggX4_advance_X4_fill : GoodIn wsX4_advance wsX4_fill := goodIn_r _ [16, 1, 6, 8, 9, 10, 11, 12, 7, 17, 18, 19] (by decide +kernel) (by decide +kernel)
set_option maxRecDepth 20000 in
theorem gX4_advance_X4_fill : GoodIn wsX4_advance (wsV RX4 28 RX4 yX4_fill wsX4_fill) := goodIn_app (goodIn_of _ (by decide +kernel)) ggX4_advance_X4_fill
theorem dX4_advance_0 : decode cX4_advance 0 = .ok (.iload_n 1, 1) := by decide +kernel
theorem dX4_advance_1 : decode cX4_advance 1 = .ok (.aload_n 0, 1) := by decide +kernel
theorem dX4_advance_2 : decode cX4_advance 2 = .ok (.getfield 15, 3) := by decide +kernel
theorem dX4_advance_5 : decode cX4_advance 5 = .ok (.iconst 1, 1) := by decide +kernel
theorem dX4_advance_6 : decode cX4_advance 6 = .ok (.isub, 1) := by decide +kernel
theorem dX4_advance_7 : decode cX4_advance 7 = .ok (.invokestatic 22, 3) := by decide +kernel
theorem dX4_advance_10 : decode cX4_advance 10 = .ok (.istore_n 2, 1) := by decide +kernel
theorem dX4_advance_11 : decode cX4_advance 11 = .ok (.iload_n 2, 1) := by decide +kernel
theorem dX4_advance_12 : decode cX4_advance 12 = .ok (.ifCond .lt 47, 3) := by decide +kernel
theorem dX4_advance_15 : decode cX4_advance 15 = .ok (.aload_n 0, 1) := by decide +kernel
theorem dX4_advance_16 : decode cX4_advance 16 = .ok (.iload_n 2, 1) := by decide +kernel
theorem dX4_advance_17 : decode cX4_advance 17 = .ok (.aload_n 0, 1) := by decide +kernel
theorem dX4_advance_18 : decode cX4_advance 18 = .ok (.getfield 9, 3) := by decide +kernel
theorem dX4_advance_21 : decode cX4_advance 21 = .ok (.iload_n 2, 1) := by decide +kernel
theorem dX4_advance_22 : decode cX4_advance 22 = .ok (.iaload, 1) := by decide +kernel
theorem dX4_advance_23 : decode cX4_advance 23 = .ok (.iconst 1, 1) := by decide +kernel
theorem dX4_advance_24 : decode cX4_advance 24 = .ok (.iadd, 1) := by decide +kernel
theorem dX4_advance_25 : decode cX4_advance 25 = .ok (.invokevirtual 32, 3) := by decide +kernel
theorem dX4_advance_28 : decode cX4_advance 28 = .ok (.istore_n 3, 1) := by decide +kernel
theorem dX4_advance_29 : decode cX4_advance 29 = .ok (.iload_n 3, 1) := by decide +kernel
theorem dX4_advance_30 : decode cX4_advance 30 = .ok (.aload_n 0, 1) := by decide +kernel
theorem dX4_advance_31 : decode cX4_advance 31 = .ok (.getfield 19, 3) := by decide +kernel
theorem dX4_advance_34 : decode cX4_advance 34 = .ok (.if_icmp .ge 19, 3) := by decide +kernel
theorem dX4_advance_37 : decode cX4_advance 37 = .ok (.aload_n 0, 1) := by decide +kernel
theorem dX4_advance_38 : decode cX4_advance 38 = .ok (.getfield 9, 3) := by decide +kernel
theorem dX4_advance_41 : decode cX4_advance 41 = .ok (.iload_n 2, 1) := by decide +kernel
theorem dX4_advance_42 : decode cX4_advance 42 = .ok (.iload_n 3, 1) := by decide +kernel
theorem dX4_advance_43 : decode cX4_advance 43 = .ok (.iastore, 1) := by decide +kernel
theorem dX4_advance_44 : decode cX4_advance 44 = .ok (.aload_n 0, 1) := by decide +kernel
theorem dX4_advance_45 : decode cX4_advance 45 = .ok (.iload_n 2, 1) := by decide +kernel
theorem dX4_advance_46 : decode cX4_advance 46 = .ok (.iconst 1, 1) := by decide +kernel
theorem dX4_advance_47 : decode cX4_advance 47 = .ok (.iadd, 1) := by decide +kernel
theorem dX4_advance_48 : decode cX4_advance 48 = .ok (.invokevirtual 28, 3) := by decide +kernel
theorem dX4_advance_51 : decode cX4_advance 51 = .ok (.iconst 1, 1) := by decide +kernel
theorem dX4_advance_52 : decode cX4_advance 52 = .ok (.ireturn, 1) := by decide +kernel
theorem dX4_advance_53 : decode cX4_advance 53 = .ok (.iinc 2 (-1), 3) := by decide +kernel
theorem dX4_advance_56 : decode cX4_advance 56 = .ok (.goto (-45), 3) := by decide +kernel
theorem dX4_advance_59 : decode cX4_advance 59 = .ok (.iconst 0, 1) := by decide +kernel
theorem dX4_advance_60 : decode cX4_advance 60 = .ok (.ireturn, 1) := by decide +kernel
theorem dX4_placeOf_0 : decode cX4_placeOf 0 = .ok (.iconst 0, 1) := by decide +kernel
theorem dX4_placeOf_1 : decode cX4_placeOf 1 = .ok (.istore_n 2, 1) := by decide +kernel
theorem dX4_placeOf_2 : decode cX4_placeOf 2 = .ok (.iload_n 2, 1) := by decide +kernel
theorem dX4_placeOf_3 : decode cX4_placeOf 3 = .ok (.aload_n 0, 1) := by decide +kernel
theorem dX4_placeOf_4 : decode cX4_placeOf 4 = .ok (.getfield 15, 3) := by decide +kernel
theorem dX4_placeOf_7 : decode cX4_placeOf 7 = .ok (.if_icmp .ge 21, 3) := by decide +kernel
theorem dX4_placeOf_10 : decode cX4_placeOf 10 = .ok (.aload_n 0, 1) := by decide +kernel
theorem dX4_placeOf_11 : decode cX4_placeOf 11 = .ok (.getfield 9, 3) := by decide +kernel
theorem dX4_placeOf_14 : decode cX4_placeOf 14 = .ok (.iload_n 2, 1) := by decide +kernel
theorem dX4_placeOf_15 : decode cX4_placeOf 15 = .ok (.iaload, 1) := by decide +kernel
theorem dX4_placeOf_16 : decode cX4_placeOf 16 = .ok (.iload_n 1, 1) := by decide +kernel
theorem dX4_placeOf_17 : decode cX4_placeOf 17 = .ok (.if_icmp .ne 5, 3) := by decide +kernel
theorem dX4_placeOf_20 : decode cX4_placeOf 20 = .ok (.iload_n 2, 1) := by decide +kernel
theorem dX4_placeOf_21 : decode cX4_placeOf 21 = .ok (.ireturn, 1) := by decide +kernel
theorem dX4_placeOf_22 : decode cX4_placeOf 22 = .ok (.iinc 2 1, 3) := by decide +kernel
theorem dX4_placeOf_25 : decode cX4_placeOf 25 = .ok (.goto (-23), 3) := by decide +kernel
theorem dX4_placeOf_28 : decode cX4_placeOf 28 = .ok (.aload_n 0, 1) := by decide +kernel
theorem dX4_placeOf_29 : decode cX4_placeOf 29 = .ok (.getfield 15, 3) := by decide +kernel
theorem dX4_placeOf_32 : decode cX4_placeOf 32 = .ok (.ireturn, 1) := by decide +kernel
set_option maxRecDepth 20000 in
theorem ggX4_fill_X4_firstFree : GoodIn wsX4_fill wsX4_firstFree := goodIn_r _ [7, 2, 8, 9, 10, 11] (by decide +kernel) (by decide +kernel)
set_option maxRecDepth 20000 in
theorem gX4_fill_X4_firstFree : GoodIn wsX4_fill (wsV RX4 32 RX4 yX4_firstFree wsX4_firstFree) := goodIn_app (goodIn_of _ (by decide +kernel)) ggX4_fill_X4_firstFree
theorem dX4_fill_0 : decode cX4_fill 0 = .ok (.iload_n 1, 1) := by decide +kernel
theorem dX4_fill_1 : decode cX4_fill 1 = .ok (.istore_n 2, 1) := by decide +kernel
theorem dX4_fill_2 : decode cX4_fill 2 = .ok (.iload_n 2, 1) := by decide +kernel
theorem dX4_fill_3 : decode cX4_fill 3 = .ok (.aload_n 0, 1) := by decide +kernel
theorem dX4_fill_4 : decode cX4_fill 4 = .ok (.getfield 15, 3) := by decide +kernel
theorem dX4_fill_7 : decode cX4_fill 7 = .ok (.if_icmp .ge 21, 3) := by decide +kernel
theorem dX4_fill_10 : decode cX4_fill 10 = .ok (.aload_n 0, 1) := by decide +kernel
theorem dX4_fill_11 : decode cX4_fill 11 = .ok (.getfield 9, 3) := by decide +kernel
theorem dX4_fill_14 : decode cX4_fill 14 = .ok (.iload_n 2, 1) := by decide +kernel
theorem dX4_fill_15 : decode cX4_fill 15 = .ok (.aload_n 0, 1) := by decide +kernel
theorem dX4_fill_16 : decode cX4_fill 16 = .ok (.iload_n 2, 1) := by decide +kernel
theorem dX4_fill_17 : decode cX4_fill 17 = .ok (.iconst 0, 1) := by decide +kernel
theorem dX4_fill_18 : decode cX4_fill 18 = .ok (.invokevirtual 32, 3) := by decide +kernel
theorem dX4_fill_21 : decode cX4_fill 21 = .ok (.iastore, 1) := by decide +kernel
theorem dX4_fill_22 : decode cX4_fill 22 = .ok (.iinc 2 1, 3) := by decide +kernel
theorem dX4_fill_25 : decode cX4_fill 25 = .ok (.goto (-23), 3) := by decide +kernel
theorem dX4_fill_28 : decode cX4_fill 28 = .ok (.return_, 1) := by decide +kernel
theorem dX4_firstFree_0 : decode cX4_firstFree 0 = .ok (.iconst 0, 1) := by decide +kernel
theorem dX4_firstFree_1 : decode cX4_firstFree 1 = .ok (.istore_n 3, 1) := by decide +kernel
theorem dX4_firstFree_2 : decode cX4_firstFree 2 = .ok (.iconst 0, 1) := by decide +kernel
theorem dX4_firstFree_3 : decode cX4_firstFree 3 = .ok (.istore 4, 2) := by decide +kernel
theorem dX4_firstFree_5 : decode cX4_firstFree 5 = .ok (.iload 4, 2) := by decide +kernel
theorem dX4_firstFree_7 : decode cX4_firstFree 7 = .ok (.iload_n 1, 1) := by decide +kernel
theorem dX4_firstFree_8 : decode cX4_firstFree 8 = .ok (.if_icmp .ge 21, 3) := by decide +kernel
theorem dX4_firstFree_11 : decode cX4_firstFree 11 = .ok (.iload_n 3, 1) := by decide +kernel
theorem dX4_firstFree_12 : decode cX4_firstFree 12 = .ok (.iconst 1, 1) := by decide +kernel
theorem dX4_firstFree_13 : decode cX4_firstFree 13 = .ok (.aload_n 0, 1) := by decide +kernel
theorem dX4_firstFree_14 : decode cX4_firstFree 14 = .ok (.getfield 9, 3) := by decide +kernel
theorem dX4_firstFree_17 : decode cX4_firstFree 17 = .ok (.iload 4, 2) := by decide +kernel
theorem dX4_firstFree_19 : decode cX4_firstFree 19 = .ok (.iaload, 1) := by decide +kernel
theorem dX4_firstFree_20 : decode cX4_firstFree 20 = .ok (.ishl, 1) := by decide +kernel
theorem dX4_firstFree_21 : decode cX4_firstFree 21 = .ok (.ior, 1) := by decide +kernel
theorem dX4_firstFree_22 : decode cX4_firstFree 22 = .ok (.istore_n 3, 1) := by decide +kernel
theorem dX4_firstFree_23 : decode cX4_firstFree 23 = .ok (.iinc 4 1, 3) := by decide +kernel
theorem dX4_firstFree_26 : decode cX4_firstFree 26 = .ok (.goto (-21), 3) := by decide +kernel
theorem dX4_firstFree_29 : decode cX4_firstFree 29 = .ok (.iload_n 2, 1) := by decide +kernel
theorem dX4_firstFree_30 : decode cX4_firstFree 30 = .ok (.istore 4, 2) := by decide +kernel
theorem dX4_firstFree_32 : decode cX4_firstFree 32 = .ok (.iload 4, 2) := by decide +kernel
theorem dX4_firstFree_34 : decode cX4_firstFree 34 = .ok (.aload_n 0, 1) := by decide +kernel
theorem dX4_firstFree_35 : decode cX4_firstFree 35 = .ok (.getfield 19, 3) := by decide +kernel
theorem dX4_firstFree_38 : decode cX4_firstFree 38 = .ok (.if_icmp .ge 21, 3) := by decide +kernel
theorem dX4_firstFree_41 : decode cX4_firstFree 41 = .ok (.iload_n 3, 1) := by decide +kernel
theorem dX4_firstFree_42 : decode cX4_firstFree 42 = .ok (.iload 4, 2) := by decide +kernel
theorem dX4_firstFree_44 : decode cX4_firstFree 44 = .ok (.ishr, 1) := by decide +kernel
theorem dX4_firstFree_45 : decode cX4_firstFree 45 = .ok (.iconst 1, 1) := by decide +kernel
theorem dX4_firstFree_46 : decode cX4_firstFree 46 = .ok (.iand, 1) := by decide +kernel
theorem dX4_firstFree_47 : decode cX4_firstFree 47 = .ok (.ifCond .ne 6, 3) := by decide +kernel
theorem dX4_firstFree_50 : decode cX4_firstFree 50 = .ok (.iload 4, 2) := by decide +kernel
theorem dX4_firstFree_52 : decode cX4_firstFree 52 = .ok (.ireturn, 1) := by decide +kernel
theorem dX4_firstFree_53 : decode cX4_firstFree 53 = .ok (.iinc 4 1, 3) := by decide +kernel
theorem dX4_firstFree_56 : decode cX4_firstFree 56 = .ok (.goto (-24), 3) := by decide +kernel
theorem dX4_firstFree_59 : decode cX4_firstFree 59 = .ok (.aload_n 0, 1) := by decide +kernel
theorem dX4_firstFree_60 : decode cX4_firstFree 60 = .ok (.getfield 19, 3) := by decide +kernel
theorem dX4_firstFree_63 : decode cX4_firstFree 63 = .ok (.ireturn, 1) := by decide +kernel
theorem dX5_init_0 : decode cX5_init 0 = .ok (.aload_n 0, 1) := by decide +kernel
theorem dX5_init_1 : decode cX5_init 1 = .ok (.invokespecial 3, 3) := by decide +kernel
theorem dX5_init_4 : decode cX5_init 4 = .ok (.aload_n 0, 1) := by decide +kernel
theorem dX5_init_5 : decode cX5_init 5 = .ok (.iconst 0, 1) := by decide +kernel
theorem dX5_init_6 : decode cX5_init 6 = .ok (.putfield 9, 3) := by decide +kernel
theorem dX5_init_9 : decode cX5_init 9 = .ok (.aload_n 0, 1) := by decide +kernel
theorem dX5_init_10 : decode cX5_init 10 = .ok (.bipush 60, 2) := by decide +kernel
theorem dX5_init_12 : decode cX5_init 12 = .ok (.newarray .int, 2) := by decide +kernel
theorem dX5_init_14 : decode cX5_init 14 = .ok (.putfield 15, 3) := by decide +kernel
theorem dX5_init_17 : decode cX5_init 17 = .ok (.aload_n 0, 1) := by decide +kernel
theorem dX5_init_18 : decode cX5_init 18 = .ok (.bipush 24, 2) := by decide +kernel
theorem dX5_init_20 : decode cX5_init 20 = .ok (.newarray .int, 2) := by decide +kernel
theorem dX5_init_22 : decode cX5_init 22 = .ok (.putfield 19, 3) := by decide +kernel
theorem dX5_init_25 : decode cX5_init 25 = .ok (.aload_n 0, 1) := by decide +kernel
theorem dX5_init_26 : decode cX5_init 26 = .ok (.iconst 0, 1) := by decide +kernel
theorem dX5_init_27 : decode cX5_init 27 = .ok (.putfield 22, 3) := by decide +kernel
theorem dX5_init_30 : decode cX5_init 30 = .ok (.aload_n 0, 1) := by decide +kernel
theorem dX5_init_31 : decode cX5_init 31 = .ok (.iconst 0, 1) := by decide +kernel
theorem dX5_init_32 : decode cX5_init 32 = .ok (.putfield 25, 3) := by decide +kernel
theorem dX5_init_35 : decode cX5_init 35 = .ok (.return_, 1) := by decide +kernel
theorem dX5_put_0 : decode cX5_put 0 = .ok (.aload_n 0, 1) := by decide +kernel
theorem dX5_put_1 : decode cX5_put 1 = .ok (.getfield 9, 3) := by decide +kernel
theorem dX5_put_4 : decode cX5_put 4 = .ok (.bipush 60, 2) := by decide +kernel
theorem dX5_put_6 : decode cX5_put 6 = .ok (.if_icmp .ge 23, 3) := by decide +kernel
theorem dX5_put_9 : decode cX5_put 9 = .ok (.aload_n 0, 1) := by decide +kernel
theorem dX5_put_10 : decode cX5_put 10 = .ok (.getfield 15, 3) := by decide +kernel
theorem dX5_put_13 : decode cX5_put 13 = .ok (.aload_n 0, 1) := by decide +kernel
theorem dX5_put_14 : decode cX5_put 14 = .ok (.getfield 9, 3) := by decide +kernel
theorem dX5_put_17 : decode cX5_put 17 = .ok (.iload_n 1, 1) := by decide +kernel
theorem dX5_put_18 : decode cX5_put 18 = .ok (.iastore, 1) := by decide +kernel
theorem dX5_put_19 : decode cX5_put 19 = .ok (.aload_n 0, 1) := by decide +kernel
theorem dX5_put_20 : decode cX5_put 20 = .ok (.dup, 1) := by decide +kernel
theorem dX5_put_21 : decode cX5_put 21 = .ok (.getfield 9, 3) := by decide +kernel
theorem dX5_put_24 : decode cX5_put 24 = .ok (.iconst 1, 1) := by decide +kernel
theorem dX5_put_25 : decode cX5_put 25 = .ok (.iadd, 1) := by decide +kernel
theorem dX5_put_26 : decode cX5_put 26 = .ok (.putfield 9, 3) := by decide +kernel
theorem dX5_put_29 : decode cX5_put 29 = .ok (.aload_n 0, 1) := by decide +kernel
theorem dX5_put_30 : decode cX5_put 30 = .ok (.getfield 9, 3) := by decide +kernel
theorem dX5_put_33 : decode cX5_put 33 = .ok (.ireturn, 1) := by decide +kernel
set_option maxRecDepth 20000 in
theorem ggX5_findFailure_X5_readPart : GoodIn wsX5_findFailure wsX5_readPart := goodIn_r _ [9, 1, 2, 4, 3, 10, 11, 12, 13, 8, 14, 15, 16, 17, 18, 19, 20, 21, 22, 23] (by decide +kernel) (by decide +kernel)
set_option maxRecDepth 20000 in
theorem gX5_findFailure_X5_readPart : GoodIn wsX5_findFailure (wsV RX5 28 RX5 yX5_readPart wsX5_readPart) := goodIn_app (goodIn_of _ (by decide +kernel)) ggX5_findFailure_X5_readPart
theorem dX5_findFailure_0 : decode cX5_findFailure 0 = .ok (.aload_n 0, 1) := by decide +kernel
theorem dX5_findFailure_1 : decode cX5_findFailure 1 = .ok (.iconst 0, 1) := by decide +kernel
theorem dX5_findFailure_2 : decode cX5_findFailure 2 = .ok (.putfield 22, 3) := by decide +kernel
theorem dX5_findFailure_5 : decode cX5_findFailure 5 = .ok (.aload_n 0, 1) := by decide +kernel
theorem dX5_findFailure_6 : decode cX5_findFailure 6 = .ok (.iconst 0, 1) := by decide +kernel
theorem dX5_findFailure_7 : decode cX5_findFailure 7 = .ok (.putfield 25, 3) := by decide +kernel
theorem dX5_findFailure_10 : decode cX5_findFailure 10 = .ok (.iconst 0, 1) := by decide +kernel
theorem dX5_findFailure_11 : decode cX5_findFailure 11 = .ok (.istore_n 1, 1) := by decide +kernel
theorem dX5_findFailure_12 : decode cX5_findFailure 12 = .ok (.iload_n 1, 1) := by decide +kernel
theorem dX5_findFailure_13 : decode cX5_findFailure 13 = .ok (.bipush 24, 2) := by decide +kernel
theorem dX5_findFailure_15 : decode cX5_findFailure 15 = .ok (.if_icmp .gt 79, 3) := by decide +kernel
theorem dX5_findFailure_18 : decode cX5_findFailure 18 = .ok (.aload_n 0, 1) := by decide +kernel
theorem dX5_findFailure_19 : decode cX5_findFailure 19 = .ok (.invokevirtual 28, 3) := by decide +kernel
theorem dX5_findFailure_22 : decode cX5_findFailure 22 = .ok (.istore_n 2, 1) := by decide +kernel
theorem dX5_findFailure_23 : decode cX5_findFailure 23 = .ok (.iload_n 2, 1) := by decide +kernel
theorem dX5_findFailure_24 : decode cX5_findFailure 24 = .ok (.iconst (-1), 1) := by decide +kernel
theorem dX5_findFailure_25 : decode cX5_findFailure 25 = .ok (.if_icmp .eq 5, 3) := by decide +kernel
theorem dX5_findFailure_28 : decode cX5_findFailure 28 = .ok (.iload_n 2, 1) := by decide +kernel
theorem dX5_findFailure_29 : decode cX5_findFailure 29 = .ok (.ireturn, 1) := by decide +kernel
theorem dX5_findFailure_30 : decode cX5_findFailure 30 = .ok (.aload_n 0, 1) := by decide +kernel
theorem dX5_findFailure_31 : decode cX5_findFailure 31 = .ok (.getfield 25, 3) := by decide +kernel
theorem dX5_findFailure_34 : decode cX5_findFailure 34 = .ok (.aload_n 0, 1) := by decide +kernel
theorem dX5_findFailure_35 : decode cX5_findFailure 35 = .ok (.getfield 9, 3) := by decide +kernel
theorem dX5_findFailure_38 : decode cX5_findFailure 38 = .ok (.if_icmp .lt 21, 3) := by decide +kernel
theorem dX5_findFailure_41 : decode cX5_findFailure 41 = .ok (.aload_n 0, 1) := by decide +kernel
theorem dX5_findFailure_42 : decode cX5_findFailure 42 = .ok (.getfield 22, 3) := by decide +kernel
theorem dX5_findFailure_45 : decode cX5_findFailure 45 = .ok (.bipush 24, 2) := by decide +kernel
theorem dX5_findFailure_47 : decode cX5_findFailure 47 = .ok (.if_icmp .ne 7, 3) := by decide +kernel
theorem dX5_findFailure_50 : decode cX5_findFailure 50 = .ok (.iconst (-1), 1) := by decide +kernel
theorem dX5_findFailure_51 : decode cX5_findFailure 51 = .ok (.goto 7, 3) := by decide +kernel
theorem dX5_findFailure_54 : decode cX5_findFailure 54 = .ok (.aload_n 0, 1) := by decide +kernel
theorem dX5_findFailure_55 : decode cX5_findFailure 55 = .ok (.getfield 9, 3) := by decide +kernel
theorem dX5_findFailure_58 : decode cX5_findFailure 58 = .ok (.ireturn, 1) := by decide +kernel
theorem dX5_findFailure_59 : decode cX5_findFailure 59 = .ok (.aload_n 0, 1) := by decide +kernel
theorem dX5_findFailure_60 : decode cX5_findFailure 60 = .ok (.getfield 15, 3) := by decide +kernel
theorem dX5_findFailure_63 : decode cX5_findFailure 63 = .ok (.aload_n 0, 1) := by decide +kernel
theorem dX5_findFailure_64 : decode cX5_findFailure 64 = .ok (.getfield 25, 3) := by decide +kernel
theorem dX5_findFailure_67 : decode cX5_findFailure 67 = .ok (.iaload, 1) := by decide +kernel
theorem dX5_findFailure_68 : decode cX5_findFailure 68 = .ok (.bipush 44, 2) := by decide +kernel
theorem dX5_findFailure_70 : decode cX5_findFailure 70 = .ok (.if_icmp .eq 8, 3) := by decide +kernel
theorem dX5_findFailure_73 : decode cX5_findFailure 73 = .ok (.aload_n 0, 1) := by decide +kernel
theorem dX5_findFailure_74 : decode cX5_findFailure 74 = .ok (.getfield 25, 3) := by decide +kernel
theorem dX5_findFailure_77 : decode cX5_findFailure 77 = .ok (.ireturn, 1) := by decide +kernel
theorem dX5_findFailure_78 : decode cX5_findFailure 78 = .ok (.aload_n 0, 1) := by decide +kernel
theorem dX5_findFailure_79 : decode cX5_findFailure 79 = .ok (.dup, 1) := by decide +kernel
theorem dX5_findFailure_80 : decode cX5_findFailure 80 = .ok (.getfield 25, 3) := by decide +kernel
theorem dX5_findFailure_83 : decode cX5_findFailure 83 = .ok (.iconst 1, 1) := by decide +kernel
theorem dX5_findFailure_84 : decode cX5_findFailure 84 = .ok (.iadd, 1) := by decide +kernel
theorem dX5_findFailure_85 : decode cX5_findFailure 85 = .ok (.putfield 25, 3) := by decide +kernel
theorem dX5_findFailure_88 : decode cX5_findFailure 88 = .ok (.iinc 1 1, 3) := by decide +kernel
theorem dX5_findFailure_91 : decode cX5_findFailure 91 = .ok (.goto (-79), 3) := by decide +kernel
theorem dX5_findFailure_94 : decode cX5_findFailure 94 = .ok (.aload_n 0, 1) := by decide +kernel
theorem dX5_findFailure_95 : decode cX5_findFailure 95 = .ok (.getfield 25, 3) := by decide +kernel
theorem dX5_findFailure_98 : decode cX5_findFailure 98 = .ok (.ireturn, 1) := by decide +kernel
set_option maxRecDepth 20000 in
theorem ggX5_readPart_X5_isDigit : GoodIn wsX5_readPart wsX5_isDigit := goodIn_r _ [10, 4, 3, 15, 16, 17, 18, 19] (by decide +kernel) (by decide +kernel)
set_option maxRecDepth 20000 in
theorem gX5_readPart_X5_isDigit : GoodIn wsX5_readPart (wsV RX5 32 RX5 yX5_isDigit wsX5_isDigit) := goodIn_app (goodIn_of _ (by decide +kernel)) ggX5_readPart_X5_isDigit
set_option maxRecDepth 20000 in
theorem ggX5_readPart_X5_readTimes : GoodIn wsX5_readPart wsX5_readTimes := goodIn_r _ [14, 2, 3, 6, 7, 8, 9, 10, 4, 15, 16, 17, 18, 19] (by decide +kernel) (by decide +kernel)
set_option maxRecDepth 20000 in
theorem gX5_readPart_X5_readTimes : GoodIn wsX5_readPart (wsV RX5 36 RX5 yX5_readTimes wsX5_readTimes) := goodIn_app (goodIn_of _ (by decide +kernel)) ggX5_readPart_X5_readTimes
theorem dX5_readPart_0 : decode cX5_readPart 0 = .ok (.aload_n 0, 1) := by decide +kernel
theorem dX5_readPart_1 : decode cX5_readPart 1 = .ok (.getfield 22, 3) := by decide +kernel
theorem dX5_readPart_4 : decode cX5_readPart 4 = .ok (.bipush 24, 2) := by decide +kernel
theorem dX5_readPart_6 : decode cX5_readPart 6 = .ok (.if_icmp .ge 14, 3) := by decide +kernel
theorem dX5_readPart_9 : decode cX5_readPart 9 = .ok (.aload_n 0, 1) := by decide +kernel
theorem dX5_readPart_10 : decode cX5_readPart 10 = .ok (.aload_n 0, 1) := by decide +kernel
theorem dX5_readPart_11 : decode cX5_readPart 11 = .ok (.getfield 25, 3) := by decide +kernel
theorem dX5_readPart_14 : decode cX5_readPart 14 = .ok (.invokevirtual 32, 3) := by decide +kernel
theorem dX5_readPart_17 : decode cX5_readPart 17 = .ok (.ifCond .ne 8, 3) := by decide +kernel
theorem dX5_readPart_20 : decode cX5_readPart 20 = .ok (.aload_n 0, 1) := by decide +kernel
theorem dX5_readPart_21 : decode cX5_readPart 21 = .ok (.getfield 25, 3) := by decide +kernel
theorem dX5_readPart_24 : decode cX5_readPart 24 = .ok (.ireturn, 1) := by decide +kernel
theorem dX5_readPart_25 : decode cX5_readPart 25 = .ok (.aload_n 0, 1) := by decide +kernel
theorem dX5_readPart_26 : decode cX5_readPart 26 = .ok (.getfield 15, 3) := by decide +kernel
theorem dX5_readPart_29 : decode cX5_readPart 29 = .ok (.aload_n 0, 1) := by decide +kernel
theorem dX5_readPart_30 : decode cX5_readPart 30 = .ok (.getfield 25, 3) := by decide +kernel
theorem dX5_readPart_33 : decode cX5_readPart 33 = .ok (.iaload, 1) := by decide +kernel
theorem dX5_readPart_34 : decode cX5_readPart 34 = .ok (.bipush 48, 2) := by decide +kernel
theorem dX5_readPart_36 : decode cX5_readPart 36 = .ok (.isub, 1) := by decide +kernel
theorem dX5_readPart_37 : decode cX5_readPart 37 = .ok (.istore_n 1, 1) := by decide +kernel
theorem dX5_readPart_38 : decode cX5_readPart 38 = .ok (.aload_n 0, 1) := by decide +kernel
theorem dX5_readPart_39 : decode cX5_readPart 39 = .ok (.dup, 1) := by decide +kernel
theorem dX5_readPart_40 : decode cX5_readPart 40 = .ok (.getfield 25, 3) := by decide +kernel
theorem dX5_readPart_43 : decode cX5_readPart 43 = .ok (.iconst 1, 1) := by decide +kernel
theorem dX5_readPart_44 : decode cX5_readPart 44 = .ok (.iadd, 1) := by decide +kernel
theorem dX5_readPart_45 : decode cX5_readPart 45 = .ok (.putfield 25, 3) := by decide +kernel
theorem dX5_readPart_48 : decode cX5_readPart 48 = .ok (.iconst 1, 1) := by decide +kernel
theorem dX5_readPart_49 : decode cX5_readPart 49 = .ok (.istore_n 2, 1) := by decide +kernel
theorem dX5_readPart_50 : decode cX5_readPart 50 = .ok (.aload_n 0, 1) := by decide +kernel
theorem dX5_readPart_51 : decode cX5_readPart 51 = .ok (.getfield 25, 3) := by decide +kernel
theorem dX5_readPart_54 : decode cX5_readPart 54 = .ok (.aload_n 0, 1) := by decide +kernel
theorem dX5_readPart_55 : decode cX5_readPart 55 = .ok (.getfield 9, 3) := by decide +kernel
theorem dX5_readPart_58 : decode cX5_readPart 58 = .ok (.if_icmp .ge 52, 3) := by decide +kernel
theorem dX5_readPart_61 : decode cX5_readPart 61 = .ok (.aload_n 0, 1) := by decide +kernel
theorem dX5_readPart_62 : decode cX5_readPart 62 = .ok (.getfield 15, 3) := by decide +kernel
theorem dX5_readPart_65 : decode cX5_readPart 65 = .ok (.aload_n 0, 1) := by decide +kernel
theorem dX5_readPart_66 : decode cX5_readPart 66 = .ok (.getfield 25, 3) := by decide +kernel
theorem dX5_readPart_69 : decode cX5_readPart 69 = .ok (.iaload, 1) := by decide +kernel
theorem dX5_readPart_70 : decode cX5_readPart 70 = .ok (.bipush 120, 2) := by decide +kernel
theorem dX5_readPart_72 : decode cX5_readPart 72 = .ok (.if_icmp .ne 38, 3) := by decide +kernel
theorem dX5_readPart_75 : decode cX5_readPart 75 = .ok (.aload_n 0, 1) := by decide +kernel
theorem dX5_readPart_76 : decode cX5_readPart 76 = .ok (.getfield 25, 3) := by decide +kernel
theorem dX5_readPart_79 : decode cX5_readPart 79 = .ok (.iconst 1, 1) := by decide +kernel
theorem dX5_readPart_80 : decode cX5_readPart 80 = .ok (.iadd, 1) := by decide +kernel
theorem dX5_readPart_81 : decode cX5_readPart 81 = .ok (.istore_n 3, 1) := by decide +kernel
theorem dX5_readPart_82 : decode cX5_readPart 82 = .ok (.aload_n 0, 1) := by decide +kernel
theorem dX5_readPart_83 : decode cX5_readPart 83 = .ok (.iload_n 3, 1) := by decide +kernel
theorem dX5_readPart_84 : decode cX5_readPart 84 = .ok (.invokevirtual 36, 3) := by decide +kernel
theorem dX5_readPart_87 : decode cX5_readPart 87 = .ok (.istore_n 2, 1) := by decide +kernel
theorem dX5_readPart_88 : decode cX5_readPart 88 = .ok (.iload_n 2, 1) := by decide +kernel
theorem dX5_readPart_89 : decode cX5_readPart 89 = .ok (.ifCond .gt 8, 3) := by decide +kernel
theorem dX5_readPart_92 : decode cX5_readPart 92 = .ok (.aload_n 0, 1) := by decide +kernel
theorem dX5_readPart_93 : decode cX5_readPart 93 = .ok (.getfield 25, 3) := by decide +kernel
theorem dX5_readPart_96 : decode cX5_readPart 96 = .ok (.ireturn, 1) := by decide +kernel
theorem dX5_readPart_97 : decode cX5_readPart 97 = .ok (.aload_n 0, 1) := by decide +kernel
theorem dX5_readPart_98 : decode cX5_readPart 98 = .ok (.getfield 22, 3) := by decide +kernel
theorem dX5_readPart_101 : decode cX5_readPart 101 = .ok (.iload_n 2, 1) := by decide +kernel
theorem dX5_readPart_102 : decode cX5_readPart 102 = .ok (.iadd, 1) := by decide +kernel
theorem dX5_readPart_103 : decode cX5_readPart 103 = .ok (.bipush 24, 2) := by decide +kernel
theorem dX5_readPart_105 : decode cX5_readPart 105 = .ok (.if_icmp .le 5, 3) := by decide +kernel
theorem dX5_readPart_108 : decode cX5_readPart 108 = .ok (.iload_n 3, 1) := by decide +kernel
theorem dX5_readPart_109 : decode cX5_readPart 109 = .ok (.ireturn, 1) := by decide +kernel
theorem dX5_readPart_110 : decode cX5_readPart 110 = .ok (.iconst 0, 1) := by decide +kernel
theorem dX5_readPart_111 : decode cX5_readPart 111 = .ok (.istore_n 3, 1) := by decide +kernel
theorem dX5_readPart_112 : decode cX5_readPart 112 = .ok (.iload_n 3, 1) := by decide +kernel
theorem dX5_readPart_113 : decode cX5_readPart 113 = .ok (.iload_n 2, 1) := by decide +kernel
theorem dX5_readPart_114 : decode cX5_readPart 114 = .ok (.if_icmp .ge 38, 3) := by decide +kernel
theorem dX5_readPart_117 : decode cX5_readPart 117 = .ok (.aload_n 0, 1) := by decide +kernel
theorem dX5_readPart_118 : decode cX5_readPart 118 = .ok (.getfield 22, 3) := by decide +kernel
theorem dX5_readPart_121 : decode cX5_readPart 121 = .ok (.bipush 24, 2) := by decide +kernel
theorem dX5_readPart_123 : decode cX5_readPart 123 = .ok (.if_icmp .ge 29, 3) := by decide +kernel
theorem dX5_readPart_126 : decode cX5_readPart 126 = .ok (.aload_n 0, 1) := by decide +kernel
theorem dX5_readPart_127 : decode cX5_readPart 127 = .ok (.getfield 19, 3) := by decide +kernel
theorem dX5_readPart_130 : decode cX5_readPart 130 = .ok (.aload_n 0, 1) := by decide +kernel
theorem dX5_readPart_131 : decode cX5_readPart 131 = .ok (.getfield 22, 3) := by decide +kernel
theorem dX5_readPart_134 : decode cX5_readPart 134 = .ok (.iload_n 1, 1) := by decide +kernel
theorem dX5_readPart_135 : decode cX5_readPart 135 = .ok (.iastore, 1) := by decide +kernel
theorem dX5_readPart_136 : decode cX5_readPart 136 = .ok (.aload_n 0, 1) := by decide +kernel
theorem dX5_readPart_137 : decode cX5_readPart 137 = .ok (.dup, 1) := by decide +kernel
theorem dX5_readPart_138 : decode cX5_readPart 138 = .ok (.getfield 22, 3) := by decide +kernel
theorem dX5_readPart_141 : decode cX5_readPart 141 = .ok (.iconst 1, 1) := by decide +kernel
theorem dX5_readPart_142 : decode cX5_readPart 142 = .ok (.iadd, 1) := by decide +kernel
theorem dX5_readPart_143 : decode cX5_readPart 143 = .ok (.putfield 22, 3) := by decide +kernel
theorem dX5_readPart_146 : decode cX5_readPart 146 = .ok (.iinc 3 1, 3) := by decide +kernel
theorem dX5_readPart_149 : decode cX5_readPart 149 = .ok (.goto (-37), 3) := by decide +kernel
theorem dX5_readPart_152 : decode cX5_readPart 152 = .ok (.iconst (-1), 1) := by decide +kernel
theorem dX5_readPart_153 : decode cX5_readPart 153 = .ok (.ireturn, 1) := by decide +kernel
set_option maxRecDepth 20000 in
theorem ggX5_readTimes_X5_isDigit : GoodIn wsX5_readTimes wsX5_isDigit := goodIn_r _ [7, 8, 2, 9, 10, 11, 12, 13] (by decide +kernel) (by decide +kernel)
set_option maxRecDepth 20000 in
theorem gX5_readTimes_X5_isDigit : GoodIn wsX5_readTimes (wsV RX5 32 RX5 yX5_isDigit wsX5_isDigit) := goodIn_app (goodIn_of _ (by decide +kernel)) ggX5_readTimes_X5_isDigit
theorem dX5_readTimes_0 : decode cX5_readTimes 0 = .ok (.aload_n 0, 1) := by decide +kernel
theorem dX5_readTimes_1 : decode cX5_readTimes 1 = .ok (.iload_n 1, 1) := by decide +kernel
theorem dX5_readTimes_2 : decode cX5_readTimes 2 = .ok (.putfield 25, 3) := by decide +kernel
theorem dX5_readTimes_5 : decode cX5_readTimes 5 = .ok (.aload_n 0, 1) := by decide +kernel
theorem dX5_readTimes_6 : decode cX5_readTimes 6 = .ok (.iload_n 1, 1) := by decide +kernel
theorem dX5_readTimes_7 : decode cX5_readTimes 7 = .ok (.invokevirtual 32, 3) := by decide +kernel
theorem dX5_readTimes_10 : decode cX5_readTimes 10 = .ok (.ifCond .eq 14, 3) := by decide +kernel
theorem dX5_readTimes_13 : decode cX5_readTimes 13 = .ok (.aload_n 0, 1) := by decide +kernel
theorem dX5_readTimes_14 : decode cX5_readTimes 14 = .ok (.getfield 15, 3) := by decide +kernel
theorem dX5_readTimes_17 : decode cX5_readTimes 17 = .ok (.iload_n 1, 1) := by decide +kernel
theorem dX5_readTimes_18 : decode cX5_readTimes 18 = .ok (.iaload, 1) := by decide +kernel
theorem dX5_readTimes_19 : decode cX5_readTimes 19 = .ok (.bipush 48, 2) := by decide +kernel
theorem dX5_readTimes_21 : decode cX5_readTimes 21 = .ok (.if_icmp .ne 5, 3) := by decide +kernel
theorem dX5_readTimes_24 : decode cX5_readTimes 24 = .ok (.iconst 0, 1) := by decide +kernel
theorem dX5_readTimes_25 : decode cX5_readTimes 25 = .ok (.ireturn, 1) := by decide +kernel
theorem dX5_readTimes_26 : decode cX5_readTimes 26 = .ok (.aload_n 0, 1) := by decide +kernel
theorem dX5_readTimes_27 : decode cX5_readTimes 27 = .ok (.getfield 15, 3) := by decide +kernel
theorem dX5_readTimes_30 : decode cX5_readTimes 30 = .ok (.iload_n 1, 1) := by decide +kernel
theorem dX5_readTimes_31 : decode cX5_readTimes 31 = .ok (.iaload, 1) := by decide +kernel
theorem dX5_readTimes_32 : decode cX5_readTimes 32 = .ok (.bipush 48, 2) := by decide +kernel
theorem dX5_readTimes_34 : decode cX5_readTimes 34 = .ok (.isub, 1) := by decide +kernel
theorem dX5_readTimes_35 : decode cX5_readTimes 35 = .ok (.istore_n 2, 1) := by decide +kernel
theorem dX5_readTimes_36 : decode cX5_readTimes 36 = .ok (.aload_n 0, 1) := by decide +kernel
theorem dX5_readTimes_37 : decode cX5_readTimes 37 = .ok (.dup, 1) := by decide +kernel
theorem dX5_readTimes_38 : decode cX5_readTimes 38 = .ok (.getfield 25, 3) := by decide +kernel
theorem dX5_readTimes_41 : decode cX5_readTimes 41 = .ok (.iconst 1, 1) := by decide +kernel
theorem dX5_readTimes_42 : decode cX5_readTimes 42 = .ok (.iadd, 1) := by decide +kernel
theorem dX5_readTimes_43 : decode cX5_readTimes 43 = .ok (.putfield 25, 3) := by decide +kernel
theorem dX5_readTimes_46 : decode cX5_readTimes 46 = .ok (.aload_n 0, 1) := by decide +kernel
theorem dX5_readTimes_47 : decode cX5_readTimes 47 = .ok (.aload_n 0, 1) := by decide +kernel
theorem dX5_readTimes_48 : decode cX5_readTimes 48 = .ok (.getfield 25, 3) := by decide +kernel
theorem dX5_readTimes_51 : decode cX5_readTimes 51 = .ok (.invokevirtual 32, 3) := by decide +kernel
theorem dX5_readTimes_54 : decode cX5_readTimes 54 = .ok (.ifCond .eq 44, 3) := by decide +kernel
theorem dX5_readTimes_57 : decode cX5_readTimes 57 = .ok (.bipush 10, 2) := by decide +kernel
theorem dX5_readTimes_59 : decode cX5_readTimes 59 = .ok (.iload_n 2, 1) := by decide +kernel
theorem dX5_readTimes_60 : decode cX5_readTimes 60 = .ok (.imul, 1) := by decide +kernel
theorem dX5_readTimes_61 : decode cX5_readTimes 61 = .ok (.aload_n 0, 1) := by decide +kernel
theorem dX5_readTimes_62 : decode cX5_readTimes 62 = .ok (.getfield 15, 3) := by decide +kernel
theorem dX5_readTimes_65 : decode cX5_readTimes 65 = .ok (.aload_n 0, 1) := by decide +kernel
theorem dX5_readTimes_66 : decode cX5_readTimes 66 = .ok (.getfield 25, 3) := by decide +kernel
theorem dX5_readTimes_69 : decode cX5_readTimes 69 = .ok (.iaload, 1) := by decide +kernel
theorem dX5_readTimes_70 : decode cX5_readTimes 70 = .ok (.iadd, 1) := by decide +kernel
theorem dX5_readTimes_71 : decode cX5_readTimes 71 = .ok (.bipush 48, 2) := by decide +kernel
theorem dX5_readTimes_73 : decode cX5_readTimes 73 = .ok (.isub, 1) := by decide +kernel
theorem dX5_readTimes_74 : decode cX5_readTimes 74 = .ok (.istore_n 2, 1) := by decide +kernel
theorem dX5_readTimes_75 : decode cX5_readTimes 75 = .ok (.aload_n 0, 1) := by decide +kernel
theorem dX5_readTimes_76 : decode cX5_readTimes 76 = .ok (.dup, 1) := by decide +kernel
theorem dX5_readTimes_77 : decode cX5_readTimes 77 = .ok (.getfield 25, 3) := by decide +kernel
theorem dX5_readTimes_80 : decode cX5_readTimes 80 = .ok (.iconst 1, 1) := by decide +kernel
theorem dX5_readTimes_81 : decode cX5_readTimes 81 = .ok (.iadd, 1) := by decide +kernel
theorem dX5_readTimes_82 : decode cX5_readTimes 82 = .ok (.putfield 25, 3) := by decide +kernel
theorem dX5_readTimes_85 : decode cX5_readTimes 85 = .ok (.aload_n 0, 1) := by decide +kernel
theorem dX5_readTimes_86 : decode cX5_readTimes 86 = .ok (.aload_n 0, 1) := by decide +kernel
theorem dX5_readTimes_87 : decode cX5_readTimes 87 = .ok (.getfield 25, 3) := by decide +kernel
theorem dX5_readTimes_90 : decode cX5_readTimes 90 = .ok (.invokevirtual 32, 3) := by decide +kernel
theorem dX5_readTimes_93 : decode cX5_readTimes 93 = .ok (.ifCond .eq 5, 3) := by decide +kernel
theorem dX5_readTimes_96 : decode cX5_readTimes 96 = .ok (.iconst 0, 1) := by decide +kernel
theorem dX5_readTimes_97 : decode cX5_readTimes 97 = .ok (.ireturn, 1) := by decide +kernel
theorem dX5_readTimes_98 : decode cX5_readTimes 98 = .ok (.iload_n 2, 1) := by decide +kernel
theorem dX5_readTimes_99 : decode cX5_readTimes 99 = .ok (.ireturn, 1) := by decide +kernel
theorem dX5_isDigit_0 : decode cX5_isDigit 0 = .ok (.iload_n 1, 1) := by decide +kernel
theorem dX5_isDigit_1 : decode cX5_isDigit 1 = .ok (.ifCond .lt 37, 3) := by decide +kernel
theorem dX5_isDigit_4 : decode cX5_isDigit 4 = .ok (.iload_n 1, 1) := by decide +kernel
theorem dX5_isDigit_5 : decode cX5_isDigit 5 = .ok (.aload_n 0, 1) := by decide +kernel
theorem dX5_isDigit_6 : decode cX5_isDigit 6 = .ok (.getfield 9, 3) := by decide +kernel
theorem dX5_isDigit_9 : decode cX5_isDigit 9 = .ok (.if_icmp .ge 29, 3) := by decide +kernel
theorem dX5_isDigit_12 : decode cX5_isDigit 12 = .ok (.aload_n 0, 1) := by decide +kernel
theorem dX5_isDigit_13 : decode cX5_isDigit 13 = .ok (.getfield 15, 3) := by decide +kernel
theorem dX5_isDigit_16 : decode cX5_isDigit 16 = .ok (.iload_n 1, 1) := by decide +kernel
theorem dX5_isDigit_17 : decode cX5_isDigit 17 = .ok (.iaload, 1) := by decide +kernel
theorem dX5_isDigit_18 : decode cX5_isDigit 18 = .ok (.bipush 48, 2) := by decide +kernel
theorem dX5_isDigit_20 : decode cX5_isDigit 20 = .ok (.if_icmp .lt 18, 3) := by decide +kernel
theorem dX5_isDigit_23 : decode cX5_isDigit 23 = .ok (.aload_n 0, 1) := by decide +kernel
theorem dX5_isDigit_24 : decode cX5_isDigit 24 = .ok (.getfield 15, 3) := by decide +kernel
theorem dX5_isDigit_27 : decode cX5_isDigit 27 = .ok (.iload_n 1, 1) := by decide +kernel
theorem dX5_isDigit_28 : decode cX5_isDigit 28 = .ok (.iaload, 1) := by decide +kernel
theorem dX5_isDigit_29 : decode cX5_isDigit 29 = .ok (.bipush 57, 2) := by decide +kernel
theorem dX5_isDigit_31 : decode cX5_isDigit 31 = .ok (.if_icmp .gt 7, 3) := by decide +kernel
theorem dX5_isDigit_34 : decode cX5_isDigit 34 = .ok (.iconst 1, 1) := by decide +kernel
theorem dX5_isDigit_35 : decode cX5_isDigit 35 = .ok (.goto 4, 3) := by decide +kernel
theorem dX5_isDigit_38 : decode cX5_isDigit 38 = .ok (.iconst 0, 1) := by decide +kernel
theorem dX5_isDigit_39 : decode cX5_isDigit 39 = .ok (.ireturn, 1) := by decide +kernel
set_option maxRecDepth 20000 in
theorem ggX6_init_X0_init : GoodIn wsX6_init wsX0_init := goodIn_r _ [29, 30, 2, 3, 31, 32, 33, 34, 35, 81, 82, 83] (by decide +kernel) (by decide +kernel)
set_option maxRecDepth 20000 in
theorem gX6_init_X0_init : GoodIn wsX6_init (wsX0_init) := ggX6_init_X0_init
set_option maxRecDepth 20000 in
theorem ggX6_init_X5_init : GoodIn wsX6_init wsX5_init := goodIn_r _ [37, 38, 2, 3, 39, 32, 40, 41, 42, 43, 92, 93, 94, 95, 96] (by decide +kernel) (by decide +kernel)
set_option maxRecDepth 20000 in
theorem gX6_init_X5_init_n26 : GoodIn wsX6_init (wsX5_init) := ggX6_init_X5_init
set_option maxRecDepth 20000 in
theorem ggX6_init_X2_init : GoodIn wsX6_init wsX2_init := goodIn_r _ [45, 46, 2, 3, 32, 47, 97] (by decide +kernel) (by decide +kernel)
set_option maxRecDepth 20000 in
theorem gX6_init_X2_init_n33 : GoodIn wsX6_init (wsX2_init) := ggX6_init_X2_init
set_option maxRecDepth 20000 in
theorem ggX6_init_X3_init : GoodIn wsX6_init wsX3_init := goodIn_r _ [49, 50, 2, 3, 51, 52, 53, 54, 32, 55, 56, 57, 58, 59, 60, 61, 114, 115, 116, 98, 99] (by decide +kernel) (by decide +kernel)
set_option maxRecDepth 20000 in
theorem gX6_init_X3_init_n40 : GoodIn wsX6_init (wsX3_init) := ggX6_init_X3_init
set_option maxRecDepth 20000 in
theorem ggX6_init_X1_init : GoodIn wsX6_init wsX1_init := goodIn_r _ [63, 64, 2, 3, 65, 66, 67, 32, 68, 69, 70, 71, 72, 73, 52, 53, 74, 75, 76, 77, 78, 79, 80, 56, 57, 58, 59, 60, 61, 100, 101, 102, 103, 104, 105, 106, 107, 108, 109, 110, 111, 112, 113, 114, 115, 116] (by decide +kernel) (by decide +kernel)
set_option maxRecDepth 20000 in
theorem gX6_init_X1_init_n47 : GoodIn wsX6_init (wsX1_init) := ggX6_init_X1_init
theorem dX6_init_0 : decode cX6_init 0 = .ok (.aload_n 0, 1) := by decide +kernel
theorem dX6_init_1 : decode cX6_init 1 = .ok (.invokespecial 1, 3) := by decide +kernel
theorem dX6_init_4 : decode cX6_init 4 = .ok (.aload_n 0, 1) := by decide +kernel
theorem dX6_init_5 : decode cX6_init 5 = .ok (.new 7, 3) := by decide +kernel
theorem dX6_init_8 : decode cX6_init 8 = .ok (.dup, 1) := by decide +kernel
theorem dX6_init_9 : decode cX6_init 9 = .ok (.invokespecial 9, 3) := by decide +kernel
theorem dX6_init_12 : decode cX6_init 12 = .ok (.putfield 10, 3) := by decide +kernel
theorem dX6_init_15 : decode cX6_init 15 = .ok (.aload_n 0, 1) := by decide +kernel
theorem dX6_init_16 : decode cX6_init 16 = .ok (.iconst 5, 1) := by decide +kernel
theorem dX6_init_17 : decode cX6_init 17 = .ok (.anewarray 7, 3) := by decide +kernel
theorem dX6_init_20 : decode cX6_init 20 = .ok (.putfield 16, 3) := by decide +kernel
theorem dX6_init_23 : decode cX6_init 23 = .ok (.aload_n 0, 1) := by decide +kernel
theorem dX6_init_24 : decode cX6_init 24 = .ok (.iconst 0, 1) := by decide +kernel
theorem dX6_init_25 : decode cX6_init 25 = .ok (.putfield 20, 3) := by decide +kernel
theorem dX6_init_28 : decode cX6_init 28 = .ok (.aload_n 0, 1) := by decide +kernel
theorem dX6_init_29 : decode cX6_init 29 = .ok (.new 24, 3) := by decide +kernel
theorem dX6_init_32 : decode cX6_init 32 = .ok (.dup, 1) := by decide +kernel
theorem dX6_init_33 : decode cX6_init 33 = .ok (.invokespecial 26, 3) := by decide +kernel
theorem dX6_init_36 : decode cX6_init 36 = .ok (.putfield 27, 3) := by decide +kernel
theorem dX6_init_39 : decode cX6_init 39 = .ok (.aload_n 0, 1) := by decide +kernel
theorem dX6_init_40 : decode cX6_init 40 = .ok (.new 31, 3) := by decide +kernel
theorem dX6_init_43 : decode cX6_init 43 = .ok (.dup, 1) := by decide +kernel
theorem dX6_init_44 : decode cX6_init 44 = .ok (.invokespecial 33, 3) := by decide +kernel
theorem dX6_init_47 : decode cX6_init 47 = .ok (.putfield 34, 3) := by decide +kernel
theorem dX6_init_50 : decode cX6_init 50 = .ok (.aload_n 0, 1) := by decide +kernel
theorem dX6_init_51 : decode cX6_init 51 = .ok (.new 38, 3) := by decide +kernel
theorem dX6_init_54 : decode cX6_init 54 = .ok (.dup, 1) := by decide +kernel
theorem dX6_init_55 : decode cX6_init 55 = .ok (.invokespecial 40, 3) := by decide +kernel
theorem dX6_init_58 : decode cX6_init 58 = .ok (.putfield 41, 3) := by decide +kernel
theorem dX6_init_61 : decode cX6_init 61 = .ok (.aload_n 0, 1) := by decide +kernel
theorem dX6_init_62 : decode cX6_init 62 = .ok (.new 45, 3) := by decide +kernel
theorem dX6_init_65 : decode cX6_init 65 = .ok (.dup, 1) := by decide +kernel
theorem dX6_init_66 : decode cX6_init 66 = .ok (.invokespecial 47, 3) := by decide +kernel
theorem dX6_init_69 : decode cX6_init 69 = .ok (.putfield 48, 3) := by decide +kernel
theorem dX6_init_72 : decode cX6_init 72 = .ok (.aload_n 0, 1) := by decide +kernel
theorem dX6_init_73 : decode cX6_init 73 = .ok (.iconst 0, 1) := by decide +kernel
theorem dX6_init_74 : decode cX6_init 74 = .ok (.putfield 52, 3) := by decide +kernel
theorem dX6_init_77 : decode cX6_init 77 = .ok (.iconst 0, 1) := by decide +kernel
theorem dX6_init_78 : decode cX6_init 78 = .ok (.istore_n 1, 1) := by decide +kernel
theorem dX6_init_79 : decode cX6_init 79 = .ok (.iload_n 1, 1) := by decide +kernel
theorem dX6_init_80 : decode cX6_init 80 = .ok (.iconst 5, 1) := by decide +kernel
theorem dX6_init_81 : decode cX6_init 81 = .ok (.if_icmp .ge 22, 3) := by decide +kernel
theorem dX6_init_84 : decode cX6_init 84 = .ok (.aload_n 0, 1) := by decide +kernel
theorem dX6_init_85 : decode cX6_init 85 = .ok (.getfield 16, 3) := by decide +kernel
theorem dX6_init_88 : decode cX6_init 88 = .ok (.iload_n 1, 1) := by decide +kernel
theorem dX6_init_89 : decode cX6_init 89 = .ok (.new 7, 3) := by decide +kernel
theorem dX6_init_92 : decode cX6_init 92 = .ok (.dup, 1) := by decide +kernel
theorem dX6_init_93 : decode cX6_init 93 = .ok (.invokespecial 9, 3) := by decide +kernel
theorem dX6_init_96 : decode cX6_init 96 = .ok (.aastore, 1) := by decide +kernel
theorem dX6_init_97 : decode cX6_init 97 = .ok (.iinc 1 1, 3) := by decide +kernel
theorem dX6_init_100 : decode cX6_init 100 = .ok (.goto (-21), 3) := by decide +kernel
theorem dX6_init_103 : decode cX6_init 103 = .ok (.return_, 1) := by decide +kernel
set_option maxRecDepth 20000 in
theorem ggX6_addGuest_X6_record : GoodIn wsX6_addGuest wsX6_record := goodIn_r _ [7, 8, 9, 1, 10, 11, 12, 13, 6, 14, 15, 16, 17, 18, 19, 20, 21, 22, 23, 24, 25, 26, 27, 28, 29, 30, 31, 32, 33, 34, 43, 44, 45, 46, 47, 48, 49, 50, 51, 52, 53] (by decide +kernel) (by decide +kernel)
set_option maxRecDepth 20000 in
theorem gX6_addGuest_X6_record : GoodIn wsX6_addGuest (wsV RX6 59 RX6 yX6_record wsX6_record) := goodIn_app (goodIn_of _ (by decide +kernel)) ggX6_addGuest_X6_record
set_option maxRecDepth 20000 in
theorem ggX6_addGuest_X0_seatGuest : GoodIn wsX6_addGuest wsX0_seatGuest := goodIn_r _ [38, 20, 39, 40, 41, 18, 42, 22, 51, 52, 53] (by decide +kernel) (by decide +kernel)
set_option maxRecDepth 20000 in
theorem gX6_addGuest_X0_seatGuest : GoodIn wsX6_addGuest (wsV RX6 62 RX0 yX0_seatGuest wsX0_seatGuest) := goodIn_app (goodIn_of _ (by decide +kernel)) ggX6_addGuest_X0_seatGuest
theorem dX6_addGuest_0 : decode cX6_addGuest 0 = .ok (.aload_n 0, 1) := by decide +kernel
theorem dX6_addGuest_1 : decode cX6_addGuest 1 = .ok (.getfield 10, 3) := by decide +kernel
theorem dX6_addGuest_4 : decode cX6_addGuest 4 = .ok (.getfield 56, 3) := by decide +kernel
theorem dX6_addGuest_7 : decode cX6_addGuest 7 = .ok (.iconst 4, 1) := by decide +kernel
theorem dX6_addGuest_8 : decode cX6_addGuest 8 = .ok (.if_icmp .lt 6, 3) := by decide +kernel
theorem dX6_addGuest_11 : decode cX6_addGuest 11 = .ok (.bipush (-3), 2) := by decide +kernel
theorem dX6_addGuest_13 : decode cX6_addGuest 13 = .ok (.ireturn, 1) := by decide +kernel
theorem dX6_addGuest_14 : decode cX6_addGuest 14 = .ok (.aload_n 0, 1) := by decide +kernel
theorem dX6_addGuest_15 : decode cX6_addGuest 15 = .ok (.invokevirtual 59, 3) := by decide +kernel
theorem dX6_addGuest_18 : decode cX6_addGuest 18 = .ok (.aload_n 0, 1) := by decide +kernel
theorem dX6_addGuest_19 : decode cX6_addGuest 19 = .ok (.getfield 10, 3) := by decide +kernel
theorem dX6_addGuest_22 : decode cX6_addGuest 22 = .ok (.invokevirtual 62, 3) := by decide +kernel
theorem dX6_addGuest_25 : decode cX6_addGuest 25 = .ok (.ireturn, 1) := by decide +kernel
set_option maxRecDepth 20000 in
theorem ggX6_setValue_X0_isGuest : GoodIn wsX6_setValue wsX0_isGuest := goodIn_r _ [6, 7, 61, 62, 63] (by decide +kernel) (by decide +kernel)
set_option maxRecDepth 20000 in
theorem gX6_setValue_X0_isGuest : GoodIn wsX6_setValue (wsV RX6 66 RX0 yX0_isGuest wsX0_isGuest) := goodIn_app (goodIn_of _ (by decide +kernel)) ggX6_setValue_X0_isGuest
set_option maxRecDepth 20000 in
theorem ggX6_setValue_X6_isSpan : GoodIn wsX6_setValue wsX6_isSpan := goodIn_r _ [11] (by decide +kernel) (by decide +kernel)
set_option maxRecDepth 20000 in
theorem gX6_setValue_X6_isSpan : GoodIn wsX6_setValue (va_wsS RX6 70 yX6_isSpan wsX6_isSpan) := goodIn_app (goodIn_of _ (by decide +kernel)) ggX6_setValue_X6_isSpan
set_option maxRecDepth 20000 in
theorem ggX6_setValue_X6_record : GoodIn wsX6_setValue wsX6_record := goodIn_r _ [15, 16, 17, 1, 18, 19, 20, 21, 10, 22, 23, 24, 25, 5, 26, 7, 27, 28, 29, 30, 31, 32, 33, 34, 35, 36, 37, 38, 39, 40, 53, 54, 55, 56, 57, 58, 59, 60, 61, 62, 63] (by decide +kernel) (by decide +kernel)
set_option maxRecDepth 20000 in
theorem gX6_setValue_X6_record : GoodIn wsX6_setValue (wsV RX6 59 RX6 yX6_record wsX6_record) := goodIn_app (goodIn_of _ (by decide +kernel)) ggX6_setValue_X6_record
set_option maxRecDepth 20000 in
theorem ggX6_setValue_X0_setValues : GoodIn wsX6_setValue wsX0_setValues := goodIn_r _ [44, 28, 61, 62, 63] (by decide +kernel) (by decide +kernel)
set_option maxRecDepth 20000 in
theorem gX6_setValue_X0_setValues : GoodIn wsX6_setValue (wsV RX6 74 RX0 yX0_setValues wsX0_setValues) := goodIn_app (goodIn_of _ (by decide +kernel)) ggX6_setValue_X0_setValues
set_option maxRecDepth 20000 in
theorem ggX6_setValue_X0_total : GoodIn wsX6_setValue wsX0_total := goodIn_r _ [48, 49, 50, 51, 5, 52, 28, 61, 62, 63] (by decide +kernel) (by decide +kernel)
set_option maxRecDepth 20000 in
theorem gX6_setValue_X0_total : GoodIn wsX6_setValue (wsV RX6 78 RX0 yX0_total wsX0_total) := goodIn_app (goodIn_of _ (by decide +kernel)) ggX6_setValue_X0_total
theorem dX6_setValue_0 : decode cX6_setValue 0 = .ok (.aload_n 0, 1) := by decide +kernel
theorem dX6_setValue_1 : decode cX6_setValue 1 = .ok (.getfield 10, 3) := by decide +kernel
theorem dX6_setValue_4 : decode cX6_setValue 4 = .ok (.iload_n 1, 1) := by decide +kernel
theorem dX6_setValue_5 : decode cX6_setValue 5 = .ok (.invokevirtual 66, 3) := by decide +kernel
theorem dX6_setValue_8 : decode cX6_setValue 8 = .ok (.ifCond .eq 23, 3) := by decide +kernel
theorem dX6_setValue_11 : decode cX6_setValue 11 = .ok (.iload_n 2, 1) := by decide +kernel
theorem dX6_setValue_12 : decode cX6_setValue 12 = .ok (.iload_n 3, 1) := by decide +kernel
theorem dX6_setValue_13 : decode cX6_setValue 13 = .ok (.invokestatic 70, 3) := by decide +kernel
theorem dX6_setValue_16 : decode cX6_setValue 16 = .ok (.ifCond .eq 15, 3) := by decide +kernel
theorem dX6_setValue_19 : decode cX6_setValue 19 = .ok (.iload 4, 2) := by decide +kernel
theorem dX6_setValue_21 : decode cX6_setValue 21 = .ok (.ifCond .lt 10, 3) := by decide +kernel
theorem dX6_setValue_24 : decode cX6_setValue 24 = .ok (.iload 4, 2) := by decide +kernel
theorem dX6_setValue_26 : decode cX6_setValue 26 = .ok (.bipush 9, 2) := by decide +kernel
theorem dX6_setValue_28 : decode cX6_setValue 28 = .ok (.if_icmp .le 5, 3) := by decide +kernel
theorem dX6_setValue_31 : decode cX6_setValue 31 = .ok (.iconst (-1), 1) := by decide +kernel
theorem dX6_setValue_32 : decode cX6_setValue 32 = .ok (.ireturn, 1) := by decide +kernel
theorem dX6_setValue_33 : decode cX6_setValue 33 = .ok (.aload_n 0, 1) := by decide +kernel
theorem dX6_setValue_34 : decode cX6_setValue 34 = .ok (.invokevirtual 59, 3) := by decide +kernel
theorem dX6_setValue_37 : decode cX6_setValue 37 = .ok (.aload_n 0, 1) := by decide +kernel
theorem dX6_setValue_38 : decode cX6_setValue 38 = .ok (.getfield 10, 3) := by decide +kernel
theorem dX6_setValue_41 : decode cX6_setValue 41 = .ok (.iload_n 1, 1) := by decide +kernel
theorem dX6_setValue_42 : decode cX6_setValue 42 = .ok (.iload_n 2, 1) := by decide +kernel
theorem dX6_setValue_43 : decode cX6_setValue 43 = .ok (.iload_n 3, 1) := by decide +kernel
theorem dX6_setValue_44 : decode cX6_setValue 44 = .ok (.iload 4, 2) := by decide +kernel
theorem dX6_setValue_46 : decode cX6_setValue 46 = .ok (.invokevirtual 74, 3) := by decide +kernel
theorem dX6_setValue_49 : decode cX6_setValue 49 = .ok (.aload_n 0, 1) := by decide +kernel
theorem dX6_setValue_50 : decode cX6_setValue 50 = .ok (.getfield 10, 3) := by decide +kernel
theorem dX6_setValue_53 : decode cX6_setValue 53 = .ok (.iload_n 1, 1) := by decide +kernel
theorem dX6_setValue_54 : decode cX6_setValue 54 = .ok (.invokevirtual 78, 3) := by decide +kernel
theorem dX6_setValue_57 : decode cX6_setValue 57 = .ok (.ireturn, 1) := by decide +kernel
set_option maxRecDepth 20000 in
theorem ggX6_append_X5_put : GoodIn wsX6_append wsX5_put := goodIn_r _ [7, 8, 9, 18, 19, 20, 21, 22] (by decide +kernel) (by decide +kernel)
set_option maxRecDepth 20000 in
theorem gX6_append_X5_put : GoodIn wsX6_append (wsV RX6 85 RX5 yX5_put wsX5_put) := goodIn_app (goodIn_of _ (by decide +kernel)) ggX6_append_X5_put
theorem dX6_append_0 : decode cX6_append 0 = .ok (.iload_n 1, 1) := by decide +kernel
theorem dX6_append_1 : decode cX6_append 1 = .ok (.iconst 1, 1) := by decide +kernel
theorem dX6_append_2 : decode cX6_append 2 = .ok (.if_icmp .lt 10, 3) := by decide +kernel
theorem dX6_append_5 : decode cX6_append 5 = .ok (.iload_n 1, 1) := by decide +kernel
theorem dX6_append_6 : decode cX6_append 6 = .ok (.sipush 255, 3) := by decide +kernel
theorem dX6_append_9 : decode cX6_append 9 = .ok (.if_icmp .le 5, 3) := by decide +kernel
theorem dX6_append_12 : decode cX6_append 12 = .ok (.iconst (-1), 1) := by decide +kernel
theorem dX6_append_13 : decode cX6_append 13 = .ok (.ireturn, 1) := by decide +kernel
theorem dX6_append_14 : decode cX6_append 14 = .ok (.aload_n 0, 1) := by decide +kernel
theorem dX6_append_15 : decode cX6_append 15 = .ok (.getfield 27, 3) := by decide +kernel
theorem dX6_append_18 : decode cX6_append 18 = .ok (.getfield 82, 3) := by decide +kernel
theorem dX6_append_21 : decode cX6_append 21 = .ok (.bipush 60, 2) := by decide +kernel
theorem dX6_append_23 : decode cX6_append 23 = .ok (.if_icmp .lt 6, 3) := by decide +kernel
theorem dX6_append_26 : decode cX6_append 26 = .ok (.bipush (-3), 2) := by decide +kernel
theorem dX6_append_28 : decode cX6_append 28 = .ok (.ireturn, 1) := by decide +kernel
theorem dX6_append_29 : decode cX6_append 29 = .ok (.aload_n 0, 1) := by decide +kernel
theorem dX6_append_30 : decode cX6_append 30 = .ok (.getfield 27, 3) := by decide +kernel
theorem dX6_append_33 : decode cX6_append 33 = .ok (.iload_n 1, 1) := by decide +kernel
theorem dX6_append_34 : decode cX6_append 34 = .ok (.invokevirtual 85, 3) := by decide +kernel
theorem dX6_append_37 : decode cX6_append 37 = .ok (.ireturn, 1) := by decide +kernel
theorem dX6_clearText_0 : decode cX6_clearText 0 = .ok (.aload_n 0, 1) := by decide +kernel
theorem dX6_clearText_1 : decode cX6_clearText 1 = .ok (.getfield 27, 3) := by decide +kernel
theorem dX6_clearText_4 : decode cX6_clearText 4 = .ok (.getfield 82, 3) := by decide +kernel
theorem dX6_clearText_7 : decode cX6_clearText 7 = .ok (.istore_n 1, 1) := by decide +kernel
theorem dX6_clearText_8 : decode cX6_clearText 8 = .ok (.aload_n 0, 1) := by decide +kernel
theorem dX6_clearText_9 : decode cX6_clearText 9 = .ok (.getfield 27, 3) := by decide +kernel
theorem dX6_clearText_12 : decode cX6_clearText 12 = .ok (.iconst 0, 1) := by decide +kernel
theorem dX6_clearText_13 : decode cX6_clearText 13 = .ok (.putfield 82, 3) := by decide +kernel
theorem dX6_clearText_16 : decode cX6_clearText 16 = .ok (.iload_n 1, 1) := by decide +kernel
theorem dX6_clearText_17 : decode cX6_clearText 17 = .ok (.ireturn, 1) := by decide +kernel
set_option maxRecDepth 20000 in
theorem ggX6_read_X0_isGuest : GoodIn wsX6_read wsX0_isGuest := goodIn_r _ [8, 9, 84, 85, 86] (by decide +kernel) (by decide +kernel)
set_option maxRecDepth 20000 in
theorem gX6_read_X0_isGuest : GoodIn wsX6_read (wsV RX6 66 RX0 yX0_isGuest wsX0_isGuest) := goodIn_app (goodIn_of _ (by decide +kernel)) ggX6_read_X0_isGuest
set_option maxRecDepth 20000 in
theorem ggX6_read_X5_findFailure : GoodIn wsX6_read wsX5_findFailure := goodIn_r _ [14, 15, 16, 17, 18, 19, 20, 21, 13, 22, 23, 24, 25, 26, 27, 28, 29, 30, 31, 79, 80, 81, 82, 83] (by decide +kernel) (by decide +kernel)
set_option maxRecDepth 20000 in
theorem gX6_read_X5_findFailure : GoodIn wsX6_read (wsV RX6 88 RX5 yX5_findFailure wsX5_findFailure) := goodIn_app (goodIn_of _ (by decide +kernel)) ggX6_read_X5_findFailure
set_option maxRecDepth 20000 in
theorem ggX6_read_X6_record : GoodIn wsX6_read wsX6_record := goodIn_r _ [36, 37, 38, 1, 39, 40, 41, 42, 35, 43, 44, 45, 46, 7, 47, 9, 48, 49, 50, 51, 52, 53, 54, 55, 56, 57, 58, 59, 60, 61, 71, 72, 73, 74, 75, 76, 77, 78, 84, 85, 86] (by decide +kernel) (by decide +kernel)
set_option maxRecDepth 20000 in
theorem gX6_read_X6_record : GoodIn wsX6_read (wsV RX6 59 RX6 yX6_record wsX6_record) := goodIn_app (goodIn_of _ (by decide +kernel)) ggX6_read_X6_record
set_option maxRecDepth 20000 in
theorem ggX6_read_X0_takeValues : GoodIn wsX6_read wsX0_takeValues := goodIn_r _ [61, 49, 54, 55, 56, 57, 84, 85, 86] (by decide +kernel) (by decide +kernel)
set_option maxRecDepth 20000 in
theorem gX6_read_X0_takeValues : GoodIn wsX6_read (wsV RX6 95 RX0 yX0_takeValues wsX0_takeValues) := goodIn_app (goodIn_of _ (by decide +kernel)) ggX6_read_X0_takeValues
set_option maxRecDepth 20000 in
theorem ggX6_read_X0_total : GoodIn wsX6_read wsX0_total := goodIn_r _ [66, 67, 68, 69, 7, 70, 49, 84, 85, 86] (by decide +kernel) (by decide +kernel)
set_option maxRecDepth 20000 in
theorem gX6_read_X0_total : GoodIn wsX6_read (wsV RX6 78 RX0 yX0_total wsX0_total) := goodIn_app (goodIn_of _ (by decide +kernel)) ggX6_read_X0_total
theorem dX6_read_0 : decode cX6_read 0 = .ok (.aload_n 0, 1) := by decide +kernel
theorem dX6_read_1 : decode cX6_read 1 = .ok (.getfield 10, 3) := by decide +kernel
theorem dX6_read_4 : decode cX6_read 4 = .ok (.iload_n 1, 1) := by decide +kernel
theorem dX6_read_5 : decode cX6_read 5 = .ok (.invokevirtual 66, 3) := by decide +kernel
theorem dX6_read_8 : decode cX6_read 8 = .ok (.ifCond .ne 5, 3) := by decide +kernel
theorem dX6_read_11 : decode cX6_read 11 = .ok (.iconst (-1), 1) := by decide +kernel
theorem dX6_read_12 : decode cX6_read 12 = .ok (.ireturn, 1) := by decide +kernel
theorem dX6_read_13 : decode cX6_read 13 = .ok (.aload_n 0, 1) := by decide +kernel
theorem dX6_read_14 : decode cX6_read 14 = .ok (.getfield 27, 3) := by decide +kernel
theorem dX6_read_17 : decode cX6_read 17 = .ok (.invokevirtual 88, 3) := by decide +kernel
theorem dX6_read_20 : decode cX6_read 20 = .ok (.istore_n 2, 1) := by decide +kernel
theorem dX6_read_21 : decode cX6_read 21 = .ok (.iload_n 2, 1) := by decide +kernel
theorem dX6_read_22 : decode cX6_read 22 = .ok (.iconst (-1), 1) := by decide +kernel
theorem dX6_read_23 : decode cX6_read 23 = .ok (.if_icmp .eq 9, 3) := by decide +kernel
theorem dX6_read_26 : decode cX6_read 26 = .ok (.sipush (-1000), 3) := by decide +kernel
theorem dX6_read_29 : decode cX6_read 29 = .ok (.iload_n 2, 1) := by decide +kernel
theorem dX6_read_30 : decode cX6_read 30 = .ok (.isub, 1) := by decide +kernel
theorem dX6_read_31 : decode cX6_read 31 = .ok (.ireturn, 1) := by decide +kernel
theorem dX6_read_32 : decode cX6_read 32 = .ok (.aload_n 0, 1) := by decide +kernel
theorem dX6_read_33 : decode cX6_read 33 = .ok (.invokevirtual 59, 3) := by decide +kernel
theorem dX6_read_36 : decode cX6_read 36 = .ok (.aload_n 0, 1) := by decide +kernel
theorem dX6_read_37 : decode cX6_read 37 = .ok (.getfield 10, 3) := by decide +kernel
theorem dX6_read_40 : decode cX6_read 40 = .ok (.iload_n 1, 1) := by decide +kernel
theorem dX6_read_41 : decode cX6_read 41 = .ok (.aload_n 0, 1) := by decide +kernel
theorem dX6_read_42 : decode cX6_read 42 = .ok (.getfield 27, 3) := by decide +kernel
theorem dX6_read_45 : decode cX6_read 45 = .ok (.getfield 91, 3) := by decide +kernel
theorem dX6_read_48 : decode cX6_read 48 = .ok (.invokevirtual 95, 3) := by decide +kernel
theorem dX6_read_51 : decode cX6_read 51 = .ok (.aload_n 0, 1) := by decide +kernel
theorem dX6_read_52 : decode cX6_read 52 = .ok (.getfield 10, 3) := by decide +kernel
theorem dX6_read_55 : decode cX6_read 55 = .ok (.iload_n 1, 1) := by decide +kernel
theorem dX6_read_56 : decode cX6_read 56 = .ok (.invokevirtual 78, 3) := by decide +kernel
theorem dX6_read_59 : decode cX6_read 59 = .ok (.ireturn, 1) := by decide +kernel
set_option maxRecDepth 20000 in
theorem ggX6_give_X0_isGuest : GoodIn wsX6_give wsX0_isGuest := goodIn_r _ [6, 7, 53, 54, 55] (by decide +kernel) (by decide +kernel)
set_option maxRecDepth 20000 in
theorem gX6_give_X0_isGuest : GoodIn wsX6_give (wsV RX6 66 RX0 yX0_isGuest wsX0_isGuest) := goodIn_app (goodIn_of _ (by decide +kernel)) ggX6_give_X0_isGuest
set_option maxRecDepth 20000 in
theorem ggX6_give_X6_isSpan : GoodIn wsX6_give wsX6_isSpan := goodIn_r _ [11] (by decide +kernel) (by decide +kernel)
set_option maxRecDepth 20000 in
theorem gX6_give_X6_isSpan : GoodIn wsX6_give (va_wsS RX6 70 yX6_isSpan wsX6_isSpan) := goodIn_app (goodIn_of _ (by decide +kernel)) ggX6_give_X6_isSpan
set_option maxRecDepth 20000 in
theorem ggX6_give_X6_record : GoodIn wsX6_give wsX6_record := goodIn_r _ [15, 16, 17, 1, 18, 19, 20, 21, 10, 22, 23, 24, 25, 5, 26, 7, 27, 28, 29, 30, 31, 32, 33, 34, 35, 36, 37, 38, 39, 40, 45, 46, 47, 48, 49, 50, 51, 52, 53, 54, 55] (by decide +kernel) (by decide +kernel)
set_option maxRecDepth 20000 in
theorem gX6_give_X6_record : GoodIn wsX6_give (wsV RX6 59 RX6 yX6_record wsX6_record) := goodIn_app (goodIn_of _ (by decide +kernel)) ggX6_give_X6_record
set_option maxRecDepth 20000 in
theorem ggX6_give_X0_handOut : GoodIn wsX6_give wsX0_handOut := goodIn_r _ [44, 27, 53, 54, 55] (by decide +kernel) (by decide +kernel)
set_option maxRecDepth 20000 in
theorem gX6_give_X0_handOut : GoodIn wsX6_give (wsV RX6 99 RX0 yX0_handOut wsX0_handOut) := goodIn_app (goodIn_of _ (by decide +kernel)) ggX6_give_X0_handOut
theorem dX6_give_0 : decode cX6_give 0 = .ok (.aload_n 0, 1) := by decide +kernel
theorem dX6_give_1 : decode cX6_give 1 = .ok (.getfield 10, 3) := by decide +kernel
theorem dX6_give_4 : decode cX6_give 4 = .ok (.iload_n 1, 1) := by decide +kernel
theorem dX6_give_5 : decode cX6_give 5 = .ok (.invokevirtual 66, 3) := by decide +kernel
theorem dX6_give_8 : decode cX6_give 8 = .ok (.ifCond .eq 11, 3) := by decide +kernel
theorem dX6_give_11 : decode cX6_give 11 = .ok (.iload_n 2, 1) := by decide +kernel
theorem dX6_give_12 : decode cX6_give 12 = .ok (.iload_n 3, 1) := by decide +kernel
theorem dX6_give_13 : decode cX6_give 13 = .ok (.invokestatic 70, 3) := by decide +kernel
theorem dX6_give_16 : decode cX6_give 16 = .ok (.ifCond .ne 5, 3) := by decide +kernel
theorem dX6_give_19 : decode cX6_give 19 = .ok (.iconst (-1), 1) := by decide +kernel
theorem dX6_give_20 : decode cX6_give 20 = .ok (.ireturn, 1) := by decide +kernel
theorem dX6_give_21 : decode cX6_give 21 = .ok (.aload_n 0, 1) := by decide +kernel
theorem dX6_give_22 : decode cX6_give 22 = .ok (.invokevirtual 59, 3) := by decide +kernel
theorem dX6_give_25 : decode cX6_give 25 = .ok (.aload_n 0, 1) := by decide +kernel
theorem dX6_give_26 : decode cX6_give 26 = .ok (.getfield 10, 3) := by decide +kernel
theorem dX6_give_29 : decode cX6_give 29 = .ok (.iload_n 1, 1) := by decide +kernel
theorem dX6_give_30 : decode cX6_give 30 = .ok (.iload_n 2, 1) := by decide +kernel
theorem dX6_give_31 : decode cX6_give 31 = .ok (.iload_n 3, 1) := by decide +kernel
theorem dX6_give_32 : decode cX6_give 32 = .ok (.invokevirtual 99, 3) := by decide +kernel
theorem dX6_give_35 : decode cX6_give 35 = .ok (.ireturn, 1) := by decide +kernel
set_option maxRecDepth 20000 in
theorem ggX6_putBack_X6_isSpan : GoodIn wsX6_putBack wsX6_isSpan := goodIn_r _ [5] (by decide +kernel) (by decide +kernel)
set_option maxRecDepth 20000 in
theorem gX6_putBack_X6_isSpan : GoodIn wsX6_putBack (va_wsS RX6 70 yX6_isSpan wsX6_isSpan) := goodIn_app (goodIn_of _ (by decide +kernel)) ggX6_putBack_X6_isSpan
set_option maxRecDepth 20000 in
theorem ggX6_putBack_X6_record : GoodIn wsX6_putBack wsX6_record := goodIn_r _ [9, 10, 11, 1, 12, 13, 14, 15, 4, 16, 17, 18, 19, 20, 21, 22, 23, 24, 25, 26, 27, 28, 29, 30, 31, 32, 33, 34, 35, 36, 41, 42, 43, 44, 45, 46, 47, 48, 49, 50, 51] (by decide +kernel) (by decide +kernel)
set_option maxRecDepth 20000 in
theorem gX6_putBack_X6_record : GoodIn wsX6_putBack (wsV RX6 59 RX6 yX6_record wsX6_record) := goodIn_app (goodIn_of _ (by decide +kernel)) ggX6_putBack_X6_record
set_option maxRecDepth 20000 in
theorem ggX6_putBack_X0_takeBack : GoodIn wsX6_putBack wsX0_takeBack := goodIn_r _ [40, 23, 49, 50, 51] (by decide +kernel) (by decide +kernel)
set_option maxRecDepth 20000 in
theorem gX6_putBack_X0_takeBack : GoodIn wsX6_putBack (wsV RX6 103 RX0 yX0_takeBack wsX0_takeBack) := goodIn_app (goodIn_of _ (by decide +kernel)) ggX6_putBack_X0_takeBack
theorem dX6_putBack_0 : decode cX6_putBack 0 = .ok (.iload_n 1, 1) := by decide +kernel
theorem dX6_putBack_1 : decode cX6_putBack 1 = .ok (.iload_n 2, 1) := by decide +kernel
theorem dX6_putBack_2 : decode cX6_putBack 2 = .ok (.invokestatic 70, 3) := by decide +kernel
theorem dX6_putBack_5 : decode cX6_putBack 5 = .ok (.ifCond .ne 5, 3) := by decide +kernel
theorem dX6_putBack_8 : decode cX6_putBack 8 = .ok (.iconst (-1), 1) := by decide +kernel
theorem dX6_putBack_9 : decode cX6_putBack 9 = .ok (.ireturn, 1) := by decide +kernel
theorem dX6_putBack_10 : decode cX6_putBack 10 = .ok (.aload_n 0, 1) := by decide +kernel
theorem dX6_putBack_11 : decode cX6_putBack 11 = .ok (.invokevirtual 59, 3) := by decide +kernel
theorem dX6_putBack_14 : decode cX6_putBack 14 = .ok (.aload_n 0, 1) := by decide +kernel
theorem dX6_putBack_15 : decode cX6_putBack 15 = .ok (.getfield 10, 3) := by decide +kernel
theorem dX6_putBack_18 : decode cX6_putBack 18 = .ok (.iload_n 1, 1) := by decide +kernel
theorem dX6_putBack_19 : decode cX6_putBack 19 = .ok (.iload_n 2, 1) := by decide +kernel
theorem dX6_putBack_20 : decode cX6_putBack 20 = .ok (.invokevirtual 103, 3) := by decide +kernel
theorem dX6_putBack_23 : decode cX6_putBack 23 = .ok (.ireturn, 1) := by decide +kernel
set_option maxRecDepth 20000 in
theorem ggX6_move_X6_isMove : GoodIn wsX6_move wsX6_isMove := goodIn_r _ [8, 2, 9, 70, 71, 72, 73, 74, 75, 76, 77, 79, 80, 81] (by decide +kernel) (by decide +kernel)
set_option maxRecDepth 20000 in
theorem gX6_move_X6_isMove : GoodIn wsX6_move (wsV RX6 107 RX6 yX6_isMove wsX6_isMove) := goodIn_app (goodIn_of _ (by decide +kernel)) ggX6_move_X6_isMove
set_option maxRecDepth 20000 in
theorem ggX6_move_X6_record : GoodIn wsX6_move wsX6_record := goodIn_r _ [13, 14, 15, 2, 16, 17, 18, 19, 7, 20, 21, 22, 23, 24, 25, 26, 27, 28, 29, 30, 31, 32, 33, 34, 35, 36, 37, 38, 39, 40, 70, 71, 72, 73, 74, 75, 76, 77, 79, 80, 81] (by decide +kernel) (by decide +kernel)
set_option maxRecDepth 20000 in
theorem gX6_move_X6_record : GoodIn wsX6_move (wsV RX6 59 RX6 yX6_record wsX6_record) := goodIn_app (goodIn_of _ (by decide +kernel)) ggX6_move_X6_record
set_option maxRecDepth 20000 in
theorem ggX6_move_X2_pass : GoodIn wsX6_move wsX2_pass := goodIn_r _ [45, 46, 47, 48, 34, 35, 36, 49, 50, 44, 51, 52, 53, 54, 55, 24, 56, 27, 28, 57, 58, 59, 60, 61, 62, 63, 64, 65, 66, 67, 68, 79, 80, 81, 78] (by decide +kernel) (by decide +kernel)
set_option maxRecDepth 20000 in
theorem gX6_move_X2_pass : GoodIn wsX6_move (wsV RX6 110 RX2 yX2_pass wsX2_pass) := goodIn_app (goodIn_of _ (by decide +kernel)) ggX6_move_X2_pass
set_option maxRecDepth 20000 in
theorem ggX6_move_X0_takeOwners : GoodIn wsX6_move wsX0_takeOwners := goodIn_r _ [32, 27, 33, 34, 35, 36, 79, 80, 81] (by decide +kernel) (by decide +kernel)
set_option maxRecDepth 20000 in
theorem gX6_move_X0_takeOwners : GoodIn wsX6_move (wsV RX6 117 RX0 yX0_takeOwners wsX0_takeOwners) := goodIn_app (goodIn_of _ (by decide +kernel)) ggX6_move_X0_takeOwners
theorem dX6_move_0 : decode cX6_move 0 = .ok (.aload_n 0, 1) := by decide +kernel
theorem dX6_move_1 : decode cX6_move 1 = .ok (.iload_n 1, 1) := by decide +kernel
theorem dX6_move_2 : decode cX6_move 2 = .ok (.iload_n 2, 1) := by decide +kernel
theorem dX6_move_3 : decode cX6_move 3 = .ok (.invokevirtual 107, 3) := by decide +kernel
theorem dX6_move_6 : decode cX6_move 6 = .ok (.ifCond .ne 5, 3) := by decide +kernel
theorem dX6_move_9 : decode cX6_move 9 = .ok (.iconst (-1), 1) := by decide +kernel
theorem dX6_move_10 : decode cX6_move 10 = .ok (.ireturn, 1) := by decide +kernel
theorem dX6_move_11 : decode cX6_move 11 = .ok (.aload_n 0, 1) := by decide +kernel
theorem dX6_move_12 : decode cX6_move 12 = .ok (.invokevirtual 59, 3) := by decide +kernel
theorem dX6_move_15 : decode cX6_move 15 = .ok (.aload_n 0, 1) := by decide +kernel
theorem dX6_move_16 : decode cX6_move 16 = .ok (.getfield 34, 3) := by decide +kernel
theorem dX6_move_19 : decode cX6_move 19 = .ok (.aload_n 0, 1) := by decide +kernel
theorem dX6_move_20 : decode cX6_move 20 = .ok (.getfield 10, 3) := by decide +kernel
theorem dX6_move_23 : decode cX6_move 23 = .ok (.iload_n 1, 1) := by decide +kernel
theorem dX6_move_24 : decode cX6_move 24 = .ok (.iload_n 2, 1) := by decide +kernel
theorem dX6_move_25 : decode cX6_move 25 = .ok (.invokevirtual 110, 3) := by decide +kernel
theorem dX6_move_28 : decode cX6_move 28 = .ok (.istore_n 3, 1) := by decide +kernel
theorem dX6_move_29 : decode cX6_move 29 = .ok (.aload_n 0, 1) := by decide +kernel
theorem dX6_move_30 : decode cX6_move 30 = .ok (.getfield 10, 3) := by decide +kernel
theorem dX6_move_33 : decode cX6_move 33 = .ok (.aload_n 0, 1) := by decide +kernel
theorem dX6_move_34 : decode cX6_move 34 = .ok (.getfield 34, 3) := by decide +kernel
theorem dX6_move_37 : decode cX6_move 37 = .ok (.getfield 114, 3) := by decide +kernel
theorem dX6_move_40 : decode cX6_move 40 = .ok (.invokevirtual 117, 3) := by decide +kernel
theorem dX6_move_43 : decode cX6_move 43 = .ok (.iload_n 3, 1) := by decide +kernel
theorem dX6_move_44 : decode cX6_move 44 = .ok (.ireturn, 1) := by decide +kernel
set_option maxRecDepth 20000 in
theorem ggX6_cut_X6_isPair : GoodIn wsX6_cut wsX6_isPair := goodIn_r _ [6, 1, 7, 8, 9, 10, 11, 12, 66, 67, 68, 69, 70, 71, 72, 73, 74, 75, 76] (by decide +kernel) (by decide +kernel)
set_option maxRecDepth 20000 in
theorem gX6_cut_X6_isPair : GoodIn wsX6_cut (wsV RX6 121 RX6 yX6_isPair wsX6_isPair) := goodIn_app (goodIn_of _ (by decide +kernel)) ggX6_cut_X6_isPair
set_option maxRecDepth 20000 in
theorem ggX6_cut_X6_isSpan : GoodIn wsX6_cut wsX6_isSpan := goodIn_r _ [15] (by decide +kernel) (by decide +kernel)
set_option maxRecDepth 20000 in
theorem gX6_cut_X6_isSpan : GoodIn wsX6_cut (va_wsS RX6 70 yX6_isSpan wsX6_isSpan) := goodIn_app (goodIn_of _ (by decide +kernel)) ggX6_cut_X6_isSpan
set_option maxRecDepth 20000 in
theorem ggX6_cut_X0_liesOnTable : GoodIn wsX6_cut wsX0_liesOnTable := goodIn_r _ [19, 20, 74, 75, 76] (by decide +kernel) (by decide +kernel)
end
section
set_option maxRecDepth 20000 in
theorem gX6_cut_X0_liesOnTable : GoodIn wsX6_cut (wsV RX6 124 RX0 yX0_liesOnTable wsX0_liesOnTable) := goodIn_app (goodIn_of _ (by decide +kernel)) ggX6_cut_X0_liesOnTable
set_option maxRecDepth 20000 in
theorem ggX6_cut_X6_record : GoodIn wsX6_cut wsX6_record := goodIn_r _ [24, 25, 26, 1, 27, 28, 29, 30, 5, 31, 32, 33, 34, 10, 35, 12, 20, 36, 37, 38, 39, 40, 41, 42, 43, 44, 45, 46, 47, 48, 66, 67, 68, 69, 70, 71, 72, 73, 74, 75, 76] (by decide +kernel) (by decide +kernel)
set_option maxRecDepth 20000 in
theorem gX6_cut_X6_record : GoodIn wsX6_cut (wsV RX6 59 RX6 yX6_record wsX6_record) := goodIn_app (goodIn_of _ (by decide +kernel)) ggX6_cut_X6_record
set_option maxRecDepth 20000 in
theorem ggX6_cut_X0_findCut : GoodIn wsX6_cut wsX0_findCut := goodIn_r _ [52, 36, 53, 54, 55, 56, 57, 58, 59, 10, 60, 74, 75, 76] (by decide +kernel) (by decide +kernel)
set_option maxRecDepth 20000 in
theorem gX6_cut_X0_findCut : GoodIn wsX6_cut (wsV RX6 127 RX0 yX0_findCut wsX0_findCut) := goodIn_app (goodIn_of _ (by decide +kernel)) ggX6_cut_X0_findCut
set_option maxRecDepth 20000 in
theorem ggX6_cut_X0_spanWorth : GoodIn wsX6_cut wsX0_spanWorth := goodIn_r _ [60, 36, 74, 75, 76] (by decide +kernel) (by decide +kernel)
set_option maxRecDepth 20000 in
theorem gX6_cut_X0_spanWorth : GoodIn wsX6_cut (wsV RX6 130 RX0 yX0_spanWorth wsX0_spanWorth) := goodIn_app (goodIn_of _ (by decide +kernel)) ggX6_cut_X0_spanWorth
set_option maxRecDepth 20000 in
theorem ggX6_cut_X0_handOut : GoodIn wsX6_cut wsX0_handOut := goodIn_r _ [65, 20, 74, 75, 76] (by decide +kernel) (by decide +kernel)
set_option maxRecDepth 20000 in
theorem gX6_cut_X0_handOut : GoodIn wsX6_cut (wsV RX6 99 RX0 yX0_handOut wsX0_handOut) := goodIn_app (goodIn_of _ (by decide +kernel)) ggX6_cut_X0_handOut
theorem dX6_cut_0 : decode cX6_cut 0 = .ok (.aload_n 0, 1) := by decide +kernel
theorem dX6_cut_1 : decode cX6_cut 1 = .ok (.iload_n 1, 1) := by decide +kernel
theorem dX6_cut_2 : decode cX6_cut 2 = .ok (.iload_n 2, 1) := by decide +kernel
theorem dX6_cut_3 : decode cX6_cut 3 = .ok (.invokevirtual 121, 3) := by decide +kernel
theorem dX6_cut_6 : decode cX6_cut 6 = .ok (.ifCond .eq 18, 3) := by decide +kernel
theorem dX6_cut_9 : decode cX6_cut 9 = .ok (.iload_n 3, 1) := by decide +kernel
theorem dX6_cut_10 : decode cX6_cut 10 = .ok (.iload 4, 2) := by decide +kernel
theorem dX6_cut_12 : decode cX6_cut 12 = .ok (.invokestatic 70, 3) := by decide +kernel
theorem dX6_cut_15 : decode cX6_cut 15 = .ok (.ifCond .eq 9, 3) := by decide +kernel
theorem dX6_cut_18 : decode cX6_cut 18 = .ok (.iload_n 3, 1) := by decide +kernel
theorem dX6_cut_19 : decode cX6_cut 19 = .ok (.iload 4, 2) := by decide +kernel
theorem dX6_cut_21 : decode cX6_cut 21 = .ok (.if_icmp .ne 5, 3) := by decide +kernel
theorem dX6_cut_24 : decode cX6_cut 24 = .ok (.iconst (-1), 1) := by decide +kernel
theorem dX6_cut_25 : decode cX6_cut 25 = .ok (.ireturn, 1) := by decide +kernel
theorem dX6_cut_26 : decode cX6_cut 26 = .ok (.aload_n 0, 1) := by decide +kernel
theorem dX6_cut_27 : decode cX6_cut 27 = .ok (.getfield 10, 3) := by decide +kernel
theorem dX6_cut_30 : decode cX6_cut 30 = .ok (.iload_n 3, 1) := by decide +kernel
theorem dX6_cut_31 : decode cX6_cut 31 = .ok (.iload 4, 2) := by decide +kernel
theorem dX6_cut_33 : decode cX6_cut 33 = .ok (.invokevirtual 124, 3) := by decide +kernel
theorem dX6_cut_36 : decode cX6_cut 36 = .ok (.ifCond .ne 6, 3) := by decide +kernel
theorem dX6_cut_39 : decode cX6_cut 39 = .ok (.bipush (-2), 2) := by decide +kernel
theorem dX6_cut_41 : decode cX6_cut 41 = .ok (.ireturn, 1) := by decide +kernel
theorem dX6_cut_42 : decode cX6_cut 42 = .ok (.aload_n 0, 1) := by decide +kernel
theorem dX6_cut_43 : decode cX6_cut 43 = .ok (.invokevirtual 59, 3) := by decide +kernel
theorem dX6_cut_46 : decode cX6_cut 46 = .ok (.aload_n 0, 1) := by decide +kernel
theorem dX6_cut_47 : decode cX6_cut 47 = .ok (.getfield 10, 3) := by decide +kernel
theorem dX6_cut_50 : decode cX6_cut 50 = .ok (.iload_n 1, 1) := by decide +kernel
theorem dX6_cut_51 : decode cX6_cut 51 = .ok (.iload_n 3, 1) := by decide +kernel
theorem dX6_cut_52 : decode cX6_cut 52 = .ok (.iload 4, 2) := by decide +kernel
theorem dX6_cut_54 : decode cX6_cut 54 = .ok (.invokevirtual 127, 3) := by decide +kernel
theorem dX6_cut_57 : decode cX6_cut 57 = .ok (.istore 5, 2) := by decide +kernel
theorem dX6_cut_59 : decode cX6_cut 59 = .ok (.aload_n 0, 1) := by decide +kernel
theorem dX6_cut_60 : decode cX6_cut 60 = .ok (.getfield 10, 3) := by decide +kernel
theorem dX6_cut_63 : decode cX6_cut 63 = .ok (.iload_n 2, 1) := by decide +kernel
theorem dX6_cut_64 : decode cX6_cut 64 = .ok (.iload_n 3, 1) := by decide +kernel
theorem dX6_cut_65 : decode cX6_cut 65 = .ok (.iload 5, 2) := by decide +kernel
theorem dX6_cut_67 : decode cX6_cut 67 = .ok (.iconst 1, 1) := by decide +kernel
theorem dX6_cut_68 : decode cX6_cut 68 = .ok (.isub, 1) := by decide +kernel
theorem dX6_cut_69 : decode cX6_cut 69 = .ok (.invokevirtual 130, 3) := by decide +kernel
theorem dX6_cut_72 : decode cX6_cut 72 = .ok (.aload_n 0, 1) := by decide +kernel
theorem dX6_cut_73 : decode cX6_cut 73 = .ok (.getfield 10, 3) := by decide +kernel
theorem dX6_cut_76 : decode cX6_cut 76 = .ok (.iload_n 2, 1) := by decide +kernel
theorem dX6_cut_77 : decode cX6_cut 77 = .ok (.iload 5, 2) := by decide +kernel
theorem dX6_cut_79 : decode cX6_cut 79 = .ok (.iload 4, 2) := by decide +kernel
theorem dX6_cut_81 : decode cX6_cut 81 = .ok (.invokevirtual 130, 3) := by decide +kernel
theorem dX6_cut_84 : decode cX6_cut 84 = .ok (.if_icmp .lt 7, 3) := by decide +kernel
theorem dX6_cut_87 : decode cX6_cut 87 = .ok (.iconst 1, 1) := by decide +kernel
theorem dX6_cut_88 : decode cX6_cut 88 = .ok (.goto 4, 3) := by decide +kernel
theorem dX6_cut_91 : decode cX6_cut 91 = .ok (.iconst 0, 1) := by decide +kernel
theorem dX6_cut_92 : decode cX6_cut 92 = .ok (.istore 6, 2) := by decide +kernel
theorem dX6_cut_94 : decode cX6_cut 94 = .ok (.aload_n 0, 1) := by decide +kernel
theorem dX6_cut_95 : decode cX6_cut 95 = .ok (.getfield 10, 3) := by decide +kernel
theorem dX6_cut_98 : decode cX6_cut 98 = .ok (.iload 6, 2) := by decide +kernel
theorem dX6_cut_100 : decode cX6_cut 100 = .ok (.ifCond .eq 7, 3) := by decide +kernel
theorem dX6_cut_103 : decode cX6_cut 103 = .ok (.iload_n 2, 1) := by decide +kernel
theorem dX6_cut_104 : decode cX6_cut 104 = .ok (.goto 4, 3) := by decide +kernel
theorem dX6_cut_107 : decode cX6_cut 107 = .ok (.iload_n 1, 1) := by decide +kernel
theorem dX6_cut_108 : decode cX6_cut 108 = .ok (.iload_n 3, 1) := by decide +kernel
theorem dX6_cut_109 : decode cX6_cut 109 = .ok (.iload 5, 2) := by decide +kernel
theorem dX6_cut_111 : decode cX6_cut 111 = .ok (.iconst 1, 1) := by decide +kernel
theorem dX6_cut_112 : decode cX6_cut 112 = .ok (.isub, 1) := by decide +kernel
theorem dX6_cut_113 : decode cX6_cut 113 = .ok (.invokevirtual 99, 3) := by decide +kernel
theorem dX6_cut_116 : decode cX6_cut 116 = .ok (.pop, 1) := by decide +kernel
theorem dX6_cut_117 : decode cX6_cut 117 = .ok (.aload_n 0, 1) := by decide +kernel
theorem dX6_cut_118 : decode cX6_cut 118 = .ok (.getfield 10, 3) := by decide +kernel
theorem dX6_cut_121 : decode cX6_cut 121 = .ok (.iload 6, 2) := by decide +kernel
theorem dX6_cut_123 : decode cX6_cut 123 = .ok (.ifCond .eq 7, 3) := by decide +kernel
theorem dX6_cut_126 : decode cX6_cut 126 = .ok (.iload_n 1, 1) := by decide +kernel
theorem dX6_cut_127 : decode cX6_cut 127 = .ok (.goto 4, 3) := by decide +kernel
theorem dX6_cut_130 : decode cX6_cut 130 = .ok (.iload_n 2, 1) := by decide +kernel
theorem dX6_cut_131 : decode cX6_cut 131 = .ok (.iload 5, 2) := by decide +kernel
theorem dX6_cut_133 : decode cX6_cut 133 = .ok (.iload 4, 2) := by decide +kernel
theorem dX6_cut_135 : decode cX6_cut 135 = .ok (.invokevirtual 99, 3) := by decide +kernel
theorem dX6_cut_138 : decode cX6_cut 138 = .ok (.pop, 1) := by decide +kernel
theorem dX6_cut_139 : decode cX6_cut 139 = .ok (.iload 5, 2) := by decide +kernel
theorem dX6_cut_141 : decode cX6_cut 141 = .ok (.ireturn, 1) := by decide +kernel
set_option maxRecDepth 20000 in
theorem ggX6_trim_X6_isPair : GoodIn wsX6_trim wsX6_isPair := goodIn_r _ [6, 1, 7, 8, 9, 10, 11, 12, 54, 55, 56, 57, 58, 59, 60, 61, 62, 63, 64] (by decide +kernel) (by decide +kernel)
set_option maxRecDepth 20000 in
theorem gX6_trim_X6_isPair : GoodIn wsX6_trim (wsV RX6 121 RX6 yX6_isPair wsX6_isPair) := goodIn_app (goodIn_of _ (by decide +kernel)) ggX6_trim_X6_isPair
set_option maxRecDepth 20000 in
theorem ggX6_trim_X6_record : GoodIn wsX6_trim wsX6_record := goodIn_r _ [16, 17, 18, 1, 19, 20, 21, 22, 5, 23, 24, 25, 26, 10, 27, 12, 28, 29, 30, 31, 32, 33, 34, 35, 36, 37, 38, 39, 40, 41, 54, 55, 56, 57, 58, 59, 60, 61, 62, 63, 64] (by decide +kernel) (by decide +kernel)
set_option maxRecDepth 20000 in
theorem gX6_trim_X6_record : GoodIn wsX6_trim (wsV RX6 59 RX6 yX6_record wsX6_record) := goodIn_app (goodIn_of _ (by decide +kernel)) ggX6_trim_X6_record
set_option maxRecDepth 20000 in
theorem ggX6_trim_X0_trimPiece : GoodIn wsX6_trim wsX0_trimPiece := goodIn_r _ [45, 28, 29, 46, 47, 48, 10, 49, 50, 51, 52, 53, 62, 63, 64] (by decide +kernel) (by decide +kernel)
set_option maxRecDepth 20000 in
theorem gX6_trim_X0_trimPiece : GoodIn wsX6_trim (wsV RX6 133 RX0 yX0_trimPiece wsX0_trimPiece) := goodIn_app (goodIn_of _ (by decide +kernel)) ggX6_trim_X0_trimPiece
theorem dX6_trim_0 : decode cX6_trim 0 = .ok (.aload_n 0, 1) := by decide +kernel
theorem dX6_trim_1 : decode cX6_trim 1 = .ok (.iload_n 1, 1) := by decide +kernel
theorem dX6_trim_2 : decode cX6_trim 2 = .ok (.iload_n 2, 1) := by decide +kernel
theorem dX6_trim_3 : decode cX6_trim 3 = .ok (.invokevirtual 121, 3) := by decide +kernel
theorem dX6_trim_6 : decode cX6_trim 6 = .ok (.ifCond .ne 5, 3) := by decide +kernel
theorem dX6_trim_9 : decode cX6_trim 9 = .ok (.iconst (-1), 1) := by decide +kernel
theorem dX6_trim_10 : decode cX6_trim 10 = .ok (.ireturn, 1) := by decide +kernel
theorem dX6_trim_11 : decode cX6_trim 11 = .ok (.aload_n 0, 1) := by decide +kernel
theorem dX6_trim_12 : decode cX6_trim 12 = .ok (.invokevirtual 59, 3) := by decide +kernel
theorem dX6_trim_15 : decode cX6_trim 15 = .ok (.aload_n 0, 1) := by decide +kernel
theorem dX6_trim_16 : decode cX6_trim 16 = .ok (.getfield 10, 3) := by decide +kernel
theorem dX6_trim_19 : decode cX6_trim 19 = .ok (.iload_n 1, 1) := by decide +kernel
theorem dX6_trim_20 : decode cX6_trim 20 = .ok (.iload_n 2, 1) := by decide +kernel
theorem dX6_trim_21 : decode cX6_trim 21 = .ok (.invokevirtual 133, 3) := by decide +kernel
theorem dX6_trim_24 : decode cX6_trim 24 = .ok (.ireturn, 1) := by decide +kernel
set_option maxRecDepth 20000 in
theorem ggX6_exchange_X3_find : GoodIn wsX6_exchange wsX3_find := goodIn_r _ [8, 9, 10, 11, 12, 13, 14, 7, 15, 16, 17, 18, 19, 20, 21, 22, 23, 24, 25, 26, 27, 28, 29, 30, 31, 32, 33, 34, 35, 36, 37, 38, 39, 40, 41, 42, 43, 44, 45, 46, 47, 48, 49, 50, 51, 52, 53, 54, 55, 56, 57, 58, 59, 60, 61, 62, 63, 64, 114, 115, 116, 112, 113, 117, 118, 119] (by decide +kernel) (by decide +kernel)
set_option maxRecDepth 20000 in
theorem gX6_exchange_X3_find : GoodIn wsX6_exchange (wsV RX6 136 RX3 yX3_find wsX3_find) := goodIn_app (goodIn_of _ (by decide +kernel)) ggX6_exchange_X3_find
set_option maxRecDepth 20000 in
theorem ggX6_exchange_X6_record : GoodIn wsX6_exchange wsX6_record := goodIn_r _ [69, 70, 71, 2, 72, 73, 74, 75, 68, 76, 77, 78, 79, 20, 80, 81, 34, 35, 82, 83, 84, 85, 86, 87, 88, 89, 90, 91, 92, 93, 104, 105, 106, 107, 108, 109, 110, 111, 114, 115, 116] (by decide +kernel) (by decide +kernel)
set_option maxRecDepth 20000 in
theorem gX6_exchange_X6_record : GoodIn wsX6_exchange (wsV RX6 59 RX6 yX6_record wsX6_record) := goodIn_app (goodIn_of _ (by decide +kernel)) ggX6_exchange_X6_record
set_option maxRecDepth 20000 in
theorem ggX6_exchange_X0_passPieces : GoodIn wsX6_exchange wsX0_passPieces := goodIn_r _ [97, 34, 98, 99, 100, 101, 102, 39, 103, 44, 50, 114, 115, 116, 117, 118, 119] (by decide +kernel) (by decide +kernel)
set_option maxRecDepth 20000 in
theorem gX6_exchange_X0_passPieces : GoodIn wsX6_exchange (wsV RX6 144 RX0 yX0_passPieces wsX0_passPieces) := goodIn_app (goodIn_of _ (by decide +kernel)) ggX6_exchange_X0_passPieces
theorem dX6_exchange_0 : decode cX6_exchange 0 = .ok (.aload_n 0, 1) := by decide +kernel
theorem dX6_exchange_1 : decode cX6_exchange 1 = .ok (.getfield 41, 3) := by decide +kernel
theorem dX6_exchange_4 : decode cX6_exchange 4 = .ok (.aload_n 0, 1) := by decide +kernel
theorem dX6_exchange_5 : decode cX6_exchange 5 = .ok (.getfield 10, 3) := by decide +kernel
theorem dX6_exchange_8 : decode cX6_exchange 8 = .ok (.invokevirtual 136, 3) := by decide +kernel
theorem dX6_exchange_11 : decode cX6_exchange 11 = .ok (.istore_n 1, 1) := by decide +kernel
theorem dX6_exchange_12 : decode cX6_exchange 12 = .ok (.iload_n 1, 1) := by decide +kernel
theorem dX6_exchange_13 : decode cX6_exchange 13 = .ok (.ifCond .ne 6, 3) := by decide +kernel
theorem dX6_exchange_16 : decode cX6_exchange 16 = .ok (.bipush (-2), 2) := by decide +kernel
theorem dX6_exchange_18 : decode cX6_exchange 18 = .ok (.ireturn, 1) := by decide +kernel
theorem dX6_exchange_19 : decode cX6_exchange 19 = .ok (.aload_n 0, 1) := by decide +kernel
theorem dX6_exchange_20 : decode cX6_exchange 20 = .ok (.invokevirtual 59, 3) := by decide +kernel
theorem dX6_exchange_23 : decode cX6_exchange 23 = .ok (.aload_n 0, 1) := by decide +kernel
theorem dX6_exchange_24 : decode cX6_exchange 24 = .ok (.getfield 10, 3) := by decide +kernel
theorem dX6_exchange_27 : decode cX6_exchange 27 = .ok (.aload_n 0, 1) := by decide +kernel
theorem dX6_exchange_28 : decode cX6_exchange 28 = .ok (.getfield 41, 3) := by decide +kernel
theorem dX6_exchange_31 : decode cX6_exchange 31 = .ok (.getfield 140, 3) := by decide +kernel
theorem dX6_exchange_34 : decode cX6_exchange 34 = .ok (.invokevirtual 144, 3) := by decide +kernel
theorem dX6_exchange_37 : decode cX6_exchange 37 = .ok (.iload_n 1, 1) := by decide +kernel
theorem dX6_exchange_38 : decode cX6_exchange 38 = .ok (.ireturn, 1) := by decide +kernel
set_option maxRecDepth 20000 in
theorem ggX6_undo_X0_become : GoodIn wsX6_undo wsX0_become := goodIn_r _ [9, 10, 11, 12, 13, 14, 15, 8, 16, 17, 18, 19, 20, 21, 22, 23, 24, 33, 34, 35] (by decide +kernel) (by decide +kernel)
set_option maxRecDepth 20000 in
theorem gX6_undo_X0_become : GoodIn wsX6_undo (wsV RX6 148 RX0 yX0_become wsX0_become) := goodIn_app (goodIn_of _ (by decide +kernel)) ggX6_undo_X0_become
theorem dX6_undo_0 : decode cX6_undo 0 = .ok (.aload_n 0, 1) := by decide +kernel
theorem dX6_undo_1 : decode cX6_undo 1 = .ok (.getfield 20, 3) := by decide +kernel
theorem dX6_undo_4 : decode cX6_undo 4 = .ok (.iconst 1, 1) := by decide +kernel
theorem dX6_undo_5 : decode cX6_undo 5 = .ok (.if_icmp .lt 11, 3) := by decide +kernel
theorem dX6_undo_8 : decode cX6_undo 8 = .ok (.aload_n 0, 1) := by decide +kernel
theorem dX6_undo_9 : decode cX6_undo 9 = .ok (.getfield 20, 3) := by decide +kernel
theorem dX6_undo_12 : decode cX6_undo 12 = .ok (.iconst 5, 1) := by decide +kernel
theorem dX6_undo_13 : decode cX6_undo 13 = .ok (.if_icmp .le 6, 3) := by decide +kernel
theorem dX6_undo_16 : decode cX6_undo 16 = .ok (.bipush (-2), 2) := by decide +kernel
theorem dX6_undo_18 : decode cX6_undo 18 = .ok (.ireturn, 1) := by decide +kernel
theorem dX6_undo_19 : decode cX6_undo 19 = .ok (.aload_n 0, 1) := by decide +kernel
theorem dX6_undo_20 : decode cX6_undo 20 = .ok (.dup, 1) := by decide +kernel
theorem dX6_undo_21 : decode cX6_undo 21 = .ok (.getfield 20, 3) := by decide +kernel
theorem dX6_undo_24 : decode cX6_undo 24 = .ok (.iconst 1, 1) := by decide +kernel
theorem dX6_undo_25 : decode cX6_undo 25 = .ok (.isub, 1) := by decide +kernel
theorem dX6_undo_26 : decode cX6_undo 26 = .ok (.putfield 20, 3) := by decide +kernel
theorem dX6_undo_29 : decode cX6_undo 29 = .ok (.aload_n 0, 1) := by decide +kernel
theorem dX6_undo_30 : decode cX6_undo 30 = .ok (.getfield 10, 3) := by decide +kernel
theorem dX6_undo_33 : decode cX6_undo 33 = .ok (.aload_n 0, 1) := by decide +kernel
theorem dX6_undo_34 : decode cX6_undo 34 = .ok (.getfield 16, 3) := by decide +kernel
theorem dX6_undo_37 : decode cX6_undo 37 = .ok (.aload_n 0, 1) := by decide +kernel
theorem dX6_undo_38 : decode cX6_undo 38 = .ok (.getfield 20, 3) := by decide +kernel
theorem dX6_undo_41 : decode cX6_undo 41 = .ok (.aaload, 1) := by decide +kernel
theorem dX6_undo_42 : decode cX6_undo 42 = .ok (.invokevirtual 148, 3) := by decide +kernel
theorem dX6_undo_45 : decode cX6_undo 45 = .ok (.aload_n 0, 1) := by decide +kernel
theorem dX6_undo_46 : decode cX6_undo 46 = .ok (.iconst 0, 1) := by decide +kernel
theorem dX6_undo_47 : decode cX6_undo 47 = .ok (.putfield 52, 3) := by decide +kernel
theorem dX6_undo_50 : decode cX6_undo 50 = .ok (.aload_n 0, 1) := by decide +kernel
theorem dX6_undo_51 : decode cX6_undo 51 = .ok (.getfield 20, 3) := by decide +kernel
theorem dX6_undo_54 : decode cX6_undo 54 = .ok (.ireturn, 1) := by decide +kernel
set_option maxRecDepth 20000 in
theorem ggX6_count_X0_crumbsOf : GoodIn wsX6_count wsX0_crumbsOf := goodIn_r _ [10, 11, 58, 59, 60] (by decide +kernel) (by decide +kernel)
set_option maxRecDepth 20000 in
theorem gX6_count_X0_crumbsOf : GoodIn wsX6_count (wsV RX6 152 RX0 yX0_crumbsOf wsX0_crumbsOf) := goodIn_app (goodIn_of _ (by decide +kernel)) ggX6_count_X0_crumbsOf
set_option maxRecDepth 20000 in
theorem ggX6_count_X0_arrows : GoodIn wsX6_count wsX0_arrows := goodIn_r _ [15, 16, 17, 18, 19, 9, 20, 21, 22, 23, 24, 25, 26, 27, 28, 29, 30, 31, 32, 11, 33, 58, 59, 60] (by decide +kernel) (by decide +kernel)
set_option maxRecDepth 20000 in
theorem gX6_count_X0_arrows : GoodIn wsX6_count (wsV RX6 155 RX0 yX0_arrows wsX0_arrows) := goodIn_app (goodIn_of _ (by decide +kernel)) ggX6_count_X0_arrows
set_option maxRecDepth 20000 in
theorem ggX6_count_X0_allEnvies : GoodIn wsX6_count wsX0_allEnvies := goodIn_r _ [37, 16, 17, 18, 19, 9, 20, 21, 22, 23, 24, 25, 26, 27, 28, 29, 30, 31, 32, 11, 33, 58, 59, 60] (by decide +kernel) (by decide +kernel)
set_option maxRecDepth 20000 in
theorem gX6_count_X0_allEnvies : GoodIn wsX6_count (wsV RX6 158 RX0 yX0_allEnvies wsX0_allEnvies) := goodIn_app (goodIn_of _ (by decide +kernel)) ggX6_count_X0_allEnvies
set_option maxRecDepth 20000 in
theorem ggX6_count_X0_contentGuests : GoodIn wsX6_count wsX0_contentGuests := goodIn_r _ [41, 16, 42, 43, 44, 9, 45, 46, 47, 48, 49, 33, 25, 26, 27, 28, 29, 30, 31, 32, 11, 58, 59, 60] (by decide +kernel) (by decide +kernel)
set_option maxRecDepth 20000 in
theorem gX6_count_X0_contentGuests : GoodIn wsX6_count (wsV RX6 161 RX0 yX0_contentGuests wsX0_contentGuests) := goodIn_app (goodIn_of _ (by decide +kernel)) ggX6_count_X0_contentGuests
theorem dX6_count_0 : decode cX6_count 0 = .ok (.iload_n 1, 1) := by decide +kernel
theorem dX6_count_1 : decode cX6_count 1 = .ok (.tableswitch 117 0 7 #[47, 55, 64, 72, 80, 96, 104, 109], 47) := by decide +kernel
theorem dX6_count_48 : decode cX6_count 48 = .ok (.aload_n 0, 1) := by decide +kernel
theorem dX6_count_49 : decode cX6_count 49 = .ok (.getfield 10, 3) := by decide +kernel
theorem dX6_count_52 : decode cX6_count 52 = .ok (.getfield 56, 3) := by decide +kernel
theorem dX6_count_55 : decode cX6_count 55 = .ok (.ireturn, 1) := by decide +kernel
theorem dX6_count_56 : decode cX6_count 56 = .ok (.aload_n 0, 1) := by decide +kernel
theorem dX6_count_57 : decode cX6_count 57 = .ok (.getfield 10, 3) := by decide +kernel
theorem dX6_count_60 : decode cX6_count 60 = .ok (.iconst (-1), 1) := by decide +kernel
theorem dX6_count_61 : decode cX6_count 61 = .ok (.invokevirtual 152, 3) := by decide +kernel
theorem dX6_count_64 : decode cX6_count 64 = .ok (.ireturn, 1) := by decide +kernel
theorem dX6_count_65 : decode cX6_count 65 = .ok (.aload_n 0, 1) := by decide +kernel
theorem dX6_count_66 : decode cX6_count 66 = .ok (.getfield 10, 3) := by decide +kernel
theorem dX6_count_69 : decode cX6_count 69 = .ok (.invokevirtual 155, 3) := by decide +kernel
theorem dX6_count_72 : decode cX6_count 72 = .ok (.ireturn, 1) := by decide +kernel
theorem dX6_count_73 : decode cX6_count 73 = .ok (.aload_n 0, 1) := by decide +kernel
theorem dX6_count_74 : decode cX6_count 74 = .ok (.getfield 10, 3) := by decide +kernel
theorem dX6_count_77 : decode cX6_count 77 = .ok (.invokevirtual 158, 3) := by decide +kernel
theorem dX6_count_80 : decode cX6_count 80 = .ok (.ireturn, 1) := by decide +kernel
theorem dX6_count_81 : decode cX6_count 81 = .ok (.aload_n 0, 1) := by decide +kernel
theorem dX6_count_82 : decode cX6_count 82 = .ok (.getfield 10, 3) := by decide +kernel
theorem dX6_count_85 : decode cX6_count 85 = .ok (.invokevirtual 155, 3) := by decide +kernel
theorem dX6_count_88 : decode cX6_count 88 = .ok (.ifCond .ne 7, 3) := by decide +kernel
theorem dX6_count_91 : decode cX6_count 91 = .ok (.iconst 1, 1) := by decide +kernel
theorem dX6_count_92 : decode cX6_count 92 = .ok (.goto 4, 3) := by decide +kernel
theorem dX6_count_95 : decode cX6_count 95 = .ok (.iconst 0, 1) := by decide +kernel
theorem dX6_count_96 : decode cX6_count 96 = .ok (.ireturn, 1) := by decide +kernel
theorem dX6_count_97 : decode cX6_count 97 = .ok (.aload_n 0, 1) := by decide +kernel
theorem dX6_count_98 : decode cX6_count 98 = .ok (.getfield 10, 3) := by decide +kernel
theorem dX6_count_101 : decode cX6_count 101 = .ok (.invokevirtual 161, 3) := by decide +kernel
theorem dX6_count_104 : decode cX6_count 104 = .ok (.ireturn, 1) := by decide +kernel
theorem dX6_count_105 : decode cX6_count 105 = .ok (.aload_n 0, 1) := by decide +kernel
theorem dX6_count_106 : decode cX6_count 106 = .ok (.getfield 20, 3) := by decide +kernel
theorem dX6_count_109 : decode cX6_count 109 = .ok (.ireturn, 1) := by decide +kernel
theorem dX6_count_110 : decode cX6_count 110 = .ok (.aload_n 0, 1) := by decide +kernel
theorem dX6_count_111 : decode cX6_count 111 = .ok (.getfield 27, 3) := by decide +kernel
theorem dX6_count_114 : decode cX6_count 114 = .ok (.getfield 82, 3) := by decide +kernel
theorem dX6_count_117 : decode cX6_count 117 = .ok (.ireturn, 1) := by decide +kernel
theorem dX6_count_118 : decode cX6_count 118 = .ok (.iconst (-1), 1) := by decide +kernel
theorem dX6_count_119 : decode cX6_count 119 = .ok (.ireturn, 1) := by decide +kernel
set_option maxRecDepth 20000 in
theorem ggX6_guest_X0_isGuest : GoodIn wsX6_guest wsX0_isGuest := goodIn_r _ [6, 7, 53, 54, 55] (by decide +kernel) (by decide +kernel)
set_option maxRecDepth 20000 in
theorem gX6_guest_X0_isGuest : GoodIn wsX6_guest (wsV RX6 66 RX0 yX0_isGuest wsX0_isGuest) := goodIn_app (goodIn_of _ (by decide +kernel)) ggX6_guest_X0_isGuest
set_option maxRecDepth 20000 in
theorem ggX6_guest_X0_total : GoodIn wsX6_guest wsX0_total := goodIn_r _ [11, 12, 13, 14, 5, 15, 16, 53, 54, 55] (by decide +kernel) (by decide +kernel)
set_option maxRecDepth 20000 in
theorem gX6_guest_X0_total : GoodIn wsX6_guest (wsV RX6 78 RX0 yX0_total wsX0_total) := goodIn_app (goodIn_of _ (by decide +kernel)) ggX6_guest_X0_total
set_option maxRecDepth 20000 in
theorem ggX6_guest_X0_worth : GoodIn wsX6_guest wsX0_worth := goodIn_r _ [20, 21, 22, 23, 5, 24, 25, 16, 53, 54, 55] (by decide +kernel) (by decide +kernel)
set_option maxRecDepth 20000 in
theorem gX6_guest_X0_worth : GoodIn wsX6_guest (wsV RX6 164 RX0 yX0_worth wsX0_worth) := goodIn_app (goodIn_of _ (by decide +kernel)) ggX6_guest_X0_worth
set_option maxRecDepth 20000 in
theorem ggX6_guest_X0_crumbsOf : GoodIn wsX6_guest wsX0_crumbsOf := goodIn_r _ [29, 25, 53, 54, 55] (by decide +kernel) (by decide +kernel)
set_option maxRecDepth 20000 in
theorem gX6_guest_X0_crumbsOf : GoodIn wsX6_guest (wsV RX6 152 RX0 yX0_crumbsOf wsX0_crumbsOf) := goodIn_app (goodIn_of _ (by decide +kernel)) ggX6_guest_X0_crumbsOf
set_option maxRecDepth 20000 in
theorem ggX6_guest_X6_lowestNumerator : GoodIn wsX6_guest wsX6_lowestNumerator := goodIn_r _ [33, 34, 35, 32, 36, 37] (by decide +kernel) (by decide +kernel)
set_option maxRecDepth 20000 in
theorem gX6_guest_X6_lowestNumerator : GoodIn wsX6_guest (va_wsS RX6 167 yX6_lowestNumerator wsX6_lowestNumerator) := goodIn_app (goodIn_of _ (by decide +kernel)) ggX6_guest_X6_lowestNumerator
set_option maxRecDepth 20000 in
theorem ggX6_guest_X6_lowestDenominator : GoodIn wsX6_guest wsX6_lowestDenominator := goodIn_r _ [40, 34, 35, 32, 36, 37] (by decide +kernel) (by decide +kernel)
set_option maxRecDepth 20000 in
theorem gX6_guest_X6_lowestDenominator : GoodIn wsX6_guest (va_wsS RX6 170 yX6_lowestDenominator wsX6_lowestDenominator) := goodIn_app (goodIn_of _ (by decide +kernel)) ggX6_guest_X6_lowestDenominator
set_option maxRecDepth 20000 in
theorem ggX6_guest_X0_spansOf : GoodIn wsX6_guest wsX0_spansOf := goodIn_r _ [44, 25, 53, 54, 55] (by decide +kernel) (by decide +kernel)
set_option maxRecDepth 20000 in
theorem gX6_guest_X0_spansOf : GoodIn wsX6_guest (wsV RX6 173 RX0 yX0_spansOf wsX0_spansOf) := goodIn_app (goodIn_of _ (by decide +kernel)) ggX6_guest_X0_spansOf
theorem dX6_guest_0 : decode cX6_guest 0 = .ok (.aload_n 0, 1) := by decide +kernel
theorem dX6_guest_1 : decode cX6_guest 1 = .ok (.getfield 10, 3) := by decide +kernel
theorem dX6_guest_4 : decode cX6_guest 4 = .ok (.iload_n 1, 1) := by decide +kernel
theorem dX6_guest_5 : decode cX6_guest 5 = .ok (.invokevirtual 66, 3) := by decide +kernel
theorem dX6_guest_8 : decode cX6_guest 8 = .ok (.ifCond .ne 5, 3) := by decide +kernel
theorem dX6_guest_11 : decode cX6_guest 11 = .ok (.iconst (-1), 1) := by decide +kernel
theorem dX6_guest_12 : decode cX6_guest 12 = .ok (.ireturn, 1) := by decide +kernel
theorem dX6_guest_13 : decode cX6_guest 13 = .ok (.iload_n 2, 1) := by decide +kernel
theorem dX6_guest_14 : decode cX6_guest 14 = .ok (.tableswitch 131 0 6 #[42, 51, 61, 70, 91, 112, 121], 42) := by decide +kernel
theorem dX6_guest_56 : decode cX6_guest 56 = .ok (.aload_n 0, 1) := by decide +kernel
theorem dX6_guest_57 : decode cX6_guest 57 = .ok (.getfield 10, 3) := by decide +kernel
theorem dX6_guest_60 : decode cX6_guest 60 = .ok (.iload_n 1, 1) := by decide +kernel
theorem dX6_guest_61 : decode cX6_guest 61 = .ok (.invokevirtual 78, 3) := by decide +kernel
theorem dX6_guest_64 : decode cX6_guest 64 = .ok (.ireturn, 1) := by decide +kernel
theorem dX6_guest_65 : decode cX6_guest 65 = .ok (.aload_n 0, 1) := by decide +kernel
theorem dX6_guest_66 : decode cX6_guest 66 = .ok (.getfield 10, 3) := by decide +kernel
theorem dX6_guest_69 : decode cX6_guest 69 = .ok (.iload_n 1, 1) := by decide +kernel
theorem dX6_guest_70 : decode cX6_guest 70 = .ok (.iload_n 1, 1) := by decide +kernel
theorem dX6_guest_71 : decode cX6_guest 71 = .ok (.invokevirtual 164, 3) := by decide +kernel
theorem dX6_guest_74 : decode cX6_guest 74 = .ok (.ireturn, 1) := by decide +kernel
theorem dX6_guest_75 : decode cX6_guest 75 = .ok (.aload_n 0, 1) := by decide +kernel
theorem dX6_guest_76 : decode cX6_guest 76 = .ok (.getfield 10, 3) := by decide +kernel
theorem dX6_guest_79 : decode cX6_guest 79 = .ok (.iload_n 1, 1) := by decide +kernel
theorem dX6_guest_80 : decode cX6_guest 80 = .ok (.invokevirtual 152, 3) := by decide +kernel
theorem dX6_guest_83 : decode cX6_guest 83 = .ok (.ireturn, 1) := by decide +kernel
theorem dX6_guest_84 : decode cX6_guest 84 = .ok (.aload_n 0, 1) := by decide +kernel
theorem dX6_guest_85 : decode cX6_guest 85 = .ok (.getfield 10, 3) := by decide +kernel
theorem dX6_guest_88 : decode cX6_guest 88 = .ok (.iload_n 1, 1) := by decide +kernel
theorem dX6_guest_89 : decode cX6_guest 89 = .ok (.iload_n 1, 1) := by decide +kernel
theorem dX6_guest_90 : decode cX6_guest 90 = .ok (.invokevirtual 164, 3) := by decide +kernel
theorem dX6_guest_93 : decode cX6_guest 93 = .ok (.aload_n 0, 1) := by decide +kernel
theorem dX6_guest_94 : decode cX6_guest 94 = .ok (.getfield 10, 3) := by decide +kernel
theorem dX6_guest_97 : decode cX6_guest 97 = .ok (.iload_n 1, 1) := by decide +kernel
theorem dX6_guest_98 : decode cX6_guest 98 = .ok (.invokevirtual 78, 3) := by decide +kernel
theorem dX6_guest_101 : decode cX6_guest 101 = .ok (.invokestatic 167, 3) := by decide +kernel
theorem dX6_guest_104 : decode cX6_guest 104 = .ok (.ireturn, 1) := by decide +kernel
theorem dX6_guest_105 : decode cX6_guest 105 = .ok (.aload_n 0, 1) := by decide +kernel
theorem dX6_guest_106 : decode cX6_guest 106 = .ok (.getfield 10, 3) := by decide +kernel
theorem dX6_guest_109 : decode cX6_guest 109 = .ok (.iload_n 1, 1) := by decide +kernel
theorem dX6_guest_110 : decode cX6_guest 110 = .ok (.iload_n 1, 1) := by decide +kernel
theorem dX6_guest_111 : decode cX6_guest 111 = .ok (.invokevirtual 164, 3) := by decide +kernel
theorem dX6_guest_114 : decode cX6_guest 114 = .ok (.aload_n 0, 1) := by decide +kernel
theorem dX6_guest_115 : decode cX6_guest 115 = .ok (.getfield 10, 3) := by decide +kernel
theorem dX6_guest_118 : decode cX6_guest 118 = .ok (.iload_n 1, 1) := by decide +kernel
theorem dX6_guest_119 : decode cX6_guest 119 = .ok (.invokevirtual 78, 3) := by decide +kernel
theorem dX6_guest_122 : decode cX6_guest 122 = .ok (.invokestatic 170, 3) := by decide +kernel
theorem dX6_guest_125 : decode cX6_guest 125 = .ok (.ireturn, 1) := by decide +kernel
theorem dX6_guest_126 : decode cX6_guest 126 = .ok (.aload_n 0, 1) := by decide +kernel
theorem dX6_guest_127 : decode cX6_guest 127 = .ok (.getfield 10, 3) := by decide +kernel
theorem dX6_guest_130 : decode cX6_guest 130 = .ok (.iload_n 1, 1) := by decide +kernel
theorem dX6_guest_131 : decode cX6_guest 131 = .ok (.invokevirtual 173, 3) := by decide +kernel
theorem dX6_guest_134 : decode cX6_guest 134 = .ok (.ireturn, 1) := by decide +kernel
theorem dX6_guest_135 : decode cX6_guest 135 = .ok (.aload_n 0, 1) := by decide +kernel
theorem dX6_guest_136 : decode cX6_guest 136 = .ok (.getfield 10, 3) := by decide +kernel
theorem dX6_guest_139 : decode cX6_guest 139 = .ok (.iload_n 1, 1) := by decide +kernel
theorem dX6_guest_140 : decode cX6_guest 140 = .ok (.iconst (-1), 1) := by decide +kernel
theorem dX6_guest_141 : decode cX6_guest 141 = .ok (.invokevirtual 164, 3) := by decide +kernel
theorem dX6_guest_144 : decode cX6_guest 144 = .ok (.ireturn, 1) := by decide +kernel
theorem dX6_guest_145 : decode cX6_guest 145 = .ok (.iconst (-1), 1) := by decide +kernel
theorem dX6_guest_146 : decode cX6_guest 146 = .ok (.ireturn, 1) := by decide +kernel
theorem dX6_crumb_0 : decode cX6_crumb 0 = .ok (.iload_n 1, 1) := by decide +kernel
theorem dX6_crumb_1 : decode cX6_crumb 1 = .ok (.ifCond .lt 9, 3) := by decide +kernel
theorem dX6_crumb_4 : decode cX6_crumb 4 = .ok (.iload_n 1, 1) := by decide +kernel
theorem dX6_crumb_5 : decode cX6_crumb 5 = .ok (.bipush 24, 2) := by decide +kernel
theorem dX6_crumb_7 : decode cX6_crumb 7 = .ok (.if_icmp .lt 5, 3) := by decide +kernel
theorem dX6_crumb_10 : decode cX6_crumb 10 = .ok (.iconst (-1), 1) := by decide +kernel
theorem dX6_crumb_11 : decode cX6_crumb 11 = .ok (.ireturn, 1) := by decide +kernel
theorem dX6_crumb_12 : decode cX6_crumb 12 = .ok (.aload_n 0, 1) := by decide +kernel
theorem dX6_crumb_13 : decode cX6_crumb 13 = .ok (.getfield 10, 3) := by decide +kernel
theorem dX6_crumb_16 : decode cX6_crumb 16 = .ok (.getfield 176, 3) := by decide +kernel
theorem dX6_crumb_19 : decode cX6_crumb 19 = .ok (.iload_n 1, 1) := by decide +kernel
theorem dX6_crumb_20 : decode cX6_crumb 20 = .ok (.iaload, 1) := by decide +kernel
theorem dX6_crumb_21 : decode cX6_crumb 21 = .ok (.istore_n 2, 1) := by decide +kernel
theorem dX6_crumb_22 : decode cX6_crumb 22 = .ok (.iload_n 2, 1) := by decide +kernel
theorem dX6_crumb_23 : decode cX6_crumb 23 = .ok (.iconst (-1), 1) := by decide +kernel
theorem dX6_crumb_24 : decode cX6_crumb 24 = .ok (.if_icmp .ne 8, 3) := by decide +kernel
theorem dX6_crumb_27 : decode cX6_crumb 27 = .ok (.bipush (-9), 2) := by decide +kernel
theorem dX6_crumb_29 : decode cX6_crumb 29 = .ok (.goto 4, 3) := by decide +kernel
theorem dX6_crumb_32 : decode cX6_crumb 32 = .ok (.iload_n 2, 1) := by decide +kernel
theorem dX6_crumb_33 : decode cX6_crumb 33 = .ok (.ireturn, 1) := by decide +kernel
set_option maxRecDepth 20000 in
theorem ggX6_value_X0_isGuest : GoodIn wsX6_value wsX0_isGuest := goodIn_r _ [7, 8, 17, 18, 19] (by decide +kernel) (by decide +kernel)
set_option maxRecDepth 20000 in
theorem gX6_value_X0_isGuest : GoodIn wsX6_value (wsV RX6 66 RX0 yX0_isGuest wsX0_isGuest) := goodIn_app (goodIn_of _ (by decide +kernel)) ggX6_value_X0_isGuest
theorem dX6_value_0 : decode cX6_value 0 = .ok (.aload_n 0, 1) := by decide +kernel
theorem dX6_value_1 : decode cX6_value 1 = .ok (.getfield 10, 3) := by decide +kernel
theorem dX6_value_4 : decode cX6_value 4 = .ok (.iload_n 1, 1) := by decide +kernel
theorem dX6_value_5 : decode cX6_value 5 = .ok (.invokevirtual 66, 3) := by decide +kernel
theorem dX6_value_8 : decode cX6_value 8 = .ok (.ifCond .eq 13, 3) := by decide +kernel
theorem dX6_value_11 : decode cX6_value 11 = .ok (.iload_n 2, 1) := by decide +kernel
theorem dX6_value_12 : decode cX6_value 12 = .ok (.ifCond .lt 9, 3) := by decide +kernel
theorem dX6_value_15 : decode cX6_value 15 = .ok (.iload_n 2, 1) := by decide +kernel
theorem dX6_value_16 : decode cX6_value 16 = .ok (.bipush 24, 2) := by decide +kernel
theorem dX6_value_18 : decode cX6_value 18 = .ok (.if_icmp .lt 5, 3) := by decide +kernel
theorem dX6_value_21 : decode cX6_value 21 = .ok (.iconst (-1), 1) := by decide +kernel
theorem dX6_value_22 : decode cX6_value 22 = .ok (.ireturn, 1) := by decide +kernel
theorem dX6_value_23 : decode cX6_value 23 = .ok (.aload_n 0, 1) := by decide +kernel
theorem dX6_value_24 : decode cX6_value 24 = .ok (.getfield 10, 3) := by decide +kernel
theorem dX6_value_27 : decode cX6_value 27 = .ok (.getfield 177, 3) := by decide +kernel
theorem dX6_value_30 : decode cX6_value 30 = .ok (.iload_n 1, 1) := by decide +kernel
theorem dX6_value_31 : decode cX6_value 31 = .ok (.aaload, 1) := by decide +kernel
theorem dX6_value_32 : decode cX6_value 32 = .ok (.iload_n 2, 1) := by decide +kernel
theorem dX6_value_33 : decode cX6_value 33 = .ok (.iaload, 1) := by decide +kernel
theorem dX6_value_34 : decode cX6_value 34 = .ok (.ireturn, 1) := by decide +kernel
set_option maxRecDepth 20000 in
theorem ggX6_envy_X6_isPair : GoodIn wsX6_envy wsX6_isPair := goodIn_r _ [6, 1, 7, 8, 9, 10, 11, 12, 31, 32, 33, 34, 35, 36, 37, 38, 39, 40, 41] (by decide +kernel) (by decide +kernel)
set_option maxRecDepth 20000 in
theorem gX6_envy_X6_isPair : GoodIn wsX6_envy (wsV RX6 121 RX6 yX6_isPair wsX6_isPair) := goodIn_app (goodIn_of _ (by decide +kernel)) ggX6_envy_X6_isPair
set_option maxRecDepth 20000 in
theorem ggX6_envy_X0_envyOf : GoodIn wsX6_envy wsX0_envyOf := goodIn_r _ [16, 17, 18, 19, 20, 21, 22, 23, 10, 24, 25, 26, 27, 28, 29, 30, 39, 40, 41] (by decide +kernel) (by decide +kernel)
set_option maxRecDepth 20000 in
theorem gX6_envy_X0_envyOf : GoodIn wsX6_envy (wsV RX6 180 RX0 yX0_envyOf wsX0_envyOf) := goodIn_app (goodIn_of _ (by decide +kernel)) ggX6_envy_X0_envyOf
theorem dX6_envy_0 : decode cX6_envy 0 = .ok (.aload_n 0, 1) := by decide +kernel
theorem dX6_envy_1 : decode cX6_envy 1 = .ok (.iload_n 1, 1) := by decide +kernel
theorem dX6_envy_2 : decode cX6_envy 2 = .ok (.iload_n 2, 1) := by decide +kernel
theorem dX6_envy_3 : decode cX6_envy 3 = .ok (.invokevirtual 121, 3) := by decide +kernel
theorem dX6_envy_6 : decode cX6_envy 6 = .ok (.ifCond .eq 15, 3) := by decide +kernel
theorem dX6_envy_9 : decode cX6_envy 9 = .ok (.aload_n 0, 1) := by decide +kernel
theorem dX6_envy_10 : decode cX6_envy 10 = .ok (.getfield 10, 3) := by decide +kernel
theorem dX6_envy_13 : decode cX6_envy 13 = .ok (.iload_n 1, 1) := by decide +kernel
theorem dX6_envy_14 : decode cX6_envy 14 = .ok (.iload_n 2, 1) := by decide +kernel
theorem dX6_envy_15 : decode cX6_envy 15 = .ok (.invokevirtual 180, 3) := by decide +kernel
theorem dX6_envy_18 : decode cX6_envy 18 = .ok (.goto 4, 3) := by decide +kernel
theorem dX6_envy_21 : decode cX6_envy 21 = .ok (.iconst (-1), 1) := by decide +kernel
theorem dX6_envy_22 : decode cX6_envy 22 = .ok (.ireturn, 1) := by decide +kernel
set_option maxRecDepth 20000 in
theorem ggX6_ring_X3_find : GoodIn wsX6_ring wsX3_find := goodIn_r _ [9, 10, 11, 12, 13, 14, 15, 8, 16, 17, 18, 19, 20, 21, 22, 23, 24, 25, 26, 27, 28, 29, 30, 31, 32, 33, 34, 35, 36, 37, 38, 39, 40, 41, 42, 43, 44, 45, 46, 47, 48, 49, 50, 51, 52, 53, 54, 55, 56, 57, 58, 59, 60, 61, 62, 63, 64, 65, 79, 80, 81, 74, 75, 76, 77, 78] (by decide +kernel) (by decide +kernel)
set_option maxRecDepth 20000 in
theorem gX6_ring_X3_find : GoodIn wsX6_ring (wsV RX6 136 RX3 yX3_find wsX3_find) := goodIn_app (goodIn_of _ (by decide +kernel)) ggX6_ring_X3_find
theorem dX6_ring_0 : decode cX6_ring 0 = .ok (.iload_n 1, 1) := by decide +kernel
theorem dX6_ring_1 : decode cX6_ring 1 = .ok (.ifCond .ge 5, 3) := by decide +kernel
theorem dX6_ring_4 : decode cX6_ring 4 = .ok (.iconst (-1), 1) := by decide +kernel
theorem dX6_ring_5 : decode cX6_ring 5 = .ok (.ireturn, 1) := by decide +kernel
theorem dX6_ring_6 : decode cX6_ring 6 = .ok (.iload_n 1, 1) := by decide +kernel
theorem dX6_ring_7 : decode cX6_ring 7 = .ok (.aload_n 0, 1) := by decide +kernel
theorem dX6_ring_8 : decode cX6_ring 8 = .ok (.getfield 41, 3) := by decide +kernel
theorem dX6_ring_11 : decode cX6_ring 11 = .ok (.aload_n 0, 1) := by decide +kernel
theorem dX6_ring_12 : decode cX6_ring 12 = .ok (.getfield 10, 3) := by decide +kernel
theorem dX6_ring_15 : decode cX6_ring 15 = .ok (.invokevirtual 136, 3) := by decide +kernel
theorem dX6_ring_18 : decode cX6_ring 18 = .ok (.if_icmp .ge 18, 3) := by decide +kernel
theorem dX6_ring_21 : decode cX6_ring 21 = .ok (.aload_n 0, 1) := by decide +kernel
theorem dX6_ring_22 : decode cX6_ring 22 = .ok (.getfield 41, 3) := by decide +kernel
theorem dX6_ring_25 : decode cX6_ring 25 = .ok (.getfield 140, 3) := by decide +kernel
theorem dX6_ring_28 : decode cX6_ring 28 = .ok (.getfield 183, 3) := by decide +kernel
theorem dX6_ring_31 : decode cX6_ring 31 = .ok (.iload_n 1, 1) := by decide +kernel
theorem dX6_ring_32 : decode cX6_ring 32 = .ok (.iaload, 1) := by decide +kernel
theorem dX6_ring_33 : decode cX6_ring 33 = .ok (.goto 5, 3) := by decide +kernel
theorem dX6_ring_36 : decode cX6_ring 36 = .ok (.bipush (-9), 2) := by decide +kernel
theorem dX6_ring_38 : decode cX6_ring 38 = .ok (.ireturn, 1) := by decide +kernel
set_option maxRecDepth 20000 in
theorem ggX6_middle_X0_isGuest : GoodIn wsX6_middle wsX0_isGuest := goodIn_r _ [6, 7, 29, 30, 31] (by decide +kernel) (by decide +kernel)
set_option maxRecDepth 20000 in
theorem gX6_middle_X0_isGuest : GoodIn wsX6_middle (wsV RX6 66 RX0 yX0_isGuest wsX0_isGuest) := goodIn_app (goodIn_of _ (by decide +kernel)) ggX6_middle_X0_isGuest
set_option maxRecDepth 20000 in
theorem ggX6_middle_X0_findCut : GoodIn wsX6_middle wsX0_findCut := goodIn_r _ [11, 12, 13, 14, 15, 16, 17, 18, 19, 5, 20, 29, 30, 31] (by decide +kernel) (by decide +kernel)
set_option maxRecDepth 20000 in
theorem gX6_middle_X0_findCut : GoodIn wsX6_middle (wsV RX6 127 RX0 yX0_findCut wsX0_findCut) := goodIn_app (goodIn_of _ (by decide +kernel)) ggX6_middle_X0_findCut
theorem dX6_middle_0 : decode cX6_middle 0 = .ok (.aload_n 0, 1) := by decide +kernel
theorem dX6_middle_1 : decode cX6_middle 1 = .ok (.getfield 10, 3) := by decide +kernel
theorem dX6_middle_4 : decode cX6_middle 4 = .ok (.iload_n 1, 1) := by decide +kernel
theorem dX6_middle_5 : decode cX6_middle 5 = .ok (.invokevirtual 66, 3) := by decide +kernel
theorem dX6_middle_8 : decode cX6_middle 8 = .ok (.ifCond .eq 17, 3) := by decide +kernel
theorem dX6_middle_11 : decode cX6_middle 11 = .ok (.aload_n 0, 1) := by decide +kernel
theorem dX6_middle_12 : decode cX6_middle 12 = .ok (.getfield 10, 3) := by decide +kernel
theorem dX6_middle_15 : decode cX6_middle 15 = .ok (.iload_n 1, 1) := by decide +kernel
theorem dX6_middle_16 : decode cX6_middle 16 = .ok (.iconst 0, 1) := by decide +kernel
theorem dX6_middle_17 : decode cX6_middle 17 = .ok (.bipush 23, 2) := by decide +kernel
theorem dX6_middle_19 : decode cX6_middle 19 = .ok (.invokevirtual 127, 3) := by decide +kernel
theorem dX6_middle_22 : decode cX6_middle 22 = .ok (.goto 4, 3) := by decide +kernel
theorem dX6_middle_25 : decode cX6_middle 25 = .ok (.iconst (-1), 1) := by decide +kernel
theorem dX6_middle_26 : decode cX6_middle 26 = .ok (.ireturn, 1) := by decide +kernel
set_option maxRecDepth 20000 in
theorem ggX6_best_X6_searchOnce : GoodIn wsX6_best wsX6_searchOnce := goodIn_r _ [12, 13, 3, 1, 14, 15, 16, 17, 18, 19, 20, 21, 22, 23, 24, 25, 26, 27, 28, 29, 30, 31, 32, 33, 34, 35, 36, 37, 38, 39, 40, 41, 42, 43, 44, 45, 46, 47, 48, 49, 50, 51, 52, 53, 54, 55, 56, 57, 58, 59, 60, 61, 62, 63, 64, 65, 66, 67, 68, 69, 70, 71, 72, 73, 74, 75, 76, 77, 78, 79, 80, 81, 82, 83, 84, 85, 86, 87, 88, 89, 90, 91, 92, 93, 94, 95, 96, 97, 98, 99, 110, 111, 112, 113, 114, 115, 116, 117, 121, 122, 123, 124, 125, 126, 127, 128, 129, 130, 131, 132, 133, 134, 118, 119, 120, 135, 136, 137] (by decide +kernel) (by decide +kernel)
set_option maxRecDepth 20000 in
theorem gX6_best_X6_searchOnce : GoodIn wsX6_best (wsV RX6 188 RX6 yX6_searchOnce wsX6_searchOnce) := goodIn_app (goodIn_of _ (by decide +kernel)) ggX6_best_X6_searchOnce
set_option maxRecDepth 20000 in
theorem ggX6_best_X6_lowestNumerator : GoodIn wsX6_best wsX6_lowestNumerator := goodIn_r _ [102, 103, 104, 11, 105, 106] (by decide +kernel) (by decide +kernel)
set_option maxRecDepth 20000 in
theorem gX6_best_X6_lowestNumerator : GoodIn wsX6_best (va_wsS RX6 167 yX6_lowestNumerator wsX6_lowestNumerator) := goodIn_app (goodIn_of _ (by decide +kernel)) ggX6_best_X6_lowestNumerator
set_option maxRecDepth 20000 in
theorem ggX6_best_X6_lowestDenominator : GoodIn wsX6_best wsX6_lowestDenominator := goodIn_r _ [109, 103, 104, 11, 105, 106] (by decide +kernel) (by decide +kernel)
set_option maxRecDepth 20000 in
theorem gX6_best_X6_lowestDenominator : GoodIn wsX6_best (va_wsS RX6 170 yX6_lowestDenominator wsX6_lowestDenominator) := goodIn_app (goodIn_of _ (by decide +kernel)) ggX6_best_X6_lowestDenominator
theorem dX6_best_0 : decode cX6_best 0 = .ok (.iload_n 1, 1) := by decide +kernel
theorem dX6_best_1 : decode cX6_best 1 = .ok (.ifCond .lt 8, 3) := by decide +kernel
theorem dX6_best_4 : decode cX6_best 4 = .ok (.iload_n 1, 1) := by decide +kernel
theorem dX6_best_5 : decode cX6_best 5 = .ok (.iconst 5, 1) := by decide +kernel
theorem dX6_best_6 : decode cX6_best 6 = .ok (.if_icmp .le 5, 3) := by decide +kernel
theorem dX6_best_9 : decode cX6_best 9 = .ok (.iconst (-1), 1) := by decide +kernel
theorem dX6_best_10 : decode cX6_best 10 = .ok (.ireturn, 1) := by decide +kernel
theorem dX6_best_11 : decode cX6_best 11 = .ok (.aload_n 0, 1) := by decide +kernel
theorem dX6_best_12 : decode cX6_best 12 = .ok (.getfield 10, 3) := by decide +kernel
theorem dX6_best_15 : decode cX6_best 15 = .ok (.getfield 56, 3) := by decide +kernel
theorem dX6_best_18 : decode cX6_best 18 = .ok (.iconst 1, 1) := by decide +kernel
theorem dX6_best_19 : decode cX6_best 19 = .ok (.if_icmp .ge 6, 3) := by decide +kernel
theorem dX6_best_22 : decode cX6_best 22 = .ok (.bipush (-2), 2) := by decide +kernel
theorem dX6_best_24 : decode cX6_best 24 = .ok (.ireturn, 1) := by decide +kernel
theorem dX6_best_25 : decode cX6_best 25 = .ok (.aload_n 0, 1) := by decide +kernel
theorem dX6_best_26 : decode cX6_best 26 = .ok (.invokevirtual 188, 3) := by decide +kernel
theorem dX6_best_29 : decode cX6_best 29 = .ok (.iload_n 1, 1) := by decide +kernel
theorem dX6_best_30 : decode cX6_best 30 = .ok (.tableswitch 70 0 2 #[26, 44, 62], 26) := by decide +kernel
theorem dX6_best_56 : decode cX6_best 56 = .ok (.aload_n 0, 1) := by decide +kernel
theorem dX6_best_57 : decode cX6_best 57 = .ok (.getfield 48, 3) := by decide +kernel
theorem dX6_best_60 : decode cX6_best 60 = .ok (.getfield 191, 3) := by decide +kernel
theorem dX6_best_63 : decode cX6_best 63 = .ok (.aload_n 0, 1) := by decide +kernel
theorem dX6_best_64 : decode cX6_best 64 = .ok (.getfield 48, 3) := by decide +kernel
theorem dX6_best_67 : decode cX6_best 67 = .ok (.getfield 194, 3) := by decide +kernel
theorem dX6_best_70 : decode cX6_best 70 = .ok (.invokestatic 167, 3) := by decide +kernel
theorem dX6_best_73 : decode cX6_best 73 = .ok (.ireturn, 1) := by decide +kernel
theorem dX6_best_74 : decode cX6_best 74 = .ok (.aload_n 0, 1) := by decide +kernel
theorem dX6_best_75 : decode cX6_best 75 = .ok (.getfield 48, 3) := by decide +kernel
theorem dX6_best_78 : decode cX6_best 78 = .ok (.getfield 191, 3) := by decide +kernel
theorem dX6_best_81 : decode cX6_best 81 = .ok (.aload_n 0, 1) := by decide +kernel
theorem dX6_best_82 : decode cX6_best 82 = .ok (.getfield 48, 3) := by decide +kernel
theorem dX6_best_85 : decode cX6_best 85 = .ok (.getfield 194, 3) := by decide +kernel
theorem dX6_best_88 : decode cX6_best 88 = .ok (.invokestatic 170, 3) := by decide +kernel
theorem dX6_best_91 : decode cX6_best 91 = .ok (.ireturn, 1) := by decide +kernel
theorem dX6_best_92 : decode cX6_best 92 = .ok (.aload_n 0, 1) := by decide +kernel
theorem dX6_best_93 : decode cX6_best 93 = .ok (.getfield 48, 3) := by decide +kernel
theorem dX6_best_96 : decode cX6_best 96 = .ok (.getfield 197, 3) := by decide +kernel
theorem dX6_best_99 : decode cX6_best 99 = .ok (.ireturn, 1) := by decide +kernel
theorem dX6_best_100 : decode cX6_best 100 = .ok (.iload_n 1, 1) := by decide +kernel
theorem dX6_best_101 : decode cX6_best 101 = .ok (.iconst 2, 1) := by decide +kernel
theorem dX6_best_102 : decode cX6_best 102 = .ok (.isub, 1) := by decide +kernel
theorem dX6_best_103 : decode cX6_best 103 = .ok (.istore_n 2, 1) := by decide +kernel
theorem dX6_best_104 : decode cX6_best 104 = .ok (.iload_n 2, 1) := by decide +kernel
theorem dX6_best_105 : decode cX6_best 105 = .ok (.aload_n 0, 1) := by decide +kernel
theorem dX6_best_106 : decode cX6_best 106 = .ok (.getfield 10, 3) := by decide +kernel
theorem dX6_best_109 : decode cX6_best 109 = .ok (.getfield 56, 3) := by decide +kernel
theorem dX6_best_112 : decode cX6_best 112 = .ok (.if_icmp .ge 15, 3) := by decide +kernel
theorem dX6_best_115 : decode cX6_best 115 = .ok (.aload_n 0, 1) := by decide +kernel
theorem dX6_best_116 : decode cX6_best 116 = .ok (.getfield 48, 3) := by decide +kernel
theorem dX6_best_119 : decode cX6_best 119 = .ok (.getfield 200, 3) := by decide +kernel
theorem dX6_best_122 : decode cX6_best 122 = .ok (.iload_n 2, 1) := by decide +kernel
theorem dX6_best_123 : decode cX6_best 123 = .ok (.iaload, 1) := by decide +kernel
theorem dX6_best_124 : decode cX6_best 124 = .ok (.goto 5, 3) := by decide +kernel
theorem dX6_best_127 : decode cX6_best 127 = .ok (.bipush (-9), 2) := by decide +kernel
theorem dX6_best_129 : decode cX6_best 129 = .ok (.ireturn, 1) := by decide +kernel
set_option maxRecDepth 20000 in
theorem ggX6_calm_X6_searchOnce : GoodIn wsX6_calm wsX6_searchOnce := goodIn_r _ [11, 12, 3, 1, 13, 14, 15, 16, 17, 18, 19, 20, 21, 22, 23, 24, 25, 26, 27, 28, 29, 30, 31, 32, 33, 34, 35, 36, 37, 38, 39, 40, 41, 42, 43, 44, 45, 46, 47, 48, 49, 50, 51, 52, 53, 54, 55, 56, 57, 58, 59, 60, 61, 62, 63, 64, 65, 66, 67, 68, 69, 70, 71, 72, 73, 74, 75, 76, 77, 78, 79, 80, 81, 82, 83, 84, 85, 86, 87, 88, 89, 90, 91, 92, 93, 94, 95, 96, 97, 98, 99, 100, 101, 102, 103, 104, 105, 106, 110, 111, 112, 113, 114, 115, 116, 117, 118, 119, 120, 121, 122, 123, 107, 108, 109, 124, 125, 126] (by decide +kernel) (by decide +kernel)
set_option maxRecDepth 20000 in
theorem gX6_calm_X6_searchOnce : GoodIn wsX6_calm (wsV RX6 188 RX6 yX6_searchOnce wsX6_searchOnce) := goodIn_app (goodIn_of _ (by decide +kernel)) ggX6_calm_X6_searchOnce
theorem dX6_calm_0 : decode cX6_calm 0 = .ok (.iload_n 1, 1) := by decide +kernel
theorem dX6_calm_1 : decode cX6_calm 1 = .ok (.ifCond .lt 8, 3) := by decide +kernel
theorem dX6_calm_4 : decode cX6_calm 4 = .ok (.iload_n 1, 1) := by decide +kernel
theorem dX6_calm_5 : decode cX6_calm 5 = .ok (.iconst 2, 1) := by decide +kernel
theorem dX6_calm_6 : decode cX6_calm 6 = .ok (.if_icmp .le 5, 3) := by decide +kernel
theorem dX6_calm_9 : decode cX6_calm 9 = .ok (.iconst (-1), 1) := by decide +kernel
theorem dX6_calm_10 : decode cX6_calm 10 = .ok (.ireturn, 1) := by decide +kernel
theorem dX6_calm_11 : decode cX6_calm 11 = .ok (.aload_n 0, 1) := by decide +kernel
theorem dX6_calm_12 : decode cX6_calm 12 = .ok (.getfield 10, 3) := by decide +kernel
theorem dX6_calm_15 : decode cX6_calm 15 = .ok (.getfield 56, 3) := by decide +kernel
theorem dX6_calm_18 : decode cX6_calm 18 = .ok (.iconst 2, 1) := by decide +kernel
theorem dX6_calm_19 : decode cX6_calm 19 = .ok (.if_icmp .ge 6, 3) := by decide +kernel
theorem dX6_calm_22 : decode cX6_calm 22 = .ok (.bipush (-2), 2) := by decide +kernel
theorem dX6_calm_24 : decode cX6_calm 24 = .ok (.ireturn, 1) := by decide +kernel
theorem dX6_calm_25 : decode cX6_calm 25 = .ok (.aload_n 0, 1) := by decide +kernel
theorem dX6_calm_26 : decode cX6_calm 26 = .ok (.invokevirtual 188, 3) := by decide +kernel
theorem dX6_calm_29 : decode cX6_calm 29 = .ok (.iload_n 1, 1) := by decide +kernel
theorem dX6_calm_30 : decode cX6_calm 30 = .ok (.ifCond .ne 11, 3) := by decide +kernel
theorem dX6_calm_33 : decode cX6_calm 33 = .ok (.aload_n 0, 1) := by decide +kernel
theorem dX6_calm_34 : decode cX6_calm 34 = .ok (.getfield 48, 3) := by decide +kernel
theorem dX6_calm_37 : decode cX6_calm 37 = .ok (.getfield 203, 3) := by decide +kernel
theorem dX6_calm_40 : decode cX6_calm 40 = .ok (.ireturn, 1) := by decide +kernel
theorem dX6_calm_41 : decode cX6_calm 41 = .ok (.aload_n 0, 1) := by decide +kernel
theorem dX6_calm_42 : decode cX6_calm 42 = .ok (.getfield 48, 3) := by decide +kernel
theorem dX6_calm_45 : decode cX6_calm 45 = .ok (.getfield 203, 3) := by decide +kernel
theorem dX6_calm_48 : decode cX6_calm 48 = .ok (.ifCond .ne 6, 3) := by decide +kernel
theorem dX6_calm_51 : decode cX6_calm 51 = .ok (.bipush (-9), 2) := by decide +kernel
theorem dX6_calm_53 : decode cX6_calm 53 = .ok (.ireturn, 1) := by decide +kernel
theorem dX6_calm_54 : decode cX6_calm 54 = .ok (.iload_n 1, 1) := by decide +kernel
theorem dX6_calm_55 : decode cX6_calm 55 = .ok (.iconst 1, 1) := by decide +kernel
theorem dX6_calm_56 : decode cX6_calm 56 = .ok (.if_icmp .ne 13, 3) := by decide +kernel
theorem dX6_calm_59 : decode cX6_calm 59 = .ok (.aload_n 0, 1) := by decide +kernel
theorem dX6_calm_60 : decode cX6_calm 60 = .ok (.getfield 48, 3) := by decide +kernel
theorem dX6_calm_63 : decode cX6_calm 63 = .ok (.getfield 206, 3) := by decide +kernel
theorem dX6_calm_66 : decode cX6_calm 66 = .ok (.goto 10, 3) := by decide +kernel
theorem dX6_calm_69 : decode cX6_calm 69 = .ok (.aload_n 0, 1) := by decide +kernel
theorem dX6_calm_70 : decode cX6_calm 70 = .ok (.getfield 48, 3) := by decide +kernel
theorem dX6_calm_73 : decode cX6_calm 73 = .ok (.getfield 209, 3) := by decide +kernel
theorem dX6_calm_76 : decode cX6_calm 76 = .ok (.ireturn, 1) := by decide +kernel
set_option maxRecDepth 20000 in
theorem ggX6_calls_X6_isMove : GoodIn wsX6_calls wsX6_isMove := goodIn_r _ [7, 2, 8, 43, 44, 45, 46, 47, 48, 49, 50, 51, 52, 53] (by decide +kernel) (by decide +kernel)
set_option maxRecDepth 20000 in
theorem gX6_calls_X6_isMove : GoodIn wsX6_calls (wsV RX6 107 RX6 yX6_isMove wsX6_isMove) := goodIn_app (goodIn_of _ (by decide +kernel)) ggX6_calls_X6_isMove
set_option maxRecDepth 20000 in
theorem ggX6_calls_X2_pass : GoodIn wsX6_calls wsX2_pass := goodIn_r _ [13, 14, 15, 16, 17, 18, 19, 20, 21, 12, 22, 23, 24, 25, 26, 27, 28, 29, 30, 31, 32, 33, 34, 35, 36, 37, 38, 39, 40, 41, 42, 51, 52, 53, 54] (by decide +kernel) (by decide +kernel)
set_option maxRecDepth 20000 in
theorem gX6_calls_X2_pass : GoodIn wsX6_calls (wsV RX6 110 RX2 yX2_pass wsX2_pass) := goodIn_app (goodIn_of _ (by decide +kernel)) ggX6_calls_X2_pass
theorem dX6_calls_0 : decode cX6_calls 0 = .ok (.aload_n 0, 1) := by decide +kernel
theorem dX6_calls_1 : decode cX6_calls 1 = .ok (.iload_n 1, 1) := by decide +kernel
theorem dX6_calls_2 : decode cX6_calls 2 = .ok (.iload_n 2, 1) := by decide +kernel
theorem dX6_calls_3 : decode cX6_calls 3 = .ok (.invokevirtual 107, 3) := by decide +kernel
theorem dX6_calls_6 : decode cX6_calls 6 = .ok (.ifCond .eq 19, 3) := by decide +kernel
theorem dX6_calls_9 : decode cX6_calls 9 = .ok (.aload_n 0, 1) := by decide +kernel
theorem dX6_calls_10 : decode cX6_calls 10 = .ok (.getfield 34, 3) := by decide +kernel
theorem dX6_calls_13 : decode cX6_calls 13 = .ok (.aload_n 0, 1) := by decide +kernel
theorem dX6_calls_14 : decode cX6_calls 14 = .ok (.getfield 10, 3) := by decide +kernel
theorem dX6_calls_17 : decode cX6_calls 17 = .ok (.iload_n 1, 1) := by decide +kernel
theorem dX6_calls_18 : decode cX6_calls 18 = .ok (.iload_n 2, 1) := by decide +kernel
theorem dX6_calls_19 : decode cX6_calls 19 = .ok (.invokevirtual 110, 3) := by decide +kernel
theorem dX6_calls_22 : decode cX6_calls 22 = .ok (.goto 4, 3) := by decide +kernel
theorem dX6_calls_25 : decode cX6_calls 25 = .ok (.iconst (-1), 1) := by decide +kernel
theorem dX6_calls_26 : decode cX6_calls 26 = .ok (.ireturn, 1) := by decide +kernel
set_option maxRecDepth 20000 in
theorem ggX6_record_X6_dropOldest : GoodIn wsX6_record wsX6_dropOldest := goodIn_r _ [9, 2, 1, 30, 31, 32, 33, 34, 35, 36, 37] (by decide +kernel) (by decide +kernel)
set_option maxRecDepth 20000 in
theorem gX6_record_X6_dropOldest : GoodIn wsX6_record (wsV RX6 212 RX6 yX6_dropOldest wsX6_dropOldest) := goodIn_app (goodIn_of _ (by decide +kernel)) ggX6_record_X6_dropOldest
set_option maxRecDepth 20000 in
theorem ggX6_record_X0_become : GoodIn wsX6_record wsX0_become := goodIn_r _ [14, 15, 16, 17, 18, 19, 20, 13, 21, 22, 23, 24, 25, 26, 27, 28, 29, 38, 39, 40] (by decide +kernel) (by decide +kernel)
set_option maxRecDepth 20000 in
theorem gX6_record_X0_become : GoodIn wsX6_record (wsV RX6 148 RX0 yX0_become wsX0_become) := goodIn_app (goodIn_of _ (by decide +kernel)) ggX6_record_X0_become
theorem dX6_record_0 : decode cX6_record 0 = .ok (.aload_n 0, 1) := by decide +kernel
theorem dX6_record_1 : decode cX6_record 1 = .ok (.getfield 20, 3) := by decide +kernel
theorem dX6_record_4 : decode cX6_record 4 = .ok (.iconst 5, 1) := by decide +kernel
theorem dX6_record_5 : decode cX6_record 5 = .ok (.if_icmp .lt 7, 3) := by decide +kernel
theorem dX6_record_8 : decode cX6_record 8 = .ok (.aload_n 0, 1) := by decide +kernel
theorem dX6_record_9 : decode cX6_record 9 = .ok (.invokevirtual 212, 3) := by decide +kernel
theorem dX6_record_12 : decode cX6_record 12 = .ok (.aload_n 0, 1) := by decide +kernel
theorem dX6_record_13 : decode cX6_record 13 = .ok (.getfield 16, 3) := by decide +kernel
theorem dX6_record_16 : decode cX6_record 16 = .ok (.aload_n 0, 1) := by decide +kernel
theorem dX6_record_17 : decode cX6_record 17 = .ok (.getfield 20, 3) := by decide +kernel
theorem dX6_record_20 : decode cX6_record 20 = .ok (.aaload, 1) := by decide +kernel
theorem dX6_record_21 : decode cX6_record 21 = .ok (.aload_n 0, 1) := by decide +kernel
theorem dX6_record_22 : decode cX6_record 22 = .ok (.getfield 10, 3) := by decide +kernel
theorem dX6_record_25 : decode cX6_record 25 = .ok (.invokevirtual 148, 3) := by decide +kernel
theorem dX6_record_28 : decode cX6_record 28 = .ok (.aload_n 0, 1) := by decide +kernel
theorem dX6_record_29 : decode cX6_record 29 = .ok (.dup, 1) := by decide +kernel
theorem dX6_record_30 : decode cX6_record 30 = .ok (.getfield 20, 3) := by decide +kernel
theorem dX6_record_33 : decode cX6_record 33 = .ok (.iconst 1, 1) := by decide +kernel
theorem dX6_record_34 : decode cX6_record 34 = .ok (.iadd, 1) := by decide +kernel
theorem dX6_record_35 : decode cX6_record 35 = .ok (.putfield 20, 3) := by decide +kernel
theorem dX6_record_38 : decode cX6_record 38 = .ok (.aload_n 0, 1) := by decide +kernel
theorem dX6_record_39 : decode cX6_record 39 = .ok (.iconst 0, 1) := by decide +kernel
theorem dX6_record_40 : decode cX6_record 40 = .ok (.putfield 52, 3) := by decide +kernel
theorem dX6_record_43 : decode cX6_record 43 = .ok (.return_, 1) := by decide +kernel
theorem dX6_dropOldest_0 : decode cX6_dropOldest 0 = .ok (.aload_n 0, 1) := by decide +kernel
theorem dX6_dropOldest_1 : decode cX6_dropOldest 1 = .ok (.getfield 16, 3) := by decide +kernel
theorem dX6_dropOldest_4 : decode cX6_dropOldest 4 = .ok (.iconst 0, 1) := by decide +kernel
theorem dX6_dropOldest_5 : decode cX6_dropOldest 5 = .ok (.aaload, 1) := by decide +kernel
theorem dX6_dropOldest_6 : decode cX6_dropOldest 6 = .ok (.astore_n 1, 1) := by decide +kernel
theorem dX6_dropOldest_7 : decode cX6_dropOldest 7 = .ok (.iconst 1, 1) := by decide +kernel
theorem dX6_dropOldest_8 : decode cX6_dropOldest 8 = .ok (.istore_n 2, 1) := by decide +kernel
theorem dX6_dropOldest_9 : decode cX6_dropOldest 9 = .ok (.iload_n 2, 1) := by decide +kernel
theorem dX6_dropOldest_10 : decode cX6_dropOldest 10 = .ok (.iconst 5, 1) := by decide +kernel
theorem dX6_dropOldest_11 : decode cX6_dropOldest 11 = .ok (.if_icmp .ge 23, 3) := by decide +kernel
theorem dX6_dropOldest_14 : decode cX6_dropOldest 14 = .ok (.aload_n 0, 1) := by decide +kernel
theorem dX6_dropOldest_15 : decode cX6_dropOldest 15 = .ok (.getfield 16, 3) := by decide +kernel
theorem dX6_dropOldest_18 : decode cX6_dropOldest 18 = .ok (.iload_n 2, 1) := by decide +kernel
theorem dX6_dropOldest_19 : decode cX6_dropOldest 19 = .ok (.iconst 1, 1) := by decide +kernel
theorem dX6_dropOldest_20 : decode cX6_dropOldest 20 = .ok (.isub, 1) := by decide +kernel
theorem dX6_dropOldest_21 : decode cX6_dropOldest 21 = .ok (.aload_n 0, 1) := by decide +kernel
theorem dX6_dropOldest_22 : decode cX6_dropOldest 22 = .ok (.getfield 16, 3) := by decide +kernel
theorem dX6_dropOldest_25 : decode cX6_dropOldest 25 = .ok (.iload_n 2, 1) := by decide +kernel
theorem dX6_dropOldest_26 : decode cX6_dropOldest 26 = .ok (.aaload, 1) := by decide +kernel
theorem dX6_dropOldest_27 : decode cX6_dropOldest 27 = .ok (.aastore, 1) := by decide +kernel
theorem dX6_dropOldest_28 : decode cX6_dropOldest 28 = .ok (.iinc 2 1, 3) := by decide +kernel
theorem dX6_dropOldest_31 : decode cX6_dropOldest 31 = .ok (.goto (-22), 3) := by decide +kernel
theorem dX6_dropOldest_34 : decode cX6_dropOldest 34 = .ok (.aload_n 0, 1) := by decide +kernel
theorem dX6_dropOldest_35 : decode cX6_dropOldest 35 = .ok (.getfield 16, 3) := by decide +kernel
theorem dX6_dropOldest_38 : decode cX6_dropOldest 38 = .ok (.iconst 4, 1) := by decide +kernel
theorem dX6_dropOldest_39 : decode cX6_dropOldest 39 = .ok (.aload_n 1, 1) := by decide +kernel
theorem dX6_dropOldest_40 : decode cX6_dropOldest 40 = .ok (.aastore, 1) := by decide +kernel
theorem dX6_dropOldest_41 : decode cX6_dropOldest 41 = .ok (.aload_n 0, 1) := by decide +kernel
theorem dX6_dropOldest_42 : decode cX6_dropOldest 42 = .ok (.iconst 4, 1) := by decide +kernel
theorem dX6_dropOldest_43 : decode cX6_dropOldest 43 = .ok (.putfield 20, 3) := by decide +kernel
theorem dX6_dropOldest_46 : decode cX6_dropOldest 46 = .ok (.return_, 1) := by decide +kernel
set_option maxRecDepth 20000 in
theorem ggX6_searchOnce_X1_search : GoodIn wsX6_searchOnce wsX1_search := goodIn_r _ [8, 9, 10, 11, 12, 13, 7, 14, 15, 16, 17, 18, 19, 20, 21, 22, 23, 24, 25, 26, 27, 28, 29, 30, 31, 32, 33, 34, 35, 36, 37, 38, 39, 40, 41, 42, 43, 44, 45, 46, 47, 48, 49, 50, 51, 52, 53, 54, 55, 56, 57, 58, 59, 60, 61, 62, 63, 64, 65, 66, 67, 68, 69, 70, 71, 72, 73, 74, 75, 76, 77, 78, 79, 80, 81, 82, 83, 84, 85, 86, 87, 88, 89, 98, 99, 100, 101, 102, 103, 104, 105, 106, 107, 108, 109, 110, 111, 112, 113, 114, 115, 116, 117] (by decide +kernel) (by decide +kernel)
set_option maxRecDepth 20000 in
theorem gX6_searchOnce_X1_search : GoodIn wsX6_searchOnce (wsV RX6 215 RX1 yX1_search wsX1_search) := goodIn_app (goodIn_of _ (by decide +kernel)) ggX6_searchOnce_X1_search
theorem dX6_searchOnce_0 : decode cX6_searchOnce 0 = .ok (.aload_n 0, 1) := by decide +kernel
theorem dX6_searchOnce_1 : decode cX6_searchOnce 1 = .ok (.getfield 52, 3) := by decide +kernel
theorem dX6_searchOnce_4 : decode cX6_searchOnce 4 = .ok (.ifCond .ne 19, 3) := by decide +kernel
theorem dX6_searchOnce_7 : decode cX6_searchOnce 7 = .ok (.aload_n 0, 1) := by decide +kernel
theorem dX6_searchOnce_8 : decode cX6_searchOnce 8 = .ok (.getfield 48, 3) := by decide +kernel
theorem dX6_searchOnce_11 : decode cX6_searchOnce 11 = .ok (.aload_n 0, 1) := by decide +kernel
theorem dX6_searchOnce_12 : decode cX6_searchOnce 12 = .ok (.getfield 10, 3) := by decide +kernel
theorem dX6_searchOnce_15 : decode cX6_searchOnce 15 = .ok (.invokevirtual 215, 3) := by decide +kernel
theorem dX6_searchOnce_18 : decode cX6_searchOnce 18 = .ok (.aload_n 0, 1) := by decide +kernel
theorem dX6_searchOnce_19 : decode cX6_searchOnce 19 = .ok (.iconst 1, 1) := by decide +kernel
theorem dX6_searchOnce_20 : decode cX6_searchOnce 20 = .ok (.putfield 52, 3) := by decide +kernel
theorem dX6_searchOnce_23 : decode cX6_searchOnce 23 = .ok (.return_, 1) := by decide +kernel
theorem dX6_isSpan_0 : decode cX6_isSpan 0 = .ok (.iload_n 0, 1) := by decide +kernel
theorem dX6_isSpan_1 : decode cX6_isSpan 1 = .ok (.ifCond .lt 18, 3) := by decide +kernel
theorem dX6_isSpan_4 : decode cX6_isSpan 4 = .ok (.iload_n 0, 1) := by decide +kernel
theorem dX6_isSpan_5 : decode cX6_isSpan 5 = .ok (.iload_n 1, 1) := by decide +kernel
theorem dX6_isSpan_6 : decode cX6_isSpan 6 = .ok (.if_icmp .gt 13, 3) := by decide +kernel
theorem dX6_isSpan_9 : decode cX6_isSpan 9 = .ok (.iload_n 1, 1) := by decide +kernel
theorem dX6_isSpan_10 : decode cX6_isSpan 10 = .ok (.bipush 24, 2) := by decide +kernel
theorem dX6_isSpan_12 : decode cX6_isSpan 12 = .ok (.if_icmp .ge 7, 3) := by decide +kernel
theorem dX6_isSpan_15 : decode cX6_isSpan 15 = .ok (.iconst 1, 1) := by decide +kernel
theorem dX6_isSpan_16 : decode cX6_isSpan 16 = .ok (.goto 4, 3) := by decide +kernel
theorem dX6_isSpan_19 : decode cX6_isSpan 19 = .ok (.iconst 0, 1) := by decide +kernel
theorem dX6_isSpan_20 : decode cX6_isSpan 20 = .ok (.ireturn, 1) := by decide +kernel
set_option maxRecDepth 20000 in
theorem ggX6_isPair_X0_isGuest : GoodIn wsX6_isPair wsX0_isGuest := goodIn_r _ [6, 7, 16, 17, 18] (by decide +kernel) (by decide +kernel)
set_option maxRecDepth 20000 in
theorem gX6_isPair_X0_isGuest : GoodIn wsX6_isPair (wsV RX6 66 RX0 yX0_isGuest wsX0_isGuest) := goodIn_app (goodIn_of _ (by decide +kernel)) ggX6_isPair_X0_isGuest
theorem dX6_isPair_0 : decode cX6_isPair 0 = .ok (.aload_n 0, 1) := by decide +kernel
theorem dX6_isPair_1 : decode cX6_isPair 1 = .ok (.getfield 10, 3) := by decide +kernel
theorem dX6_isPair_4 : decode cX6_isPair 4 = .ok (.iload_n 1, 1) := by decide +kernel
theorem dX6_isPair_5 : decode cX6_isPair 5 = .ok (.invokevirtual 66, 3) := by decide +kernel
theorem dX6_isPair_8 : decode cX6_isPair 8 = .ok (.ifCond .eq 23, 3) := by decide +kernel
theorem dX6_isPair_11 : decode cX6_isPair 11 = .ok (.aload_n 0, 1) := by decide +kernel
theorem dX6_isPair_12 : decode cX6_isPair 12 = .ok (.getfield 10, 3) := by decide +kernel
theorem dX6_isPair_15 : decode cX6_isPair 15 = .ok (.iload_n 2, 1) := by decide +kernel
theorem dX6_isPair_16 : decode cX6_isPair 16 = .ok (.invokevirtual 66, 3) := by decide +kernel
theorem dX6_isPair_19 : decode cX6_isPair 19 = .ok (.ifCond .eq 12, 3) := by decide +kernel
theorem dX6_isPair_22 : decode cX6_isPair 22 = .ok (.iload_n 1, 1) := by decide +kernel
theorem dX6_isPair_23 : decode cX6_isPair 23 = .ok (.iload_n 2, 1) := by decide +kernel
theorem dX6_isPair_24 : decode cX6_isPair 24 = .ok (.if_icmp .eq 7, 3) := by decide +kernel
theorem dX6_isPair_27 : decode cX6_isPair 27 = .ok (.iconst 1, 1) := by decide +kernel
theorem dX6_isPair_28 : decode cX6_isPair 28 = .ok (.goto 4, 3) := by decide +kernel
theorem dX6_isPair_31 : decode cX6_isPair 31 = .ok (.iconst 0, 1) := by decide +kernel
theorem dX6_isPair_32 : decode cX6_isPair 32 = .ok (.ireturn, 1) := by decide +kernel
theorem dX6_isMove_0 : decode cX6_isMove 0 = .ok (.iload_n 1, 1) := by decide +kernel
theorem dX6_isMove_1 : decode cX6_isMove 1 = .ok (.iconst 1, 1) := by decide +kernel
theorem dX6_isMove_2 : decode cX6_isMove 2 = .ok (.if_icmp .lt 31, 3) := by decide +kernel
theorem dX6_isMove_5 : decode cX6_isMove 5 = .ok (.iload_n 1, 1) := by decide +kernel
theorem dX6_isMove_6 : decode cX6_isMove 6 = .ok (.bipush 100, 2) := by decide +kernel
theorem dX6_isMove_8 : decode cX6_isMove 8 = .ok (.if_icmp .gt 25, 3) := by decide +kernel
theorem dX6_isMove_11 : decode cX6_isMove 11 = .ok (.iload_n 2, 1) := by decide +kernel
theorem dX6_isMove_12 : decode cX6_isMove 12 = .ok (.iconst 1, 1) := by decide +kernel
theorem dX6_isMove_13 : decode cX6_isMove 13 = .ok (.if_icmp .lt 20, 3) := by decide +kernel
theorem dX6_isMove_16 : decode cX6_isMove 16 = .ok (.iload_n 2, 1) := by decide +kernel
theorem dX6_isMove_17 : decode cX6_isMove 17 = .ok (.iconst 1, 1) := by decide +kernel
theorem dX6_isMove_18 : decode cX6_isMove 18 = .ok (.aload_n 0, 1) := by decide +kernel
theorem dX6_isMove_19 : decode cX6_isMove 19 = .ok (.getfield 10, 3) := by decide +kernel
theorem dX6_isMove_22 : decode cX6_isMove 22 = .ok (.getfield 56, 3) := by decide +kernel
theorem dX6_isMove_25 : decode cX6_isMove 25 = .ok (.ishl, 1) := by decide +kernel
theorem dX6_isMove_26 : decode cX6_isMove 26 = .ok (.if_icmp .ge 7, 3) := by decide +kernel
theorem dX6_isMove_29 : decode cX6_isMove 29 = .ok (.iconst 1, 1) := by decide +kernel
theorem dX6_isMove_30 : decode cX6_isMove 30 = .ok (.goto 4, 3) := by decide +kernel
theorem dX6_isMove_33 : decode cX6_isMove 33 = .ok (.iconst 0, 1) := by decide +kernel
theorem dX6_isMove_34 : decode cX6_isMove 34 = .ok (.ireturn, 1) := by decide +kernel
set_option maxRecDepth 20000 in
theorem ggX6_lowestNumerator_X6_commonDivisor : GoodIn wsX6_lowestNumerator wsX6_commonDivisor := goodIn_r _ [4, 5] (by decide +kernel) (by decide +kernel)
set_option maxRecDepth 20000 in
theorem gX6_lowestNumerator_X6_commonDivisor : GoodIn wsX6_lowestNumerator (va_wsS RX6 218 yX6_commonDivisor wsX6_commonDivisor) := goodIn_app (goodIn_of _ (by decide +kernel)) ggX6_lowestNumerator_X6_commonDivisor
theorem dX6_lowestNumerator_0 : decode cX6_lowestNumerator 0 = .ok (.iload_n 0, 1) := by decide +kernel
theorem dX6_lowestNumerator_1 : decode cX6_lowestNumerator 1 = .ok (.iload_n 1, 1) := by decide +kernel
theorem dX6_lowestNumerator_2 : decode cX6_lowestNumerator 2 = .ok (.invokestatic 218, 3) := by decide +kernel
theorem dX6_lowestNumerator_5 : decode cX6_lowestNumerator 5 = .ok (.istore_n 2, 1) := by decide +kernel
theorem dX6_lowestNumerator_6 : decode cX6_lowestNumerator 6 = .ok (.iload_n 1, 1) := by decide +kernel
theorem dX6_lowestNumerator_7 : decode cX6_lowestNumerator 7 = .ok (.ifCond .eq 7, 3) := by decide +kernel
theorem dX6_lowestNumerator_10 : decode cX6_lowestNumerator 10 = .ok (.iload_n 2, 1) := by decide +kernel
theorem dX6_lowestNumerator_11 : decode cX6_lowestNumerator 11 = .ok (.ifCond .ne 7, 3) := by decide +kernel
theorem dX6_lowestNumerator_14 : decode cX6_lowestNumerator 14 = .ok (.iconst 0, 1) := by decide +kernel
theorem dX6_lowestNumerator_15 : decode cX6_lowestNumerator 15 = .ok (.goto 6, 3) := by decide +kernel
theorem dX6_lowestNumerator_18 : decode cX6_lowestNumerator 18 = .ok (.iload_n 0, 1) := by decide +kernel
theorem dX6_lowestNumerator_19 : decode cX6_lowestNumerator 19 = .ok (.iload_n 2, 1) := by decide +kernel
theorem dX6_lowestNumerator_20 : decode cX6_lowestNumerator 20 = .ok (.idiv, 1) := by decide +kernel
theorem dX6_lowestNumerator_21 : decode cX6_lowestNumerator 21 = .ok (.ireturn, 1) := by decide +kernel
set_option maxRecDepth 20000 in
theorem ggX6_lowestDenominator_X6_commonDivisor : GoodIn wsX6_lowestDenominator wsX6_commonDivisor := goodIn_r _ [4, 5] (by decide +kernel) (by decide +kernel)
set_option maxRecDepth 20000 in
theorem gX6_lowestDenominator_X6_commonDivisor : GoodIn wsX6_lowestDenominator (va_wsS RX6 218 yX6_commonDivisor wsX6_commonDivisor) := goodIn_app (goodIn_of _ (by decide +kernel)) ggX6_lowestDenominator_X6_commonDivisor
theorem dX6_lowestDenominator_0 : decode cX6_lowestDenominator 0 = .ok (.iload_n 0, 1) := by decide +kernel
theorem dX6_lowestDenominator_1 : decode cX6_lowestDenominator 1 = .ok (.iload_n 1, 1) := by decide +kernel
theorem dX6_lowestDenominator_2 : decode cX6_lowestDenominator 2 = .ok (.invokestatic 218, 3) := by decide +kernel
theorem dX6_lowestDenominator_5 : decode cX6_lowestDenominator 5 = .ok (.istore_n 2, 1) := by decide +kernel
theorem dX6_lowestDenominator_6 : decode cX6_lowestDenominator 6 = .ok (.iload_n 1, 1) := by decide +kernel
theorem dX6_lowestDenominator_7 : decode cX6_lowestDenominator 7 = .ok (.ifCond .eq 7, 3) := by decide +kernel
theorem dX6_lowestDenominator_10 : decode cX6_lowestDenominator 10 = .ok (.iload_n 2, 1) := by decide +kernel
theorem dX6_lowestDenominator_11 : decode cX6_lowestDenominator 11 = .ok (.ifCond .ne 7, 3) := by decide +kernel
theorem dX6_lowestDenominator_14 : decode cX6_lowestDenominator 14 = .ok (.iconst 1, 1) := by decide +kernel
theorem dX6_lowestDenominator_15 : decode cX6_lowestDenominator 15 = .ok (.goto 6, 3) := by decide +kernel
theorem dX6_lowestDenominator_18 : decode cX6_lowestDenominator 18 = .ok (.iload_n 1, 1) := by decide +kernel
theorem dX6_lowestDenominator_19 : decode cX6_lowestDenominator 19 = .ok (.iload_n 2, 1) := by decide +kernel
theorem dX6_lowestDenominator_20 : decode cX6_lowestDenominator 20 = .ok (.idiv, 1) := by decide +kernel
theorem dX6_lowestDenominator_21 : decode cX6_lowestDenominator 21 = .ok (.ireturn, 1) := by decide +kernel
theorem dX6_commonDivisor_0 : decode cX6_commonDivisor 0 = .ok (.iload_n 0, 1) := by decide +kernel
theorem dX6_commonDivisor_1 : decode cX6_commonDivisor 1 = .ok (.istore_n 2, 1) := by decide +kernel
theorem dX6_commonDivisor_2 : decode cX6_commonDivisor 2 = .ok (.iload_n 1, 1) := by decide +kernel
theorem dX6_commonDivisor_3 : decode cX6_commonDivisor 3 = .ok (.istore_n 3, 1) := by decide +kernel
theorem dX6_commonDivisor_4 : decode cX6_commonDivisor 4 = .ok (.iconst 0, 1) := by decide +kernel
theorem dX6_commonDivisor_5 : decode cX6_commonDivisor 5 = .ok (.istore 4, 2) := by decide +kernel
theorem dX6_commonDivisor_7 : decode cX6_commonDivisor 7 = .ok (.iload_n 3, 1) := by decide +kernel
theorem dX6_commonDivisor_8 : decode cX6_commonDivisor 8 = .ok (.ifCond .eq 26, 3) := by decide +kernel
theorem dX6_commonDivisor_11 : decode cX6_commonDivisor 11 = .ok (.iload 4, 2) := by decide +kernel
theorem dX6_commonDivisor_13 : decode cX6_commonDivisor 13 = .ok (.ldc 221, 2) := by decide +kernel
theorem dX6_commonDivisor_15 : decode cX6_commonDivisor 15 = .ok (.if_icmp .ge 19, 3) := by decide +kernel
theorem dX6_commonDivisor_18 : decode cX6_commonDivisor 18 = .ok (.iload_n 2, 1) := by decide +kernel
theorem dX6_commonDivisor_19 : decode cX6_commonDivisor 19 = .ok (.iload_n 3, 1) := by decide +kernel
theorem dX6_commonDivisor_20 : decode cX6_commonDivisor 20 = .ok (.irem, 1) := by decide +kernel
theorem dX6_commonDivisor_21 : decode cX6_commonDivisor 21 = .ok (.istore 5, 2) := by decide +kernel
theorem dX6_commonDivisor_23 : decode cX6_commonDivisor 23 = .ok (.iload_n 3, 1) := by decide +kernel
theorem dX6_commonDivisor_24 : decode cX6_commonDivisor 24 = .ok (.istore_n 2, 1) := by decide +kernel
theorem dX6_commonDivisor_25 : decode cX6_commonDivisor 25 = .ok (.iload 5, 2) := by decide +kernel
theorem dX6_commonDivisor_27 : decode cX6_commonDivisor 27 = .ok (.istore_n 3, 1) := by decide +kernel
theorem dX6_commonDivisor_28 : decode cX6_commonDivisor 28 = .ok (.iinc 4 1, 3) := by decide +kernel
theorem dX6_commonDivisor_31 : decode cX6_commonDivisor 31 = .ok (.goto (-24), 3) := by decide +kernel
theorem dX6_commonDivisor_34 : decode cX6_commonDivisor 34 = .ok (.iload_n 2, 1) := by decide +kernel
theorem dX6_commonDivisor_35 : decode cX6_commonDivisor 35 = .ok (.ireturn, 1) := by decide +kernel
theorem dX7_init_0 : decode cX7_init 0 = .ok (.aload_n 0, 1) := by decide +kernel
theorem dX7_init_1 : decode cX7_init 1 = .ok (.invokespecial 1, 3) := by decide +kernel
theorem dX7_init_4 : decode cX7_init 4 = .ok (.aload_n 0, 1) := by decide +kernel
theorem dX7_init_5 : decode cX7_init 5 = .ok (.sipush 847, 3) := by decide +kernel
theorem dX7_init_8 : decode cX7_init 8 = .ok (.newarray .int, 2) := by decide +kernel
theorem dX7_init_10 : decode cX7_init 10 = .ok (.putfield 7, 3) := by decide +kernel
theorem dX7_init_13 : decode cX7_init 13 = .ok (.aload_n 0, 1) := by decide +kernel
theorem dX7_init_14 : decode cX7_init 14 = .ok (.bipush 60, 2) := by decide +kernel
theorem dX7_init_16 : decode cX7_init 16 = .ok (.newarray .int, 2) := by decide +kernel
theorem dX7_init_18 : decode cX7_init 18 = .ok (.putfield 13, 3) := by decide +kernel
theorem dX7_init_21 : decode cX7_init 21 = .ok (.aload_n 0, 1) := by decide +kernel
theorem dX7_init_22 : decode cX7_init 22 = .ok (.bipush 24, 2) := by decide +kernel
theorem dX7_init_24 : decode cX7_init 24 = .ok (.newarray .int, 2) := by decide +kernel
theorem dX7_init_26 : decode cX7_init 26 = .ok (.putfield 16, 3) := by decide +kernel
theorem dX7_init_29 : decode cX7_init 29 = .ok (.aload_n 0, 1) := by decide +kernel
theorem dX7_init_30 : decode cX7_init 30 = .ok (.iconst 4, 1) := by decide +kernel
theorem dX7_init_31 : decode cX7_init 31 = .ok (.newarray .int, 2) := by decide +kernel
theorem dX7_init_33 : decode cX7_init 33 = .ok (.putfield 19, 3) := by decide +kernel
theorem dX7_init_36 : decode cX7_init 36 = .ok (.aload_n 0, 1) := by decide +kernel
theorem dX7_init_37 : decode cX7_init 37 = .ok (.iconst 5, 1) := by decide +kernel
theorem dX7_init_38 : decode cX7_init 38 = .ok (.newarray .int, 2) := by decide +kernel
theorem dX7_init_40 : decode cX7_init 40 = .ok (.putfield 22, 3) := by decide +kernel
theorem dX7_init_43 : decode cX7_init 43 = .ok (.aload_n 0, 1) := by decide +kernel
theorem dX7_init_44 : decode cX7_init 44 = .ok (.iconst 4, 1) := by decide +kernel
theorem dX7_init_45 : decode cX7_init 45 = .ok (.newarray .int, 2) := by decide +kernel
theorem dX7_init_47 : decode cX7_init 47 = .ok (.putfield 25, 3) := by decide +kernel
theorem dX7_init_50 : decode cX7_init 50 = .ok (.aload_n 0, 1) := by decide +kernel
theorem dX7_init_51 : decode cX7_init 51 = .ok (.iconst 5, 1) := by decide +kernel
theorem dX7_init_52 : decode cX7_init 52 = .ok (.newarray .int, 2) := by decide +kernel
theorem dX7_init_54 : decode cX7_init 54 = .ok (.putfield 28, 3) := by decide +kernel
theorem dX7_init_57 : decode cX7_init 57 = .ok (.iconst 0, 1) := by decide +kernel
theorem dX7_init_58 : decode cX7_init 58 = .ok (.istore_n 1, 1) := by decide +kernel
theorem dX7_init_59 : decode cX7_init 59 = .ok (.iload_n 1, 1) := by decide +kernel
theorem dX7_init_60 : decode cX7_init 60 = .ok (.bipush 24, 2) := by decide +kernel
theorem dX7_init_62 : decode cX7_init 62 = .ok (.if_icmp .ge 19, 3) := by decide +kernel
theorem dX7_init_65 : decode cX7_init 65 = .ok (.aload_n 0, 1) := by decide +kernel
theorem dX7_init_66 : decode cX7_init 66 = .ok (.getfield 7, 3) := by decide +kernel
theorem dX7_init_69 : decode cX7_init 69 = .ok (.iconst 1, 1) := by decide +kernel
theorem dX7_init_70 : decode cX7_init 70 = .ok (.iload_n 1, 1) := by decide +kernel
theorem dX7_init_71 : decode cX7_init 71 = .ok (.iadd, 1) := by decide +kernel
theorem dX7_init_72 : decode cX7_init 72 = .ok (.bipush (-9), 2) := by decide +kernel
theorem dX7_init_74 : decode cX7_init 74 = .ok (.iastore, 1) := by decide +kernel
theorem dX7_init_75 : decode cX7_init 75 = .ok (.iinc 1 1, 3) := by decide +kernel
theorem dX7_init_78 : decode cX7_init 78 = .ok (.goto (-19), 3) := by decide +kernel
theorem dX7_init_81 : decode cX7_init 81 = .ok (.return_, 1) := by decide +kernel
theorem dX7_in_0 : decode cX7_in 0 = .ok (.iload_n 0, 1) := by decide +kernel
theorem dX7_in_1 : decode cX7_in 1 = .ok (.iload_n 1, 1) := by decide +kernel
theorem dX7_in_2 : decode cX7_in 2 = .ok (.if_icmp .lt 12, 3) := by decide +kernel
theorem dX7_in_5 : decode cX7_in 5 = .ok (.iload_n 0, 1) := by decide +kernel
theorem dX7_in_6 : decode cX7_in 6 = .ok (.iload_n 2, 1) := by decide +kernel
theorem dX7_in_7 : decode cX7_in 7 = .ok (.if_icmp .gt 7, 3) := by decide +kernel
theorem dX7_in_10 : decode cX7_in 10 = .ok (.iconst 1, 1) := by decide +kernel
theorem dX7_in_11 : decode cX7_in 11 = .ok (.goto 4, 3) := by decide +kernel
theorem dX7_in_14 : decode cX7_in 14 = .ok (.iconst 0, 1) := by decide +kernel
theorem dX7_in_15 : decode cX7_in 15 = .ok (.ireturn, 1) := by decide +kernel
theorem dX7_copies_0 : decode cX7_copies 0 = .ok (.iconst 0, 1) := by decide +kernel
theorem dX7_copies_1 : decode cX7_copies 1 = .ok (.istore_n 3, 1) := by decide +kernel
theorem dX7_copies_2 : decode cX7_copies 2 = .ok (.iload_n 3, 1) := by decide +kernel
theorem dX7_copies_3 : decode cX7_copies 3 = .ok (.bipush 121, 2) := by decide +kernel
theorem dX7_copies_5 : decode cX7_copies 5 = .ok (.if_icmp .ge 25, 3) := by decide +kernel
theorem dX7_copies_8 : decode cX7_copies 8 = .ok (.aload_n 0, 1) := by decide +kernel
theorem dX7_copies_9 : decode cX7_copies 9 = .ok (.getfield 7, 3) := by decide +kernel
theorem dX7_copies_12 : decode cX7_copies 12 = .ok (.iload_n 2, 1) := by decide +kernel
theorem dX7_copies_13 : decode cX7_copies 13 = .ok (.iload_n 3, 1) := by decide +kernel
theorem dX7_copies_14 : decode cX7_copies 14 = .ok (.iadd, 1) := by decide +kernel
theorem dX7_copies_15 : decode cX7_copies 15 = .ok (.aload_n 0, 1) := by decide +kernel
theorem dX7_copies_16 : decode cX7_copies 16 = .ok (.getfield 7, 3) := by decide +kernel
theorem dX7_copies_19 : decode cX7_copies 19 = .ok (.iload_n 1, 1) := by decide +kernel
theorem dX7_copies_20 : decode cX7_copies 20 = .ok (.iload_n 3, 1) := by decide +kernel
theorem dX7_copies_21 : decode cX7_copies 21 = .ok (.iadd, 1) := by decide +kernel
theorem dX7_copies_22 : decode cX7_copies 22 = .ok (.iaload, 1) := by decide +kernel
theorem dX7_copies_23 : decode cX7_copies 23 = .ok (.iastore, 1) := by decide +kernel
theorem dX7_copies_24 : decode cX7_copies 24 = .ok (.iinc 3 1, 3) := by decide +kernel
theorem dX7_copies_27 : decode cX7_copies 27 = .ok (.goto (-25), 3) := by decide +kernel
theorem dX7_copies_30 : decode cX7_copies 30 = .ok (.return_, 1) := by decide +kernel
set_option maxRecDepth 20000 in
theorem ggX7_records_X7_copies : GoodIn wsX7_records wsX7_copies := goodIn_r _ [6, 7, 8, 9, 10, 11, 12, 13, 14, 15, 16, 17, 18, 19, 20, 21, 22, 23] (by decide +kernel) (by decide +kernel)
set_option maxRecDepth 20000 in
theorem gX7_records_X7_copies : GoodIn wsX7_records (wsV RX7 35 RX7 yX7_copies wsX7_copies) := goodIn_app (goodIn_of _ (by decide +kernel)) ggX7_records_X7_copies
theorem dX7_records_0 : decode cX7_records 0 = .ok (.aload_n 0, 1) := by decide +kernel
theorem dX7_records_1 : decode cX7_records 1 = .ok (.getfield 31, 3) := by decide +kernel
theorem dX7_records_4 : decode cX7_records 4 = .ok (.iconst 5, 1) := by decide +kernel
theorem dX7_records_5 : decode cX7_records 5 = .ok (.if_icmp .ne 40, 3) := by decide +kernel
theorem dX7_records_8 : decode cX7_records 8 = .ok (.iconst 1, 1) := by decide +kernel
theorem dX7_records_9 : decode cX7_records 9 = .ok (.istore_n 1, 1) := by decide +kernel
theorem dX7_records_10 : decode cX7_records 10 = .ok (.iload_n 1, 1) := by decide +kernel
theorem dX7_records_11 : decode cX7_records 11 = .ok (.iconst 5, 1) := by decide +kernel
theorem dX7_records_12 : decode cX7_records 12 = .ok (.if_icmp .ge 23, 3) := by decide +kernel
theorem dX7_records_15 : decode cX7_records 15 = .ok (.aload_n 0, 1) := by decide +kernel
theorem dX7_records_16 : decode cX7_records 16 = .ok (.bipush 121, 2) := by decide +kernel
theorem dX7_records_18 : decode cX7_records 18 = .ok (.iload_n 1, 1) := by decide +kernel
theorem dX7_records_19 : decode cX7_records 19 = .ok (.iconst 1, 1) := by decide +kernel
theorem dX7_records_20 : decode cX7_records 20 = .ok (.iadd, 1) := by decide +kernel
theorem dX7_records_21 : decode cX7_records 21 = .ok (.imul, 1) := by decide +kernel
theorem dX7_records_22 : decode cX7_records 22 = .ok (.bipush 121, 2) := by decide +kernel
theorem dX7_records_24 : decode cX7_records 24 = .ok (.iload_n 1, 1) := by decide +kernel
theorem dX7_records_25 : decode cX7_records 25 = .ok (.imul, 1) := by decide +kernel
theorem dX7_records_26 : decode cX7_records 26 = .ok (.invokevirtual 35, 3) := by decide +kernel
theorem dX7_records_29 : decode cX7_records 29 = .ok (.iinc 1 1, 3) := by decide +kernel
theorem dX7_records_32 : decode cX7_records 32 = .ok (.goto (-22), 3) := by decide +kernel
theorem dX7_records_35 : decode cX7_records 35 = .ok (.aload_n 0, 1) := by decide +kernel
theorem dX7_records_36 : decode cX7_records 36 = .ok (.dup, 1) := by decide +kernel
theorem dX7_records_37 : decode cX7_records 37 = .ok (.getfield 31, 3) := by decide +kernel
theorem dX7_records_40 : decode cX7_records 40 = .ok (.iconst 1, 1) := by decide +kernel
theorem dX7_records_41 : decode cX7_records 41 = .ok (.isub, 1) := by decide +kernel
theorem dX7_records_42 : decode cX7_records 42 = .ok (.putfield 31, 3) := by decide +kernel
theorem dX7_records_45 : decode cX7_records 45 = .ok (.aload_n 0, 1) := by decide +kernel
theorem dX7_records_46 : decode cX7_records 46 = .ok (.dup, 1) := by decide +kernel
theorem dX7_records_47 : decode cX7_records 47 = .ok (.getfield 31, 3) := by decide +kernel
theorem dX7_records_50 : decode cX7_records 50 = .ok (.iconst 1, 1) := by decide +kernel
theorem dX7_records_51 : decode cX7_records 51 = .ok (.iadd, 1) := by decide +kernel
theorem dX7_records_52 : decode cX7_records 52 = .ok (.putfield 31, 3) := by decide +kernel
theorem dX7_records_55 : decode cX7_records 55 = .ok (.aload_n 0, 1) := by decide +kernel
theorem dX7_records_56 : decode cX7_records 56 = .ok (.iconst 0, 1) := by decide +kernel
theorem dX7_records_57 : decode cX7_records 57 = .ok (.bipush 121, 2) := by decide +kernel
theorem dX7_records_59 : decode cX7_records 59 = .ok (.aload_n 0, 1) := by decide +kernel
theorem dX7_records_60 : decode cX7_records 60 = .ok (.getfield 31, 3) := by decide +kernel
theorem dX7_records_63 : decode cX7_records 63 = .ok (.imul, 1) := by decide +kernel
theorem dX7_records_64 : decode cX7_records 64 = .ok (.invokevirtual 35, 3) := by decide +kernel
theorem dX7_records_67 : decode cX7_records 67 = .ok (.return_, 1) := by decide +kernel
set_option maxRecDepth 20000 in
theorem ggX7_isGuest_X7_in : GoodIn wsX7_isGuest wsX7_in := goodIn_r _ [5] (by decide +kernel) (by decide +kernel)
set_option maxRecDepth 20000 in
theorem gX7_isGuest_X7_in : GoodIn wsX7_isGuest (va_wsS RX7 39 yX7_in wsX7_in) := goodIn_app (goodIn_of _ (by decide +kernel)) ggX7_isGuest_X7_in
theorem dX7_isGuest_0 : decode cX7_isGuest 0 = .ok (.iload_n 1, 1) := by decide +kernel
theorem dX7_isGuest_1 : decode cX7_isGuest 1 = .ok (.iconst 0, 1) := by decide +kernel
theorem dX7_isGuest_2 : decode cX7_isGuest 2 = .ok (.aload_n 0, 1) := by decide +kernel
theorem dX7_isGuest_3 : decode cX7_isGuest 3 = .ok (.getfield 7, 3) := by decide +kernel
theorem dX7_isGuest_6 : decode cX7_isGuest 6 = .ok (.iconst 0, 1) := by decide +kernel
theorem dX7_isGuest_7 : decode cX7_isGuest 7 = .ok (.iaload, 1) := by decide +kernel
theorem dX7_isGuest_8 : decode cX7_isGuest 8 = .ok (.iconst 1, 1) := by decide +kernel
theorem dX7_isGuest_9 : decode cX7_isGuest 9 = .ok (.isub, 1) := by decide +kernel
theorem dX7_isGuest_10 : decode cX7_isGuest 10 = .ok (.invokestatic 39, 3) := by decide +kernel
theorem dX7_isGuest_13 : decode cX7_isGuest 13 = .ok (.ireturn, 1) := by decide +kernel
set_option maxRecDepth 20000 in
theorem ggX7_areGuests_X7_isGuest : GoodIn wsX7_areGuests wsX7_isGuest := goodIn_r _ [5, 6, 7, 8, 4, 9, 10, 11, 12, 13, 14, 15, 16, 17, 18, 19, 20, 21, 22, 23, 24, 25] (by decide +kernel) (by decide +kernel)
set_option maxRecDepth 20000 in
theorem gX7_areGuests_X7_isGuest : GoodIn wsX7_areGuests (wsV RX7 43 RX7 yX7_isGuest wsX7_isGuest) := goodIn_app (goodIn_of _ (by decide +kernel)) ggX7_areGuests_X7_isGuest
theorem dX7_areGuests_0 : decode cX7_areGuests 0 = .ok (.aload_n 0, 1) := by decide +kernel
theorem dX7_areGuests_1 : decode cX7_areGuests 1 = .ok (.iload_n 1, 1) := by decide +kernel
theorem dX7_areGuests_2 : decode cX7_areGuests 2 = .ok (.invokevirtual 43, 3) := by decide +kernel
theorem dX7_areGuests_5 : decode cX7_areGuests 5 = .ok (.ifCond .eq 20, 3) := by decide +kernel
theorem dX7_areGuests_8 : decode cX7_areGuests 8 = .ok (.aload_n 0, 1) := by decide +kernel
theorem dX7_areGuests_9 : decode cX7_areGuests 9 = .ok (.iload_n 2, 1) := by decide +kernel
theorem dX7_areGuests_10 : decode cX7_areGuests 10 = .ok (.invokevirtual 43, 3) := by decide +kernel
theorem dX7_areGuests_13 : decode cX7_areGuests 13 = .ok (.ifCond .eq 12, 3) := by decide +kernel
theorem dX7_areGuests_16 : decode cX7_areGuests 16 = .ok (.iload_n 1, 1) := by decide +kernel
theorem dX7_areGuests_17 : decode cX7_areGuests 17 = .ok (.iload_n 2, 1) := by decide +kernel
theorem dX7_areGuests_18 : decode cX7_areGuests 18 = .ok (.if_icmp .eq 7, 3) := by decide +kernel
theorem dX7_areGuests_21 : decode cX7_areGuests 21 = .ok (.iconst 1, 1) := by decide +kernel
theorem dX7_areGuests_22 : decode cX7_areGuests 22 = .ok (.goto 4, 3) := by decide +kernel
theorem dX7_areGuests_25 : decode cX7_areGuests 25 = .ok (.iconst 0, 1) := by decide +kernel
theorem dX7_areGuests_26 : decode cX7_areGuests 26 = .ok (.ireturn, 1) := by decide +kernel
set_option maxRecDepth 20000 in
theorem ggX7_isSpan_X7_in : GoodIn wsX7_isSpan wsX7_in := goodIn_r _ [4] (by decide +kernel) (by decide +kernel)
set_option maxRecDepth 20000 in
theorem gX7_isSpan_X7_in : GoodIn wsX7_isSpan (va_wsS RX7 39 yX7_in wsX7_in) := goodIn_app (goodIn_of _ (by decide +kernel)) ggX7_isSpan_X7_in
theorem dX7_isSpan_0 : decode cX7_isSpan 0 = .ok (.iload_n 0, 1) := by decide +kernel
theorem dX7_isSpan_1 : decode cX7_isSpan 1 = .ok (.iconst 0, 1) := by decide +kernel
theorem dX7_isSpan_2 : decode cX7_isSpan 2 = .ok (.bipush 23, 2) := by decide +kernel
theorem dX7_isSpan_4 : decode cX7_isSpan 4 = .ok (.invokestatic 39, 3) := by decide +kernel
theorem dX7_isSpan_7 : decode cX7_isSpan 7 = .ok (.ifCond .eq 17, 3) := by decide +kernel
theorem dX7_isSpan_10 : decode cX7_isSpan 10 = .ok (.iload_n 1, 1) := by decide +kernel
theorem dX7_isSpan_11 : decode cX7_isSpan 11 = .ok (.iload_n 0, 1) := by decide +kernel
theorem dX7_isSpan_12 : decode cX7_isSpan 12 = .ok (.bipush 23, 2) := by decide +kernel
theorem dX7_isSpan_14 : decode cX7_isSpan 14 = .ok (.invokestatic 39, 3) := by decide +kernel
theorem dX7_isSpan_17 : decode cX7_isSpan 17 = .ok (.ifCond .eq 7, 3) := by decide +kernel
theorem dX7_isSpan_20 : decode cX7_isSpan 20 = .ok (.iconst 1, 1) := by decide +kernel
theorem dX7_isSpan_21 : decode cX7_isSpan 21 = .ok (.goto 4, 3) := by decide +kernel
theorem dX7_isSpan_24 : decode cX7_isSpan 24 = .ok (.iconst 0, 1) := by decide +kernel
theorem dX7_isSpan_25 : decode cX7_isSpan 25 = .ok (.ireturn, 1) := by decide +kernel
theorem dX7_valueOf_0 : decode cX7_valueOf 0 = .ok (.aload_n 0, 1) := by decide +kernel
theorem dX7_valueOf_1 : decode cX7_valueOf 1 = .ok (.getfield 7, 3) := by decide +kernel
theorem dX7_valueOf_4 : decode cX7_valueOf 4 = .ok (.bipush 25, 2) := by decide +kernel
theorem dX7_valueOf_6 : decode cX7_valueOf 6 = .ok (.bipush 24, 2) := by decide +kernel
theorem dX7_valueOf_8 : decode cX7_valueOf 8 = .ok (.iload_n 1, 1) := by decide +kernel
theorem dX7_valueOf_9 : decode cX7_valueOf 9 = .ok (.imul, 1) := by decide +kernel
theorem dX7_valueOf_10 : decode cX7_valueOf 10 = .ok (.iadd, 1) := by decide +kernel
theorem dX7_valueOf_11 : decode cX7_valueOf 11 = .ok (.iload_n 2, 1) := by decide +kernel
theorem dX7_valueOf_12 : decode cX7_valueOf 12 = .ok (.iadd, 1) := by decide +kernel
theorem dX7_valueOf_13 : decode cX7_valueOf 13 = .ok (.iaload, 1) := by decide +kernel
theorem dX7_valueOf_14 : decode cX7_valueOf 14 = .ok (.ireturn, 1) := by decide +kernel
set_option maxRecDepth 20000 in
theorem ggX7_spanValue_X7_valueOf : GoodIn wsX7_spanValue wsX7_valueOf := goodIn_r _ [5, 6, 7, 8, 9, 10, 11, 12, 13, 14, 15, 16, 17, 18, 19, 20, 21, 22] (by decide +kernel) (by decide +kernel)
set_option maxRecDepth 20000 in
theorem gX7_spanValue_X7_valueOf : GoodIn wsX7_spanValue (wsV RX7 47 RX7 yX7_valueOf wsX7_valueOf) := goodIn_app (goodIn_of _ (by decide +kernel)) ggX7_spanValue_X7_valueOf
theorem dX7_spanValue_0 : decode cX7_spanValue 0 = .ok (.iconst 0, 1) := by decide +kernel
theorem dX7_spanValue_1 : decode cX7_spanValue 1 = .ok (.istore 4, 2) := by decide +kernel
theorem dX7_spanValue_3 : decode cX7_spanValue 3 = .ok (.iload_n 2, 1) := by decide +kernel
theorem dX7_spanValue_4 : decode cX7_spanValue 4 = .ok (.istore 5, 2) := by decide +kernel
theorem dX7_spanValue_6 : decode cX7_spanValue 6 = .ok (.iload 5, 2) := by decide +kernel
theorem dX7_spanValue_8 : decode cX7_spanValue 8 = .ok (.iload_n 3, 1) := by decide +kernel
theorem dX7_spanValue_9 : decode cX7_spanValue 9 = .ok (.if_icmp .ge 21, 3) := by decide +kernel
theorem dX7_spanValue_12 : decode cX7_spanValue 12 = .ok (.iload 4, 2) := by decide +kernel
theorem dX7_spanValue_14 : decode cX7_spanValue 14 = .ok (.aload_n 0, 1) := by decide +kernel
theorem dX7_spanValue_15 : decode cX7_spanValue 15 = .ok (.iload_n 1, 1) := by decide +kernel
theorem dX7_spanValue_16 : decode cX7_spanValue 16 = .ok (.iload 5, 2) := by decide +kernel
theorem dX7_spanValue_18 : decode cX7_spanValue 18 = .ok (.invokevirtual 47, 3) := by decide +kernel
theorem dX7_spanValue_21 : decode cX7_spanValue 21 = .ok (.iadd, 1) := by decide +kernel
theorem dX7_spanValue_22 : decode cX7_spanValue 22 = .ok (.istore 4, 2) := by decide +kernel
theorem dX7_spanValue_24 : decode cX7_spanValue 24 = .ok (.iinc 5 1, 3) := by decide +kernel
theorem dX7_spanValue_27 : decode cX7_spanValue 27 = .ok (.goto (-21), 3) := by decide +kernel
theorem dX7_spanValue_30 : decode cX7_spanValue 30 = .ok (.iload 4, 2) := by decide +kernel
theorem dX7_spanValue_32 : decode cX7_spanValue 32 = .ok (.ireturn, 1) := by decide +kernel
set_option maxRecDepth 20000 in
theorem ggX7_total_X7_spanValue : GoodIn wsX7_total wsX7_spanValue := goodIn_r _ [5, 6, 7, 8, 4, 9, 10, 11, 12, 13, 14, 15, 16, 17, 18, 19, 20, 21, 22, 23, 24, 25, 26] (by decide +kernel) (by decide +kernel)
set_option maxRecDepth 20000 in
theorem gX7_total_X7_spanValue : GoodIn wsX7_total (wsV RX7 51 RX7 yX7_spanValue wsX7_spanValue) := goodIn_app (goodIn_of _ (by decide +kernel)) ggX7_total_X7_spanValue
theorem dX7_total_0 : decode cX7_total 0 = .ok (.aload_n 0, 1) := by decide +kernel
theorem dX7_total_1 : decode cX7_total 1 = .ok (.iload_n 1, 1) := by decide +kernel
theorem dX7_total_2 : decode cX7_total 2 = .ok (.iconst 0, 1) := by decide +kernel
theorem dX7_total_3 : decode cX7_total 3 = .ok (.bipush 24, 2) := by decide +kernel
theorem dX7_total_5 : decode cX7_total 5 = .ok (.invokevirtual 51, 3) := by decide +kernel
theorem dX7_total_8 : decode cX7_total 8 = .ok (.ireturn, 1) := by decide +kernel
set_option maxRecDepth 20000 in
theorem ggX7_pieceValue_X7_valueOf : GoodIn wsX7_pieceValue wsX7_valueOf := goodIn_r _ [6, 1, 7, 8, 9, 10, 11, 12, 13, 14, 15, 16, 17, 18, 19, 20, 21, 22] (by decide +kernel) (by decide +kernel)
set_option maxRecDepth 20000 in
theorem gX7_pieceValue_X7_valueOf : GoodIn wsX7_pieceValue (wsV RX7 47 RX7 yX7_valueOf wsX7_valueOf) := goodIn_app (goodIn_of _ (by decide +kernel)) ggX7_pieceValue_X7_valueOf
theorem dX7_pieceValue_0 : decode cX7_pieceValue 0 = .ok (.iconst 0, 1) := by decide +kernel
theorem dX7_pieceValue_1 : decode cX7_pieceValue 1 = .ok (.istore_n 3, 1) := by decide +kernel
theorem dX7_pieceValue_2 : decode cX7_pieceValue 2 = .ok (.iconst 0, 1) := by decide +kernel
theorem dX7_pieceValue_3 : decode cX7_pieceValue 3 = .ok (.istore 4, 2) := by decide +kernel
theorem dX7_pieceValue_5 : decode cX7_pieceValue 5 = .ok (.iload 4, 2) := by decide +kernel
theorem dX7_pieceValue_7 : decode cX7_pieceValue 7 = .ok (.bipush 24, 2) := by decide +kernel
theorem dX7_pieceValue_9 : decode cX7_pieceValue 9 = .ok (.if_icmp .ge 36, 3) := by decide +kernel
theorem dX7_pieceValue_12 : decode cX7_pieceValue 12 = .ok (.iload_n 3, 1) := by decide +kernel
theorem dX7_pieceValue_13 : decode cX7_pieceValue 13 = .ok (.aload_n 0, 1) := by decide +kernel
theorem dX7_pieceValue_14 : decode cX7_pieceValue 14 = .ok (.getfield 7, 3) := by decide +kernel
theorem dX7_pieceValue_17 : decode cX7_pieceValue 17 = .ok (.iconst 1, 1) := by decide +kernel
theorem dX7_pieceValue_18 : decode cX7_pieceValue 18 = .ok (.iload 4, 2) := by decide +kernel
theorem dX7_pieceValue_20 : decode cX7_pieceValue 20 = .ok (.iadd, 1) := by decide +kernel
theorem dX7_pieceValue_21 : decode cX7_pieceValue 21 = .ok (.iaload, 1) := by decide +kernel
theorem dX7_pieceValue_22 : decode cX7_pieceValue 22 = .ok (.iload_n 2, 1) := by decide +kernel
theorem dX7_pieceValue_23 : decode cX7_pieceValue 23 = .ok (.if_icmp .ne 13, 3) := by decide +kernel
theorem dX7_pieceValue_26 : decode cX7_pieceValue 26 = .ok (.aload_n 0, 1) := by decide +kernel
theorem dX7_pieceValue_27 : decode cX7_pieceValue 27 = .ok (.iload_n 1, 1) := by decide +kernel
theorem dX7_pieceValue_28 : decode cX7_pieceValue 28 = .ok (.iload 4, 2) := by decide +kernel
theorem dX7_pieceValue_30 : decode cX7_pieceValue 30 = .ok (.invokevirtual 47, 3) := by decide +kernel
theorem dX7_pieceValue_33 : decode cX7_pieceValue 33 = .ok (.goto 4, 3) := by decide +kernel
theorem dX7_pieceValue_36 : decode cX7_pieceValue 36 = .ok (.iconst 0, 1) := by decide +kernel
theorem dX7_pieceValue_37 : decode cX7_pieceValue 37 = .ok (.iadd, 1) := by decide +kernel
theorem dX7_pieceValue_38 : decode cX7_pieceValue 38 = .ok (.istore_n 3, 1) := by decide +kernel
theorem dX7_pieceValue_39 : decode cX7_pieceValue 39 = .ok (.iinc 4 1, 3) := by decide +kernel
theorem dX7_pieceValue_42 : decode cX7_pieceValue 42 = .ok (.goto (-37), 3) := by decide +kernel
theorem dX7_pieceValue_45 : decode cX7_pieceValue 45 = .ok (.iload_n 3, 1) := by decide +kernel
theorem dX7_pieceValue_46 : decode cX7_pieceValue 46 = .ok (.ireturn, 1) := by decide +kernel
set_option maxRecDepth 20000 in
theorem ggX7_envyOf_X7_pieceValue : GoodIn wsX7_envyOf wsX7_pieceValue := goodIn_r _ [5, 6, 7, 8, 9, 4, 10, 11, 12, 13, 14, 15, 16, 17, 18, 19, 20, 21, 22, 23, 24, 25, 26] (by decide +kernel) (by decide +kernel)
set_option maxRecDepth 20000 in
theorem gX7_envyOf_X7_pieceValue : GoodIn wsX7_envyOf (wsV RX7 55 RX7 yX7_pieceValue wsX7_pieceValue) := goodIn_app (goodIn_of _ (by decide +kernel)) ggX7_envyOf_X7_pieceValue
theorem dX7_envyOf_0 : decode cX7_envyOf 0 = .ok (.aload_n 0, 1) := by decide +kernel
theorem dX7_envyOf_1 : decode cX7_envyOf 1 = .ok (.iload_n 1, 1) := by decide +kernel
theorem dX7_envyOf_2 : decode cX7_envyOf 2 = .ok (.iload_n 2, 1) := by decide +kernel
theorem dX7_envyOf_3 : decode cX7_envyOf 3 = .ok (.invokevirtual 55, 3) := by decide +kernel
theorem dX7_envyOf_6 : decode cX7_envyOf 6 = .ok (.aload_n 0, 1) := by decide +kernel
theorem dX7_envyOf_7 : decode cX7_envyOf 7 = .ok (.iload_n 1, 1) := by decide +kernel
theorem dX7_envyOf_8 : decode cX7_envyOf 8 = .ok (.iload_n 1, 1) := by decide +kernel
theorem dX7_envyOf_9 : decode cX7_envyOf 9 = .ok (.invokevirtual 55, 3) := by decide +kernel
theorem dX7_envyOf_12 : decode cX7_envyOf 12 = .ok (.isub, 1) := by decide +kernel
theorem dX7_envyOf_13 : decode cX7_envyOf 13 = .ok (.istore_n 3, 1) := by decide +kernel
theorem dX7_envyOf_14 : decode cX7_envyOf 14 = .ok (.iload_n 3, 1) := by decide +kernel
theorem dX7_envyOf_15 : decode cX7_envyOf 15 = .ok (.ifCond .le 7, 3) := by decide +kernel
theorem dX7_envyOf_18 : decode cX7_envyOf 18 = .ok (.iload_n 3, 1) := by decide +kernel
theorem dX7_envyOf_19 : decode cX7_envyOf 19 = .ok (.goto 4, 3) := by decide +kernel
theorem dX7_envyOf_22 : decode cX7_envyOf 22 = .ok (.iconst 0, 1) := by decide +kernel
theorem dX7_envyOf_23 : decode cX7_envyOf 23 = .ok (.ireturn, 1) := by decide +kernel
set_option maxRecDepth 20000 in
theorem ggX7_addGuest_X7_records : GoodIn wsX7_addGuest wsX7_records := goodIn_r _ [6, 7, 8, 9, 10, 5, 11, 1, 12, 13, 14, 15, 16, 17, 18, 19, 20, 21, 22, 23, 24, 25, 26, 27] (by decide +kernel) (by decide +kernel)
set_option maxRecDepth 20000 in
theorem gX7_addGuest_X7_records : GoodIn wsX7_addGuest (wsV RX7 58 RX7 yX7_records wsX7_records) := goodIn_app (goodIn_of _ (by decide +kernel)) ggX7_addGuest_X7_records
theorem dX7_addGuest_0 : decode cX7_addGuest 0 = .ok (.aload_n 0, 1) := by decide +kernel
theorem dX7_addGuest_1 : decode cX7_addGuest 1 = .ok (.getfield 7, 3) := by decide +kernel
theorem dX7_addGuest_4 : decode cX7_addGuest 4 = .ok (.iconst 0, 1) := by decide +kernel
theorem dX7_addGuest_5 : decode cX7_addGuest 5 = .ok (.iaload, 1) := by decide +kernel
theorem dX7_addGuest_6 : decode cX7_addGuest 6 = .ok (.iconst 4, 1) := by decide +kernel
theorem dX7_addGuest_7 : decode cX7_addGuest 7 = .ok (.if_icmp .ne 6, 3) := by decide +kernel
theorem dX7_addGuest_10 : decode cX7_addGuest 10 = .ok (.bipush (-3), 2) := by decide +kernel
theorem dX7_addGuest_12 : decode cX7_addGuest 12 = .ok (.ireturn, 1) := by decide +kernel
theorem dX7_addGuest_13 : decode cX7_addGuest 13 = .ok (.aload_n 0, 1) := by decide +kernel
theorem dX7_addGuest_14 : decode cX7_addGuest 14 = .ok (.invokevirtual 58, 3) := by decide +kernel
theorem dX7_addGuest_17 : decode cX7_addGuest 17 = .ok (.aload_n 0, 1) := by decide +kernel
theorem dX7_addGuest_18 : decode cX7_addGuest 18 = .ok (.getfield 7, 3) := by decide +kernel
theorem dX7_addGuest_21 : decode cX7_addGuest 21 = .ok (.iconst 0, 1) := by decide +kernel
theorem dX7_addGuest_22 : decode cX7_addGuest 22 = .ok (.iaload, 1) := by decide +kernel
theorem dX7_addGuest_23 : decode cX7_addGuest 23 = .ok (.istore_n 1, 1) := by decide +kernel
theorem dX7_addGuest_24 : decode cX7_addGuest 24 = .ok (.aload_n 0, 1) := by decide +kernel
theorem dX7_addGuest_25 : decode cX7_addGuest 25 = .ok (.getfield 7, 3) := by decide +kernel
theorem dX7_addGuest_28 : decode cX7_addGuest 28 = .ok (.iconst 0, 1) := by decide +kernel
theorem dX7_addGuest_29 : decode cX7_addGuest 29 = .ok (.dup2, 1) := by decide +kernel
theorem dX7_addGuest_30 : decode cX7_addGuest 30 = .ok (.iaload, 1) := by decide +kernel
theorem dX7_addGuest_31 : decode cX7_addGuest 31 = .ok (.iconst 1, 1) := by decide +kernel
theorem dX7_addGuest_32 : decode cX7_addGuest 32 = .ok (.iadd, 1) := by decide +kernel
theorem dX7_addGuest_33 : decode cX7_addGuest 33 = .ok (.iastore, 1) := by decide +kernel
theorem dX7_addGuest_34 : decode cX7_addGuest 34 = .ok (.iconst 0, 1) := by decide +kernel
theorem dX7_addGuest_35 : decode cX7_addGuest 35 = .ok (.istore_n 2, 1) := by decide +kernel
theorem dX7_addGuest_36 : decode cX7_addGuest 36 = .ok (.iload_n 2, 1) := by decide +kernel
theorem dX7_addGuest_37 : decode cX7_addGuest 37 = .ok (.bipush 24, 2) := by decide +kernel
theorem dX7_addGuest_39 : decode cX7_addGuest 39 = .ok (.if_icmp .ge 24, 3) := by decide +kernel
theorem dX7_addGuest_42 : decode cX7_addGuest 42 = .ok (.aload_n 0, 1) := by decide +kernel
theorem dX7_addGuest_43 : decode cX7_addGuest 43 = .ok (.getfield 7, 3) := by decide +kernel
theorem dX7_addGuest_46 : decode cX7_addGuest 46 = .ok (.bipush 25, 2) := by decide +kernel
theorem dX7_addGuest_48 : decode cX7_addGuest 48 = .ok (.bipush 24, 2) := by decide +kernel
theorem dX7_addGuest_50 : decode cX7_addGuest 50 = .ok (.iload_n 1, 1) := by decide +kernel
theorem dX7_addGuest_51 : decode cX7_addGuest 51 = .ok (.imul, 1) := by decide +kernel
theorem dX7_addGuest_52 : decode cX7_addGuest 52 = .ok (.iadd, 1) := by decide +kernel
theorem dX7_addGuest_53 : decode cX7_addGuest 53 = .ok (.iload_n 2, 1) := by decide +kernel
theorem dX7_addGuest_54 : decode cX7_addGuest 54 = .ok (.iadd, 1) := by decide +kernel
theorem dX7_addGuest_55 : decode cX7_addGuest 55 = .ok (.iconst 1, 1) := by decide +kernel
theorem dX7_addGuest_56 : decode cX7_addGuest 56 = .ok (.iastore, 1) := by decide +kernel
theorem dX7_addGuest_57 : decode cX7_addGuest 57 = .ok (.iinc 2 1, 3) := by decide +kernel
theorem dX7_addGuest_60 : decode cX7_addGuest 60 = .ok (.goto (-24), 3) := by decide +kernel
theorem dX7_addGuest_63 : decode cX7_addGuest 63 = .ok (.iload_n 1, 1) := by decide +kernel
theorem dX7_addGuest_64 : decode cX7_addGuest 64 = .ok (.ireturn, 1) := by decide +kernel
set_option maxRecDepth 20000 in
theorem ggX7_setValue_X7_isGuest : GoodIn wsX7_setValue wsX7_isGuest := goodIn_r _ [6, 1, 7, 8, 5, 9, 34, 35, 36, 37, 38, 39, 40, 41, 42, 43, 44, 45, 46, 47, 48, 49] (by decide +kernel) (by decide +kernel)
set_option maxRecDepth 20000 in
theorem gX7_setValue_X7_isGuest : GoodIn wsX7_setValue (wsV RX7 43 RX7 yX7_isGuest wsX7_isGuest) := goodIn_app (goodIn_of _ (by decide +kernel)) ggX7_setValue_X7_isGuest
set_option maxRecDepth 20000 in
theorem ggX7_setValue_X7_isSpan : GoodIn wsX7_setValue wsX7_isSpan := goodIn_r _ [12, 7, 8, 5, 9] (by decide +kernel) (by decide +kernel)
set_option maxRecDepth 20000 in
theorem gX7_setValue_X7_isSpan : GoodIn wsX7_setValue (va_wsS RX7 61 yX7_isSpan wsX7_isSpan) := goodIn_app (goodIn_of _ (by decide +kernel)) ggX7_setValue_X7_isSpan
set_option maxRecDepth 20000 in
theorem ggX7_setValue_X7_in : GoodIn wsX7_setValue wsX7_in := goodIn_r _ [9] (by decide +kernel) (by decide +kernel)
set_option maxRecDepth 20000 in
theorem gX7_setValue_X7_in : GoodIn wsX7_setValue (va_wsS RX7 39 yX7_in wsX7_in) := goodIn_app (goodIn_of _ (by decide +kernel)) ggX7_setValue_X7_in
set_option maxRecDepth 20000 in
theorem ggX7_setValue_X7_records : GoodIn wsX7_setValue wsX7_records := goodIn_r _ [16, 17, 18, 19, 20, 5, 21, 1, 34, 35, 36, 37, 38, 39, 40, 41, 42, 43, 44, 45, 46, 47, 48, 49] (by decide +kernel) (by decide +kernel)
set_option maxRecDepth 20000 in
theorem gX7_setValue_X7_records : GoodIn wsX7_setValue (wsV RX7 58 RX7 yX7_records wsX7_records) := goodIn_app (goodIn_of _ (by decide +kernel)) ggX7_setValue_X7_records
set_option maxRecDepth 20000 in
theorem ggX7_setValue_X7_total : GoodIn wsX7_setValue wsX7_total := goodIn_r _ [25, 26, 27, 28, 5, 29, 30, 31, 32, 33, 1, 34, 35, 36, 37, 38, 39, 40, 41, 42, 43, 44, 45, 46, 47, 48, 49] (by decide +kernel) (by decide +kernel)
set_option maxRecDepth 20000 in
theorem gX7_setValue_X7_total : GoodIn wsX7_setValue (wsV RX7 65 RX7 yX7_total wsX7_total) := goodIn_app (goodIn_of _ (by decide +kernel)) ggX7_setValue_X7_total
theorem dX7_setValue_0 : decode cX7_setValue 0 = .ok (.aload_n 0, 1) := by decide +kernel
end
section
theorem dX7_setValue_1 : decode cX7_setValue 1 = .ok (.iload_n 1, 1) := by decide +kernel
theorem dX7_setValue_2 : decode cX7_setValue 2 = .ok (.invokevirtual 43, 3) := by decide +kernel
theorem dX7_setValue_5 : decode cX7_setValue 5 = .ok (.ifCond .eq 22, 3) := by decide +kernel
theorem dX7_setValue_8 : decode cX7_setValue 8 = .ok (.iload_n 2, 1) := by decide +kernel
theorem dX7_setValue_9 : decode cX7_setValue 9 = .ok (.iload_n 3, 1) := by decide +kernel
theorem dX7_setValue_10 : decode cX7_setValue 10 = .ok (.invokestatic 61, 3) := by decide +kernel
theorem dX7_setValue_13 : decode cX7_setValue 13 = .ok (.ifCond .eq 14, 3) := by decide +kernel
theorem dX7_setValue_16 : decode cX7_setValue 16 = .ok (.iload 4, 2) := by decide +kernel
theorem dX7_setValue_18 : decode cX7_setValue 18 = .ok (.iconst 0, 1) := by decide +kernel
theorem dX7_setValue_19 : decode cX7_setValue 19 = .ok (.bipush 9, 2) := by decide +kernel
theorem dX7_setValue_21 : decode cX7_setValue 21 = .ok (.invokestatic 39, 3) := by decide +kernel
theorem dX7_setValue_24 : decode cX7_setValue 24 = .ok (.ifCond .ne 5, 3) := by decide +kernel
theorem dX7_setValue_27 : decode cX7_setValue 27 = .ok (.iconst (-1), 1) := by decide +kernel
theorem dX7_setValue_28 : decode cX7_setValue 28 = .ok (.ireturn, 1) := by decide +kernel
theorem dX7_setValue_29 : decode cX7_setValue 29 = .ok (.aload_n 0, 1) := by decide +kernel
theorem dX7_setValue_30 : decode cX7_setValue 30 = .ok (.invokevirtual 58, 3) := by decide +kernel
theorem dX7_setValue_33 : decode cX7_setValue 33 = .ok (.iload_n 2, 1) := by decide +kernel
theorem dX7_setValue_34 : decode cX7_setValue 34 = .ok (.istore 5, 2) := by decide +kernel
theorem dX7_setValue_36 : decode cX7_setValue 36 = .ok (.iload 5, 2) := by decide +kernel
theorem dX7_setValue_38 : decode cX7_setValue 38 = .ok (.iload_n 3, 1) := by decide +kernel
theorem dX7_setValue_39 : decode cX7_setValue 39 = .ok (.if_icmp .gt 26, 3) := by decide +kernel
theorem dX7_setValue_42 : decode cX7_setValue 42 = .ok (.aload_n 0, 1) := by decide +kernel
theorem dX7_setValue_43 : decode cX7_setValue 43 = .ok (.getfield 7, 3) := by decide +kernel
theorem dX7_setValue_46 : decode cX7_setValue 46 = .ok (.bipush 25, 2) := by decide +kernel
theorem dX7_setValue_48 : decode cX7_setValue 48 = .ok (.bipush 24, 2) := by decide +kernel
theorem dX7_setValue_50 : decode cX7_setValue 50 = .ok (.iload_n 1, 1) := by decide +kernel
theorem dX7_setValue_51 : decode cX7_setValue 51 = .ok (.imul, 1) := by decide +kernel
theorem dX7_setValue_52 : decode cX7_setValue 52 = .ok (.iadd, 1) := by decide +kernel
theorem dX7_setValue_53 : decode cX7_setValue 53 = .ok (.iload 5, 2) := by decide +kernel
theorem dX7_setValue_55 : decode cX7_setValue 55 = .ok (.iadd, 1) := by decide +kernel
theorem dX7_setValue_56 : decode cX7_setValue 56 = .ok (.iload 4, 2) := by decide +kernel
theorem dX7_setValue_58 : decode cX7_setValue 58 = .ok (.iastore, 1) := by decide +kernel
theorem dX7_setValue_59 : decode cX7_setValue 59 = .ok (.iinc 5 1, 3) := by decide +kernel
theorem dX7_setValue_62 : decode cX7_setValue 62 = .ok (.goto (-26), 3) := by decide +kernel
theorem dX7_setValue_65 : decode cX7_setValue 65 = .ok (.aload_n 0, 1) := by decide +kernel
theorem dX7_setValue_66 : decode cX7_setValue 66 = .ok (.iload_n 1, 1) := by decide +kernel
theorem dX7_setValue_67 : decode cX7_setValue 67 = .ok (.invokevirtual 65, 3) := by decide +kernel
theorem dX7_setValue_70 : decode cX7_setValue 70 = .ok (.ireturn, 1) := by decide +kernel
set_option maxRecDepth 20000 in
theorem ggX7_append_X7_in : GoodIn wsX7_append wsX7_in := goodIn_r _ [6] (by decide +kernel) (by decide +kernel)
set_option maxRecDepth 20000 in
theorem gX7_append_X7_in : GoodIn wsX7_append (va_wsS RX7 39 yX7_in wsX7_in) := goodIn_app (goodIn_of _ (by decide +kernel)) ggX7_append_X7_in
theorem dX7_append_0 : decode cX7_append 0 = .ok (.iload_n 1, 1) := by decide +kernel
theorem dX7_append_1 : decode cX7_append 1 = .ok (.iconst 1, 1) := by decide +kernel
theorem dX7_append_2 : decode cX7_append 2 = .ok (.sipush 255, 3) := by decide +kernel
theorem dX7_append_5 : decode cX7_append 5 = .ok (.invokestatic 39, 3) := by decide +kernel
theorem dX7_append_8 : decode cX7_append 8 = .ok (.ifCond .ne 5, 3) := by decide +kernel
theorem dX7_append_11 : decode cX7_append 11 = .ok (.iconst (-1), 1) := by decide +kernel
theorem dX7_append_12 : decode cX7_append 12 = .ok (.ireturn, 1) := by decide +kernel
theorem dX7_append_13 : decode cX7_append 13 = .ok (.aload_n 0, 1) := by decide +kernel
theorem dX7_append_14 : decode cX7_append 14 = .ok (.getfield 69, 3) := by decide +kernel
theorem dX7_append_17 : decode cX7_append 17 = .ok (.bipush 60, 2) := by decide +kernel
theorem dX7_append_19 : decode cX7_append 19 = .ok (.if_icmp .ne 6, 3) := by decide +kernel
theorem dX7_append_22 : decode cX7_append 22 = .ok (.bipush (-3), 2) := by decide +kernel
theorem dX7_append_24 : decode cX7_append 24 = .ok (.ireturn, 1) := by decide +kernel
theorem dX7_append_25 : decode cX7_append 25 = .ok (.aload_n 0, 1) := by decide +kernel
theorem dX7_append_26 : decode cX7_append 26 = .ok (.getfield 13, 3) := by decide +kernel
theorem dX7_append_29 : decode cX7_append 29 = .ok (.aload_n 0, 1) := by decide +kernel
theorem dX7_append_30 : decode cX7_append 30 = .ok (.getfield 69, 3) := by decide +kernel
theorem dX7_append_33 : decode cX7_append 33 = .ok (.iload_n 1, 1) := by decide +kernel
theorem dX7_append_34 : decode cX7_append 34 = .ok (.iastore, 1) := by decide +kernel
theorem dX7_append_35 : decode cX7_append 35 = .ok (.aload_n 0, 1) := by decide +kernel
theorem dX7_append_36 : decode cX7_append 36 = .ok (.dup, 1) := by decide +kernel
theorem dX7_append_37 : decode cX7_append 37 = .ok (.getfield 69, 3) := by decide +kernel
theorem dX7_append_40 : decode cX7_append 40 = .ok (.iconst 1, 1) := by decide +kernel
theorem dX7_append_41 : decode cX7_append 41 = .ok (.iadd, 1) := by decide +kernel
theorem dX7_append_42 : decode cX7_append 42 = .ok (.putfield 69, 3) := by decide +kernel
theorem dX7_append_45 : decode cX7_append 45 = .ok (.aload_n 0, 1) := by decide +kernel
theorem dX7_append_46 : decode cX7_append 46 = .ok (.getfield 69, 3) := by decide +kernel
theorem dX7_append_49 : decode cX7_append 49 = .ok (.ireturn, 1) := by decide +kernel
theorem dX7_clearText_0 : decode cX7_clearText 0 = .ok (.aload_n 0, 1) := by decide +kernel
theorem dX7_clearText_1 : decode cX7_clearText 1 = .ok (.getfield 69, 3) := by decide +kernel
theorem dX7_clearText_4 : decode cX7_clearText 4 = .ok (.istore_n 1, 1) := by decide +kernel
theorem dX7_clearText_5 : decode cX7_clearText 5 = .ok (.aload_n 0, 1) := by decide +kernel
theorem dX7_clearText_6 : decode cX7_clearText 6 = .ok (.iconst 0, 1) := by decide +kernel
theorem dX7_clearText_7 : decode cX7_clearText 7 = .ok (.putfield 69, 3) := by decide +kernel
theorem dX7_clearText_10 : decode cX7_clearText 10 = .ok (.iload_n 1, 1) := by decide +kernel
theorem dX7_clearText_11 : decode cX7_clearText 11 = .ok (.ireturn, 1) := by decide +kernel
set_option maxRecDepth 20000 in
theorem ggX7_isDigit_X7_in : GoodIn wsX7_isDigit wsX7_in := goodIn_r _ [6] (by decide +kernel) (by decide +kernel)
set_option maxRecDepth 20000 in
theorem gX7_isDigit_X7_in : GoodIn wsX7_isDigit (va_wsS RX7 39 yX7_in wsX7_in) := goodIn_app (goodIn_of _ (by decide +kernel)) ggX7_isDigit_X7_in
theorem dX7_isDigit_0 : decode cX7_isDigit 0 = .ok (.iload_n 1, 1) := by decide +kernel
theorem dX7_isDigit_1 : decode cX7_isDigit 1 = .ok (.aload_n 0, 1) := by decide +kernel
theorem dX7_isDigit_2 : decode cX7_isDigit 2 = .ok (.getfield 69, 3) := by decide +kernel
theorem dX7_isDigit_5 : decode cX7_isDigit 5 = .ok (.if_icmp .ge 25, 3) := by decide +kernel
theorem dX7_isDigit_8 : decode cX7_isDigit 8 = .ok (.aload_n 0, 1) := by decide +kernel
theorem dX7_isDigit_9 : decode cX7_isDigit 9 = .ok (.getfield 13, 3) := by decide +kernel
theorem dX7_isDigit_12 : decode cX7_isDigit 12 = .ok (.iload_n 1, 1) := by decide +kernel
theorem dX7_isDigit_13 : decode cX7_isDigit 13 = .ok (.iaload, 1) := by decide +kernel
theorem dX7_isDigit_14 : decode cX7_isDigit 14 = .ok (.bipush 48, 2) := by decide +kernel
theorem dX7_isDigit_16 : decode cX7_isDigit 16 = .ok (.iload_n 2, 1) := by decide +kernel
theorem dX7_isDigit_17 : decode cX7_isDigit 17 = .ok (.iadd, 1) := by decide +kernel
theorem dX7_isDigit_18 : decode cX7_isDigit 18 = .ok (.bipush 57, 2) := by decide +kernel
theorem dX7_isDigit_20 : decode cX7_isDigit 20 = .ok (.invokestatic 39, 3) := by decide +kernel
theorem dX7_isDigit_23 : decode cX7_isDigit 23 = .ok (.ifCond .eq 7, 3) := by decide +kernel
theorem dX7_isDigit_26 : decode cX7_isDigit 26 = .ok (.iconst 1, 1) := by decide +kernel
theorem dX7_isDigit_27 : decode cX7_isDigit 27 = .ok (.goto 4, 3) := by decide +kernel
theorem dX7_isDigit_30 : decode cX7_isDigit 30 = .ok (.iconst 0, 1) := by decide +kernel
theorem dX7_isDigit_31 : decode cX7_isDigit 31 = .ok (.ireturn, 1) := by decide +kernel
set_option maxRecDepth 20000 in
theorem ggX7_reads_X7_isDigit : GoodIn wsX7_reads wsX7_isDigit := goodIn_r _ [8, 2, 1, 9, 10, 7, 11, 12, 13, 14, 15, 16, 17, 18, 19, 20, 21, 22, 23, 24, 25, 26, 27] (by decide +kernel) (by decide +kernel)
set_option maxRecDepth 20000 in
theorem gX7_reads_X7_isDigit : GoodIn wsX7_reads (wsV RX7 72 RX7 yX7_isDigit wsX7_isDigit) := goodIn_app (goodIn_of _ (by decide +kernel)) ggX7_reads_X7_isDigit
theorem dX7_reads_0 : decode cX7_reads 0 = .ok (.iconst 0, 1) := by decide +kernel
theorem dX7_reads_1 : decode cX7_reads 1 = .ok (.istore_n 1, 1) := by decide +kernel
theorem dX7_reads_2 : decode cX7_reads 2 = .ok (.iconst 0, 1) := by decide +kernel
theorem dX7_reads_3 : decode cX7_reads 3 = .ok (.istore_n 2, 1) := by decide +kernel
theorem dX7_reads_4 : decode cX7_reads 4 = .ok (.iconst 1, 1) := by decide +kernel
theorem dX7_reads_5 : decode cX7_reads 5 = .ok (.istore_n 3, 1) := by decide +kernel
theorem dX7_reads_6 : decode cX7_reads 6 = .ok (.iload_n 3, 1) := by decide +kernel
theorem dX7_reads_7 : decode cX7_reads 7 = .ok (.ifCond .eq 206, 3) := by decide +kernel
theorem dX7_reads_10 : decode cX7_reads 10 = .ok (.aload_n 0, 1) := by decide +kernel
theorem dX7_reads_11 : decode cX7_reads 11 = .ok (.iload_n 1, 1) := by decide +kernel
theorem dX7_reads_12 : decode cX7_reads 12 = .ok (.iconst 0, 1) := by decide +kernel
theorem dX7_reads_13 : decode cX7_reads 13 = .ok (.invokevirtual 72, 3) := by decide +kernel
theorem dX7_reads_16 : decode cX7_reads 16 = .ok (.ifCond .eq 9, 3) := by decide +kernel
theorem dX7_reads_19 : decode cX7_reads 19 = .ok (.iload_n 2, 1) := by decide +kernel
theorem dX7_reads_20 : decode cX7_reads 20 = .ok (.bipush 24, 2) := by decide +kernel
theorem dX7_reads_22 : decode cX7_reads 22 = .ok (.if_icmp .ne 5, 3) := by decide +kernel
theorem dX7_reads_25 : decode cX7_reads 25 = .ok (.iload_n 1, 1) := by decide +kernel
theorem dX7_reads_26 : decode cX7_reads 26 = .ok (.ireturn, 1) := by decide +kernel
theorem dX7_reads_27 : decode cX7_reads 27 = .ok (.aload_n 0, 1) := by decide +kernel
theorem dX7_reads_28 : decode cX7_reads 28 = .ok (.getfield 13, 3) := by decide +kernel
theorem dX7_reads_31 : decode cX7_reads 31 = .ok (.iload_n 1, 1) := by decide +kernel
theorem dX7_reads_32 : decode cX7_reads 32 = .ok (.iaload, 1) := by decide +kernel
theorem dX7_reads_33 : decode cX7_reads 33 = .ok (.bipush 48, 2) := by decide +kernel
theorem dX7_reads_35 : decode cX7_reads 35 = .ok (.isub, 1) := by decide +kernel
theorem dX7_reads_36 : decode cX7_reads 36 = .ok (.istore 4, 2) := by decide +kernel
theorem dX7_reads_38 : decode cX7_reads 38 = .ok (.iconst 1, 1) := by decide +kernel
theorem dX7_reads_39 : decode cX7_reads 39 = .ok (.istore 5, 2) := by decide +kernel
theorem dX7_reads_41 : decode cX7_reads 41 = .ok (.iinc 1 1, 3) := by decide +kernel
theorem dX7_reads_44 : decode cX7_reads 44 = .ok (.iload_n 1, 1) := by decide +kernel
theorem dX7_reads_45 : decode cX7_reads 45 = .ok (.aload_n 0, 1) := by decide +kernel
theorem dX7_reads_46 : decode cX7_reads 46 = .ok (.getfield 69, 3) := by decide +kernel
theorem dX7_reads_49 : decode cX7_reads 49 = .ok (.if_icmp .ge 97, 3) := by decide +kernel
theorem dX7_reads_52 : decode cX7_reads 52 = .ok (.aload_n 0, 1) := by decide +kernel
theorem dX7_reads_53 : decode cX7_reads 53 = .ok (.getfield 13, 3) := by decide +kernel
theorem dX7_reads_56 : decode cX7_reads 56 = .ok (.iload_n 1, 1) := by decide +kernel
theorem dX7_reads_57 : decode cX7_reads 57 = .ok (.iaload, 1) := by decide +kernel
theorem dX7_reads_58 : decode cX7_reads 58 = .ok (.bipush 120, 2) := by decide +kernel
theorem dX7_reads_60 : decode cX7_reads 60 = .ok (.if_icmp .ne 86, 3) := by decide +kernel
theorem dX7_reads_63 : decode cX7_reads 63 = .ok (.iinc 1 1, 3) := by decide +kernel
theorem dX7_reads_66 : decode cX7_reads 66 = .ok (.aload_n 0, 1) := by decide +kernel
theorem dX7_reads_67 : decode cX7_reads 67 = .ok (.iload_n 1, 1) := by decide +kernel
theorem dX7_reads_68 : decode cX7_reads 68 = .ok (.iconst 1, 1) := by decide +kernel
theorem dX7_reads_69 : decode cX7_reads 69 = .ok (.invokevirtual 72, 3) := by decide +kernel
theorem dX7_reads_72 : decode cX7_reads 72 = .ok (.ifCond .ne 5, 3) := by decide +kernel
theorem dX7_reads_75 : decode cX7_reads 75 = .ok (.iload_n 1, 1) := by decide +kernel
theorem dX7_reads_76 : decode cX7_reads 76 = .ok (.ireturn, 1) := by decide +kernel
theorem dX7_reads_77 : decode cX7_reads 77 = .ok (.iload_n 1, 1) := by decide +kernel
theorem dX7_reads_78 : decode cX7_reads 78 = .ok (.istore 6, 2) := by decide +kernel
theorem dX7_reads_80 : decode cX7_reads 80 = .ok (.aload_n 0, 1) := by decide +kernel
theorem dX7_reads_81 : decode cX7_reads 81 = .ok (.getfield 13, 3) := by decide +kernel
theorem dX7_reads_84 : decode cX7_reads 84 = .ok (.iload_n 1, 1) := by decide +kernel
theorem dX7_reads_85 : decode cX7_reads 85 = .ok (.iaload, 1) := by decide +kernel
theorem dX7_reads_86 : decode cX7_reads 86 = .ok (.bipush 48, 2) := by decide +kernel
theorem dX7_reads_88 : decode cX7_reads 88 = .ok (.isub, 1) := by decide +kernel
theorem dX7_reads_89 : decode cX7_reads 89 = .ok (.istore 5, 2) := by decide +kernel
theorem dX7_reads_91 : decode cX7_reads 91 = .ok (.iinc 1 1, 3) := by decide +kernel
theorem dX7_reads_94 : decode cX7_reads 94 = .ok (.aload_n 0, 1) := by decide +kernel
theorem dX7_reads_95 : decode cX7_reads 95 = .ok (.iload_n 1, 1) := by decide +kernel
theorem dX7_reads_96 : decode cX7_reads 96 = .ok (.iconst 0, 1) := by decide +kernel
theorem dX7_reads_97 : decode cX7_reads 97 = .ok (.invokevirtual 72, 3) := by decide +kernel
theorem dX7_reads_100 : decode cX7_reads 100 = .ok (.ifCond .eq 23, 3) := by decide +kernel
theorem dX7_reads_103 : decode cX7_reads 103 = .ok (.bipush 10, 2) := by decide +kernel
theorem dX7_reads_105 : decode cX7_reads 105 = .ok (.iload 5, 2) := by decide +kernel
theorem dX7_reads_107 : decode cX7_reads 107 = .ok (.imul, 1) := by decide +kernel
theorem dX7_reads_108 : decode cX7_reads 108 = .ok (.aload_n 0, 1) := by decide +kernel
theorem dX7_reads_109 : decode cX7_reads 109 = .ok (.getfield 13, 3) := by decide +kernel
theorem dX7_reads_112 : decode cX7_reads 112 = .ok (.iload_n 1, 1) := by decide +kernel
theorem dX7_reads_113 : decode cX7_reads 113 = .ok (.iaload, 1) := by decide +kernel
theorem dX7_reads_114 : decode cX7_reads 114 = .ok (.iadd, 1) := by decide +kernel
theorem dX7_reads_115 : decode cX7_reads 115 = .ok (.bipush 48, 2) := by decide +kernel
theorem dX7_reads_117 : decode cX7_reads 117 = .ok (.isub, 1) := by decide +kernel
theorem dX7_reads_118 : decode cX7_reads 118 = .ok (.istore 5, 2) := by decide +kernel
theorem dX7_reads_120 : decode cX7_reads 120 = .ok (.iinc 1 1, 3) := by decide +kernel
theorem dX7_reads_123 : decode cX7_reads 123 = .ok (.aload_n 0, 1) := by decide +kernel
theorem dX7_reads_124 : decode cX7_reads 124 = .ok (.iload_n 1, 1) := by decide +kernel
theorem dX7_reads_125 : decode cX7_reads 125 = .ok (.iconst 0, 1) := by decide +kernel
theorem dX7_reads_126 : decode cX7_reads 126 = .ok (.invokevirtual 72, 3) := by decide +kernel
theorem dX7_reads_129 : decode cX7_reads 129 = .ok (.ifCond .eq 5, 3) := by decide +kernel
theorem dX7_reads_132 : decode cX7_reads 132 = .ok (.iload_n 1, 1) := by decide +kernel
theorem dX7_reads_133 : decode cX7_reads 133 = .ok (.ireturn, 1) := by decide +kernel
theorem dX7_reads_134 : decode cX7_reads 134 = .ok (.iload 5, 2) := by decide +kernel
theorem dX7_reads_136 : decode cX7_reads 136 = .ok (.bipush 24, 2) := by decide +kernel
theorem dX7_reads_138 : decode cX7_reads 138 = .ok (.iload_n 2, 1) := by decide +kernel
theorem dX7_reads_139 : decode cX7_reads 139 = .ok (.isub, 1) := by decide +kernel
theorem dX7_reads_140 : decode cX7_reads 140 = .ok (.if_icmp .le 6, 3) := by decide +kernel
theorem dX7_reads_143 : decode cX7_reads 143 = .ok (.iload 6, 2) := by decide +kernel
theorem dX7_reads_145 : decode cX7_reads 145 = .ok (.ireturn, 1) := by decide +kernel
theorem dX7_reads_146 : decode cX7_reads 146 = .ok (.iconst 0, 1) := by decide +kernel
theorem dX7_reads_147 : decode cX7_reads 147 = .ok (.istore 6, 2) := by decide +kernel
theorem dX7_reads_149 : decode cX7_reads 149 = .ok (.iload 6, 2) := by decide +kernel
theorem dX7_reads_151 : decode cX7_reads 151 = .ok (.iload 5, 2) := by decide +kernel
theorem dX7_reads_153 : decode cX7_reads 153 = .ok (.if_icmp .ge 20, 3) := by decide +kernel
theorem dX7_reads_156 : decode cX7_reads 156 = .ok (.aload_n 0, 1) := by decide +kernel
theorem dX7_reads_157 : decode cX7_reads 157 = .ok (.getfield 16, 3) := by decide +kernel
theorem dX7_reads_160 : decode cX7_reads 160 = .ok (.iload_n 2, 1) := by decide +kernel
theorem dX7_reads_161 : decode cX7_reads 161 = .ok (.iload 4, 2) := by decide +kernel
theorem dX7_reads_163 : decode cX7_reads 163 = .ok (.iastore, 1) := by decide +kernel
theorem dX7_reads_164 : decode cX7_reads 164 = .ok (.iinc 2 1, 3) := by decide +kernel
theorem dX7_reads_167 : decode cX7_reads 167 = .ok (.iinc 6 1, 3) := by decide +kernel
theorem dX7_reads_170 : decode cX7_reads 170 = .ok (.goto (-21), 3) := by decide +kernel
theorem dX7_reads_173 : decode cX7_reads 173 = .ok (.iload_n 1, 1) := by decide +kernel
theorem dX7_reads_174 : decode cX7_reads 174 = .ok (.aload_n 0, 1) := by decide +kernel
theorem dX7_reads_175 : decode cX7_reads 175 = .ok (.getfield 69, 3) := by decide +kernel
theorem dX7_reads_178 : decode cX7_reads 178 = .ok (.if_icmp .ge 18, 3) := by decide +kernel
theorem dX7_reads_181 : decode cX7_reads 181 = .ok (.aload_n 0, 1) := by decide +kernel
theorem dX7_reads_182 : decode cX7_reads 182 = .ok (.getfield 13, 3) := by decide +kernel
theorem dX7_reads_185 : decode cX7_reads 185 = .ok (.iload_n 1, 1) := by decide +kernel
theorem dX7_reads_186 : decode cX7_reads 186 = .ok (.iaload, 1) := by decide +kernel
theorem dX7_reads_187 : decode cX7_reads 187 = .ok (.bipush 44, 2) := by decide +kernel
theorem dX7_reads_189 : decode cX7_reads 189 = .ok (.if_icmp .ne 7, 3) := by decide +kernel
theorem dX7_reads_192 : decode cX7_reads 192 = .ok (.iconst 1, 1) := by decide +kernel
theorem dX7_reads_193 : decode cX7_reads 193 = .ok (.goto 4, 3) := by decide +kernel
theorem dX7_reads_196 : decode cX7_reads 196 = .ok (.iconst 0, 1) := by decide +kernel
theorem dX7_reads_197 : decode cX7_reads 197 = .ok (.istore_n 3, 1) := by decide +kernel
theorem dX7_reads_198 : decode cX7_reads 198 = .ok (.iload_n 1, 1) := by decide +kernel
theorem dX7_reads_199 : decode cX7_reads 199 = .ok (.iload_n 3, 1) := by decide +kernel
theorem dX7_reads_200 : decode cX7_reads 200 = .ok (.ifCond .eq 7, 3) := by decide +kernel
theorem dX7_reads_203 : decode cX7_reads 203 = .ok (.iconst 1, 1) := by decide +kernel
theorem dX7_reads_204 : decode cX7_reads 204 = .ok (.goto 4, 3) := by decide +kernel
theorem dX7_reads_207 : decode cX7_reads 207 = .ok (.iconst 0, 1) := by decide +kernel
theorem dX7_reads_208 : decode cX7_reads 208 = .ok (.iadd, 1) := by decide +kernel
theorem dX7_reads_209 : decode cX7_reads 209 = .ok (.istore_n 1, 1) := by decide +kernel
theorem dX7_reads_210 : decode cX7_reads 210 = .ok (.goto (-204), 3) := by decide +kernel
theorem dX7_reads_213 : decode cX7_reads 213 = .ok (.iload_n 1, 1) := by decide +kernel
theorem dX7_reads_214 : decode cX7_reads 214 = .ok (.aload_n 0, 1) := by decide +kernel
theorem dX7_reads_215 : decode cX7_reads 215 = .ok (.getfield 69, 3) := by decide +kernel
theorem dX7_reads_218 : decode cX7_reads 218 = .ok (.if_icmp .lt 9, 3) := by decide +kernel
theorem dX7_reads_221 : decode cX7_reads 221 = .ok (.iload_n 2, 1) := by decide +kernel
theorem dX7_reads_222 : decode cX7_reads 222 = .ok (.bipush 24, 2) := by decide +kernel
theorem dX7_reads_224 : decode cX7_reads 224 = .ok (.if_icmp .ge 7, 3) := by decide +kernel
theorem dX7_reads_227 : decode cX7_reads 227 = .ok (.iload_n 1, 1) := by decide +kernel
theorem dX7_reads_228 : decode cX7_reads 228 = .ok (.goto 5, 3) := by decide +kernel
theorem dX7_reads_231 : decode cX7_reads 231 = .ok (.bipush (-9), 2) := by decide +kernel
theorem dX7_reads_233 : decode cX7_reads 233 = .ok (.ireturn, 1) := by decide +kernel
set_option maxRecDepth 20000 in
theorem ggX7_read_X7_isGuest : GoodIn wsX7_read wsX7_isGuest := goodIn_r _ [8, 2, 9, 10, 7, 11, 43, 44, 45, 46, 47, 48, 49, 50, 51, 52, 53, 54, 55, 56, 57, 58] (by decide +kernel) (by decide +kernel)
set_option maxRecDepth 20000 in
theorem gX7_read_X7_isGuest : GoodIn wsX7_read (wsV RX7 43 RX7 yX7_isGuest wsX7_isGuest) := goodIn_app (goodIn_of _ (by decide +kernel)) ggX7_read_X7_isGuest
set_option maxRecDepth 20000 in
theorem ggX7_read_X7_reads : GoodIn wsX7_read wsX7_reads := goodIn_r _ [15, 16, 17, 3, 18, 19, 20, 7, 21, 9, 10, 11, 43, 44, 45, 46, 47, 48, 49, 50, 51, 52, 53, 54, 55, 56, 57, 58] (by decide +kernel) (by decide +kernel)
set_option maxRecDepth 20000 in
theorem gX7_read_X7_reads : GoodIn wsX7_read (wsV RX7 75 RX7 yX7_reads wsX7_reads) := goodIn_app (goodIn_of _ (by decide +kernel)) ggX7_read_X7_reads
set_option maxRecDepth 20000 in
theorem ggX7_read_X7_records : GoodIn wsX7_read wsX7_records := goodIn_r _ [25, 26, 27, 28, 29, 7, 30, 2, 43, 44, 45, 46, 47, 48, 49, 50, 51, 52, 53, 54, 55, 56, 57, 58] (by decide +kernel) (by decide +kernel)
set_option maxRecDepth 20000 in
theorem gX7_read_X7_records : GoodIn wsX7_read (wsV RX7 58 RX7 yX7_records wsX7_records) := goodIn_app (goodIn_of _ (by decide +kernel)) ggX7_read_X7_records
set_option maxRecDepth 20000 in
theorem ggX7_read_X7_total : GoodIn wsX7_read wsX7_total := goodIn_r _ [34, 35, 36, 37, 7, 38, 39, 40, 41, 42, 2, 43, 44, 45, 46, 47, 48, 49, 50, 51, 52, 53, 54, 55, 56, 57, 58] (by decide +kernel) (by decide +kernel)
set_option maxRecDepth 20000 in
theorem gX7_read_X7_total : GoodIn wsX7_read (wsV RX7 65 RX7 yX7_total wsX7_total) := goodIn_app (goodIn_of _ (by decide +kernel)) ggX7_read_X7_total
theorem dX7_read_0 : decode cX7_read 0 = .ok (.aload_n 0, 1) := by decide +kernel
theorem dX7_read_1 : decode cX7_read 1 = .ok (.iload_n 1, 1) := by decide +kernel
theorem dX7_read_2 : decode cX7_read 2 = .ok (.invokevirtual 43, 3) := by decide +kernel
theorem dX7_read_5 : decode cX7_read 5 = .ok (.ifCond .ne 5, 3) := by decide +kernel
theorem dX7_read_8 : decode cX7_read 8 = .ok (.iconst (-1), 1) := by decide +kernel
theorem dX7_read_9 : decode cX7_read 9 = .ok (.ireturn, 1) := by decide +kernel
theorem dX7_read_10 : decode cX7_read 10 = .ok (.aload_n 0, 1) := by decide +kernel
theorem dX7_read_11 : decode cX7_read 11 = .ok (.aload_n 0, 1) := by decide +kernel
theorem dX7_read_12 : decode cX7_read 12 = .ok (.invokevirtual 75, 3) := by decide +kernel
theorem dX7_read_15 : decode cX7_read 15 = .ok (.putfield 79, 3) := by decide +kernel
theorem dX7_read_18 : decode cX7_read 18 = .ok (.aload_n 0, 1) := by decide +kernel
theorem dX7_read_19 : decode cX7_read 19 = .ok (.getfield 79, 3) := by decide +kernel
theorem dX7_read_22 : decode cX7_read 22 = .ok (.bipush (-9), 2) := by decide +kernel
theorem dX7_read_24 : decode cX7_read 24 = .ok (.if_icmp .eq 12, 3) := by decide +kernel
theorem dX7_read_27 : decode cX7_read 27 = .ok (.sipush (-1000), 3) := by decide +kernel
theorem dX7_read_30 : decode cX7_read 30 = .ok (.aload_n 0, 1) := by decide +kernel
theorem dX7_read_31 : decode cX7_read 31 = .ok (.getfield 79, 3) := by decide +kernel
theorem dX7_read_34 : decode cX7_read 34 = .ok (.isub, 1) := by decide +kernel
theorem dX7_read_35 : decode cX7_read 35 = .ok (.ireturn, 1) := by decide +kernel
theorem dX7_read_36 : decode cX7_read 36 = .ok (.aload_n 0, 1) := by decide +kernel
theorem dX7_read_37 : decode cX7_read 37 = .ok (.invokevirtual 58, 3) := by decide +kernel
theorem dX7_read_40 : decode cX7_read 40 = .ok (.iconst 0, 1) := by decide +kernel
theorem dX7_read_41 : decode cX7_read 41 = .ok (.istore_n 2, 1) := by decide +kernel
theorem dX7_read_42 : decode cX7_read 42 = .ok (.iload_n 2, 1) := by decide +kernel
theorem dX7_read_43 : decode cX7_read 43 = .ok (.bipush 24, 2) := by decide +kernel
theorem dX7_read_45 : decode cX7_read 45 = .ok (.if_icmp .ge 29, 3) := by decide +kernel
theorem dX7_read_48 : decode cX7_read 48 = .ok (.aload_n 0, 1) := by decide +kernel
theorem dX7_read_49 : decode cX7_read 49 = .ok (.getfield 7, 3) := by decide +kernel
theorem dX7_read_52 : decode cX7_read 52 = .ok (.bipush 25, 2) := by decide +kernel
theorem dX7_read_54 : decode cX7_read 54 = .ok (.bipush 24, 2) := by decide +kernel
theorem dX7_read_56 : decode cX7_read 56 = .ok (.iload_n 1, 1) := by decide +kernel
theorem dX7_read_57 : decode cX7_read 57 = .ok (.imul, 1) := by decide +kernel
theorem dX7_read_58 : decode cX7_read 58 = .ok (.iadd, 1) := by decide +kernel
theorem dX7_read_59 : decode cX7_read 59 = .ok (.iload_n 2, 1) := by decide +kernel
theorem dX7_read_60 : decode cX7_read 60 = .ok (.iadd, 1) := by decide +kernel
theorem dX7_read_61 : decode cX7_read 61 = .ok (.aload_n 0, 1) := by decide +kernel
theorem dX7_read_62 : decode cX7_read 62 = .ok (.getfield 16, 3) := by decide +kernel
theorem dX7_read_65 : decode cX7_read 65 = .ok (.iload_n 2, 1) := by decide +kernel
theorem dX7_read_66 : decode cX7_read 66 = .ok (.iaload, 1) := by decide +kernel
theorem dX7_read_67 : decode cX7_read 67 = .ok (.iastore, 1) := by decide +kernel
theorem dX7_read_68 : decode cX7_read 68 = .ok (.iinc 2 1, 3) := by decide +kernel
theorem dX7_read_71 : decode cX7_read 71 = .ok (.goto (-29), 3) := by decide +kernel
theorem dX7_read_74 : decode cX7_read 74 = .ok (.aload_n 0, 1) := by decide +kernel
theorem dX7_read_75 : decode cX7_read 75 = .ok (.iload_n 1, 1) := by decide +kernel
theorem dX7_read_76 : decode cX7_read 76 = .ok (.invokevirtual 65, 3) := by decide +kernel
theorem dX7_read_79 : decode cX7_read 79 = .ok (.ireturn, 1) := by decide +kernel
theorem dX7_brings_0 : decode cX7_brings 0 = .ok (.iconst 0, 1) := by decide +kernel
theorem dX7_brings_1 : decode cX7_brings 1 = .ok (.istore 5, 2) := by decide +kernel
theorem dX7_brings_3 : decode cX7_brings 3 = .ok (.iload_n 1, 1) := by decide +kernel
theorem dX7_brings_4 : decode cX7_brings 4 = .ok (.istore 6, 2) := by decide +kernel
theorem dX7_brings_6 : decode cX7_brings 6 = .ok (.iload 6, 2) := by decide +kernel
theorem dX7_brings_8 : decode cX7_brings 8 = .ok (.iload_n 2, 1) := by decide +kernel
theorem dX7_brings_9 : decode cX7_brings 9 = .ok (.if_icmp .gt 46, 3) := by decide +kernel
theorem dX7_brings_12 : decode cX7_brings 12 = .ok (.aload_n 0, 1) := by decide +kernel
theorem dX7_brings_13 : decode cX7_brings 13 = .ok (.getfield 7, 3) := by decide +kernel
theorem dX7_brings_16 : decode cX7_brings 16 = .ok (.iconst 1, 1) := by decide +kernel
theorem dX7_brings_17 : decode cX7_brings 17 = .ok (.iload 6, 2) := by decide +kernel
theorem dX7_brings_19 : decode cX7_brings 19 = .ok (.iadd, 1) := by decide +kernel
theorem dX7_brings_20 : decode cX7_brings 20 = .ok (.iaload, 1) := by decide +kernel
theorem dX7_brings_21 : decode cX7_brings 21 = .ok (.bipush (-9), 2) := by decide +kernel
theorem dX7_brings_23 : decode cX7_brings 23 = .ok (.if_icmp .ne 7, 3) := by decide +kernel
theorem dX7_brings_26 : decode cX7_brings 26 = .ok (.iconst 1, 1) := by decide +kernel
theorem dX7_brings_27 : decode cX7_brings 27 = .ok (.goto 4, 3) := by decide +kernel
theorem dX7_brings_30 : decode cX7_brings 30 = .ok (.iconst 0, 1) := by decide +kernel
theorem dX7_brings_31 : decode cX7_brings 31 = .ok (.iload_n 3, 1) := by decide +kernel
theorem dX7_brings_32 : decode cX7_brings 32 = .ok (.if_icmp .ne 17, 3) := by decide +kernel
theorem dX7_brings_35 : decode cX7_brings 35 = .ok (.aload_n 0, 1) := by decide +kernel
theorem dX7_brings_36 : decode cX7_brings 36 = .ok (.getfield 7, 3) := by decide +kernel
theorem dX7_brings_39 : decode cX7_brings 39 = .ok (.iconst 1, 1) := by decide +kernel
theorem dX7_brings_40 : decode cX7_brings 40 = .ok (.iload 6, 2) := by decide +kernel
theorem dX7_brings_42 : decode cX7_brings 42 = .ok (.iadd, 1) := by decide +kernel
theorem dX7_brings_43 : decode cX7_brings 43 = .ok (.iload 4, 2) := by decide +kernel
theorem dX7_brings_45 : decode cX7_brings 45 = .ok (.iastore, 1) := by decide +kernel
theorem dX7_brings_46 : decode cX7_brings 46 = .ok (.iinc 5 1, 3) := by decide +kernel
theorem dX7_brings_49 : decode cX7_brings 49 = .ok (.iinc 6 1, 3) := by decide +kernel
theorem dX7_brings_52 : decode cX7_brings 52 = .ok (.goto (-46), 3) := by decide +kernel
theorem dX7_brings_55 : decode cX7_brings 55 = .ok (.iload 5, 2) := by decide +kernel
theorem dX7_brings_57 : decode cX7_brings 57 = .ok (.ireturn, 1) := by decide +kernel
set_option maxRecDepth 20000 in
theorem ggX7_give_X7_isGuest : GoodIn wsX7_give wsX7_isGuest := goodIn_r _ [5, 6, 7, 8, 4, 9, 26, 27, 28, 29, 30, 31, 32, 33, 34, 35, 36, 37, 38, 39, 40, 41] (by decide +kernel) (by decide +kernel)
set_option maxRecDepth 20000 in
theorem gX7_give_X7_isGuest : GoodIn wsX7_give (wsV RX7 43 RX7 yX7_isGuest wsX7_isGuest) := goodIn_app (goodIn_of _ (by decide +kernel)) ggX7_give_X7_isGuest
set_option maxRecDepth 20000 in
theorem ggX7_give_X7_isSpan : GoodIn wsX7_give wsX7_isSpan := goodIn_r _ [12, 7, 8, 4, 9] (by decide +kernel) (by decide +kernel)
set_option maxRecDepth 20000 in
theorem gX7_give_X7_isSpan : GoodIn wsX7_give (va_wsS RX7 61 yX7_isSpan wsX7_isSpan) := goodIn_app (goodIn_of _ (by decide +kernel)) ggX7_give_X7_isSpan
set_option maxRecDepth 20000 in
theorem ggX7_give_X7_records : GoodIn wsX7_give wsX7_records := goodIn_r _ [16, 17, 18, 19, 20, 4, 21, 6, 26, 27, 28, 29, 30, 31, 32, 33, 34, 35, 36, 37, 38, 39, 40, 41] (by decide +kernel) (by decide +kernel)
set_option maxRecDepth 20000 in
theorem gX7_give_X7_records : GoodIn wsX7_give (wsV RX7 58 RX7 yX7_records wsX7_records) := goodIn_app (goodIn_of _ (by decide +kernel)) ggX7_give_X7_records
set_option maxRecDepth 20000 in
theorem ggX7_give_X7_brings : GoodIn wsX7_give wsX7_brings := goodIn_r _ [25, 6, 26, 27, 28, 29, 30, 31, 32, 33, 34, 35, 36, 37, 38, 39, 40, 41] (by decide +kernel) (by decide +kernel)
set_option maxRecDepth 20000 in
theorem gX7_give_X7_brings : GoodIn wsX7_give (wsV RX7 82 RX7 yX7_brings wsX7_brings) := goodIn_app (goodIn_of _ (by decide +kernel)) ggX7_give_X7_brings
theorem dX7_give_0 : decode cX7_give 0 = .ok (.aload_n 0, 1) := by decide +kernel
theorem dX7_give_1 : decode cX7_give 1 = .ok (.iload_n 1, 1) := by decide +kernel
theorem dX7_give_2 : decode cX7_give 2 = .ok (.invokevirtual 43, 3) := by decide +kernel
theorem dX7_give_5 : decode cX7_give 5 = .ok (.ifCond .eq 11, 3) := by decide +kernel
theorem dX7_give_8 : decode cX7_give 8 = .ok (.iload_n 2, 1) := by decide +kernel
theorem dX7_give_9 : decode cX7_give 9 = .ok (.iload_n 3, 1) := by decide +kernel
theorem dX7_give_10 : decode cX7_give 10 = .ok (.invokestatic 61, 3) := by decide +kernel
theorem dX7_give_13 : decode cX7_give 13 = .ok (.ifCond .ne 5, 3) := by decide +kernel
theorem dX7_give_16 : decode cX7_give 16 = .ok (.iconst (-1), 1) := by decide +kernel
theorem dX7_give_17 : decode cX7_give 17 = .ok (.ireturn, 1) := by decide +kernel
theorem dX7_give_18 : decode cX7_give 18 = .ok (.aload_n 0, 1) := by decide +kernel
theorem dX7_give_19 : decode cX7_give 19 = .ok (.invokevirtual 58, 3) := by decide +kernel
theorem dX7_give_22 : decode cX7_give 22 = .ok (.aload_n 0, 1) := by decide +kernel
theorem dX7_give_23 : decode cX7_give 23 = .ok (.iload_n 2, 1) := by decide +kernel
theorem dX7_give_24 : decode cX7_give 24 = .ok (.iload_n 3, 1) := by decide +kernel
theorem dX7_give_25 : decode cX7_give 25 = .ok (.iconst 1, 1) := by decide +kernel
theorem dX7_give_26 : decode cX7_give 26 = .ok (.iload_n 1, 1) := by decide +kernel
theorem dX7_give_27 : decode cX7_give 27 = .ok (.invokevirtual 82, 3) := by decide +kernel
theorem dX7_give_30 : decode cX7_give 30 = .ok (.ireturn, 1) := by decide +kernel
set_option maxRecDepth 20000 in
theorem ggX7_putBack_X7_isSpan : GoodIn wsX7_putBack wsX7_isSpan := goodIn_r _ [4, 5, 6, 3, 7] (by decide +kernel) (by decide +kernel)
set_option maxRecDepth 20000 in
theorem gX7_putBack_X7_isSpan : GoodIn wsX7_putBack (va_wsS RX7 61 yX7_isSpan wsX7_isSpan) := goodIn_app (goodIn_of _ (by decide +kernel)) ggX7_putBack_X7_isSpan
set_option maxRecDepth 20000 in
theorem ggX7_putBack_X7_records : GoodIn wsX7_putBack wsX7_records := goodIn_r _ [11, 12, 13, 14, 15, 3, 16, 17, 22, 23, 24, 25, 26, 27, 28, 29, 30, 31, 32, 33, 34, 35, 36, 37] (by decide +kernel) (by decide +kernel)
set_option maxRecDepth 20000 in
theorem gX7_putBack_X7_records : GoodIn wsX7_putBack (wsV RX7 58 RX7 yX7_records wsX7_records) := goodIn_app (goodIn_of _ (by decide +kernel)) ggX7_putBack_X7_records
set_option maxRecDepth 20000 in
theorem ggX7_putBack_X7_brings : GoodIn wsX7_putBack wsX7_brings := goodIn_r _ [21, 17, 22, 23, 24, 25, 26, 27, 28, 29, 30, 31, 32, 33, 34, 35, 36, 37] (by decide +kernel) (by decide +kernel)
set_option maxRecDepth 20000 in
theorem gX7_putBack_X7_brings : GoodIn wsX7_putBack (wsV RX7 82 RX7 yX7_brings wsX7_brings) := goodIn_app (goodIn_of _ (by decide +kernel)) ggX7_putBack_X7_brings
theorem dX7_putBack_0 : decode cX7_putBack 0 = .ok (.iload_n 1, 1) := by decide +kernel
theorem dX7_putBack_1 : decode cX7_putBack 1 = .ok (.iload_n 2, 1) := by decide +kernel
theorem dX7_putBack_2 : decode cX7_putBack 2 = .ok (.invokestatic 61, 3) := by decide +kernel
theorem dX7_putBack_5 : decode cX7_putBack 5 = .ok (.ifCond .ne 5, 3) := by decide +kernel
theorem dX7_putBack_8 : decode cX7_putBack 8 = .ok (.iconst (-1), 1) := by decide +kernel
theorem dX7_putBack_9 : decode cX7_putBack 9 = .ok (.ireturn, 1) := by decide +kernel
theorem dX7_putBack_10 : decode cX7_putBack 10 = .ok (.aload_n 0, 1) := by decide +kernel
theorem dX7_putBack_11 : decode cX7_putBack 11 = .ok (.invokevirtual 58, 3) := by decide +kernel
theorem dX7_putBack_14 : decode cX7_putBack 14 = .ok (.aload_n 0, 1) := by decide +kernel
theorem dX7_putBack_15 : decode cX7_putBack 15 = .ok (.iload_n 1, 1) := by decide +kernel
theorem dX7_putBack_16 : decode cX7_putBack 16 = .ok (.iload_n 2, 1) := by decide +kernel
theorem dX7_putBack_17 : decode cX7_putBack 17 = .ok (.iconst 0, 1) := by decide +kernel
theorem dX7_putBack_18 : decode cX7_putBack 18 = .ok (.bipush (-9), 2) := by decide +kernel
theorem dX7_putBack_20 : decode cX7_putBack 20 = .ok (.invokevirtual 82, 3) := by decide +kernel
theorem dX7_putBack_23 : decode cX7_putBack 23 = .ok (.ireturn, 1) := by decide +kernel
set_option maxRecDepth 20000 in
theorem ggX7_isMove_X7_in : GoodIn wsX7_isMove wsX7_in := goodIn_r _ [5] (by decide +kernel) (by decide +kernel)
set_option maxRecDepth 20000 in
theorem gX7_isMove_X7_in : GoodIn wsX7_isMove (va_wsS RX7 39 yX7_in wsX7_in) := goodIn_app (goodIn_of _ (by decide +kernel)) ggX7_isMove_X7_in
theorem dX7_isMove_0 : decode cX7_isMove 0 = .ok (.iload_n 1, 1) := by decide +kernel
theorem dX7_isMove_1 : decode cX7_isMove 1 = .ok (.iconst 1, 1) := by decide +kernel
theorem dX7_isMove_2 : decode cX7_isMove 2 = .ok (.bipush 100, 2) := by decide +kernel
theorem dX7_isMove_4 : decode cX7_isMove 4 = .ok (.invokestatic 39, 3) := by decide +kernel
theorem dX7_isMove_7 : decode cX7_isMove 7 = .ok (.ifCond .eq 25, 3) := by decide +kernel
theorem dX7_isMove_10 : decode cX7_isMove 10 = .ok (.iload_n 2, 1) := by decide +kernel
theorem dX7_isMove_11 : decode cX7_isMove 11 = .ok (.iconst 1, 1) := by decide +kernel
theorem dX7_isMove_12 : decode cX7_isMove 12 = .ok (.iconst 1, 1) := by decide +kernel
theorem dX7_isMove_13 : decode cX7_isMove 13 = .ok (.aload_n 0, 1) := by decide +kernel
theorem dX7_isMove_14 : decode cX7_isMove 14 = .ok (.getfield 7, 3) := by decide +kernel
theorem dX7_isMove_17 : decode cX7_isMove 17 = .ok (.iconst 0, 1) := by decide +kernel
theorem dX7_isMove_18 : decode cX7_isMove 18 = .ok (.iaload, 1) := by decide +kernel
theorem dX7_isMove_19 : decode cX7_isMove 19 = .ok (.ishl, 1) := by decide +kernel
theorem dX7_isMove_20 : decode cX7_isMove 20 = .ok (.iconst 1, 1) := by decide +kernel
theorem dX7_isMove_21 : decode cX7_isMove 21 = .ok (.isub, 1) := by decide +kernel
theorem dX7_isMove_22 : decode cX7_isMove 22 = .ok (.invokestatic 39, 3) := by decide +kernel
theorem dX7_isMove_25 : decode cX7_isMove 25 = .ok (.ifCond .eq 7, 3) := by decide +kernel
theorem dX7_isMove_28 : decode cX7_isMove 28 = .ok (.iconst 1, 1) := by decide +kernel
theorem dX7_isMove_29 : decode cX7_isMove 29 = .ok (.goto 4, 3) := by decide +kernel
theorem dX7_isMove_32 : decode cX7_isMove 32 = .ok (.iconst 0, 1) := by decide +kernel
theorem dX7_isMove_33 : decode cX7_isMove 33 = .ok (.ireturn, 1) := by decide +kernel
set_option maxRecDepth 20000 in
theorem ggX7_caller_X7_valueOf : GoodIn wsX7_caller wsX7_valueOf := goodIn_r _ [6, 1, 15, 16, 17, 18, 19, 20, 21, 22, 23, 24, 25, 26, 27, 28, 29, 30] (by decide +kernel) (by decide +kernel)
set_option maxRecDepth 20000 in
theorem gX7_caller_X7_valueOf : GoodIn wsX7_caller (wsV RX7 47 RX7 yX7_valueOf wsX7_valueOf) := goodIn_app (goodIn_of _ (by decide +kernel)) ggX7_caller_X7_valueOf
set_option maxRecDepth 20000 in
theorem ggX7_caller_X7_total : GoodIn wsX7_caller wsX7_total := goodIn_r _ [10, 11, 12, 13, 5, 14, 2, 3, 4, 6, 1, 15, 16, 17, 18, 19, 20, 21, 22, 23, 24, 25, 26, 27, 28, 29, 30] (by decide +kernel) (by decide +kernel)
set_option maxRecDepth 20000 in
theorem gX7_caller_X7_total : GoodIn wsX7_caller (wsV RX7 65 RX7 yX7_total wsX7_total) := goodIn_app (goodIn_of _ (by decide +kernel)) ggX7_caller_X7_total
theorem dX7_caller_0 : decode cX7_caller 0 = .ok (.iconst 0, 1) := by decide +kernel
theorem dX7_caller_1 : decode cX7_caller 1 = .ok (.istore 5, 2) := by decide +kernel
theorem dX7_caller_3 : decode cX7_caller 3 = .ok (.iload 5, 2) := by decide +kernel
theorem dX7_caller_5 : decode cX7_caller 5 = .ok (.aload_n 0, 1) := by decide +kernel
theorem dX7_caller_6 : decode cX7_caller 6 = .ok (.getfield 7, 3) := by decide +kernel
theorem dX7_caller_9 : decode cX7_caller 9 = .ok (.iconst 0, 1) := by decide +kernel
theorem dX7_caller_10 : decode cX7_caller 10 = .ok (.iaload, 1) := by decide +kernel
theorem dX7_caller_11 : decode cX7_caller 11 = .ok (.if_icmp .ge 88, 3) := by decide +kernel
theorem dX7_caller_14 : decode cX7_caller 14 = .ok (.iconst 0, 1) := by decide +kernel
theorem dX7_caller_15 : decode cX7_caller 15 = .ok (.istore 6, 2) := by decide +kernel
theorem dX7_caller_17 : decode cX7_caller 17 = .ok (.iload_n 3, 1) := by decide +kernel
theorem dX7_caller_18 : decode cX7_caller 18 = .ok (.istore 7, 2) := by decide +kernel
theorem dX7_caller_20 : decode cX7_caller 20 = .ok (.iload 7, 2) := by decide +kernel
theorem dX7_caller_22 : decode cX7_caller 22 = .ok (.iload 4, 2) := by decide +kernel
theorem dX7_caller_24 : decode cX7_caller 24 = .ok (.if_icmp .gt 40, 3) := by decide +kernel
theorem dX7_caller_27 : decode cX7_caller 27 = .ok (.iload 6, 2) := by decide +kernel
theorem dX7_caller_29 : decode cX7_caller 29 = .ok (.aload_n 0, 1) := by decide +kernel
theorem dX7_caller_30 : decode cX7_caller 30 = .ok (.getfield 7, 3) := by decide +kernel
theorem dX7_caller_33 : decode cX7_caller 33 = .ok (.iconst 1, 1) := by decide +kernel
theorem dX7_caller_34 : decode cX7_caller 34 = .ok (.iload 7, 2) := by decide +kernel
theorem dX7_caller_36 : decode cX7_caller 36 = .ok (.iadd, 1) := by decide +kernel
theorem dX7_caller_37 : decode cX7_caller 37 = .ok (.iaload, 1) := by decide +kernel
theorem dX7_caller_38 : decode cX7_caller 38 = .ok (.bipush (-9), 2) := by decide +kernel
theorem dX7_caller_40 : decode cX7_caller 40 = .ok (.if_icmp .ne 14, 3) := by decide +kernel
theorem dX7_caller_43 : decode cX7_caller 43 = .ok (.aload_n 0, 1) := by decide +kernel
theorem dX7_caller_44 : decode cX7_caller 44 = .ok (.iload 5, 2) := by decide +kernel
theorem dX7_caller_46 : decode cX7_caller 46 = .ok (.iload 7, 2) := by decide +kernel
theorem dX7_caller_48 : decode cX7_caller 48 = .ok (.invokevirtual 47, 3) := by decide +kernel
theorem dX7_caller_51 : decode cX7_caller 51 = .ok (.goto 4, 3) := by decide +kernel
theorem dX7_caller_54 : decode cX7_caller 54 = .ok (.iconst 0, 1) := by decide +kernel
theorem dX7_caller_55 : decode cX7_caller 55 = .ok (.iadd, 1) := by decide +kernel
theorem dX7_caller_56 : decode cX7_caller 56 = .ok (.istore 6, 2) := by decide +kernel
theorem dX7_caller_58 : decode cX7_caller 58 = .ok (.iinc 7 1, 3) := by decide +kernel
theorem dX7_caller_61 : decode cX7_caller 61 = .ok (.goto (-41), 3) := by decide +kernel
theorem dX7_caller_64 : decode cX7_caller 64 = .ok (.iload_n 2, 1) := by decide +kernel
theorem dX7_caller_65 : decode cX7_caller 65 = .ok (.iload 5, 2) := by decide +kernel
theorem dX7_caller_67 : decode cX7_caller 67 = .ok (.ishr, 1) := by decide +kernel
theorem dX7_caller_68 : decode cX7_caller 68 = .ok (.iconst 1, 1) := by decide +kernel
theorem dX7_caller_69 : decode cX7_caller 69 = .ok (.iand, 1) := by decide +kernel
theorem dX7_caller_70 : decode cX7_caller 70 = .ok (.iconst 1, 1) := by decide +kernel
theorem dX7_caller_71 : decode cX7_caller 71 = .ok (.if_icmp .ne 22, 3) := by decide +kernel
theorem dX7_caller_74 : decode cX7_caller 74 = .ok (.bipush 100, 2) := by decide +kernel
theorem dX7_caller_76 : decode cX7_caller 76 = .ok (.iload 6, 2) := by decide +kernel
theorem dX7_caller_78 : decode cX7_caller 78 = .ok (.imul, 1) := by decide +kernel
theorem dX7_caller_79 : decode cX7_caller 79 = .ok (.iload_n 1, 1) := by decide +kernel
theorem dX7_caller_80 : decode cX7_caller 80 = .ok (.aload_n 0, 1) := by decide +kernel
theorem dX7_caller_81 : decode cX7_caller 81 = .ok (.iload 5, 2) := by decide +kernel
theorem dX7_caller_83 : decode cX7_caller 83 = .ok (.invokevirtual 65, 3) := by decide +kernel
theorem dX7_caller_86 : decode cX7_caller 86 = .ok (.imul, 1) := by decide +kernel
theorem dX7_caller_87 : decode cX7_caller 87 = .ok (.if_icmp .lt 6, 3) := by decide +kernel
theorem dX7_caller_90 : decode cX7_caller 90 = .ok (.iload 5, 2) := by decide +kernel
theorem dX7_caller_92 : decode cX7_caller 92 = .ok (.ireturn, 1) := by decide +kernel
theorem dX7_caller_93 : decode cX7_caller 93 = .ok (.iinc 5 1, 3) := by decide +kernel
theorem dX7_caller_96 : decode cX7_caller 96 = .ok (.goto (-93), 3) := by decide +kernel
theorem dX7_caller_99 : decode cX7_caller 99 = .ok (.bipush (-9), 2) := by decide +kernel
theorem dX7_caller_101 : decode cX7_caller 101 = .ok (.ireturn, 1) := by decide +kernel
set_option maxRecDepth 20000 in
theorem ggX7_moves_X7_caller : GoodIn wsX7_moves wsX7_caller := goodIn_r _ [6, 1, 7, 8, 9, 5, 10, 11, 12, 13, 14, 15, 16, 17, 18, 23, 24, 25, 26, 27, 28, 29, 30, 31, 32, 33, 34, 35, 36, 37, 38] (by decide +kernel) (by decide +kernel)
set_option maxRecDepth 20000 in
theorem gX7_moves_X7_caller : GoodIn wsX7_moves (wsV RX7 86 RX7 yX7_caller wsX7_caller) := goodIn_app (goodIn_of _ (by decide +kernel)) ggX7_moves_X7_caller
set_option maxRecDepth 20000 in
theorem ggX7_moves_X7_brings : GoodIn wsX7_moves wsX7_brings := goodIn_r _ [22, 1, 23, 24, 25, 26, 27, 28, 29, 30, 31, 32, 33, 34, 35, 36, 37, 38] (by decide +kernel) (by decide +kernel)
set_option maxRecDepth 20000 in
theorem gX7_moves_X7_brings : GoodIn wsX7_moves (wsV RX7 82 RX7 yX7_brings wsX7_brings) := goodIn_app (goodIn_of _ (by decide +kernel)) ggX7_moves_X7_brings
theorem dX7_moves_0 : decode cX7_moves 0 = .ok (.iload_n 2, 1) := by decide +kernel
theorem dX7_moves_1 : decode cX7_moves 1 = .ok (.istore_n 3, 1) := by decide +kernel
theorem dX7_moves_2 : decode cX7_moves 2 = .ok (.iconst 0, 1) := by decide +kernel
theorem dX7_moves_3 : decode cX7_moves 3 = .ok (.istore 4, 2) := by decide +kernel
theorem dX7_moves_5 : decode cX7_moves 5 = .ok (.iconst 0, 1) := by decide +kernel
theorem dX7_moves_6 : decode cX7_moves 6 = .ok (.istore 5, 2) := by decide +kernel
theorem dX7_moves_8 : decode cX7_moves 8 = .ok (.iconst 0, 1) := by decide +kernel
theorem dX7_moves_9 : decode cX7_moves 9 = .ok (.istore 6, 2) := by decide +kernel
theorem dX7_moves_11 : decode cX7_moves 11 = .ok (.iload 6, 2) := by decide +kernel
theorem dX7_moves_13 : decode cX7_moves 13 = .ok (.bipush 24, 2) := by decide +kernel
theorem dX7_moves_15 : decode cX7_moves 15 = .ok (.if_icmp .ge 81, 3) := by decide +kernel
theorem dX7_moves_18 : decode cX7_moves 18 = .ok (.iload_n 3, 1) := by decide +kernel
theorem dX7_moves_19 : decode cX7_moves 19 = .ok (.ifCond .eq 77, 3) := by decide +kernel
theorem dX7_moves_22 : decode cX7_moves 22 = .ok (.aload_n 0, 1) := by decide +kernel
theorem dX7_moves_23 : decode cX7_moves 23 = .ok (.getfield 7, 3) := by decide +kernel
theorem dX7_moves_26 : decode cX7_moves 26 = .ok (.iconst 1, 1) := by decide +kernel
theorem dX7_moves_27 : decode cX7_moves 27 = .ok (.iload 6, 2) := by decide +kernel
theorem dX7_moves_29 : decode cX7_moves 29 = .ok (.iadd, 1) := by decide +kernel
theorem dX7_moves_30 : decode cX7_moves 30 = .ok (.iaload, 1) := by decide +kernel
theorem dX7_moves_31 : decode cX7_moves 31 = .ok (.bipush (-9), 2) := by decide +kernel
theorem dX7_moves_33 : decode cX7_moves 33 = .ok (.if_icmp .ne 16, 3) := by decide +kernel
theorem dX7_moves_36 : decode cX7_moves 36 = .ok (.aload_n 0, 1) := by decide +kernel
theorem dX7_moves_37 : decode cX7_moves 37 = .ok (.iload_n 1, 1) := by decide +kernel
theorem dX7_moves_38 : decode cX7_moves 38 = .ok (.iload_n 3, 1) := by decide +kernel
theorem dX7_moves_39 : decode cX7_moves 39 = .ok (.iload 4, 2) := by decide +kernel
theorem dX7_moves_41 : decode cX7_moves 41 = .ok (.iload 6, 2) := by decide +kernel
theorem dX7_moves_43 : decode cX7_moves 43 = .ok (.invokevirtual 86, 3) := by decide +kernel
theorem dX7_moves_46 : decode cX7_moves 46 = .ok (.goto 5, 3) := by decide +kernel
theorem dX7_moves_49 : decode cX7_moves 49 = .ok (.bipush (-9), 2) := by decide +kernel
theorem dX7_moves_51 : decode cX7_moves 51 = .ok (.istore 7, 2) := by decide +kernel
theorem dX7_moves_53 : decode cX7_moves 53 = .ok (.iload 7, 2) := by decide +kernel
theorem dX7_moves_55 : decode cX7_moves 55 = .ok (.bipush (-9), 2) := by decide +kernel
theorem dX7_moves_57 : decode cX7_moves 57 = .ok (.if_icmp .eq 33, 3) := by decide +kernel
theorem dX7_moves_60 : decode cX7_moves 60 = .ok (.aload_n 0, 1) := by decide +kernel
theorem dX7_moves_61 : decode cX7_moves 61 = .ok (.iload 4, 2) := by decide +kernel
theorem dX7_moves_63 : decode cX7_moves 63 = .ok (.iload 6, 2) := by decide +kernel
theorem dX7_moves_65 : decode cX7_moves 65 = .ok (.iconst 1, 1) := by decide +kernel
theorem dX7_moves_66 : decode cX7_moves 66 = .ok (.iload 7, 2) := by decide +kernel
theorem dX7_moves_68 : decode cX7_moves 68 = .ok (.invokevirtual 82, 3) := by decide +kernel
theorem dX7_moves_71 : decode cX7_moves 71 = .ok (.pop, 1) := by decide +kernel
theorem dX7_moves_72 : decode cX7_moves 72 = .ok (.iload_n 3, 1) := by decide +kernel
theorem dX7_moves_73 : decode cX7_moves 73 = .ok (.iconst 1, 1) := by decide +kernel
theorem dX7_moves_74 : decode cX7_moves 74 = .ok (.iload 7, 2) := by decide +kernel
theorem dX7_moves_76 : decode cX7_moves 76 = .ok (.ishl, 1) := by decide +kernel
theorem dX7_moves_77 : decode cX7_moves 77 = .ok (.iconst (-1), 1) := by decide +kernel
theorem dX7_moves_78 : decode cX7_moves 78 = .ok (.ixor, 1) := by decide +kernel
theorem dX7_moves_79 : decode cX7_moves 79 = .ok (.iand, 1) := by decide +kernel
theorem dX7_moves_80 : decode cX7_moves 80 = .ok (.istore_n 3, 1) := by decide +kernel
theorem dX7_moves_81 : decode cX7_moves 81 = .ok (.iload 6, 2) := by decide +kernel
theorem dX7_moves_83 : decode cX7_moves 83 = .ok (.iconst 1, 1) := by decide +kernel
theorem dX7_moves_84 : decode cX7_moves 84 = .ok (.iadd, 1) := by decide +kernel
theorem dX7_moves_85 : decode cX7_moves 85 = .ok (.istore 4, 2) := by decide +kernel
theorem dX7_moves_87 : decode cX7_moves 87 = .ok (.iinc 5 1, 3) := by decide +kernel
theorem dX7_moves_90 : decode cX7_moves 90 = .ok (.iinc 6 1, 3) := by decide +kernel
theorem dX7_moves_93 : decode cX7_moves 93 = .ok (.goto (-82), 3) := by decide +kernel
theorem dX7_moves_96 : decode cX7_moves 96 = .ok (.iload 5, 2) := by decide +kernel
theorem dX7_moves_98 : decode cX7_moves 98 = .ok (.ireturn, 1) := by decide +kernel
set_option maxRecDepth 20000 in
theorem ggX7_move_X7_isMove : GoodIn wsX7_move wsX7_isMove := goodIn_r _ [5, 6, 7, 8, 4, 9, 43, 44, 45, 46, 47, 48, 49, 50, 51, 52, 53, 54, 55, 56, 57, 58] (by decide +kernel) (by decide +kernel)
set_option maxRecDepth 20000 in
theorem gX7_move_X7_isMove : GoodIn wsX7_move (wsV RX7 90 RX7 yX7_isMove wsX7_isMove) := goodIn_app (goodIn_of _ (by decide +kernel)) ggX7_move_X7_isMove
set_option maxRecDepth 20000 in
theorem ggX7_move_X7_records : GoodIn wsX7_move wsX7_records := goodIn_r _ [13, 14, 15, 16, 17, 4, 18, 6, 43, 44, 45, 46, 47, 48, 49, 50, 51, 52, 53, 54, 55, 56, 57, 58] (by decide +kernel) (by decide +kernel)
set_option maxRecDepth 20000 in
theorem gX7_move_X7_records : GoodIn wsX7_move (wsV RX7 58 RX7 yX7_records wsX7_records) := goodIn_app (goodIn_of _ (by decide +kernel)) ggX7_move_X7_records
set_option maxRecDepth 20000 in
theorem ggX7_move_X7_moves : GoodIn wsX7_move wsX7_moves := goodIn_r _ [22, 6, 23, 24, 25, 4, 26, 27, 28, 29, 30, 31, 32, 33, 34, 35, 36, 37, 38, 39, 40, 41, 42, 43, 44, 45, 46, 47, 48, 49, 50, 51, 52, 53, 54, 55, 56, 57, 58] (by decide +kernel) (by decide +kernel)
set_option maxRecDepth 20000 in
theorem gX7_move_X7_moves : GoodIn wsX7_move (wsV RX7 93 RX7 yX7_moves wsX7_moves) := goodIn_app (goodIn_of _ (by decide +kernel)) ggX7_move_X7_moves
theorem dX7_move_0 : decode cX7_move 0 = .ok (.aload_n 0, 1) := by decide +kernel
theorem dX7_move_1 : decode cX7_move 1 = .ok (.iload_n 1, 1) := by decide +kernel
theorem dX7_move_2 : decode cX7_move 2 = .ok (.iload_n 2, 1) := by decide +kernel
theorem dX7_move_3 : decode cX7_move 3 = .ok (.invokevirtual 90, 3) := by decide +kernel
theorem dX7_move_6 : decode cX7_move 6 = .ok (.ifCond .ne 5, 3) := by decide +kernel
theorem dX7_move_9 : decode cX7_move 9 = .ok (.iconst (-1), 1) := by decide +kernel
theorem dX7_move_10 : decode cX7_move 10 = .ok (.ireturn, 1) := by decide +kernel
theorem dX7_move_11 : decode cX7_move 11 = .ok (.aload_n 0, 1) := by decide +kernel
theorem dX7_move_12 : decode cX7_move 12 = .ok (.invokevirtual 58, 3) := by decide +kernel
theorem dX7_move_15 : decode cX7_move 15 = .ok (.aload_n 0, 1) := by decide +kernel
theorem dX7_move_16 : decode cX7_move 16 = .ok (.iload_n 1, 1) := by decide +kernel
theorem dX7_move_17 : decode cX7_move 17 = .ok (.iload_n 2, 1) := by decide +kernel
theorem dX7_move_18 : decode cX7_move 18 = .ok (.invokevirtual 93, 3) := by decide +kernel
theorem dX7_move_21 : decode cX7_move 21 = .ok (.ireturn, 1) := by decide +kernel
set_option maxRecDepth 20000 in
theorem ggX7_cutAt_X7_spanValue : GoodIn wsX7_cutAt wsX7_spanValue := goodIn_r _ [5, 6, 7, 8, 4, 9, 10, 11, 12, 13, 14, 15, 16, 17, 18, 19, 20, 21, 22, 23, 24, 25, 26] (by decide +kernel) (by decide +kernel)
set_option maxRecDepth 20000 in
theorem gX7_cutAt_X7_spanValue : GoodIn wsX7_cutAt (wsV RX7 51 RX7 yX7_spanValue wsX7_spanValue) := goodIn_app (goodIn_of _ (by decide +kernel)) ggX7_cutAt_X7_spanValue
theorem dX7_cutAt_0 : decode cX7_cutAt 0 = .ok (.bipush (-9), 2) := by decide +kernel
theorem dX7_cutAt_2 : decode cX7_cutAt 2 = .ok (.istore 4, 2) := by decide +kernel
theorem dX7_cutAt_4 : decode cX7_cutAt 4 = .ok (.iconst 0, 1) := by decide +kernel
theorem dX7_cutAt_5 : decode cX7_cutAt 5 = .ok (.istore 5, 2) := by decide +kernel
theorem dX7_cutAt_7 : decode cX7_cutAt 7 = .ok (.iload_n 2, 1) := by decide +kernel
theorem dX7_cutAt_8 : decode cX7_cutAt 8 = .ok (.iconst 1, 1) := by decide +kernel
theorem dX7_cutAt_9 : decode cX7_cutAt 9 = .ok (.iadd, 1) := by decide +kernel
theorem dX7_cutAt_10 : decode cX7_cutAt 10 = .ok (.istore 6, 2) := by decide +kernel
theorem dX7_cutAt_12 : decode cX7_cutAt 12 = .ok (.iload 6, 2) := by decide +kernel
theorem dX7_cutAt_14 : decode cX7_cutAt 14 = .ok (.iload_n 3, 1) := by decide +kernel
theorem dX7_cutAt_15 : decode cX7_cutAt 15 = .ok (.if_icmp .gt 84, 3) := by decide +kernel
theorem dX7_cutAt_18 : decode cX7_cutAt 18 = .ok (.aload_n 0, 1) := by decide +kernel
theorem dX7_cutAt_19 : decode cX7_cutAt 19 = .ok (.iload_n 1, 1) := by decide +kernel
theorem dX7_cutAt_20 : decode cX7_cutAt 20 = .ok (.iload_n 2, 1) := by decide +kernel
theorem dX7_cutAt_21 : decode cX7_cutAt 21 = .ok (.iload 6, 2) := by decide +kernel
theorem dX7_cutAt_23 : decode cX7_cutAt 23 = .ok (.invokevirtual 51, 3) := by decide +kernel
theorem dX7_cutAt_26 : decode cX7_cutAt 26 = .ok (.aload_n 0, 1) := by decide +kernel
theorem dX7_cutAt_27 : decode cX7_cutAt 27 = .ok (.iload_n 1, 1) := by decide +kernel
theorem dX7_cutAt_28 : decode cX7_cutAt 28 = .ok (.iload 6, 2) := by decide +kernel
theorem dX7_cutAt_30 : decode cX7_cutAt 30 = .ok (.iload_n 3, 1) := by decide +kernel
theorem dX7_cutAt_31 : decode cX7_cutAt 31 = .ok (.iconst 1, 1) := by decide +kernel
theorem dX7_cutAt_32 : decode cX7_cutAt 32 = .ok (.iadd, 1) := by decide +kernel
theorem dX7_cutAt_33 : decode cX7_cutAt 33 = .ok (.invokevirtual 51, 3) := by decide +kernel
theorem dX7_cutAt_36 : decode cX7_cutAt 36 = .ok (.isub, 1) := by decide +kernel
theorem dX7_cutAt_37 : decode cX7_cutAt 37 = .ok (.istore 7, 2) := by decide +kernel
theorem dX7_cutAt_39 : decode cX7_cutAt 39 = .ok (.iload 7, 2) := by decide +kernel
theorem dX7_cutAt_41 : decode cX7_cutAt 41 = .ok (.ifCond .ge 9, 3) := by decide +kernel
theorem dX7_cutAt_44 : decode cX7_cutAt 44 = .ok (.iload 7, 2) := by decide +kernel
theorem dX7_cutAt_46 : decode cX7_cutAt 46 = .ok (.ineg, 1) := by decide +kernel
theorem dX7_cutAt_47 : decode cX7_cutAt 47 = .ok (.goto 5, 3) := by decide +kernel
theorem dX7_cutAt_50 : decode cX7_cutAt 50 = .ok (.iload 7, 2) := by decide +kernel
theorem dX7_cutAt_52 : decode cX7_cutAt 52 = .ok (.istore 7, 2) := by decide +kernel
theorem dX7_cutAt_54 : decode cX7_cutAt 54 = .ok (.iload 4, 2) := by decide +kernel
theorem dX7_cutAt_56 : decode cX7_cutAt 56 = .ok (.bipush (-9), 2) := by decide +kernel
theorem dX7_cutAt_58 : decode cX7_cutAt 58 = .ok (.if_icmp .eq 10, 3) := by decide +kernel
theorem dX7_cutAt_61 : decode cX7_cutAt 61 = .ok (.iload 7, 2) := by decide +kernel
theorem dX7_cutAt_63 : decode cX7_cutAt 63 = .ok (.iload 5, 2) := by decide +kernel
theorem dX7_cutAt_65 : decode cX7_cutAt 65 = .ok (.if_icmp .ge 8, 3) := by decide +kernel
theorem dX7_cutAt_68 : decode cX7_cutAt 68 = .ok (.iload 6, 2) := by decide +kernel
theorem dX7_cutAt_70 : decode cX7_cutAt 70 = .ok (.goto 5, 3) := by decide +kernel
theorem dX7_cutAt_73 : decode cX7_cutAt 73 = .ok (.iload 4, 2) := by decide +kernel
theorem dX7_cutAt_75 : decode cX7_cutAt 75 = .ok (.istore 4, 2) := by decide +kernel
theorem dX7_cutAt_77 : decode cX7_cutAt 77 = .ok (.iload 4, 2) := by decide +kernel
theorem dX7_cutAt_79 : decode cX7_cutAt 79 = .ok (.iload 6, 2) := by decide +kernel
theorem dX7_cutAt_81 : decode cX7_cutAt 81 = .ok (.if_icmp .ne 8, 3) := by decide +kernel
theorem dX7_cutAt_84 : decode cX7_cutAt 84 = .ok (.iload 7, 2) := by decide +kernel
theorem dX7_cutAt_86 : decode cX7_cutAt 86 = .ok (.goto 5, 3) := by decide +kernel
theorem dX7_cutAt_89 : decode cX7_cutAt 89 = .ok (.iload 5, 2) := by decide +kernel
theorem dX7_cutAt_91 : decode cX7_cutAt 91 = .ok (.istore 5, 2) := by decide +kernel
theorem dX7_cutAt_93 : decode cX7_cutAt 93 = .ok (.iinc 6 1, 3) := by decide +kernel
theorem dX7_cutAt_96 : decode cX7_cutAt 96 = .ok (.goto (-84), 3) := by decide +kernel
theorem dX7_cutAt_99 : decode cX7_cutAt 99 = .ok (.iload 4, 2) := by decide +kernel
theorem dX7_cutAt_101 : decode cX7_cutAt 101 = .ok (.ireturn, 1) := by decide +kernel
set_option maxRecDepth 20000 in
theorem ggX7_cut_X7_areGuests : GoodIn wsX7_cut wsX7_areGuests := goodIn_r _ [6, 7, 8, 9, 5, 10, 1, 11, 12, 13, 39, 40, 41, 42, 43, 44, 45, 46, 47, 48, 49, 50, 51, 52, 53, 54] (by decide +kernel) (by decide +kernel)
set_option maxRecDepth 20000 in
theorem gX7_cut_X7_areGuests : GoodIn wsX7_cut (wsV RX7 96 RX7 yX7_areGuests wsX7_areGuests) := goodIn_app (goodIn_of _ (by decide +kernel)) ggX7_cut_X7_areGuests
set_option maxRecDepth 20000 in
theorem ggX7_cut_X7_in : GoodIn wsX7_cut wsX7_in := goodIn_r _ [13] (by decide +kernel) (by decide +kernel)
set_option maxRecDepth 20000 in
theorem gX7_cut_X7_in : GoodIn wsX7_cut (va_wsS RX7 39 yX7_in wsX7_in) := goodIn_app (goodIn_of _ (by decide +kernel)) ggX7_cut_X7_in
set_option maxRecDepth 20000 in
theorem ggX7_cut_X7_records : GoodIn wsX7_cut wsX7_records := goodIn_r _ [17, 18, 19, 20, 21, 5, 22, 1, 39, 40, 41, 42, 43, 44, 45, 46, 47, 48, 49, 50, 51, 52, 53, 54] (by decide +kernel) (by decide +kernel)
set_option maxRecDepth 20000 in
theorem gX7_cut_X7_records : GoodIn wsX7_cut (wsV RX7 58 RX7 yX7_records wsX7_records) := goodIn_app (goodIn_of _ (by decide +kernel)) ggX7_cut_X7_records
set_option maxRecDepth 20000 in
theorem ggX7_cut_X7_cutAt : GoodIn wsX7_cut wsX7_cutAt := goodIn_r _ [26, 27, 28, 29, 5, 30, 31, 32, 33, 34, 1, 39, 40, 41, 42, 43, 44, 45, 46, 47, 48, 49, 50, 51, 52, 53, 54] (by decide +kernel) (by decide +kernel)
set_option maxRecDepth 20000 in
theorem gX7_cut_X7_cutAt : GoodIn wsX7_cut (wsV RX7 99 RX7 yX7_cutAt wsX7_cutAt) := goodIn_app (goodIn_of _ (by decide +kernel)) ggX7_cut_X7_cutAt
set_option maxRecDepth 20000 in
theorem ggX7_cut_X7_spanValue : GoodIn wsX7_cut wsX7_spanValue := goodIn_r _ [30, 31, 32, 33, 5, 34, 1, 39, 40, 41, 42, 43, 44, 45, 46, 47, 48, 49, 50, 51, 52, 53, 54] (by decide +kernel) (by decide +kernel)
set_option maxRecDepth 20000 in
theorem gX7_cut_X7_spanValue : GoodIn wsX7_cut (wsV RX7 51 RX7 yX7_spanValue wsX7_spanValue) := goodIn_app (goodIn_of _ (by decide +kernel)) ggX7_cut_X7_spanValue
set_option maxRecDepth 20000 in
theorem ggX7_cut_X7_brings : GoodIn wsX7_cut wsX7_brings := goodIn_r _ [38, 1, 39, 40, 41, 42, 43, 44, 45, 46, 47, 48, 49, 50, 51, 52, 53, 54] (by decide +kernel) (by decide +kernel)
set_option maxRecDepth 20000 in
theorem gX7_cut_X7_brings : GoodIn wsX7_cut (wsV RX7 82 RX7 yX7_brings wsX7_brings) := goodIn_app (goodIn_of _ (by decide +kernel)) ggX7_cut_X7_brings
theorem dX7_cut_0 : decode cX7_cut 0 = .ok (.aload_n 0, 1) := by decide +kernel
theorem dX7_cut_1 : decode cX7_cut 1 = .ok (.iload_n 1, 1) := by decide +kernel
theorem dX7_cut_2 : decode cX7_cut 2 = .ok (.iload_n 2, 1) := by decide +kernel
theorem dX7_cut_3 : decode cX7_cut 3 = .ok (.invokevirtual 96, 3) := by decide +kernel
theorem dX7_cut_6 : decode cX7_cut 6 = .ok (.ifCond .eq 26, 3) := by decide +kernel
theorem dX7_cut_9 : decode cX7_cut 9 = .ok (.iload_n 3, 1) := by decide +kernel
theorem dX7_cut_10 : decode cX7_cut 10 = .ok (.iconst 0, 1) := by decide +kernel
theorem dX7_cut_11 : decode cX7_cut 11 = .ok (.bipush 22, 2) := by decide +kernel
theorem dX7_cut_13 : decode cX7_cut 13 = .ok (.invokestatic 39, 3) := by decide +kernel
theorem dX7_cut_16 : decode cX7_cut 16 = .ok (.ifCond .eq 16, 3) := by decide +kernel
theorem dX7_cut_19 : decode cX7_cut 19 = .ok (.iload 4, 2) := by decide +kernel
theorem dX7_cut_21 : decode cX7_cut 21 = .ok (.iload_n 3, 1) := by decide +kernel
theorem dX7_cut_22 : decode cX7_cut 22 = .ok (.iconst 1, 1) := by decide +kernel
theorem dX7_cut_23 : decode cX7_cut 23 = .ok (.iadd, 1) := by decide +kernel
theorem dX7_cut_24 : decode cX7_cut 24 = .ok (.bipush 23, 2) := by decide +kernel
theorem dX7_cut_26 : decode cX7_cut 26 = .ok (.invokestatic 39, 3) := by decide +kernel
theorem dX7_cut_29 : decode cX7_cut 29 = .ok (.ifCond .ne 5, 3) := by decide +kernel
theorem dX7_cut_32 : decode cX7_cut 32 = .ok (.iconst (-1), 1) := by decide +kernel
theorem dX7_cut_33 : decode cX7_cut 33 = .ok (.ireturn, 1) := by decide +kernel
theorem dX7_cut_34 : decode cX7_cut 34 = .ok (.iload_n 3, 1) := by decide +kernel
theorem dX7_cut_35 : decode cX7_cut 35 = .ok (.istore 5, 2) := by decide +kernel
theorem dX7_cut_37 : decode cX7_cut 37 = .ok (.iload 5, 2) := by decide +kernel
theorem dX7_cut_39 : decode cX7_cut 39 = .ok (.iload 4, 2) := by decide +kernel
theorem dX7_cut_41 : decode cX7_cut 41 = .ok (.if_icmp .gt 26, 3) := by decide +kernel
theorem dX7_cut_44 : decode cX7_cut 44 = .ok (.aload_n 0, 1) := by decide +kernel
theorem dX7_cut_45 : decode cX7_cut 45 = .ok (.getfield 7, 3) := by decide +kernel
theorem dX7_cut_48 : decode cX7_cut 48 = .ok (.iconst 1, 1) := by decide +kernel
theorem dX7_cut_49 : decode cX7_cut 49 = .ok (.iload 5, 2) := by decide +kernel
theorem dX7_cut_51 : decode cX7_cut 51 = .ok (.iadd, 1) := by decide +kernel
theorem dX7_cut_52 : decode cX7_cut 52 = .ok (.iaload, 1) := by decide +kernel
theorem dX7_cut_53 : decode cX7_cut 53 = .ok (.bipush (-9), 2) := by decide +kernel
theorem dX7_cut_55 : decode cX7_cut 55 = .ok (.if_icmp .eq 6, 3) := by decide +kernel
theorem dX7_cut_58 : decode cX7_cut 58 = .ok (.bipush (-2), 2) := by decide +kernel
theorem dX7_cut_60 : decode cX7_cut 60 = .ok (.ireturn, 1) := by decide +kernel
theorem dX7_cut_61 : decode cX7_cut 61 = .ok (.iinc 5 1, 3) := by decide +kernel
theorem dX7_cut_64 : decode cX7_cut 64 = .ok (.goto (-27), 3) := by decide +kernel
theorem dX7_cut_67 : decode cX7_cut 67 = .ok (.aload_n 0, 1) := by decide +kernel
theorem dX7_cut_68 : decode cX7_cut 68 = .ok (.invokevirtual 58, 3) := by decide +kernel
theorem dX7_cut_71 : decode cX7_cut 71 = .ok (.aload_n 0, 1) := by decide +kernel
theorem dX7_cut_72 : decode cX7_cut 72 = .ok (.iload_n 1, 1) := by decide +kernel
theorem dX7_cut_73 : decode cX7_cut 73 = .ok (.iload_n 3, 1) := by decide +kernel
theorem dX7_cut_74 : decode cX7_cut 74 = .ok (.iload 4, 2) := by decide +kernel
theorem dX7_cut_76 : decode cX7_cut 76 = .ok (.invokevirtual 99, 3) := by decide +kernel
theorem dX7_cut_79 : decode cX7_cut 79 = .ok (.istore 5, 2) := by decide +kernel
theorem dX7_cut_81 : decode cX7_cut 81 = .ok (.aload_n 0, 1) := by decide +kernel
theorem dX7_cut_82 : decode cX7_cut 82 = .ok (.iload_n 2, 1) := by decide +kernel
theorem dX7_cut_83 : decode cX7_cut 83 = .ok (.iload_n 3, 1) := by decide +kernel
theorem dX7_cut_84 : decode cX7_cut 84 = .ok (.iload 5, 2) := by decide +kernel
theorem dX7_cut_86 : decode cX7_cut 86 = .ok (.invokevirtual 51, 3) := by decide +kernel
theorem dX7_cut_89 : decode cX7_cut 89 = .ok (.aload_n 0, 1) := by decide +kernel
theorem dX7_cut_90 : decode cX7_cut 90 = .ok (.iload_n 2, 1) := by decide +kernel
theorem dX7_cut_91 : decode cX7_cut 91 = .ok (.iload 5, 2) := by decide +kernel
theorem dX7_cut_93 : decode cX7_cut 93 = .ok (.iload 4, 2) := by decide +kernel
theorem dX7_cut_95 : decode cX7_cut 95 = .ok (.iconst 1, 1) := by decide +kernel
theorem dX7_cut_96 : decode cX7_cut 96 = .ok (.iadd, 1) := by decide +kernel
theorem dX7_cut_97 : decode cX7_cut 97 = .ok (.invokevirtual 51, 3) := by decide +kernel
theorem dX7_cut_100 : decode cX7_cut 100 = .ok (.if_icmp .lt 7, 3) := by decide +kernel
theorem dX7_cut_103 : decode cX7_cut 103 = .ok (.iconst 1, 1) := by decide +kernel
theorem dX7_cut_104 : decode cX7_cut 104 = .ok (.goto 4, 3) := by decide +kernel
theorem dX7_cut_107 : decode cX7_cut 107 = .ok (.iconst 0, 1) := by decide +kernel
theorem dX7_cut_108 : decode cX7_cut 108 = .ok (.istore 6, 2) := by decide +kernel
theorem dX7_cut_110 : decode cX7_cut 110 = .ok (.aload_n 0, 1) := by decide +kernel
theorem dX7_cut_111 : decode cX7_cut 111 = .ok (.iload_n 3, 1) := by decide +kernel
theorem dX7_cut_112 : decode cX7_cut 112 = .ok (.iload 5, 2) := by decide +kernel
theorem dX7_cut_114 : decode cX7_cut 114 = .ok (.iconst 1, 1) := by decide +kernel
theorem dX7_cut_115 : decode cX7_cut 115 = .ok (.isub, 1) := by decide +kernel
theorem dX7_cut_116 : decode cX7_cut 116 = .ok (.iconst 1, 1) := by decide +kernel
theorem dX7_cut_117 : decode cX7_cut 117 = .ok (.iload 6, 2) := by decide +kernel
theorem dX7_cut_119 : decode cX7_cut 119 = .ok (.ifCond .eq 7, 3) := by decide +kernel
theorem dX7_cut_122 : decode cX7_cut 122 = .ok (.iload_n 2, 1) := by decide +kernel
theorem dX7_cut_123 : decode cX7_cut 123 = .ok (.goto 4, 3) := by decide +kernel
theorem dX7_cut_126 : decode cX7_cut 126 = .ok (.iload_n 1, 1) := by decide +kernel
theorem dX7_cut_127 : decode cX7_cut 127 = .ok (.invokevirtual 82, 3) := by decide +kernel
theorem dX7_cut_130 : decode cX7_cut 130 = .ok (.pop, 1) := by decide +kernel
theorem dX7_cut_131 : decode cX7_cut 131 = .ok (.aload_n 0, 1) := by decide +kernel
theorem dX7_cut_132 : decode cX7_cut 132 = .ok (.iload 5, 2) := by decide +kernel
theorem dX7_cut_134 : decode cX7_cut 134 = .ok (.iload 4, 2) := by decide +kernel
theorem dX7_cut_136 : decode cX7_cut 136 = .ok (.iconst 1, 1) := by decide +kernel
theorem dX7_cut_137 : decode cX7_cut 137 = .ok (.iload 6, 2) := by decide +kernel
theorem dX7_cut_139 : decode cX7_cut 139 = .ok (.ifCond .eq 7, 3) := by decide +kernel
theorem dX7_cut_142 : decode cX7_cut 142 = .ok (.iload_n 1, 1) := by decide +kernel
theorem dX7_cut_143 : decode cX7_cut 143 = .ok (.goto 4, 3) := by decide +kernel
theorem dX7_cut_146 : decode cX7_cut 146 = .ok (.iload_n 2, 1) := by decide +kernel
theorem dX7_cut_147 : decode cX7_cut 147 = .ok (.invokevirtual 82, 3) := by decide +kernel
theorem dX7_cut_150 : decode cX7_cut 150 = .ok (.pop, 1) := by decide +kernel
theorem dX7_cut_151 : decode cX7_cut 151 = .ok (.iload 5, 2) := by decide +kernel
theorem dX7_cut_153 : decode cX7_cut 153 = .ok (.ireturn, 1) := by decide +kernel
set_option maxRecDepth 20000 in
theorem ggX7_trim_X7_areGuests : GoodIn wsX7_trim wsX7_areGuests := goodIn_r _ [6, 7, 8, 9, 5, 10, 1, 11, 12, 13, 35, 36, 37, 38, 39, 40, 41, 42, 43, 44, 45, 46, 47, 48, 49, 50] (by decide +kernel) (by decide +kernel)
set_option maxRecDepth 20000 in
theorem gX7_trim_X7_areGuests : GoodIn wsX7_trim (wsV RX7 96 RX7 yX7_areGuests wsX7_areGuests) := goodIn_app (goodIn_of _ (by decide +kernel)) ggX7_trim_X7_areGuests
set_option maxRecDepth 20000 in
theorem ggX7_trim_X7_records : GoodIn wsX7_trim wsX7_records := goodIn_r _ [17, 18, 19, 20, 21, 5, 22, 1, 35, 36, 37, 38, 39, 40, 41, 42, 43, 44, 45, 46, 47, 48, 49, 50] (by decide +kernel) (by decide +kernel)
set_option maxRecDepth 20000 in
theorem gX7_trim_X7_records : GoodIn wsX7_trim (wsV RX7 58 RX7 yX7_records wsX7_records) := goodIn_app (goodIn_of _ (by decide +kernel)) ggX7_trim_X7_records
set_option maxRecDepth 20000 in
theorem ggX7_trim_X7_envyOf : GoodIn wsX7_trim wsX7_envyOf := goodIn_r _ [26, 27, 28, 29, 5, 30, 1, 31, 32, 33, 34, 35, 36, 37, 38, 39, 40, 41, 42, 43, 44, 45, 46, 47, 48, 49, 50] (by decide +kernel) (by decide +kernel)
set_option maxRecDepth 20000 in
theorem gX7_trim_X7_envyOf : GoodIn wsX7_trim (wsV RX7 102 RX7 yX7_envyOf wsX7_envyOf) := goodIn_app (goodIn_of _ (by decide +kernel)) ggX7_trim_X7_envyOf
theorem dX7_trim_0 : decode cX7_trim 0 = .ok (.aload_n 0, 1) := by decide +kernel
theorem dX7_trim_1 : decode cX7_trim 1 = .ok (.iload_n 1, 1) := by decide +kernel
theorem dX7_trim_2 : decode cX7_trim 2 = .ok (.iload_n 2, 1) := by decide +kernel
theorem dX7_trim_3 : decode cX7_trim 3 = .ok (.invokevirtual 96, 3) := by decide +kernel
theorem dX7_trim_6 : decode cX7_trim 6 = .ok (.ifCond .ne 5, 3) := by decide +kernel
theorem dX7_trim_9 : decode cX7_trim 9 = .ok (.iconst (-1), 1) := by decide +kernel
theorem dX7_trim_10 : decode cX7_trim 10 = .ok (.ireturn, 1) := by decide +kernel
theorem dX7_trim_11 : decode cX7_trim 11 = .ok (.aload_n 0, 1) := by decide +kernel
theorem dX7_trim_12 : decode cX7_trim 12 = .ok (.invokevirtual 58, 3) := by decide +kernel
theorem dX7_trim_15 : decode cX7_trim 15 = .ok (.iconst 0, 1) := by decide +kernel
theorem dX7_trim_16 : decode cX7_trim 16 = .ok (.istore_n 3, 1) := by decide +kernel
theorem dX7_trim_17 : decode cX7_trim 17 = .ok (.bipush 23, 2) := by decide +kernel
theorem dX7_trim_19 : decode cX7_trim 19 = .ok (.istore 4, 2) := by decide +kernel
theorem dX7_trim_21 : decode cX7_trim 21 = .ok (.iload 4, 2) := by decide +kernel
theorem dX7_trim_23 : decode cX7_trim 23 = .ok (.ifCond .lt 45, 3) := by decide +kernel
theorem dX7_trim_26 : decode cX7_trim 26 = .ok (.aload_n 0, 1) := by decide +kernel
theorem dX7_trim_27 : decode cX7_trim 27 = .ok (.getfield 7, 3) := by decide +kernel
theorem dX7_trim_30 : decode cX7_trim 30 = .ok (.iconst 1, 1) := by decide +kernel
theorem dX7_trim_31 : decode cX7_trim 31 = .ok (.iload 4, 2) := by decide +kernel
theorem dX7_trim_33 : decode cX7_trim 33 = .ok (.iadd, 1) := by decide +kernel
theorem dX7_trim_34 : decode cX7_trim 34 = .ok (.iaload, 1) := by decide +kernel
theorem dX7_trim_35 : decode cX7_trim 35 = .ok (.iload_n 1, 1) := by decide +kernel
theorem dX7_trim_36 : decode cX7_trim 36 = .ok (.if_icmp .ne 26, 3) := by decide +kernel
theorem dX7_trim_39 : decode cX7_trim 39 = .ok (.aload_n 0, 1) := by decide +kernel
theorem dX7_trim_40 : decode cX7_trim 40 = .ok (.iload_n 2, 1) := by decide +kernel
theorem dX7_trim_41 : decode cX7_trim 41 = .ok (.iload_n 1, 1) := by decide +kernel
theorem dX7_trim_42 : decode cX7_trim 42 = .ok (.invokevirtual 102, 3) := by decide +kernel
theorem dX7_trim_45 : decode cX7_trim 45 = .ok (.ifCond .le 17, 3) := by decide +kernel
theorem dX7_trim_48 : decode cX7_trim 48 = .ok (.aload_n 0, 1) := by decide +kernel
theorem dX7_trim_49 : decode cX7_trim 49 = .ok (.getfield 7, 3) := by decide +kernel
theorem dX7_trim_52 : decode cX7_trim 52 = .ok (.iconst 1, 1) := by decide +kernel
theorem dX7_trim_53 : decode cX7_trim 53 = .ok (.iload 4, 2) := by decide +kernel
theorem dX7_trim_55 : decode cX7_trim 55 = .ok (.iadd, 1) := by decide +kernel
theorem dX7_trim_56 : decode cX7_trim 56 = .ok (.bipush (-9), 2) := by decide +kernel
theorem dX7_trim_58 : decode cX7_trim 58 = .ok (.iastore, 1) := by decide +kernel
theorem dX7_trim_59 : decode cX7_trim 59 = .ok (.iinc 3 1, 3) := by decide +kernel
theorem dX7_trim_62 : decode cX7_trim 62 = .ok (.iinc 4 (-1), 3) := by decide +kernel
theorem dX7_trim_65 : decode cX7_trim 65 = .ok (.goto (-44), 3) := by decide +kernel
theorem dX7_trim_68 : decode cX7_trim 68 = .ok (.iload_n 3, 1) := by decide +kernel
theorem dX7_trim_69 : decode cX7_trim 69 = .ok (.ireturn, 1) := by decide +kernel
set_option maxRecDepth 20000 in
theorem ggX7_isRing_X7_envyOf : GoodIn wsX7_isRing wsX7_envyOf := goodIn_r _ [7, 8, 9, 10, 6, 11, 2, 12, 13, 14, 15, 16, 17, 18, 19, 20, 21, 22, 23, 24, 25, 26, 27, 28, 29, 30, 31] (by decide +kernel) (by decide +kernel)
set_option maxRecDepth 20000 in
theorem gX7_isRing_X7_envyOf : GoodIn wsX7_isRing (wsV RX7 102 RX7 yX7_envyOf wsX7_envyOf) := goodIn_app (goodIn_of _ (by decide +kernel)) ggX7_isRing_X7_envyOf
theorem dX7_isRing_0 : decode cX7_isRing 0 = .ok (.iload_n 1, 1) := by decide +kernel
theorem dX7_isRing_1 : decode cX7_isRing 1 = .ok (.istore_n 3, 1) := by decide +kernel
theorem dX7_isRing_2 : decode cX7_isRing 2 = .ok (.iconst 0, 1) := by decide +kernel
theorem dX7_isRing_3 : decode cX7_isRing 3 = .ok (.istore 4, 2) := by decide +kernel
theorem dX7_isRing_5 : decode cX7_isRing 5 = .ok (.iload_n 2, 1) := by decide +kernel
theorem dX7_isRing_6 : decode cX7_isRing 6 = .ok (.iconst 1, 1) := by decide +kernel
theorem dX7_isRing_7 : decode cX7_isRing 7 = .ok (.isub, 1) := by decide +kernel
theorem dX7_isRing_8 : decode cX7_isRing 8 = .ok (.istore 5, 2) := by decide +kernel
theorem dX7_isRing_10 : decode cX7_isRing 10 = .ok (.iload 5, 2) := by decide +kernel
theorem dX7_isRing_12 : decode cX7_isRing 12 = .ok (.ifCond .lt 37, 3) := by decide +kernel
theorem dX7_isRing_15 : decode cX7_isRing 15 = .ok (.aload_n 0, 1) := by decide +kernel
theorem dX7_isRing_16 : decode cX7_isRing 16 = .ok (.getfield 19, 3) := by decide +kernel
theorem dX7_isRing_19 : decode cX7_isRing 19 = .ok (.iload 5, 2) := by decide +kernel
theorem dX7_isRing_21 : decode cX7_isRing 21 = .ok (.iload_n 3, 1) := by decide +kernel
theorem dX7_isRing_22 : decode cX7_isRing 22 = .ok (.iconst 4, 1) := by decide +kernel
theorem dX7_isRing_23 : decode cX7_isRing 23 = .ok (.irem, 1) := by decide +kernel
theorem dX7_isRing_24 : decode cX7_isRing 24 = .ok (.iastore, 1) := by decide +kernel
theorem dX7_isRing_25 : decode cX7_isRing 25 = .ok (.iload_n 3, 1) := by decide +kernel
theorem dX7_isRing_26 : decode cX7_isRing 26 = .ok (.iconst 4, 1) := by decide +kernel
theorem dX7_isRing_27 : decode cX7_isRing 27 = .ok (.idiv, 1) := by decide +kernel
theorem dX7_isRing_28 : decode cX7_isRing 28 = .ok (.istore_n 3, 1) := by decide +kernel
theorem dX7_isRing_29 : decode cX7_isRing 29 = .ok (.iload 4, 2) := by decide +kernel
theorem dX7_isRing_31 : decode cX7_isRing 31 = .ok (.iconst 1, 1) := by decide +kernel
theorem dX7_isRing_32 : decode cX7_isRing 32 = .ok (.aload_n 0, 1) := by decide +kernel
theorem dX7_isRing_33 : decode cX7_isRing 33 = .ok (.getfield 19, 3) := by decide +kernel
theorem dX7_isRing_36 : decode cX7_isRing 36 = .ok (.iload 5, 2) := by decide +kernel
theorem dX7_isRing_38 : decode cX7_isRing 38 = .ok (.iaload, 1) := by decide +kernel
theorem dX7_isRing_39 : decode cX7_isRing 39 = .ok (.ishl, 1) := by decide +kernel
theorem dX7_isRing_40 : decode cX7_isRing 40 = .ok (.ior, 1) := by decide +kernel
theorem dX7_isRing_41 : decode cX7_isRing 41 = .ok (.istore 4, 2) := by decide +kernel
theorem dX7_isRing_43 : decode cX7_isRing 43 = .ok (.iinc 5 (-1), 3) := by decide +kernel
theorem dX7_isRing_46 : decode cX7_isRing 46 = .ok (.goto (-36), 3) := by decide +kernel
theorem dX7_isRing_49 : decode cX7_isRing 49 = .ok (.iconst 0, 1) := by decide +kernel
theorem dX7_isRing_50 : decode cX7_isRing 50 = .ok (.istore 5, 2) := by decide +kernel
theorem dX7_isRing_52 : decode cX7_isRing 52 = .ok (.iconst 1, 1) := by decide +kernel
theorem dX7_isRing_53 : decode cX7_isRing 53 = .ok (.istore 6, 2) := by decide +kernel
theorem dX7_isRing_55 : decode cX7_isRing 55 = .ok (.iconst 0, 1) := by decide +kernel
theorem dX7_isRing_56 : decode cX7_isRing 56 = .ok (.istore 7, 2) := by decide +kernel
theorem dX7_isRing_58 : decode cX7_isRing 58 = .ok (.iload 7, 2) := by decide +kernel
theorem dX7_isRing_60 : decode cX7_isRing 60 = .ok (.iload_n 2, 1) := by decide +kernel
theorem dX7_isRing_61 : decode cX7_isRing 61 = .ok (.if_icmp .ge 65, 3) := by decide +kernel
theorem dX7_isRing_64 : decode cX7_isRing 64 = .ok (.iload 5, 2) := by decide +kernel
theorem dX7_isRing_66 : decode cX7_isRing 66 = .ok (.iload 4, 2) := by decide +kernel
theorem dX7_isRing_68 : decode cX7_isRing 68 = .ok (.iload 7, 2) := by decide +kernel
theorem dX7_isRing_70 : decode cX7_isRing 70 = .ok (.ishr, 1) := by decide +kernel
theorem dX7_isRing_71 : decode cX7_isRing 71 = .ok (.iconst 1, 1) := by decide +kernel
theorem dX7_isRing_72 : decode cX7_isRing 72 = .ok (.iand, 1) := by decide +kernel
theorem dX7_isRing_73 : decode cX7_isRing 73 = .ok (.iadd, 1) := by decide +kernel
theorem dX7_isRing_74 : decode cX7_isRing 74 = .ok (.istore 5, 2) := by decide +kernel
theorem dX7_isRing_76 : decode cX7_isRing 76 = .ok (.iload 6, 2) := by decide +kernel
theorem dX7_isRing_78 : decode cX7_isRing 78 = .ok (.ifCond .eq 39, 3) := by decide +kernel
theorem dX7_isRing_81 : decode cX7_isRing 81 = .ok (.aload_n 0, 1) := by decide +kernel
theorem dX7_isRing_82 : decode cX7_isRing 82 = .ok (.getfield 19, 3) := by decide +kernel
theorem dX7_isRing_85 : decode cX7_isRing 85 = .ok (.iload 7, 2) := by decide +kernel
theorem dX7_isRing_87 : decode cX7_isRing 87 = .ok (.iaload, 1) := by decide +kernel
theorem dX7_isRing_88 : decode cX7_isRing 88 = .ok (.aload_n 0, 1) := by decide +kernel
theorem dX7_isRing_89 : decode cX7_isRing 89 = .ok (.getfield 7, 3) := by decide +kernel
theorem dX7_isRing_92 : decode cX7_isRing 92 = .ok (.iconst 0, 1) := by decide +kernel
theorem dX7_isRing_93 : decode cX7_isRing 93 = .ok (.iaload, 1) := by decide +kernel
theorem dX7_isRing_94 : decode cX7_isRing 94 = .ok (.if_icmp .ge 23, 3) := by decide +kernel
theorem dX7_isRing_97 : decode cX7_isRing 97 = .ok (.aload_n 0, 1) := by decide +kernel
theorem dX7_isRing_98 : decode cX7_isRing 98 = .ok (.getfield 19, 3) := by decide +kernel
theorem dX7_isRing_101 : decode cX7_isRing 101 = .ok (.iload 7, 2) := by decide +kernel
theorem dX7_isRing_103 : decode cX7_isRing 103 = .ok (.iaload, 1) := by decide +kernel
theorem dX7_isRing_104 : decode cX7_isRing 104 = .ok (.aload_n 0, 1) := by decide +kernel
theorem dX7_isRing_105 : decode cX7_isRing 105 = .ok (.getfield 19, 3) := by decide +kernel
theorem dX7_isRing_108 : decode cX7_isRing 108 = .ok (.iconst 0, 1) := by decide +kernel
theorem dX7_isRing_109 : decode cX7_isRing 109 = .ok (.iaload, 1) := by decide +kernel
theorem dX7_isRing_110 : decode cX7_isRing 110 = .ok (.if_icmp .lt 7, 3) := by decide +kernel
theorem dX7_isRing_113 : decode cX7_isRing 113 = .ok (.iconst 1, 1) := by decide +kernel
theorem dX7_isRing_114 : decode cX7_isRing 114 = .ok (.goto 4, 3) := by decide +kernel
theorem dX7_isRing_117 : decode cX7_isRing 117 = .ok (.iconst 0, 1) := by decide +kernel
theorem dX7_isRing_118 : decode cX7_isRing 118 = .ok (.istore 6, 2) := by decide +kernel
theorem dX7_isRing_120 : decode cX7_isRing 120 = .ok (.iinc 7 1, 3) := by decide +kernel
theorem dX7_isRing_123 : decode cX7_isRing 123 = .ok (.goto (-65), 3) := by decide +kernel
theorem dX7_isRing_126 : decode cX7_isRing 126 = .ok (.iload_n 2, 1) := by decide +kernel
theorem dX7_isRing_127 : decode cX7_isRing 127 = .ok (.istore 7, 2) := by decide +kernel
theorem dX7_isRing_129 : decode cX7_isRing 129 = .ok (.iload 7, 2) := by decide +kernel
theorem dX7_isRing_131 : decode cX7_isRing 131 = .ok (.iconst 4, 1) := by decide +kernel
theorem dX7_isRing_132 : decode cX7_isRing 132 = .ok (.if_icmp .ge 21, 3) := by decide +kernel
theorem dX7_isRing_135 : decode cX7_isRing 135 = .ok (.iload 5, 2) := by decide +kernel
theorem dX7_isRing_137 : decode cX7_isRing 137 = .ok (.iload 4, 2) := by decide +kernel
theorem dX7_isRing_139 : decode cX7_isRing 139 = .ok (.iload 7, 2) := by decide +kernel
theorem dX7_isRing_141 : decode cX7_isRing 141 = .ok (.ishr, 1) := by decide +kernel
theorem dX7_isRing_142 : decode cX7_isRing 142 = .ok (.iconst 1, 1) := by decide +kernel
theorem dX7_isRing_143 : decode cX7_isRing 143 = .ok (.iand, 1) := by decide +kernel
theorem dX7_isRing_144 : decode cX7_isRing 144 = .ok (.iadd, 1) := by decide +kernel
theorem dX7_isRing_145 : decode cX7_isRing 145 = .ok (.istore 5, 2) := by decide +kernel
theorem dX7_isRing_147 : decode cX7_isRing 147 = .ok (.iinc 7 1, 3) := by decide +kernel
theorem dX7_isRing_150 : decode cX7_isRing 150 = .ok (.goto (-21), 3) := by decide +kernel
theorem dX7_isRing_153 : decode cX7_isRing 153 = .ok (.iload 6, 2) := by decide +kernel
theorem dX7_isRing_155 : decode cX7_isRing 155 = .ok (.ifCond .eq 13, 3) := by decide +kernel
theorem dX7_isRing_158 : decode cX7_isRing 158 = .ok (.iload 5, 2) := by decide +kernel
theorem dX7_isRing_160 : decode cX7_isRing 160 = .ok (.iload_n 2, 1) := by decide +kernel
theorem dX7_isRing_161 : decode cX7_isRing 161 = .ok (.if_icmp .ne 7, 3) := by decide +kernel
theorem dX7_isRing_164 : decode cX7_isRing 164 = .ok (.iconst 1, 1) := by decide +kernel
theorem dX7_isRing_165 : decode cX7_isRing 165 = .ok (.goto 4, 3) := by decide +kernel
theorem dX7_isRing_168 : decode cX7_isRing 168 = .ok (.iconst 0, 1) := by decide +kernel
theorem dX7_isRing_169 : decode cX7_isRing 169 = .ok (.istore 6, 2) := by decide +kernel
theorem dX7_isRing_171 : decode cX7_isRing 171 = .ok (.iconst 0, 1) := by decide +kernel
theorem dX7_isRing_172 : decode cX7_isRing 172 = .ok (.istore 7, 2) := by decide +kernel
theorem dX7_isRing_174 : decode cX7_isRing 174 = .ok (.iload 7, 2) := by decide +kernel
theorem dX7_isRing_176 : decode cX7_isRing 176 = .ok (.iload_n 2, 1) := by decide +kernel
theorem dX7_isRing_177 : decode cX7_isRing 177 = .ok (.if_icmp .ge 46, 3) := by decide +kernel
theorem dX7_isRing_180 : decode cX7_isRing 180 = .ok (.iload 6, 2) := by decide +kernel
theorem dX7_isRing_182 : decode cX7_isRing 182 = .ok (.ifCond .eq 41, 3) := by decide +kernel
theorem dX7_isRing_185 : decode cX7_isRing 185 = .ok (.aload_n 0, 1) := by decide +kernel
theorem dX7_isRing_186 : decode cX7_isRing 186 = .ok (.aload_n 0, 1) := by decide +kernel
theorem dX7_isRing_187 : decode cX7_isRing 187 = .ok (.getfield 19, 3) := by decide +kernel
theorem dX7_isRing_190 : decode cX7_isRing 190 = .ok (.iload 7, 2) := by decide +kernel
theorem dX7_isRing_192 : decode cX7_isRing 192 = .ok (.iaload, 1) := by decide +kernel
theorem dX7_isRing_193 : decode cX7_isRing 193 = .ok (.aload_n 0, 1) := by decide +kernel
theorem dX7_isRing_194 : decode cX7_isRing 194 = .ok (.getfield 19, 3) := by decide +kernel
theorem dX7_isRing_197 : decode cX7_isRing 197 = .ok (.iload 7, 2) := by decide +kernel
theorem dX7_isRing_199 : decode cX7_isRing 199 = .ok (.iconst 1, 1) := by decide +kernel
theorem dX7_isRing_200 : decode cX7_isRing 200 = .ok (.iadd, 1) := by decide +kernel
theorem dX7_isRing_201 : decode cX7_isRing 201 = .ok (.iload_n 2, 1) := by decide +kernel
theorem dX7_isRing_202 : decode cX7_isRing 202 = .ok (.irem, 1) := by decide +kernel
theorem dX7_isRing_203 : decode cX7_isRing 203 = .ok (.iaload, 1) := by decide +kernel
theorem dX7_isRing_204 : decode cX7_isRing 204 = .ok (.invokevirtual 102, 3) := by decide +kernel
theorem dX7_isRing_207 : decode cX7_isRing 207 = .ok (.ifCond .le 7, 3) := by decide +kernel
theorem dX7_isRing_210 : decode cX7_isRing 210 = .ok (.iconst 1, 1) := by decide +kernel
theorem dX7_isRing_211 : decode cX7_isRing 211 = .ok (.goto 4, 3) := by decide +kernel
theorem dX7_isRing_214 : decode cX7_isRing 214 = .ok (.iconst 0, 1) := by decide +kernel
theorem dX7_isRing_215 : decode cX7_isRing 215 = .ok (.istore 6, 2) := by decide +kernel
theorem dX7_isRing_217 : decode cX7_isRing 217 = .ok (.iinc 7 1, 3) := by decide +kernel
theorem dX7_isRing_220 : decode cX7_isRing 220 = .ok (.goto (-46), 3) := by decide +kernel
theorem dX7_isRing_223 : decode cX7_isRing 223 = .ok (.iload 6, 2) := by decide +kernel
theorem dX7_isRing_225 : decode cX7_isRing 225 = .ok (.ireturn, 1) := by decide +kernel
set_option maxRecDepth 20000 in
theorem ggX7_layRing_X7_isRing : GoodIn wsX7_layRing wsX7_isRing := goodIn_r _ [6, 7, 1, 8, 9, 10, 5, 11, 12, 13, 14, 15, 16, 17, 18, 19, 20, 21, 22, 23, 24, 25, 26, 27, 28, 29, 30, 31, 32, 33, 34, 35] (by decide +kernel) (by decide +kernel)
set_option maxRecDepth 20000 in
theorem gX7_layRing_X7_isRing : GoodIn wsX7_layRing (wsV RX7 105 RX7 yX7_isRing wsX7_isRing) := goodIn_app (goodIn_of _ (by decide +kernel)) ggX7_layRing_X7_isRing
theorem dX7_layRing_0 : decode cX7_layRing 0 = .ok (.iconst 2, 1) := by decide +kernel
theorem dX7_layRing_1 : decode cX7_layRing 1 = .ok (.istore_n 1, 1) := by decide +kernel
theorem dX7_layRing_2 : decode cX7_layRing 2 = .ok (.iload_n 1, 1) := by decide +kernel
theorem dX7_layRing_3 : decode cX7_layRing 3 = .ok (.aload_n 0, 1) := by decide +kernel
theorem dX7_layRing_4 : decode cX7_layRing 4 = .ok (.getfield 7, 3) := by decide +kernel
theorem dX7_layRing_7 : decode cX7_layRing 7 = .ok (.iconst 0, 1) := by decide +kernel
theorem dX7_layRing_8 : decode cX7_layRing 8 = .ok (.iaload, 1) := by decide +kernel
theorem dX7_layRing_9 : decode cX7_layRing 9 = .ok (.if_icmp .gt 57, 3) := by decide +kernel
theorem dX7_layRing_12 : decode cX7_layRing 12 = .ok (.iload_n 1, 1) := by decide +kernel
theorem dX7_layRing_13 : decode cX7_layRing 13 = .ok (.iconst 2, 1) := by decide +kernel
theorem dX7_layRing_14 : decode cX7_layRing 14 = .ok (.if_icmp .ne 8, 3) := by decide +kernel
theorem dX7_layRing_17 : decode cX7_layRing 17 = .ok (.bipush 16, 2) := by decide +kernel
theorem dX7_layRing_19 : decode cX7_layRing 19 = .ok (.goto 16, 3) := by decide +kernel
theorem dX7_layRing_22 : decode cX7_layRing 22 = .ok (.iload_n 1, 1) := by decide +kernel
theorem dX7_layRing_23 : decode cX7_layRing 23 = .ok (.iconst 3, 1) := by decide +kernel
theorem dX7_layRing_24 : decode cX7_layRing 24 = .ok (.if_icmp .ne 8, 3) := by decide +kernel
theorem dX7_layRing_27 : decode cX7_layRing 27 = .ok (.bipush 64, 2) := by decide +kernel
theorem dX7_layRing_29 : decode cX7_layRing 29 = .ok (.goto 6, 3) := by decide +kernel
theorem dX7_layRing_32 : decode cX7_layRing 32 = .ok (.sipush 256, 3) := by decide +kernel
theorem dX7_layRing_35 : decode cX7_layRing 35 = .ok (.istore_n 2, 1) := by decide +kernel
theorem dX7_layRing_36 : decode cX7_layRing 36 = .ok (.iconst 0, 1) := by decide +kernel
theorem dX7_layRing_37 : decode cX7_layRing 37 = .ok (.istore_n 3, 1) := by decide +kernel
theorem dX7_layRing_38 : decode cX7_layRing 38 = .ok (.iload_n 3, 1) := by decide +kernel
theorem dX7_layRing_39 : decode cX7_layRing 39 = .ok (.iload_n 2, 1) := by decide +kernel
theorem dX7_layRing_40 : decode cX7_layRing 40 = .ok (.if_icmp .ge 20, 3) := by decide +kernel
theorem dX7_layRing_43 : decode cX7_layRing 43 = .ok (.aload_n 0, 1) := by decide +kernel
theorem dX7_layRing_44 : decode cX7_layRing 44 = .ok (.iload_n 3, 1) := by decide +kernel
theorem dX7_layRing_45 : decode cX7_layRing 45 = .ok (.iload_n 1, 1) := by decide +kernel
theorem dX7_layRing_46 : decode cX7_layRing 46 = .ok (.invokevirtual 105, 3) := by decide +kernel
theorem dX7_layRing_49 : decode cX7_layRing 49 = .ok (.ifCond .eq 5, 3) := by decide +kernel
theorem dX7_layRing_52 : decode cX7_layRing 52 = .ok (.iload_n 1, 1) := by decide +kernel
theorem dX7_layRing_53 : decode cX7_layRing 53 = .ok (.ireturn, 1) := by decide +kernel
theorem dX7_layRing_54 : decode cX7_layRing 54 = .ok (.iinc 3 1, 3) := by decide +kernel
theorem dX7_layRing_57 : decode cX7_layRing 57 = .ok (.goto (-19), 3) := by decide +kernel
theorem dX7_layRing_60 : decode cX7_layRing 60 = .ok (.iinc 1 1, 3) := by decide +kernel
theorem dX7_layRing_63 : decode cX7_layRing 63 = .ok (.goto (-61), 3) := by decide +kernel
theorem dX7_layRing_66 : decode cX7_layRing 66 = .ok (.iconst 0, 1) := by decide +kernel
theorem dX7_layRing_67 : decode cX7_layRing 67 = .ok (.ireturn, 1) := by decide +kernel
set_option maxRecDepth 20000 in
theorem ggX7_exchange_X7_layRing : GoodIn wsX7_exchange wsX7_layRing := goodIn_r _ [7, 1, 8, 9, 10, 6, 11, 2, 12, 13, 14, 15, 16, 17, 18, 19, 20, 21, 22, 23, 33, 34, 35, 36, 37, 38, 39, 40, 41, 42, 43, 44, 45, 46, 47, 48] (by decide +kernel) (by decide +kernel)
set_option maxRecDepth 20000 in
theorem gX7_exchange_X7_layRing : GoodIn wsX7_exchange (wsV RX7 108 RX7 yX7_layRing wsX7_layRing) := goodIn_app (goodIn_of _ (by decide +kernel)) ggX7_exchange_X7_layRing
set_option maxRecDepth 20000 in
theorem ggX7_exchange_X7_records : GoodIn wsX7_exchange wsX7_records := goodIn_r _ [27, 28, 29, 30, 31, 6, 32, 1, 33, 34, 35, 36, 37, 38, 39, 40, 41, 42, 43, 44, 45, 46, 47, 48] (by decide +kernel) (by decide +kernel)
set_option maxRecDepth 20000 in
theorem gX7_exchange_X7_records : GoodIn wsX7_exchange (wsV RX7 58 RX7 yX7_records wsX7_records) := goodIn_app (goodIn_of _ (by decide +kernel)) ggX7_exchange_X7_records
theorem dX7_exchange_0 : decode cX7_exchange 0 = .ok (.aload_n 0, 1) := by decide +kernel
theorem dX7_exchange_1 : decode cX7_exchange 1 = .ok (.invokevirtual 108, 3) := by decide +kernel
theorem dX7_exchange_4 : decode cX7_exchange 4 = .ok (.istore_n 1, 1) := by decide +kernel
theorem dX7_exchange_5 : decode cX7_exchange 5 = .ok (.iload_n 1, 1) := by decide +kernel
theorem dX7_exchange_6 : decode cX7_exchange 6 = .ok (.ifCond .ne 6, 3) := by decide +kernel
theorem dX7_exchange_9 : decode cX7_exchange 9 = .ok (.bipush (-2), 2) := by decide +kernel
theorem dX7_exchange_11 : decode cX7_exchange 11 = .ok (.ireturn, 1) := by decide +kernel
theorem dX7_exchange_12 : decode cX7_exchange 12 = .ok (.aload_n 0, 1) := by decide +kernel
theorem dX7_exchange_13 : decode cX7_exchange 13 = .ok (.invokevirtual 58, 3) := by decide +kernel
theorem dX7_exchange_16 : decode cX7_exchange 16 = .ok (.iconst 0, 1) := by decide +kernel
theorem dX7_exchange_17 : decode cX7_exchange 17 = .ok (.istore_n 2, 1) := by decide +kernel
theorem dX7_exchange_18 : decode cX7_exchange 18 = .ok (.iload_n 2, 1) := by decide +kernel
theorem dX7_exchange_19 : decode cX7_exchange 19 = .ok (.bipush 24, 2) := by decide +kernel
theorem dX7_exchange_21 : decode cX7_exchange 21 = .ok (.if_icmp .ge 74, 3) := by decide +kernel
theorem dX7_exchange_24 : decode cX7_exchange 24 = .ok (.aload_n 0, 1) := by decide +kernel
theorem dX7_exchange_25 : decode cX7_exchange 25 = .ok (.getfield 7, 3) := by decide +kernel
theorem dX7_exchange_28 : decode cX7_exchange 28 = .ok (.iconst 1, 1) := by decide +kernel
theorem dX7_exchange_29 : decode cX7_exchange 29 = .ok (.iload_n 2, 1) := by decide +kernel
theorem dX7_exchange_30 : decode cX7_exchange 30 = .ok (.iadd, 1) := by decide +kernel
theorem dX7_exchange_31 : decode cX7_exchange 31 = .ok (.iaload, 1) := by decide +kernel
theorem dX7_exchange_32 : decode cX7_exchange 32 = .ok (.istore_n 3, 1) := by decide +kernel
theorem dX7_exchange_33 : decode cX7_exchange 33 = .ok (.iconst 0, 1) := by decide +kernel
theorem dX7_exchange_34 : decode cX7_exchange 34 = .ok (.istore 4, 2) := by decide +kernel
theorem dX7_exchange_36 : decode cX7_exchange 36 = .ok (.iload 4, 2) := by decide +kernel
theorem dX7_exchange_38 : decode cX7_exchange 38 = .ok (.iload_n 1, 1) := by decide +kernel
theorem dX7_exchange_39 : decode cX7_exchange 39 = .ok (.if_icmp .ge 50, 3) := by decide +kernel
theorem dX7_exchange_42 : decode cX7_exchange 42 = .ok (.aload_n 0, 1) := by decide +kernel
theorem dX7_exchange_43 : decode cX7_exchange 43 = .ok (.getfield 7, 3) := by decide +kernel
theorem dX7_exchange_46 : decode cX7_exchange 46 = .ok (.iconst 1, 1) := by decide +kernel
theorem dX7_exchange_47 : decode cX7_exchange 47 = .ok (.iload_n 2, 1) := by decide +kernel
theorem dX7_exchange_48 : decode cX7_exchange 48 = .ok (.iadd, 1) := by decide +kernel
theorem dX7_exchange_49 : decode cX7_exchange 49 = .ok (.iload_n 3, 1) := by decide +kernel
theorem dX7_exchange_50 : decode cX7_exchange 50 = .ok (.aload_n 0, 1) := by decide +kernel
theorem dX7_exchange_51 : decode cX7_exchange 51 = .ok (.getfield 19, 3) := by decide +kernel
theorem dX7_exchange_54 : decode cX7_exchange 54 = .ok (.iload 4, 2) := by decide +kernel
theorem dX7_exchange_56 : decode cX7_exchange 56 = .ok (.iconst 1, 1) := by decide +kernel
theorem dX7_exchange_57 : decode cX7_exchange 57 = .ok (.iadd, 1) := by decide +kernel
theorem dX7_exchange_58 : decode cX7_exchange 58 = .ok (.iload_n 1, 1) := by decide +kernel
theorem dX7_exchange_59 : decode cX7_exchange 59 = .ok (.irem, 1) := by decide +kernel
theorem dX7_exchange_60 : decode cX7_exchange 60 = .ok (.iaload, 1) := by decide +kernel
theorem dX7_exchange_61 : decode cX7_exchange 61 = .ok (.if_icmp .ne 13, 3) := by decide +kernel
theorem dX7_exchange_64 : decode cX7_exchange 64 = .ok (.aload_n 0, 1) := by decide +kernel
theorem dX7_exchange_65 : decode cX7_exchange 65 = .ok (.getfield 19, 3) := by decide +kernel
theorem dX7_exchange_68 : decode cX7_exchange 68 = .ok (.iload 4, 2) := by decide +kernel
theorem dX7_exchange_70 : decode cX7_exchange 70 = .ok (.iaload, 1) := by decide +kernel
theorem dX7_exchange_71 : decode cX7_exchange 71 = .ok (.goto 11, 3) := by decide +kernel
theorem dX7_exchange_74 : decode cX7_exchange 74 = .ok (.aload_n 0, 1) := by decide +kernel
theorem dX7_exchange_75 : decode cX7_exchange 75 = .ok (.getfield 7, 3) := by decide +kernel
theorem dX7_exchange_78 : decode cX7_exchange 78 = .ok (.iconst 1, 1) := by decide +kernel
theorem dX7_exchange_79 : decode cX7_exchange 79 = .ok (.iload_n 2, 1) := by decide +kernel
theorem dX7_exchange_80 : decode cX7_exchange 80 = .ok (.iadd, 1) := by decide +kernel
theorem dX7_exchange_81 : decode cX7_exchange 81 = .ok (.iaload, 1) := by decide +kernel
theorem dX7_exchange_82 : decode cX7_exchange 82 = .ok (.iastore, 1) := by decide +kernel
theorem dX7_exchange_83 : decode cX7_exchange 83 = .ok (.iinc 4 1, 3) := by decide +kernel
theorem dX7_exchange_86 : decode cX7_exchange 86 = .ok (.goto (-50), 3) := by decide +kernel
theorem dX7_exchange_89 : decode cX7_exchange 89 = .ok (.iinc 2 1, 3) := by decide +kernel
theorem dX7_exchange_92 : decode cX7_exchange 92 = .ok (.goto (-74), 3) := by decide +kernel
theorem dX7_exchange_95 : decode cX7_exchange 95 = .ok (.iload_n 1, 1) := by decide +kernel
theorem dX7_exchange_96 : decode cX7_exchange 96 = .ok (.ireturn, 1) := by decide +kernel
set_option maxRecDepth 20000 in
theorem ggX7_undo_X7_copies : GoodIn wsX7_undo wsX7_copies := goodIn_r _ [6, 7, 8, 9, 10, 11, 12, 13, 14, 15, 16, 17, 18, 19, 20, 21, 22, 23] (by decide +kernel) (by decide +kernel)
set_option maxRecDepth 20000 in
theorem gX7_undo_X7_copies : GoodIn wsX7_undo (wsV RX7 35 RX7 yX7_copies wsX7_copies) := goodIn_app (goodIn_of _ (by decide +kernel)) ggX7_undo_X7_copies
theorem dX7_undo_0 : decode cX7_undo 0 = .ok (.aload_n 0, 1) := by decide +kernel
theorem dX7_undo_1 : decode cX7_undo 1 = .ok (.getfield 31, 3) := by decide +kernel
theorem dX7_undo_4 : decode cX7_undo 4 = .ok (.ifCond .ne 6, 3) := by decide +kernel
theorem dX7_undo_7 : decode cX7_undo 7 = .ok (.bipush (-2), 2) := by decide +kernel
theorem dX7_undo_9 : decode cX7_undo 9 = .ok (.ireturn, 1) := by decide +kernel
theorem dX7_undo_10 : decode cX7_undo 10 = .ok (.aload_n 0, 1) := by decide +kernel
theorem dX7_undo_11 : decode cX7_undo 11 = .ok (.bipush 121, 2) := by decide +kernel
theorem dX7_undo_13 : decode cX7_undo 13 = .ok (.aload_n 0, 1) := by decide +kernel
theorem dX7_undo_14 : decode cX7_undo 14 = .ok (.getfield 31, 3) := by decide +kernel
theorem dX7_undo_17 : decode cX7_undo 17 = .ok (.imul, 1) := by decide +kernel
theorem dX7_undo_18 : decode cX7_undo 18 = .ok (.iconst 0, 1) := by decide +kernel
theorem dX7_undo_19 : decode cX7_undo 19 = .ok (.invokevirtual 35, 3) := by decide +kernel
theorem dX7_undo_22 : decode cX7_undo 22 = .ok (.aload_n 0, 1) := by decide +kernel
theorem dX7_undo_23 : decode cX7_undo 23 = .ok (.dup, 1) := by decide +kernel
theorem dX7_undo_24 : decode cX7_undo 24 = .ok (.getfield 31, 3) := by decide +kernel
theorem dX7_undo_27 : decode cX7_undo 27 = .ok (.iconst 1, 1) := by decide +kernel
theorem dX7_undo_28 : decode cX7_undo 28 = .ok (.isub, 1) := by decide +kernel
theorem dX7_undo_29 : decode cX7_undo 29 = .ok (.putfield 31, 3) := by decide +kernel
theorem dX7_undo_32 : decode cX7_undo 32 = .ok (.aload_n 0, 1) := by decide +kernel
theorem dX7_undo_33 : decode cX7_undo 33 = .ok (.getfield 31, 3) := by decide +kernel
theorem dX7_undo_36 : decode cX7_undo 36 = .ok (.ireturn, 1) := by decide +kernel
theorem dX7_onTable_0 : decode cX7_onTable 0 = .ok (.iconst 0, 1) := by decide +kernel
theorem dX7_onTable_1 : decode cX7_onTable 1 = .ok (.istore_n 1, 1) := by decide +kernel
theorem dX7_onTable_2 : decode cX7_onTable 2 = .ok (.iconst 0, 1) := by decide +kernel
theorem dX7_onTable_3 : decode cX7_onTable 3 = .ok (.istore_n 2, 1) := by decide +kernel
theorem dX7_onTable_4 : decode cX7_onTable 4 = .ok (.iload_n 2, 1) := by decide +kernel
theorem dX7_onTable_5 : decode cX7_onTable 5 = .ok (.bipush 24, 2) := by decide +kernel
theorem dX7_onTable_7 : decode cX7_onTable 7 = .ok (.if_icmp .ge 30, 3) := by decide +kernel
theorem dX7_onTable_10 : decode cX7_onTable 10 = .ok (.iload_n 1, 1) := by decide +kernel
theorem dX7_onTable_11 : decode cX7_onTable 11 = .ok (.aload_n 0, 1) := by decide +kernel
theorem dX7_onTable_12 : decode cX7_onTable 12 = .ok (.getfield 7, 3) := by decide +kernel
theorem dX7_onTable_15 : decode cX7_onTable 15 = .ok (.iconst 1, 1) := by decide +kernel
theorem dX7_onTable_16 : decode cX7_onTable 16 = .ok (.iload_n 2, 1) := by decide +kernel
theorem dX7_onTable_17 : decode cX7_onTable 17 = .ok (.iadd, 1) := by decide +kernel
theorem dX7_onTable_18 : decode cX7_onTable 18 = .ok (.iaload, 1) := by decide +kernel
theorem dX7_onTable_19 : decode cX7_onTable 19 = .ok (.bipush (-9), 2) := by decide +kernel
theorem dX7_onTable_21 : decode cX7_onTable 21 = .ok (.if_icmp .ne 7, 3) := by decide +kernel
theorem dX7_onTable_24 : decode cX7_onTable 24 = .ok (.iconst 1, 1) := by decide +kernel
theorem dX7_onTable_25 : decode cX7_onTable 25 = .ok (.goto 4, 3) := by decide +kernel
theorem dX7_onTable_28 : decode cX7_onTable 28 = .ok (.iconst 0, 1) := by decide +kernel
theorem dX7_onTable_29 : decode cX7_onTable 29 = .ok (.iadd, 1) := by decide +kernel
theorem dX7_onTable_30 : decode cX7_onTable 30 = .ok (.istore_n 1, 1) := by decide +kernel
theorem dX7_onTable_31 : decode cX7_onTable 31 = .ok (.iinc 2 1, 3) := by decide +kernel
theorem dX7_onTable_34 : decode cX7_onTable 34 = .ok (.goto (-30), 3) := by decide +kernel
theorem dX7_onTable_37 : decode cX7_onTable 37 = .ok (.iload_n 1, 1) := by decide +kernel
theorem dX7_onTable_38 : decode cX7_onTable 38 = .ok (.ireturn, 1) := by decide +kernel
set_option maxRecDepth 20000 in
theorem ggX7_envies_X7_envyOf : GoodIn wsX7_envies wsX7_envyOf := goodIn_r _ [6, 7, 8, 9, 5, 10, 1, 11, 12, 13, 14, 15, 16, 17, 18, 19, 20, 21, 22, 23, 24, 25, 26, 27, 28, 29, 30] (by decide +kernel) (by decide +kernel)
set_option maxRecDepth 20000 in
theorem gX7_envies_X7_envyOf : GoodIn wsX7_envies (wsV RX7 102 RX7 yX7_envyOf wsX7_envyOf) := goodIn_app (goodIn_of _ (by decide +kernel)) ggX7_envies_X7_envyOf
theorem dX7_envies_0 : decode cX7_envies 0 = .ok (.iconst 0, 1) := by decide +kernel
theorem dX7_envies_1 : decode cX7_envies 1 = .ok (.istore_n 2, 1) := by decide +kernel
theorem dX7_envies_2 : decode cX7_envies 2 = .ok (.iconst 0, 1) := by decide +kernel
theorem dX7_envies_3 : decode cX7_envies 3 = .ok (.istore_n 3, 1) := by decide +kernel
theorem dX7_envies_4 : decode cX7_envies 4 = .ok (.iload_n 3, 1) := by decide +kernel
theorem dX7_envies_5 : decode cX7_envies 5 = .ok (.aload_n 0, 1) := by decide +kernel
theorem dX7_envies_6 : decode cX7_envies 6 = .ok (.getfield 7, 3) := by decide +kernel
theorem dX7_envies_9 : decode cX7_envies 9 = .ok (.iconst 0, 1) := by decide +kernel
theorem dX7_envies_10 : decode cX7_envies 10 = .ok (.iaload, 1) := by decide +kernel
theorem dX7_envies_11 : decode cX7_envies 11 = .ok (.if_icmp .ge 70, 3) := by decide +kernel
end
section
theorem dX7_envies_14 : decode cX7_envies 14 = .ok (.iconst 0, 1) := by decide +kernel
theorem dX7_envies_15 : decode cX7_envies 15 = .ok (.istore 4, 2) := by decide +kernel
theorem dX7_envies_17 : decode cX7_envies 17 = .ok (.iload 4, 2) := by decide +kernel
theorem dX7_envies_19 : decode cX7_envies 19 = .ok (.aload_n 0, 1) := by decide +kernel
theorem dX7_envies_20 : decode cX7_envies 20 = .ok (.getfield 7, 3) := by decide +kernel
theorem dX7_envies_23 : decode cX7_envies 23 = .ok (.iconst 0, 1) := by decide +kernel
theorem dX7_envies_24 : decode cX7_envies 24 = .ok (.iaload, 1) := by decide +kernel
theorem dX7_envies_25 : decode cX7_envies 25 = .ok (.if_icmp .ge 50, 3) := by decide +kernel
theorem dX7_envies_28 : decode cX7_envies 28 = .ok (.iload_n 3, 1) := by decide +kernel
theorem dX7_envies_29 : decode cX7_envies 29 = .ok (.iload 4, 2) := by decide +kernel
theorem dX7_envies_31 : decode cX7_envies 31 = .ok (.if_icmp .ne 7, 3) := by decide +kernel
theorem dX7_envies_34 : decode cX7_envies 34 = .ok (.iconst 0, 1) := by decide +kernel
theorem dX7_envies_35 : decode cX7_envies 35 = .ok (.goto 10, 3) := by decide +kernel
theorem dX7_envies_38 : decode cX7_envies 38 = .ok (.aload_n 0, 1) := by decide +kernel
theorem dX7_envies_39 : decode cX7_envies 39 = .ok (.iload_n 3, 1) := by decide +kernel
theorem dX7_envies_40 : decode cX7_envies 40 = .ok (.iload 4, 2) := by decide +kernel
theorem dX7_envies_42 : decode cX7_envies 42 = .ok (.invokevirtual 102, 3) := by decide +kernel
theorem dX7_envies_45 : decode cX7_envies 45 = .ok (.istore 5, 2) := by decide +kernel
theorem dX7_envies_47 : decode cX7_envies 47 = .ok (.iload_n 2, 1) := by decide +kernel
theorem dX7_envies_48 : decode cX7_envies 48 = .ok (.iload_n 1, 1) := by decide +kernel
theorem dX7_envies_49 : decode cX7_envies 49 = .ok (.ifCond .eq 8, 3) := by decide +kernel
theorem dX7_envies_52 : decode cX7_envies 52 = .ok (.iload 5, 2) := by decide +kernel
theorem dX7_envies_54 : decode cX7_envies 54 = .ok (.goto 13, 3) := by decide +kernel
theorem dX7_envies_57 : decode cX7_envies 57 = .ok (.iload 5, 2) := by decide +kernel
theorem dX7_envies_59 : decode cX7_envies 59 = .ok (.ifCond .le 7, 3) := by decide +kernel
theorem dX7_envies_62 : decode cX7_envies 62 = .ok (.iconst 1, 1) := by decide +kernel
theorem dX7_envies_63 : decode cX7_envies 63 = .ok (.goto 4, 3) := by decide +kernel
theorem dX7_envies_66 : decode cX7_envies 66 = .ok (.iconst 0, 1) := by decide +kernel
theorem dX7_envies_67 : decode cX7_envies 67 = .ok (.iadd, 1) := by decide +kernel
theorem dX7_envies_68 : decode cX7_envies 68 = .ok (.istore_n 2, 1) := by decide +kernel
theorem dX7_envies_69 : decode cX7_envies 69 = .ok (.iinc 4 1, 3) := by decide +kernel
theorem dX7_envies_72 : decode cX7_envies 72 = .ok (.goto (-55), 3) := by decide +kernel
theorem dX7_envies_75 : decode cX7_envies 75 = .ok (.iinc 3 1, 3) := by decide +kernel
theorem dX7_envies_78 : decode cX7_envies 78 = .ok (.goto (-74), 3) := by decide +kernel
theorem dX7_envies_81 : decode cX7_envies 81 = .ok (.iload_n 2, 1) := by decide +kernel
theorem dX7_envies_82 : decode cX7_envies 82 = .ok (.ireturn, 1) := by decide +kernel
set_option maxRecDepth 20000 in
theorem ggX7_served_X7_total : GoodIn wsX7_served wsX7_total := goodIn_r _ [6, 7, 8, 9, 5, 10, 11, 12, 13, 14, 1, 19, 20, 21, 22, 23, 24, 25, 26, 27, 28, 29, 30, 31, 32, 33, 34] (by decide +kernel) (by decide +kernel)
set_option maxRecDepth 20000 in
theorem gX7_served_X7_total : GoodIn wsX7_served (wsV RX7 65 RX7 yX7_total wsX7_total) := goodIn_app (goodIn_of _ (by decide +kernel)) ggX7_served_X7_total
set_option maxRecDepth 20000 in
theorem ggX7_served_X7_pieceValue : GoodIn wsX7_served wsX7_pieceValue := goodIn_r _ [18, 1, 11, 12, 13, 5, 14, 19, 20, 21, 22, 23, 24, 25, 26, 27, 28, 29, 30, 31, 32, 33, 34] (by decide +kernel) (by decide +kernel)
set_option maxRecDepth 20000 in
theorem gX7_served_X7_pieceValue : GoodIn wsX7_served (wsV RX7 55 RX7 yX7_pieceValue wsX7_pieceValue) := goodIn_app (goodIn_of _ (by decide +kernel)) ggX7_served_X7_pieceValue
theorem dX7_served_0 : decode cX7_served 0 = .ok (.iconst 0, 1) := by decide +kernel
theorem dX7_served_1 : decode cX7_served 1 = .ok (.istore_n 1, 1) := by decide +kernel
theorem dX7_served_2 : decode cX7_served 2 = .ok (.iconst 0, 1) := by decide +kernel
theorem dX7_served_3 : decode cX7_served 3 = .ok (.istore_n 2, 1) := by decide +kernel
theorem dX7_served_4 : decode cX7_served 4 = .ok (.iload_n 2, 1) := by decide +kernel
theorem dX7_served_5 : decode cX7_served 5 = .ok (.aload_n 0, 1) := by decide +kernel
theorem dX7_served_6 : decode cX7_served 6 = .ok (.getfield 7, 3) := by decide +kernel
theorem dX7_served_9 : decode cX7_served 9 = .ok (.iconst 0, 1) := by decide +kernel
theorem dX7_served_10 : decode cX7_served 10 = .ok (.iaload, 1) := by decide +kernel
theorem dX7_served_11 : decode cX7_served 11 = .ok (.if_icmp .ge 46, 3) := by decide +kernel
theorem dX7_served_14 : decode cX7_served 14 = .ok (.iload_n 1, 1) := by decide +kernel
theorem dX7_served_15 : decode cX7_served 15 = .ok (.aload_n 0, 1) := by decide +kernel
theorem dX7_served_16 : decode cX7_served 16 = .ok (.iload_n 2, 1) := by decide +kernel
theorem dX7_served_17 : decode cX7_served 17 = .ok (.invokevirtual 65, 3) := by decide +kernel
theorem dX7_served_20 : decode cX7_served 20 = .ok (.ifCond .le 28, 3) := by decide +kernel
theorem dX7_served_23 : decode cX7_served 23 = .ok (.aload_n 0, 1) := by decide +kernel
theorem dX7_served_24 : decode cX7_served 24 = .ok (.getfield 7, 3) := by decide +kernel
theorem dX7_served_27 : decode cX7_served 27 = .ok (.iconst 0, 1) := by decide +kernel
theorem dX7_served_28 : decode cX7_served 28 = .ok (.iaload, 1) := by decide +kernel
theorem dX7_served_29 : decode cX7_served 29 = .ok (.aload_n 0, 1) := by decide +kernel
theorem dX7_served_30 : decode cX7_served 30 = .ok (.iload_n 2, 1) := by decide +kernel
theorem dX7_served_31 : decode cX7_served 31 = .ok (.iload_n 2, 1) := by decide +kernel
theorem dX7_served_32 : decode cX7_served 32 = .ok (.invokevirtual 55, 3) := by decide +kernel
theorem dX7_served_35 : decode cX7_served 35 = .ok (.imul, 1) := by decide +kernel
theorem dX7_served_36 : decode cX7_served 36 = .ok (.aload_n 0, 1) := by decide +kernel
theorem dX7_served_37 : decode cX7_served 37 = .ok (.iload_n 2, 1) := by decide +kernel
theorem dX7_served_38 : decode cX7_served 38 = .ok (.invokevirtual 65, 3) := by decide +kernel
theorem dX7_served_41 : decode cX7_served 41 = .ok (.if_icmp .lt 7, 3) := by decide +kernel
theorem dX7_served_44 : decode cX7_served 44 = .ok (.iconst 1, 1) := by decide +kernel
theorem dX7_served_45 : decode cX7_served 45 = .ok (.goto 4, 3) := by decide +kernel
theorem dX7_served_48 : decode cX7_served 48 = .ok (.iconst 0, 1) := by decide +kernel
theorem dX7_served_49 : decode cX7_served 49 = .ok (.iadd, 1) := by decide +kernel
theorem dX7_served_50 : decode cX7_served 50 = .ok (.istore_n 1, 1) := by decide +kernel
theorem dX7_served_51 : decode cX7_served 51 = .ok (.iinc 2 1, 3) := by decide +kernel
theorem dX7_served_54 : decode cX7_served 54 = .ok (.goto (-50), 3) := by decide +kernel
theorem dX7_served_57 : decode cX7_served 57 = .ok (.iload_n 1, 1) := by decide +kernel
theorem dX7_served_58 : decode cX7_served 58 = .ok (.ireturn, 1) := by decide +kernel
set_option maxRecDepth 20000 in
theorem ggX7_count_X7_onTable : GoodIn wsX7_count wsX7_onTable := goodIn_r _ [8, 1, 37, 38, 39, 40, 41, 42, 43, 44, 45, 46, 47, 48, 49, 50, 51, 52] (by decide +kernel) (by decide +kernel)
set_option maxRecDepth 20000 in
theorem gX7_count_X7_onTable : GoodIn wsX7_count (wsV RX7 111 RX7 yX7_onTable wsX7_onTable) := goodIn_app (goodIn_of _ (by decide +kernel)) ggX7_count_X7_onTable
set_option maxRecDepth 20000 in
theorem ggX7_count_X7_envies : GoodIn wsX7_count wsX7_envies := goodIn_r _ [12, 1, 13, 14, 15, 7, 16, 17, 18, 19, 20, 21, 22, 23, 24, 37, 38, 39, 40, 41, 42, 43, 44, 45, 46, 47, 48, 49, 50, 51, 52] (by decide +kernel) (by decide +kernel)
set_option maxRecDepth 20000 in
theorem gX7_count_X7_envies : GoodIn wsX7_count (wsV RX7 114 RX7 yX7_envies wsX7_envies) := goodIn_app (goodIn_of _ (by decide +kernel)) ggX7_count_X7_envies
set_option maxRecDepth 20000 in
theorem ggX7_count_X7_served : GoodIn wsX7_count wsX7_served := goodIn_r _ [28, 1, 29, 30, 31, 7, 32, 33, 34, 35, 36, 21, 22, 23, 24, 17, 18, 19, 20, 37, 38, 39, 40, 41, 42, 43, 44, 45, 46, 47, 48, 49, 50, 51, 52] (by decide +kernel) (by decide +kernel)
set_option maxRecDepth 20000 in
theorem gX7_count_X7_served : GoodIn wsX7_count (wsV RX7 118 RX7 yX7_served wsX7_served) := goodIn_app (goodIn_of _ (by decide +kernel)) ggX7_count_X7_served
theorem dX7_count_0 : decode cX7_count 0 = .ok (.iload_n 1, 1) := by decide +kernel
theorem dX7_count_1 : decode cX7_count 1 = .ok (.tableswitch 100 0 7 #[47, 54, 59, 65, 71, 85, 90, 95], 47) := by decide +kernel
theorem dX7_count_48 : decode cX7_count 48 = .ok (.aload_n 0, 1) := by decide +kernel
theorem dX7_count_49 : decode cX7_count 49 = .ok (.getfield 7, 3) := by decide +kernel
theorem dX7_count_52 : decode cX7_count 52 = .ok (.iconst 0, 1) := by decide +kernel
theorem dX7_count_53 : decode cX7_count 53 = .ok (.iaload, 1) := by decide +kernel
theorem dX7_count_54 : decode cX7_count 54 = .ok (.ireturn, 1) := by decide +kernel
theorem dX7_count_55 : decode cX7_count 55 = .ok (.aload_n 0, 1) := by decide +kernel
theorem dX7_count_56 : decode cX7_count 56 = .ok (.invokevirtual 111, 3) := by decide +kernel
theorem dX7_count_59 : decode cX7_count 59 = .ok (.ireturn, 1) := by decide +kernel
theorem dX7_count_60 : decode cX7_count 60 = .ok (.aload_n 0, 1) := by decide +kernel
theorem dX7_count_61 : decode cX7_count 61 = .ok (.iconst 0, 1) := by decide +kernel
theorem dX7_count_62 : decode cX7_count 62 = .ok (.invokevirtual 114, 3) := by decide +kernel
theorem dX7_count_65 : decode cX7_count 65 = .ok (.ireturn, 1) := by decide +kernel
theorem dX7_count_66 : decode cX7_count 66 = .ok (.aload_n 0, 1) := by decide +kernel
theorem dX7_count_67 : decode cX7_count 67 = .ok (.iconst 1, 1) := by decide +kernel
theorem dX7_count_68 : decode cX7_count 68 = .ok (.invokevirtual 114, 3) := by decide +kernel
theorem dX7_count_71 : decode cX7_count 71 = .ok (.ireturn, 1) := by decide +kernel
theorem dX7_count_72 : decode cX7_count 72 = .ok (.aload_n 0, 1) := by decide +kernel
theorem dX7_count_73 : decode cX7_count 73 = .ok (.iconst 0, 1) := by decide +kernel
theorem dX7_count_74 : decode cX7_count 74 = .ok (.invokevirtual 114, 3) := by decide +kernel
theorem dX7_count_77 : decode cX7_count 77 = .ok (.ifCond .ne 7, 3) := by decide +kernel
theorem dX7_count_80 : decode cX7_count 80 = .ok (.iconst 1, 1) := by decide +kernel
theorem dX7_count_81 : decode cX7_count 81 = .ok (.goto 4, 3) := by decide +kernel
theorem dX7_count_84 : decode cX7_count 84 = .ok (.iconst 0, 1) := by decide +kernel
theorem dX7_count_85 : decode cX7_count 85 = .ok (.ireturn, 1) := by decide +kernel
theorem dX7_count_86 : decode cX7_count 86 = .ok (.aload_n 0, 1) := by decide +kernel
theorem dX7_count_87 : decode cX7_count 87 = .ok (.invokevirtual 118, 3) := by decide +kernel
theorem dX7_count_90 : decode cX7_count 90 = .ok (.ireturn, 1) := by decide +kernel
theorem dX7_count_91 : decode cX7_count 91 = .ok (.aload_n 0, 1) := by decide +kernel
theorem dX7_count_92 : decode cX7_count 92 = .ok (.getfield 31, 3) := by decide +kernel
theorem dX7_count_95 : decode cX7_count 95 = .ok (.ireturn, 1) := by decide +kernel
theorem dX7_count_96 : decode cX7_count 96 = .ok (.aload_n 0, 1) := by decide +kernel
theorem dX7_count_97 : decode cX7_count 97 = .ok (.getfield 69, 3) := by decide +kernel
theorem dX7_count_100 : decode cX7_count 100 = .ok (.ireturn, 1) := by decide +kernel
theorem dX7_count_101 : decode cX7_count 101 = .ok (.iconst (-1), 1) := by decide +kernel
theorem dX7_count_102 : decode cX7_count 102 = .ok (.ireturn, 1) := by decide +kernel
theorem dX7_divisor_0 : decode cX7_divisor 0 = .ok (.iload_n 0, 1) := by decide +kernel
theorem dX7_divisor_1 : decode cX7_divisor 1 = .ok (.istore_n 2, 1) := by decide +kernel
theorem dX7_divisor_2 : decode cX7_divisor 2 = .ok (.iload_n 1, 1) := by decide +kernel
theorem dX7_divisor_3 : decode cX7_divisor 3 = .ok (.istore_n 3, 1) := by decide +kernel
theorem dX7_divisor_4 : decode cX7_divisor 4 = .ok (.iload_n 3, 1) := by decide +kernel
theorem dX7_divisor_5 : decode cX7_divisor 5 = .ok (.ifCond .le 16, 3) := by decide +kernel
theorem dX7_divisor_8 : decode cX7_divisor 8 = .ok (.iload_n 2, 1) := by decide +kernel
theorem dX7_divisor_9 : decode cX7_divisor 9 = .ok (.iload_n 3, 1) := by decide +kernel
theorem dX7_divisor_10 : decode cX7_divisor 10 = .ok (.irem, 1) := by decide +kernel
theorem dX7_divisor_11 : decode cX7_divisor 11 = .ok (.istore 4, 2) := by decide +kernel
theorem dX7_divisor_13 : decode cX7_divisor 13 = .ok (.iload_n 3, 1) := by decide +kernel
theorem dX7_divisor_14 : decode cX7_divisor 14 = .ok (.istore_n 2, 1) := by decide +kernel
theorem dX7_divisor_15 : decode cX7_divisor 15 = .ok (.iload 4, 2) := by decide +kernel
theorem dX7_divisor_17 : decode cX7_divisor 17 = .ok (.istore_n 3, 1) := by decide +kernel
theorem dX7_divisor_18 : decode cX7_divisor 18 = .ok (.goto (-14), 3) := by decide +kernel
theorem dX7_divisor_21 : decode cX7_divisor 21 = .ok (.iload_n 2, 1) := by decide +kernel
theorem dX7_divisor_22 : decode cX7_divisor 22 = .ok (.ireturn, 1) := by decide +kernel
set_option maxRecDepth 20000 in
theorem ggX7_part_X7_divisor : GoodIn wsX7_part wsX7_divisor := goodIn_r _ [4] (by decide +kernel) (by decide +kernel)
set_option maxRecDepth 20000 in
theorem gX7_part_X7_divisor : GoodIn wsX7_part (va_wsS RX7 121 yX7_divisor wsX7_divisor) := goodIn_app (goodIn_of _ (by decide +kernel)) ggX7_part_X7_divisor
theorem dX7_part_0 : decode cX7_part 0 = .ok (.iload_n 0, 1) := by decide +kernel
theorem dX7_part_1 : decode cX7_part 1 = .ok (.ifCond .ne 13, 3) := by decide +kernel
theorem dX7_part_4 : decode cX7_part 4 = .ok (.iload_n 2, 1) := by decide +kernel
theorem dX7_part_5 : decode cX7_part 5 = .ok (.ifCond .eq 7, 3) := by decide +kernel
theorem dX7_part_8 : decode cX7_part 8 = .ok (.iconst 0, 1) := by decide +kernel
theorem dX7_part_9 : decode cX7_part 9 = .ok (.goto 4, 3) := by decide +kernel
theorem dX7_part_12 : decode cX7_part 12 = .ok (.iconst 1, 1) := by decide +kernel
theorem dX7_part_13 : decode cX7_part 13 = .ok (.ireturn, 1) := by decide +kernel
theorem dX7_part_14 : decode cX7_part 14 = .ok (.iload_n 0, 1) := by decide +kernel
theorem dX7_part_15 : decode cX7_part 15 = .ok (.iload_n 1, 1) := by decide +kernel
theorem dX7_part_16 : decode cX7_part 16 = .ok (.invokestatic 121, 3) := by decide +kernel
theorem dX7_part_19 : decode cX7_part 19 = .ok (.istore_n 3, 1) := by decide +kernel
theorem dX7_part_20 : decode cX7_part 20 = .ok (.iload_n 2, 1) := by decide +kernel
theorem dX7_part_21 : decode cX7_part 21 = .ok (.ifCond .eq 9, 3) := by decide +kernel
theorem dX7_part_24 : decode cX7_part 24 = .ok (.iload_n 0, 1) := by decide +kernel
theorem dX7_part_25 : decode cX7_part 25 = .ok (.iload_n 3, 1) := by decide +kernel
theorem dX7_part_26 : decode cX7_part 26 = .ok (.idiv, 1) := by decide +kernel
theorem dX7_part_27 : decode cX7_part 27 = .ok (.goto 6, 3) := by decide +kernel
theorem dX7_part_30 : decode cX7_part 30 = .ok (.iload_n 1, 1) := by decide +kernel
theorem dX7_part_31 : decode cX7_part 31 = .ok (.iload_n 3, 1) := by decide +kernel
theorem dX7_part_32 : decode cX7_part 32 = .ok (.idiv, 1) := by decide +kernel
theorem dX7_part_33 : decode cX7_part 33 = .ok (.ireturn, 1) := by decide +kernel
theorem dX7_crumbsOf_0 : decode cX7_crumbsOf 0 = .ok (.iconst 0, 1) := by decide +kernel
theorem dX7_crumbsOf_1 : decode cX7_crumbsOf 1 = .ok (.istore_n 3, 1) := by decide +kernel
theorem dX7_crumbsOf_2 : decode cX7_crumbsOf 2 = .ok (.iconst 0, 1) := by decide +kernel
theorem dX7_crumbsOf_3 : decode cX7_crumbsOf 3 = .ok (.istore 4, 2) := by decide +kernel
theorem dX7_crumbsOf_5 : decode cX7_crumbsOf 5 = .ok (.iload 4, 2) := by decide +kernel
theorem dX7_crumbsOf_7 : decode cX7_crumbsOf 7 = .ok (.bipush 24, 2) := by decide +kernel
theorem dX7_crumbsOf_9 : decode cX7_crumbsOf 9 = .ok (.if_icmp .ge 66, 3) := by decide +kernel
theorem dX7_crumbsOf_12 : decode cX7_crumbsOf 12 = .ok (.iload 4, 2) := by decide +kernel
theorem dX7_crumbsOf_14 : decode cX7_crumbsOf 14 = .ok (.ifCond .eq 18, 3) := by decide +kernel
theorem dX7_crumbsOf_17 : decode cX7_crumbsOf 17 = .ok (.aload_n 0, 1) := by decide +kernel
theorem dX7_crumbsOf_18 : decode cX7_crumbsOf 18 = .ok (.getfield 7, 3) := by decide +kernel
theorem dX7_crumbsOf_21 : decode cX7_crumbsOf 21 = .ok (.iconst 1, 1) := by decide +kernel
theorem dX7_crumbsOf_22 : decode cX7_crumbsOf 22 = .ok (.iload 4, 2) := by decide +kernel
theorem dX7_crumbsOf_24 : decode cX7_crumbsOf 24 = .ok (.iadd, 1) := by decide +kernel
theorem dX7_crumbsOf_25 : decode cX7_crumbsOf 25 = .ok (.iconst 1, 1) := by decide +kernel
theorem dX7_crumbsOf_26 : decode cX7_crumbsOf 26 = .ok (.isub, 1) := by decide +kernel
theorem dX7_crumbsOf_27 : decode cX7_crumbsOf 27 = .ok (.iaload, 1) := by decide +kernel
theorem dX7_crumbsOf_28 : decode cX7_crumbsOf 28 = .ok (.iload_n 1, 1) := by decide +kernel
theorem dX7_crumbsOf_29 : decode cX7_crumbsOf 29 = .ok (.if_icmp .eq 7, 3) := by decide +kernel
theorem dX7_crumbsOf_32 : decode cX7_crumbsOf 32 = .ok (.iconst 1, 1) := by decide +kernel
theorem dX7_crumbsOf_33 : decode cX7_crumbsOf 33 = .ok (.goto 4, 3) := by decide +kernel
theorem dX7_crumbsOf_36 : decode cX7_crumbsOf 36 = .ok (.iconst 0, 1) := by decide +kernel
theorem dX7_crumbsOf_37 : decode cX7_crumbsOf 37 = .ok (.istore 5, 2) := by decide +kernel
theorem dX7_crumbsOf_39 : decode cX7_crumbsOf 39 = .ok (.iload_n 3, 1) := by decide +kernel
theorem dX7_crumbsOf_40 : decode cX7_crumbsOf 40 = .ok (.aload_n 0, 1) := by decide +kernel
theorem dX7_crumbsOf_41 : decode cX7_crumbsOf 41 = .ok (.getfield 7, 3) := by decide +kernel
theorem dX7_crumbsOf_44 : decode cX7_crumbsOf 44 = .ok (.iconst 1, 1) := by decide +kernel
theorem dX7_crumbsOf_45 : decode cX7_crumbsOf 45 = .ok (.iload 4, 2) := by decide +kernel
theorem dX7_crumbsOf_47 : decode cX7_crumbsOf 47 = .ok (.iadd, 1) := by decide +kernel
theorem dX7_crumbsOf_48 : decode cX7_crumbsOf 48 = .ok (.iaload, 1) := by decide +kernel
theorem dX7_crumbsOf_49 : decode cX7_crumbsOf 49 = .ok (.iload_n 1, 1) := by decide +kernel
theorem dX7_crumbsOf_50 : decode cX7_crumbsOf 50 = .ok (.if_icmp .ne 16, 3) := by decide +kernel
theorem dX7_crumbsOf_53 : decode cX7_crumbsOf 53 = .ok (.iload_n 2, 1) := by decide +kernel
theorem dX7_crumbsOf_54 : decode cX7_crumbsOf 54 = .ok (.ifCond .eq 8, 3) := by decide +kernel
theorem dX7_crumbsOf_57 : decode cX7_crumbsOf 57 = .ok (.iload 5, 2) := by decide +kernel
theorem dX7_crumbsOf_59 : decode cX7_crumbsOf 59 = .ok (.ifCond .eq 7, 3) := by decide +kernel
theorem dX7_crumbsOf_62 : decode cX7_crumbsOf 62 = .ok (.iconst 1, 1) := by decide +kernel
theorem dX7_crumbsOf_63 : decode cX7_crumbsOf 63 = .ok (.goto 4, 3) := by decide +kernel
theorem dX7_crumbsOf_66 : decode cX7_crumbsOf 66 = .ok (.iconst 0, 1) := by decide +kernel
theorem dX7_crumbsOf_67 : decode cX7_crumbsOf 67 = .ok (.iadd, 1) := by decide +kernel
theorem dX7_crumbsOf_68 : decode cX7_crumbsOf 68 = .ok (.istore_n 3, 1) := by decide +kernel
theorem dX7_crumbsOf_69 : decode cX7_crumbsOf 69 = .ok (.iinc 4 1, 3) := by decide +kernel
theorem dX7_crumbsOf_72 : decode cX7_crumbsOf 72 = .ok (.goto (-67), 3) := by decide +kernel
theorem dX7_crumbsOf_75 : decode cX7_crumbsOf 75 = .ok (.iload_n 3, 1) := by decide +kernel
theorem dX7_crumbsOf_76 : decode cX7_crumbsOf 76 = .ok (.ireturn, 1) := by decide +kernel
set_option maxRecDepth 20000 in
theorem ggX7_guest_X7_isGuest : GoodIn wsX7_guest wsX7_isGuest := goodIn_r _ [5, 6, 7, 8, 4, 9, 36, 37, 38, 39, 40, 41, 42, 43, 44, 45, 46, 47, 48, 49, 50, 51] (by decide +kernel) (by decide +kernel)
set_option maxRecDepth 20000 in
theorem gX7_guest_X7_isGuest : GoodIn wsX7_guest (wsV RX7 43 RX7 yX7_isGuest wsX7_isGuest) := goodIn_app (goodIn_of _ (by decide +kernel)) ggX7_guest_X7_isGuest
set_option maxRecDepth 20000 in
theorem ggX7_guest_X7_total : GoodIn wsX7_guest wsX7_total := goodIn_r _ [13, 14, 15, 16, 4, 17, 18, 19, 20, 21, 6, 36, 37, 38, 39, 40, 41, 42, 43, 44, 45, 46, 47, 48, 49, 50, 51] (by decide +kernel) (by decide +kernel)
set_option maxRecDepth 20000 in
theorem gX7_guest_X7_total : GoodIn wsX7_guest (wsV RX7 65 RX7 yX7_total wsX7_total) := goodIn_app (goodIn_of _ (by decide +kernel)) ggX7_guest_X7_total
set_option maxRecDepth 20000 in
theorem ggX7_guest_X7_pieceValue : GoodIn wsX7_guest wsX7_pieceValue := goodIn_r _ [25, 6, 18, 19, 20, 4, 21, 36, 37, 38, 39, 40, 41, 42, 43, 44, 45, 46, 47, 48, 49, 50, 51] (by decide +kernel) (by decide +kernel)
set_option maxRecDepth 20000 in
theorem gX7_guest_X7_pieceValue : GoodIn wsX7_guest (wsV RX7 55 RX7 yX7_pieceValue wsX7_pieceValue) := goodIn_app (goodIn_of _ (by decide +kernel)) ggX7_guest_X7_pieceValue
set_option maxRecDepth 20000 in
theorem ggX7_guest_X7_crumbsOf : GoodIn wsX7_guest wsX7_crumbsOf := goodIn_r _ [29, 6, 36, 37, 38, 39, 40, 41, 42, 43, 44, 45, 46, 47, 48, 49, 50, 51] (by decide +kernel) (by decide +kernel)
set_option maxRecDepth 20000 in
theorem gX7_guest_X7_crumbsOf : GoodIn wsX7_guest (wsV RX7 124 RX7 yX7_crumbsOf wsX7_crumbsOf) := goodIn_app (goodIn_of _ (by decide +kernel)) ggX7_guest_X7_crumbsOf
set_option maxRecDepth 20000 in
theorem ggX7_guest_X7_part : GoodIn wsX7_guest wsX7_part := goodIn_r _ [32, 33, 34, 4, 35] (by decide +kernel) (by decide +kernel)
set_option maxRecDepth 20000 in
theorem gX7_guest_X7_part : GoodIn wsX7_guest (va_wsS RX7 128 yX7_part wsX7_part) := goodIn_app (goodIn_of _ (by decide +kernel)) ggX7_guest_X7_part
theorem dX7_guest_0 : decode cX7_guest 0 = .ok (.aload_n 0, 1) := by decide +kernel
theorem dX7_guest_1 : decode cX7_guest 1 = .ok (.iload_n 1, 1) := by decide +kernel
theorem dX7_guest_2 : decode cX7_guest 2 = .ok (.invokevirtual 43, 3) := by decide +kernel
theorem dX7_guest_5 : decode cX7_guest 5 = .ok (.ifCond .ne 5, 3) := by decide +kernel
theorem dX7_guest_8 : decode cX7_guest 8 = .ok (.iconst (-1), 1) := by decide +kernel
theorem dX7_guest_9 : decode cX7_guest 9 = .ok (.ireturn, 1) := by decide +kernel
theorem dX7_guest_10 : decode cX7_guest 10 = .ok (.iload_n 2, 1) := by decide +kernel
theorem dX7_guest_11 : decode cX7_guest 11 = .ok (.tableswitch 108 0 6 #[41, 47, 54, 61, 77, 93, 100], 41) := by decide +kernel
theorem dX7_guest_52 : decode cX7_guest 52 = .ok (.aload_n 0, 1) := by decide +kernel
theorem dX7_guest_53 : decode cX7_guest 53 = .ok (.iload_n 1, 1) := by decide +kernel
theorem dX7_guest_54 : decode cX7_guest 54 = .ok (.invokevirtual 65, 3) := by decide +kernel
theorem dX7_guest_57 : decode cX7_guest 57 = .ok (.ireturn, 1) := by decide +kernel
theorem dX7_guest_58 : decode cX7_guest 58 = .ok (.aload_n 0, 1) := by decide +kernel
theorem dX7_guest_59 : decode cX7_guest 59 = .ok (.iload_n 1, 1) := by decide +kernel
theorem dX7_guest_60 : decode cX7_guest 60 = .ok (.iload_n 1, 1) := by decide +kernel
theorem dX7_guest_61 : decode cX7_guest 61 = .ok (.invokevirtual 55, 3) := by decide +kernel
theorem dX7_guest_64 : decode cX7_guest 64 = .ok (.ireturn, 1) := by decide +kernel
theorem dX7_guest_65 : decode cX7_guest 65 = .ok (.aload_n 0, 1) := by decide +kernel
theorem dX7_guest_66 : decode cX7_guest 66 = .ok (.iload_n 1, 1) := by decide +kernel
theorem dX7_guest_67 : decode cX7_guest 67 = .ok (.iconst 0, 1) := by decide +kernel
theorem dX7_guest_68 : decode cX7_guest 68 = .ok (.invokevirtual 124, 3) := by decide +kernel
theorem dX7_guest_71 : decode cX7_guest 71 = .ok (.ireturn, 1) := by decide +kernel
theorem dX7_guest_72 : decode cX7_guest 72 = .ok (.aload_n 0, 1) := by decide +kernel
theorem dX7_guest_73 : decode cX7_guest 73 = .ok (.iload_n 1, 1) := by decide +kernel
theorem dX7_guest_74 : decode cX7_guest 74 = .ok (.iload_n 1, 1) := by decide +kernel
theorem dX7_guest_75 : decode cX7_guest 75 = .ok (.invokevirtual 55, 3) := by decide +kernel
theorem dX7_guest_78 : decode cX7_guest 78 = .ok (.aload_n 0, 1) := by decide +kernel
theorem dX7_guest_79 : decode cX7_guest 79 = .ok (.iload_n 1, 1) := by decide +kernel
theorem dX7_guest_80 : decode cX7_guest 80 = .ok (.invokevirtual 65, 3) := by decide +kernel
theorem dX7_guest_83 : decode cX7_guest 83 = .ok (.iconst 1, 1) := by decide +kernel
theorem dX7_guest_84 : decode cX7_guest 84 = .ok (.invokestatic 128, 3) := by decide +kernel
theorem dX7_guest_87 : decode cX7_guest 87 = .ok (.ireturn, 1) := by decide +kernel
theorem dX7_guest_88 : decode cX7_guest 88 = .ok (.aload_n 0, 1) := by decide +kernel
theorem dX7_guest_89 : decode cX7_guest 89 = .ok (.iload_n 1, 1) := by decide +kernel
theorem dX7_guest_90 : decode cX7_guest 90 = .ok (.iload_n 1, 1) := by decide +kernel
theorem dX7_guest_91 : decode cX7_guest 91 = .ok (.invokevirtual 55, 3) := by decide +kernel
theorem dX7_guest_94 : decode cX7_guest 94 = .ok (.aload_n 0, 1) := by decide +kernel
theorem dX7_guest_95 : decode cX7_guest 95 = .ok (.iload_n 1, 1) := by decide +kernel
theorem dX7_guest_96 : decode cX7_guest 96 = .ok (.invokevirtual 65, 3) := by decide +kernel
theorem dX7_guest_99 : decode cX7_guest 99 = .ok (.iconst 0, 1) := by decide +kernel
theorem dX7_guest_100 : decode cX7_guest 100 = .ok (.invokestatic 128, 3) := by decide +kernel
theorem dX7_guest_103 : decode cX7_guest 103 = .ok (.ireturn, 1) := by decide +kernel
theorem dX7_guest_104 : decode cX7_guest 104 = .ok (.aload_n 0, 1) := by decide +kernel
theorem dX7_guest_105 : decode cX7_guest 105 = .ok (.iload_n 1, 1) := by decide +kernel
theorem dX7_guest_106 : decode cX7_guest 106 = .ok (.iconst 1, 1) := by decide +kernel
theorem dX7_guest_107 : decode cX7_guest 107 = .ok (.invokevirtual 124, 3) := by decide +kernel
theorem dX7_guest_110 : decode cX7_guest 110 = .ok (.ireturn, 1) := by decide +kernel
theorem dX7_guest_111 : decode cX7_guest 111 = .ok (.aload_n 0, 1) := by decide +kernel
theorem dX7_guest_112 : decode cX7_guest 112 = .ok (.iload_n 1, 1) := by decide +kernel
theorem dX7_guest_113 : decode cX7_guest 113 = .ok (.bipush (-9), 2) := by decide +kernel
theorem dX7_guest_115 : decode cX7_guest 115 = .ok (.invokevirtual 55, 3) := by decide +kernel
theorem dX7_guest_118 : decode cX7_guest 118 = .ok (.ireturn, 1) := by decide +kernel
theorem dX7_guest_119 : decode cX7_guest 119 = .ok (.iconst (-1), 1) := by decide +kernel
theorem dX7_guest_120 : decode cX7_guest 120 = .ok (.ireturn, 1) := by decide +kernel
set_option maxRecDepth 20000 in
theorem ggX7_crumb_X7_in : GoodIn wsX7_crumb wsX7_in := goodIn_r _ [5] (by decide +kernel) (by decide +kernel)
set_option maxRecDepth 20000 in
theorem gX7_crumb_X7_in : GoodIn wsX7_crumb (va_wsS RX7 39 yX7_in wsX7_in) := goodIn_app (goodIn_of _ (by decide +kernel)) ggX7_crumb_X7_in
theorem dX7_crumb_0 : decode cX7_crumb 0 = .ok (.iload_n 1, 1) := by decide +kernel
theorem dX7_crumb_1 : decode cX7_crumb 1 = .ok (.iconst 0, 1) := by decide +kernel
theorem dX7_crumb_2 : decode cX7_crumb 2 = .ok (.bipush 23, 2) := by decide +kernel
theorem dX7_crumb_4 : decode cX7_crumb 4 = .ok (.invokestatic 39, 3) := by decide +kernel
theorem dX7_crumb_7 : decode cX7_crumb 7 = .ok (.ifCond .eq 14, 3) := by decide +kernel
theorem dX7_crumb_10 : decode cX7_crumb 10 = .ok (.aload_n 0, 1) := by decide +kernel
theorem dX7_crumb_11 : decode cX7_crumb 11 = .ok (.getfield 7, 3) := by decide +kernel
theorem dX7_crumb_14 : decode cX7_crumb 14 = .ok (.iconst 1, 1) := by decide +kernel
theorem dX7_crumb_15 : decode cX7_crumb 15 = .ok (.iload_n 1, 1) := by decide +kernel
theorem dX7_crumb_16 : decode cX7_crumb 16 = .ok (.iadd, 1) := by decide +kernel
theorem dX7_crumb_17 : decode cX7_crumb 17 = .ok (.iaload, 1) := by decide +kernel
theorem dX7_crumb_18 : decode cX7_crumb 18 = .ok (.goto 4, 3) := by decide +kernel
theorem dX7_crumb_21 : decode cX7_crumb 21 = .ok (.iconst (-1), 1) := by decide +kernel
theorem dX7_crumb_22 : decode cX7_crumb 22 = .ok (.ireturn, 1) := by decide +kernel
set_option maxRecDepth 20000 in
theorem ggX7_value_X7_isGuest : GoodIn wsX7_value wsX7_isGuest := goodIn_r _ [5, 6, 7, 8, 4, 9, 14, 15, 16, 17, 18, 19, 20, 21, 22, 23, 24, 25, 26, 27, 28, 29] (by decide +kernel) (by decide +kernel)
set_option maxRecDepth 20000 in
theorem gX7_value_X7_isGuest : GoodIn wsX7_value (wsV RX7 43 RX7 yX7_isGuest wsX7_isGuest) := goodIn_app (goodIn_of _ (by decide +kernel)) ggX7_value_X7_isGuest
set_option maxRecDepth 20000 in
theorem ggX7_value_X7_in : GoodIn wsX7_value wsX7_in := goodIn_r _ [9] (by decide +kernel) (by decide +kernel)
set_option maxRecDepth 20000 in
theorem gX7_value_X7_in : GoodIn wsX7_value (va_wsS RX7 39 yX7_in wsX7_in) := goodIn_app (goodIn_of _ (by decide +kernel)) ggX7_value_X7_in
set_option maxRecDepth 20000 in
theorem ggX7_value_X7_valueOf : GoodIn wsX7_value wsX7_valueOf := goodIn_r _ [13, 6, 14, 15, 16, 17, 18, 19, 20, 21, 22, 23, 24, 25, 26, 27, 28, 29] (by decide +kernel) (by decide +kernel)
set_option maxRecDepth 20000 in
theorem gX7_value_X7_valueOf : GoodIn wsX7_value (wsV RX7 47 RX7 yX7_valueOf wsX7_valueOf) := goodIn_app (goodIn_of _ (by decide +kernel)) ggX7_value_X7_valueOf
theorem dX7_value_0 : decode cX7_value 0 = .ok (.aload_n 0, 1) := by decide +kernel
theorem dX7_value_1 : decode cX7_value 1 = .ok (.iload_n 1, 1) := by decide +kernel
theorem dX7_value_2 : decode cX7_value 2 = .ok (.invokevirtual 43, 3) := by decide +kernel
theorem dX7_value_5 : decode cX7_value 5 = .ok (.ifCond .eq 22, 3) := by decide +kernel
theorem dX7_value_8 : decode cX7_value 8 = .ok (.iload_n 2, 1) := by decide +kernel
theorem dX7_value_9 : decode cX7_value 9 = .ok (.iconst 0, 1) := by decide +kernel
theorem dX7_value_10 : decode cX7_value 10 = .ok (.bipush 23, 2) := by decide +kernel
theorem dX7_value_12 : decode cX7_value 12 = .ok (.invokestatic 39, 3) := by decide +kernel
theorem dX7_value_15 : decode cX7_value 15 = .ok (.ifCond .eq 12, 3) := by decide +kernel
theorem dX7_value_18 : decode cX7_value 18 = .ok (.aload_n 0, 1) := by decide +kernel
theorem dX7_value_19 : decode cX7_value 19 = .ok (.iload_n 1, 1) := by decide +kernel
theorem dX7_value_20 : decode cX7_value 20 = .ok (.iload_n 2, 1) := by decide +kernel
theorem dX7_value_21 : decode cX7_value 21 = .ok (.invokevirtual 47, 3) := by decide +kernel
theorem dX7_value_24 : decode cX7_value 24 = .ok (.goto 4, 3) := by decide +kernel
theorem dX7_value_27 : decode cX7_value 27 = .ok (.iconst (-1), 1) := by decide +kernel
theorem dX7_value_28 : decode cX7_value 28 = .ok (.ireturn, 1) := by decide +kernel
set_option maxRecDepth 20000 in
theorem ggX7_envy_X7_areGuests : GoodIn wsX7_envy wsX7_areGuests := goodIn_r _ [5, 6, 7, 8, 4, 9, 10, 11, 12, 13, 26, 27, 28, 29, 30, 31, 32, 33, 34, 35, 36, 37, 38, 39, 40, 41] (by decide +kernel) (by decide +kernel)
set_option maxRecDepth 20000 in
theorem gX7_envy_X7_areGuests : GoodIn wsX7_envy (wsV RX7 96 RX7 yX7_areGuests wsX7_areGuests) := goodIn_app (goodIn_of _ (by decide +kernel)) ggX7_envy_X7_areGuests
set_option maxRecDepth 20000 in
theorem ggX7_envy_X7_envyOf : GoodIn wsX7_envy wsX7_envyOf := goodIn_r _ [17, 18, 19, 20, 4, 21, 10, 22, 23, 24, 25, 26, 27, 28, 29, 30, 31, 32, 33, 34, 35, 36, 37, 38, 39, 40, 41] (by decide +kernel) (by decide +kernel)
set_option maxRecDepth 20000 in
theorem gX7_envy_X7_envyOf : GoodIn wsX7_envy (wsV RX7 102 RX7 yX7_envyOf wsX7_envyOf) := goodIn_app (goodIn_of _ (by decide +kernel)) ggX7_envy_X7_envyOf
theorem dX7_envy_0 : decode cX7_envy 0 = .ok (.aload_n 0, 1) := by decide +kernel
theorem dX7_envy_1 : decode cX7_envy 1 = .ok (.iload_n 1, 1) := by decide +kernel
theorem dX7_envy_2 : decode cX7_envy 2 = .ok (.iload_n 2, 1) := by decide +kernel
theorem dX7_envy_3 : decode cX7_envy 3 = .ok (.invokevirtual 96, 3) := by decide +kernel
theorem dX7_envy_6 : decode cX7_envy 6 = .ok (.ifCond .eq 12, 3) := by decide +kernel
theorem dX7_envy_9 : decode cX7_envy 9 = .ok (.aload_n 0, 1) := by decide +kernel
theorem dX7_envy_10 : decode cX7_envy 10 = .ok (.iload_n 1, 1) := by decide +kernel
theorem dX7_envy_11 : decode cX7_envy 11 = .ok (.iload_n 2, 1) := by decide +kernel
theorem dX7_envy_12 : decode cX7_envy 12 = .ok (.invokevirtual 102, 3) := by decide +kernel
theorem dX7_envy_15 : decode cX7_envy 15 = .ok (.goto 4, 3) := by decide +kernel
theorem dX7_envy_18 : decode cX7_envy 18 = .ok (.iconst (-1), 1) := by decide +kernel
theorem dX7_envy_19 : decode cX7_envy 19 = .ok (.ireturn, 1) := by decide +kernel
set_option maxRecDepth 20000 in
theorem ggX7_ring_X7_layRing : GoodIn wsX7_ring wsX7_layRing := goodIn_r _ [6, 7, 8, 9, 10, 5, 11, 1, 12, 13, 14, 15, 16, 17, 18, 19, 20, 21, 22, 23, 24, 25, 26, 27, 28, 29, 30, 31, 32, 33, 34, 35, 36, 37, 38, 39] (by decide +kernel) (by decide +kernel)
set_option maxRecDepth 20000 in
theorem gX7_ring_X7_layRing : GoodIn wsX7_ring (wsV RX7 108 RX7 yX7_layRing wsX7_layRing) := goodIn_app (goodIn_of _ (by decide +kernel)) ggX7_ring_X7_layRing
theorem dX7_ring_0 : decode cX7_ring 0 = .ok (.iload_n 1, 1) := by decide +kernel
theorem dX7_ring_1 : decode cX7_ring 1 = .ok (.ifCond .ge 5, 3) := by decide +kernel
theorem dX7_ring_4 : decode cX7_ring 4 = .ok (.iconst (-1), 1) := by decide +kernel
theorem dX7_ring_5 : decode cX7_ring 5 = .ok (.ireturn, 1) := by decide +kernel
theorem dX7_ring_6 : decode cX7_ring 6 = .ok (.iload_n 1, 1) := by decide +kernel
theorem dX7_ring_7 : decode cX7_ring 7 = .ok (.aload_n 0, 1) := by decide +kernel
theorem dX7_ring_8 : decode cX7_ring 8 = .ok (.invokevirtual 108, 3) := by decide +kernel
theorem dX7_ring_11 : decode cX7_ring 11 = .ok (.if_icmp .ge 12, 3) := by decide +kernel
theorem dX7_ring_14 : decode cX7_ring 14 = .ok (.aload_n 0, 1) := by decide +kernel
theorem dX7_ring_15 : decode cX7_ring 15 = .ok (.getfield 19, 3) := by decide +kernel
theorem dX7_ring_18 : decode cX7_ring 18 = .ok (.iload_n 1, 1) := by decide +kernel
theorem dX7_ring_19 : decode cX7_ring 19 = .ok (.iaload, 1) := by decide +kernel
theorem dX7_ring_20 : decode cX7_ring 20 = .ok (.goto 5, 3) := by decide +kernel
theorem dX7_ring_23 : decode cX7_ring 23 = .ok (.bipush (-9), 2) := by decide +kernel
theorem dX7_ring_25 : decode cX7_ring 25 = .ok (.ireturn, 1) := by decide +kernel
set_option maxRecDepth 20000 in
theorem ggX7_middle_X7_isGuest : GoodIn wsX7_middle wsX7_isGuest := goodIn_r _ [5, 6, 7, 8, 4, 9, 22, 23, 24, 25, 26, 27, 28, 29, 30, 31, 32, 33, 34, 35, 36, 37] (by decide +kernel) (by decide +kernel)
set_option maxRecDepth 20000 in
theorem gX7_middle_X7_isGuest : GoodIn wsX7_middle (wsV RX7 43 RX7 yX7_isGuest wsX7_isGuest) := goodIn_app (goodIn_of _ (by decide +kernel)) ggX7_middle_X7_isGuest
set_option maxRecDepth 20000 in
theorem ggX7_middle_X7_cutAt : GoodIn wsX7_middle wsX7_cutAt := goodIn_r _ [13, 14, 15, 16, 4, 17, 18, 19, 20, 21, 6, 22, 23, 24, 25, 26, 27, 28, 29, 30, 31, 32, 33, 34, 35, 36, 37] (by decide +kernel) (by decide +kernel)
set_option maxRecDepth 20000 in
theorem gX7_middle_X7_cutAt : GoodIn wsX7_middle (wsV RX7 99 RX7 yX7_cutAt wsX7_cutAt) := goodIn_app (goodIn_of _ (by decide +kernel)) ggX7_middle_X7_cutAt
theorem dX7_middle_0 : decode cX7_middle 0 = .ok (.aload_n 0, 1) := by decide +kernel
theorem dX7_middle_1 : decode cX7_middle 1 = .ok (.iload_n 1, 1) := by decide +kernel
theorem dX7_middle_2 : decode cX7_middle 2 = .ok (.invokevirtual 43, 3) := by decide +kernel
theorem dX7_middle_5 : decode cX7_middle 5 = .ok (.ifCond .eq 14, 3) := by decide +kernel
theorem dX7_middle_8 : decode cX7_middle 8 = .ok (.aload_n 0, 1) := by decide +kernel
theorem dX7_middle_9 : decode cX7_middle 9 = .ok (.iload_n 1, 1) := by decide +kernel
theorem dX7_middle_10 : decode cX7_middle 10 = .ok (.iconst 0, 1) := by decide +kernel
theorem dX7_middle_11 : decode cX7_middle 11 = .ok (.bipush 23, 2) := by decide +kernel
theorem dX7_middle_13 : decode cX7_middle 13 = .ok (.invokevirtual 99, 3) := by decide +kernel
theorem dX7_middle_16 : decode cX7_middle 16 = .ok (.goto 4, 3) := by decide +kernel
theorem dX7_middle_19 : decode cX7_middle 19 = .ok (.iconst (-1), 1) := by decide +kernel
theorem dX7_middle_20 : decode cX7_middle 20 = .ok (.ireturn, 1) := by decide +kernel
theorem dX7_layGuests_0 : decode cX7_layGuests 0 = .ok (.iload_n 1, 1) := by decide +kernel
theorem dX7_layGuests_1 : decode cX7_layGuests 1 = .ok (.istore_n 2, 1) := by decide +kernel
theorem dX7_layGuests_2 : decode cX7_layGuests 2 = .ok (.iconst 0, 1) := by decide +kernel
theorem dX7_layGuests_3 : decode cX7_layGuests 3 = .ok (.istore_n 3, 1) := by decide +kernel
theorem dX7_layGuests_4 : decode cX7_layGuests 4 = .ok (.aload_n 0, 1) := by decide +kernel
theorem dX7_layGuests_5 : decode cX7_layGuests 5 = .ok (.getfield 7, 3) := by decide +kernel
theorem dX7_layGuests_8 : decode cX7_layGuests 8 = .ok (.iconst 0, 1) := by decide +kernel
theorem dX7_layGuests_9 : decode cX7_layGuests 9 = .ok (.iaload, 1) := by decide +kernel
theorem dX7_layGuests_10 : decode cX7_layGuests 10 = .ok (.iconst 1, 1) := by decide +kernel
theorem dX7_layGuests_11 : decode cX7_layGuests 11 = .ok (.isub, 1) := by decide +kernel
theorem dX7_layGuests_12 : decode cX7_layGuests 12 = .ok (.istore 4, 2) := by decide +kernel
theorem dX7_layGuests_14 : decode cX7_layGuests 14 = .ok (.iload 4, 2) := by decide +kernel
theorem dX7_layGuests_16 : decode cX7_layGuests 16 = .ok (.ifCond .lt 35, 3) := by decide +kernel
theorem dX7_layGuests_19 : decode cX7_layGuests 19 = .ok (.aload_n 0, 1) := by decide +kernel
theorem dX7_layGuests_20 : decode cX7_layGuests 20 = .ok (.getfield 25, 3) := by decide +kernel
theorem dX7_layGuests_23 : decode cX7_layGuests 23 = .ok (.iload 4, 2) := by decide +kernel
theorem dX7_layGuests_25 : decode cX7_layGuests 25 = .ok (.iload_n 2, 1) := by decide +kernel
theorem dX7_layGuests_26 : decode cX7_layGuests 26 = .ok (.iconst 4, 1) := by decide +kernel
theorem dX7_layGuests_27 : decode cX7_layGuests 27 = .ok (.irem, 1) := by decide +kernel
theorem dX7_layGuests_28 : decode cX7_layGuests 28 = .ok (.iastore, 1) := by decide +kernel
theorem dX7_layGuests_29 : decode cX7_layGuests 29 = .ok (.iload_n 2, 1) := by decide +kernel
theorem dX7_layGuests_30 : decode cX7_layGuests 30 = .ok (.iconst 4, 1) := by decide +kernel
theorem dX7_layGuests_31 : decode cX7_layGuests 31 = .ok (.idiv, 1) := by decide +kernel
theorem dX7_layGuests_32 : decode cX7_layGuests 32 = .ok (.istore_n 2, 1) := by decide +kernel
theorem dX7_layGuests_33 : decode cX7_layGuests 33 = .ok (.iload_n 3, 1) := by decide +kernel
theorem dX7_layGuests_34 : decode cX7_layGuests 34 = .ok (.iconst 1, 1) := by decide +kernel
theorem dX7_layGuests_35 : decode cX7_layGuests 35 = .ok (.aload_n 0, 1) := by decide +kernel
theorem dX7_layGuests_36 : decode cX7_layGuests 36 = .ok (.getfield 25, 3) := by decide +kernel
theorem dX7_layGuests_39 : decode cX7_layGuests 39 = .ok (.iload 4, 2) := by decide +kernel
theorem dX7_layGuests_41 : decode cX7_layGuests 41 = .ok (.iaload, 1) := by decide +kernel
theorem dX7_layGuests_42 : decode cX7_layGuests 42 = .ok (.ishl, 1) := by decide +kernel
theorem dX7_layGuests_43 : decode cX7_layGuests 43 = .ok (.ior, 1) := by decide +kernel
theorem dX7_layGuests_44 : decode cX7_layGuests 44 = .ok (.istore_n 3, 1) := by decide +kernel
theorem dX7_layGuests_45 : decode cX7_layGuests 45 = .ok (.iinc 4 (-1), 3) := by decide +kernel
theorem dX7_layGuests_48 : decode cX7_layGuests 48 = .ok (.goto (-34), 3) := by decide +kernel
theorem dX7_layGuests_51 : decode cX7_layGuests 51 = .ok (.iload_n 3, 1) := by decide +kernel
theorem dX7_layGuests_52 : decode cX7_layGuests 52 = .ok (.iconst 1, 1) := by decide +kernel
theorem dX7_layGuests_53 : decode cX7_layGuests 53 = .ok (.aload_n 0, 1) := by decide +kernel
theorem dX7_layGuests_54 : decode cX7_layGuests 54 = .ok (.getfield 7, 3) := by decide +kernel
theorem dX7_layGuests_57 : decode cX7_layGuests 57 = .ok (.iconst 0, 1) := by decide +kernel
theorem dX7_layGuests_58 : decode cX7_layGuests 58 = .ok (.iaload, 1) := by decide +kernel
theorem dX7_layGuests_59 : decode cX7_layGuests 59 = .ok (.ishl, 1) := by decide +kernel
theorem dX7_layGuests_60 : decode cX7_layGuests 60 = .ok (.iconst 1, 1) := by decide +kernel
theorem dX7_layGuests_61 : decode cX7_layGuests 61 = .ok (.isub, 1) := by decide +kernel
theorem dX7_layGuests_62 : decode cX7_layGuests 62 = .ok (.if_icmp .ne 7, 3) := by decide +kernel
theorem dX7_layGuests_65 : decode cX7_layGuests 65 = .ok (.iconst 1, 1) := by decide +kernel
theorem dX7_layGuests_66 : decode cX7_layGuests 66 = .ok (.goto 4, 3) := by decide +kernel
theorem dX7_layGuests_69 : decode cX7_layGuests 69 = .ok (.iconst 0, 1) := by decide +kernel
theorem dX7_layGuests_70 : decode cX7_layGuests 70 = .ok (.ireturn, 1) := by decide +kernel
set_option maxRecDepth 20000 in
theorem ggX7_weighs_X7_spanValue : GoodIn wsX7_weighs wsX7_spanValue := goodIn_r _ [12, 13, 14, 15, 11, 16, 1, 21, 22, 23, 24, 25, 26, 27, 28, 29, 30, 31, 32, 33, 34, 35, 36] (by decide +kernel) (by decide +kernel)
set_option maxRecDepth 20000 in
theorem gX7_weighs_X7_spanValue : GoodIn wsX7_weighs (wsV RX7 51 RX7 yX7_spanValue wsX7_spanValue) := goodIn_app (goodIn_of _ (by decide +kernel)) ggX7_weighs_X7_spanValue
set_option maxRecDepth 20000 in
theorem ggX7_weighs_X7_total : GoodIn wsX7_weighs wsX7_total := goodIn_r _ [20, 8, 9, 10, 11, 12, 13, 14, 15, 16, 1, 21, 22, 23, 24, 25, 26, 27, 28, 29, 30, 31, 32, 33, 34, 35, 36] (by decide +kernel) (by decide +kernel)
set_option maxRecDepth 20000 in
theorem gX7_weighs_X7_total : GoodIn wsX7_weighs (wsV RX7 65 RX7 yX7_total wsX7_total) := goodIn_app (goodIn_of _ (by decide +kernel)) ggX7_weighs_X7_total
theorem dX7_weighs_0 : decode cX7_weighs 0 = .ok (.iconst 1, 1) := by decide +kernel
theorem dX7_weighs_1 : decode cX7_weighs 1 = .ok (.istore_n 1, 1) := by decide +kernel
theorem dX7_weighs_2 : decode cX7_weighs 2 = .ok (.iconst 0, 1) := by decide +kernel
theorem dX7_weighs_3 : decode cX7_weighs 3 = .ok (.istore_n 2, 1) := by decide +kernel
theorem dX7_weighs_4 : decode cX7_weighs 4 = .ok (.iconst 0, 1) := by decide +kernel
theorem dX7_weighs_5 : decode cX7_weighs 5 = .ok (.istore_n 3, 1) := by decide +kernel
theorem dX7_weighs_6 : decode cX7_weighs 6 = .ok (.iload_n 3, 1) := by decide +kernel
theorem dX7_weighs_7 : decode cX7_weighs 7 = .ok (.aload_n 0, 1) := by decide +kernel
theorem dX7_weighs_8 : decode cX7_weighs 8 = .ok (.getfield 7, 3) := by decide +kernel
theorem dX7_weighs_11 : decode cX7_weighs 11 = .ok (.iconst 0, 1) := by decide +kernel
theorem dX7_weighs_12 : decode cX7_weighs 12 = .ok (.iaload, 1) := by decide +kernel
theorem dX7_weighs_13 : decode cX7_weighs 13 = .ok (.if_icmp .ge 98, 3) := by decide +kernel
theorem dX7_weighs_16 : decode cX7_weighs 16 = .ok (.aload_n 0, 1) := by decide +kernel
theorem dX7_weighs_17 : decode cX7_weighs 17 = .ok (.aload_n 0, 1) := by decide +kernel
theorem dX7_weighs_18 : decode cX7_weighs 18 = .ok (.getfield 25, 3) := by decide +kernel
theorem dX7_weighs_21 : decode cX7_weighs 21 = .ok (.iload_n 3, 1) := by decide +kernel
theorem dX7_weighs_22 : decode cX7_weighs 22 = .ok (.iaload, 1) := by decide +kernel
theorem dX7_weighs_23 : decode cX7_weighs 23 = .ok (.aload_n 0, 1) := by decide +kernel
theorem dX7_weighs_24 : decode cX7_weighs 24 = .ok (.getfield 22, 3) := by decide +kernel
theorem dX7_weighs_27 : decode cX7_weighs 27 = .ok (.iload_n 3, 1) := by decide +kernel
theorem dX7_weighs_28 : decode cX7_weighs 28 = .ok (.iaload, 1) := by decide +kernel
theorem dX7_weighs_29 : decode cX7_weighs 29 = .ok (.aload_n 0, 1) := by decide +kernel
theorem dX7_weighs_30 : decode cX7_weighs 30 = .ok (.getfield 22, 3) := by decide +kernel
theorem dX7_weighs_33 : decode cX7_weighs 33 = .ok (.iload_n 3, 1) := by decide +kernel
theorem dX7_weighs_34 : decode cX7_weighs 34 = .ok (.iconst 1, 1) := by decide +kernel
theorem dX7_weighs_35 : decode cX7_weighs 35 = .ok (.iadd, 1) := by decide +kernel
theorem dX7_weighs_36 : decode cX7_weighs 36 = .ok (.iaload, 1) := by decide +kernel
theorem dX7_weighs_37 : decode cX7_weighs 37 = .ok (.invokevirtual 51, 3) := by decide +kernel
theorem dX7_weighs_40 : decode cX7_weighs 40 = .ok (.istore 4, 2) := by decide +kernel
theorem dX7_weighs_42 : decode cX7_weighs 42 = .ok (.iload 4, 2) := by decide +kernel
theorem dX7_weighs_44 : decode cX7_weighs 44 = .ok (.ifCond .ne 7, 3) := by decide +kernel
theorem dX7_weighs_47 : decode cX7_weighs 47 = .ok (.iconst 1, 1) := by decide +kernel
theorem dX7_weighs_48 : decode cX7_weighs 48 = .ok (.goto 13, 3) := by decide +kernel
theorem dX7_weighs_51 : decode cX7_weighs 51 = .ok (.aload_n 0, 1) := by decide +kernel
theorem dX7_weighs_52 : decode cX7_weighs 52 = .ok (.aload_n 0, 1) := by decide +kernel
theorem dX7_weighs_53 : decode cX7_weighs 53 = .ok (.getfield 25, 3) := by decide +kernel
theorem dX7_weighs_56 : decode cX7_weighs 56 = .ok (.iload_n 3, 1) := by decide +kernel
theorem dX7_weighs_57 : decode cX7_weighs 57 = .ok (.iaload, 1) := by decide +kernel
theorem dX7_weighs_58 : decode cX7_weighs 58 = .ok (.invokevirtual 65, 3) := by decide +kernel
theorem dX7_weighs_61 : decode cX7_weighs 61 = .ok (.istore 5, 2) := by decide +kernel
theorem dX7_weighs_63 : decode cX7_weighs 63 = .ok (.iload 4, 2) := by decide +kernel
theorem dX7_weighs_65 : decode cX7_weighs 65 = .ok (.iload_n 2, 1) := by decide +kernel
theorem dX7_weighs_66 : decode cX7_weighs 66 = .ok (.imul, 1) := by decide +kernel
theorem dX7_weighs_67 : decode cX7_weighs 67 = .ok (.iload_n 1, 1) := by decide +kernel
theorem dX7_weighs_68 : decode cX7_weighs 68 = .ok (.iload 5, 2) := by decide +kernel
theorem dX7_weighs_70 : decode cX7_weighs 70 = .ok (.imul, 1) := by decide +kernel
theorem dX7_weighs_71 : decode cX7_weighs 71 = .ok (.if_icmp .ge 7, 3) := by decide +kernel
theorem dX7_weighs_74 : decode cX7_weighs 74 = .ok (.iconst 1, 1) := by decide +kernel
theorem dX7_weighs_75 : decode cX7_weighs 75 = .ok (.goto 4, 3) := by decide +kernel
theorem dX7_weighs_78 : decode cX7_weighs 78 = .ok (.iconst 0, 1) := by decide +kernel
theorem dX7_weighs_79 : decode cX7_weighs 79 = .ok (.istore 6, 2) := by decide +kernel
theorem dX7_weighs_81 : decode cX7_weighs 81 = .ok (.iload 6, 2) := by decide +kernel
theorem dX7_weighs_83 : decode cX7_weighs 83 = .ok (.ifCond .eq 8, 3) := by decide +kernel
theorem dX7_weighs_86 : decode cX7_weighs 86 = .ok (.iload 4, 2) := by decide +kernel
theorem dX7_weighs_88 : decode cX7_weighs 88 = .ok (.goto 4, 3) := by decide +kernel
theorem dX7_weighs_91 : decode cX7_weighs 91 = .ok (.iload_n 1, 1) := by decide +kernel
theorem dX7_weighs_92 : decode cX7_weighs 92 = .ok (.istore_n 1, 1) := by decide +kernel
theorem dX7_weighs_93 : decode cX7_weighs 93 = .ok (.iload 6, 2) := by decide +kernel
theorem dX7_weighs_95 : decode cX7_weighs 95 = .ok (.ifCond .eq 8, 3) := by decide +kernel
theorem dX7_weighs_98 : decode cX7_weighs 98 = .ok (.iload 5, 2) := by decide +kernel
theorem dX7_weighs_100 : decode cX7_weighs 100 = .ok (.goto 4, 3) := by decide +kernel
theorem dX7_weighs_103 : decode cX7_weighs 103 = .ok (.iload_n 2, 1) := by decide +kernel
theorem dX7_weighs_104 : decode cX7_weighs 104 = .ok (.istore_n 2, 1) := by decide +kernel
theorem dX7_weighs_105 : decode cX7_weighs 105 = .ok (.iinc 3 1, 3) := by decide +kernel
theorem dX7_weighs_108 : decode cX7_weighs 108 = .ok (.goto (-102), 3) := by decide +kernel
theorem dX7_weighs_111 : decode cX7_weighs 111 = .ok (.aload_n 0, 1) := by decide +kernel
theorem dX7_weighs_112 : decode cX7_weighs 112 = .ok (.getfield 132, 3) := by decide +kernel
theorem dX7_weighs_115 : decode cX7_weighs 115 = .ok (.ifCond .eq 18, 3) := by decide +kernel
theorem dX7_weighs_118 : decode cX7_weighs 118 = .ok (.iload_n 1, 1) := by decide +kernel
theorem dX7_weighs_119 : decode cX7_weighs 119 = .ok (.aload_n 0, 1) := by decide +kernel
theorem dX7_weighs_120 : decode cX7_weighs 120 = .ok (.getfield 132, 3) := by decide +kernel
theorem dX7_weighs_123 : decode cX7_weighs 123 = .ok (.imul, 1) := by decide +kernel
theorem dX7_weighs_124 : decode cX7_weighs 124 = .ok (.aload_n 0, 1) := by decide +kernel
theorem dX7_weighs_125 : decode cX7_weighs 125 = .ok (.getfield 135, 3) := by decide +kernel
theorem dX7_weighs_128 : decode cX7_weighs 128 = .ok (.iload_n 2, 1) := by decide +kernel
theorem dX7_weighs_129 : decode cX7_weighs 129 = .ok (.imul, 1) := by decide +kernel
theorem dX7_weighs_130 : decode cX7_weighs 130 = .ok (.if_icmp .le 48, 3) := by decide +kernel
theorem dX7_weighs_133 : decode cX7_weighs 133 = .ok (.aload_n 0, 1) := by decide +kernel
theorem dX7_weighs_134 : decode cX7_weighs 134 = .ok (.iload_n 1, 1) := by decide +kernel
theorem dX7_weighs_135 : decode cX7_weighs 135 = .ok (.putfield 135, 3) := by decide +kernel
theorem dX7_weighs_138 : decode cX7_weighs 138 = .ok (.aload_n 0, 1) := by decide +kernel
theorem dX7_weighs_139 : decode cX7_weighs 139 = .ok (.iload_n 2, 1) := by decide +kernel
theorem dX7_weighs_140 : decode cX7_weighs 140 = .ok (.putfield 132, 3) := by decide +kernel
theorem dX7_weighs_143 : decode cX7_weighs 143 = .ok (.aload_n 0, 1) := by decide +kernel
theorem dX7_weighs_144 : decode cX7_weighs 144 = .ok (.aload_n 0, 1) := by decide +kernel
theorem dX7_weighs_145 : decode cX7_weighs 145 = .ok (.getfield 25, 3) := by decide +kernel
theorem dX7_weighs_148 : decode cX7_weighs 148 = .ok (.iconst 0, 1) := by decide +kernel
theorem dX7_weighs_149 : decode cX7_weighs 149 = .ok (.iaload, 1) := by decide +kernel
theorem dX7_weighs_150 : decode cX7_weighs 150 = .ok (.putfield 138, 3) := by decide +kernel
theorem dX7_weighs_153 : decode cX7_weighs 153 = .ok (.iconst 0, 1) := by decide +kernel
theorem dX7_weighs_154 : decode cX7_weighs 154 = .ok (.istore_n 3, 1) := by decide +kernel
theorem dX7_weighs_155 : decode cX7_weighs 155 = .ok (.iload_n 3, 1) := by decide +kernel
theorem dX7_weighs_156 : decode cX7_weighs 156 = .ok (.iconst 5, 1) := by decide +kernel
theorem dX7_weighs_157 : decode cX7_weighs 157 = .ok (.if_icmp .ge 21, 3) := by decide +kernel
theorem dX7_weighs_160 : decode cX7_weighs 160 = .ok (.aload_n 0, 1) := by decide +kernel
theorem dX7_weighs_161 : decode cX7_weighs 161 = .ok (.getfield 28, 3) := by decide +kernel
theorem dX7_weighs_164 : decode cX7_weighs 164 = .ok (.iload_n 3, 1) := by decide +kernel
theorem dX7_weighs_165 : decode cX7_weighs 165 = .ok (.aload_n 0, 1) := by decide +kernel
theorem dX7_weighs_166 : decode cX7_weighs 166 = .ok (.getfield 22, 3) := by decide +kernel
theorem dX7_weighs_169 : decode cX7_weighs 169 = .ok (.iload_n 3, 1) := by decide +kernel
theorem dX7_weighs_170 : decode cX7_weighs 170 = .ok (.iaload, 1) := by decide +kernel
theorem dX7_weighs_171 : decode cX7_weighs 171 = .ok (.iastore, 1) := by decide +kernel
theorem dX7_weighs_172 : decode cX7_weighs 172 = .ok (.iinc 3 1, 3) := by decide +kernel
theorem dX7_weighs_175 : decode cX7_weighs 175 = .ok (.goto (-20), 3) := by decide +kernel
theorem dX7_weighs_178 : decode cX7_weighs 178 = .ok (.return_, 1) := by decide +kernel
set_option maxRecDepth 20000 in
theorem ggX7_isCalm_X7_spanValue : GoodIn wsX7_isCalm wsX7_spanValue := goodIn_r _ [8, 9, 10, 11, 7, 12, 1, 13, 14, 15, 16, 17, 18, 19, 20, 21, 22, 23, 24, 25, 26, 27, 28] (by decide +kernel) (by decide +kernel)
set_option maxRecDepth 20000 in
theorem gX7_isCalm_X7_spanValue : GoodIn wsX7_isCalm (wsV RX7 51 RX7 yX7_spanValue wsX7_spanValue) := goodIn_app (goodIn_of _ (by decide +kernel)) ggX7_isCalm_X7_spanValue
theorem dX7_isCalm_0 : decode cX7_isCalm 0 = .ok (.iconst 0, 1) := by decide +kernel
theorem dX7_isCalm_1 : decode cX7_isCalm 1 = .ok (.istore_n 1, 1) := by decide +kernel
theorem dX7_isCalm_2 : decode cX7_isCalm 2 = .ok (.iload_n 1, 1) := by decide +kernel
theorem dX7_isCalm_3 : decode cX7_isCalm 3 = .ok (.aload_n 0, 1) := by decide +kernel
theorem dX7_isCalm_4 : decode cX7_isCalm 4 = .ok (.getfield 7, 3) := by decide +kernel
theorem dX7_isCalm_7 : decode cX7_isCalm 7 = .ok (.iconst 0, 1) := by decide +kernel
theorem dX7_isCalm_8 : decode cX7_isCalm 8 = .ok (.iaload, 1) := by decide +kernel
theorem dX7_isCalm_9 : decode cX7_isCalm 9 = .ok (.if_icmp .ge 82, 3) := by decide +kernel
theorem dX7_isCalm_12 : decode cX7_isCalm 12 = .ok (.aload_n 0, 1) := by decide +kernel
theorem dX7_isCalm_13 : decode cX7_isCalm 13 = .ok (.aload_n 0, 1) := by decide +kernel
theorem dX7_isCalm_14 : decode cX7_isCalm 14 = .ok (.getfield 25, 3) := by decide +kernel
theorem dX7_isCalm_17 : decode cX7_isCalm 17 = .ok (.iload_n 1, 1) := by decide +kernel
theorem dX7_isCalm_18 : decode cX7_isCalm 18 = .ok (.iaload, 1) := by decide +kernel
theorem dX7_isCalm_19 : decode cX7_isCalm 19 = .ok (.aload_n 0, 1) := by decide +kernel
theorem dX7_isCalm_20 : decode cX7_isCalm 20 = .ok (.getfield 22, 3) := by decide +kernel
theorem dX7_isCalm_23 : decode cX7_isCalm 23 = .ok (.iload_n 1, 1) := by decide +kernel
theorem dX7_isCalm_24 : decode cX7_isCalm 24 = .ok (.iaload, 1) := by decide +kernel
theorem dX7_isCalm_25 : decode cX7_isCalm 25 = .ok (.aload_n 0, 1) := by decide +kernel
theorem dX7_isCalm_26 : decode cX7_isCalm 26 = .ok (.getfield 22, 3) := by decide +kernel
theorem dX7_isCalm_29 : decode cX7_isCalm 29 = .ok (.iload_n 1, 1) := by decide +kernel
theorem dX7_isCalm_30 : decode cX7_isCalm 30 = .ok (.iconst 1, 1) := by decide +kernel
theorem dX7_isCalm_31 : decode cX7_isCalm 31 = .ok (.iadd, 1) := by decide +kernel
theorem dX7_isCalm_32 : decode cX7_isCalm 32 = .ok (.iaload, 1) := by decide +kernel
theorem dX7_isCalm_33 : decode cX7_isCalm 33 = .ok (.invokevirtual 51, 3) := by decide +kernel
theorem dX7_isCalm_36 : decode cX7_isCalm 36 = .ok (.istore_n 2, 1) := by decide +kernel
theorem dX7_isCalm_37 : decode cX7_isCalm 37 = .ok (.iconst 0, 1) := by decide +kernel
theorem dX7_isCalm_38 : decode cX7_isCalm 38 = .ok (.istore_n 3, 1) := by decide +kernel
theorem dX7_isCalm_39 : decode cX7_isCalm 39 = .ok (.iload_n 3, 1) := by decide +kernel
theorem dX7_isCalm_40 : decode cX7_isCalm 40 = .ok (.aload_n 0, 1) := by decide +kernel
theorem dX7_isCalm_41 : decode cX7_isCalm 41 = .ok (.getfield 7, 3) := by decide +kernel
theorem dX7_isCalm_44 : decode cX7_isCalm 44 = .ok (.iconst 0, 1) := by decide +kernel
theorem dX7_isCalm_45 : decode cX7_isCalm 45 = .ok (.iaload, 1) := by decide +kernel
theorem dX7_isCalm_46 : decode cX7_isCalm 46 = .ok (.if_icmp .ge 39, 3) := by decide +kernel
theorem dX7_isCalm_49 : decode cX7_isCalm 49 = .ok (.aload_n 0, 1) := by decide +kernel
theorem dX7_isCalm_50 : decode cX7_isCalm 50 = .ok (.aload_n 0, 1) := by decide +kernel
theorem dX7_isCalm_51 : decode cX7_isCalm 51 = .ok (.getfield 25, 3) := by decide +kernel
theorem dX7_isCalm_54 : decode cX7_isCalm 54 = .ok (.iload_n 1, 1) := by decide +kernel
theorem dX7_isCalm_55 : decode cX7_isCalm 55 = .ok (.iaload, 1) := by decide +kernel
theorem dX7_isCalm_56 : decode cX7_isCalm 56 = .ok (.aload_n 0, 1) := by decide +kernel
theorem dX7_isCalm_57 : decode cX7_isCalm 57 = .ok (.getfield 22, 3) := by decide +kernel
theorem dX7_isCalm_60 : decode cX7_isCalm 60 = .ok (.iload_n 3, 1) := by decide +kernel
theorem dX7_isCalm_61 : decode cX7_isCalm 61 = .ok (.iaload, 1) := by decide +kernel
theorem dX7_isCalm_62 : decode cX7_isCalm 62 = .ok (.aload_n 0, 1) := by decide +kernel
theorem dX7_isCalm_63 : decode cX7_isCalm 63 = .ok (.getfield 22, 3) := by decide +kernel
theorem dX7_isCalm_66 : decode cX7_isCalm 66 = .ok (.iload_n 3, 1) := by decide +kernel
theorem dX7_isCalm_67 : decode cX7_isCalm 67 = .ok (.iconst 1, 1) := by decide +kernel
theorem dX7_isCalm_68 : decode cX7_isCalm 68 = .ok (.iadd, 1) := by decide +kernel
theorem dX7_isCalm_69 : decode cX7_isCalm 69 = .ok (.iaload, 1) := by decide +kernel
theorem dX7_isCalm_70 : decode cX7_isCalm 70 = .ok (.invokevirtual 51, 3) := by decide +kernel
theorem dX7_isCalm_73 : decode cX7_isCalm 73 = .ok (.iload_n 2, 1) := by decide +kernel
theorem dX7_isCalm_74 : decode cX7_isCalm 74 = .ok (.if_icmp .le 5, 3) := by decide +kernel
theorem dX7_isCalm_77 : decode cX7_isCalm 77 = .ok (.iconst 0, 1) := by decide +kernel
theorem dX7_isCalm_78 : decode cX7_isCalm 78 = .ok (.ireturn, 1) := by decide +kernel
theorem dX7_isCalm_79 : decode cX7_isCalm 79 = .ok (.iinc 3 1, 3) := by decide +kernel
theorem dX7_isCalm_82 : decode cX7_isCalm 82 = .ok (.goto (-43), 3) := by decide +kernel
theorem dX7_isCalm_85 : decode cX7_isCalm 85 = .ok (.iinc 1 1, 3) := by decide +kernel
theorem dX7_isCalm_88 : decode cX7_isCalm 88 = .ok (.goto (-86), 3) := by decide +kernel
theorem dX7_isCalm_91 : decode cX7_isCalm 91 = .ok (.iconst 1, 1) := by decide +kernel
theorem dX7_isCalm_92 : decode cX7_isCalm 92 = .ok (.ireturn, 1) := by decide +kernel
set_option maxRecDepth 20000 in
theorem ggX7_looksAt_X7_layGuests : GoodIn wsX7_looksAt wsX7_layGuests := goodIn_r _ [11, 1, 3, 36, 37, 38, 39, 40, 41, 42, 43, 44, 45, 46, 47, 48, 49, 50, 51] (by decide +kernel) (by decide +kernel)
set_option maxRecDepth 20000 in
theorem gX7_looksAt_X7_layGuests : GoodIn wsX7_looksAt (wsV RX7 141 RX7 yX7_layGuests wsX7_layGuests) := goodIn_app (goodIn_of _ (by decide +kernel)) ggX7_looksAt_X7_layGuests
set_option maxRecDepth 20000 in
theorem ggX7_looksAt_X7_weighs : GoodIn wsX7_looksAt wsX7_weighs := goodIn_r _ [15, 1, 3, 5, 16, 17, 18, 19, 20, 21, 22, 10, 23, 24, 25, 26, 27, 28, 29, 30, 31, 36, 37, 38, 39, 40, 41, 42, 43, 44, 45, 46, 47, 48, 49, 50, 51] (by decide +kernel) (by decide +kernel)
set_option maxRecDepth 20000 in
theorem gX7_looksAt_X7_weighs : GoodIn wsX7_looksAt (wsV RX7 144 RX7 yX7_weighs wsX7_weighs) := goodIn_app (goodIn_of _ (by decide +kernel)) ggX7_looksAt_X7_weighs
set_option maxRecDepth 20000 in
theorem ggX7_looksAt_X7_isCalm : GoodIn wsX7_looksAt wsX7_isCalm := goodIn_r _ [35, 1, 3, 5, 20, 21, 22, 10, 23, 24, 25, 26, 27, 36, 37, 38, 39, 40, 41, 42, 43, 44, 45, 46, 47, 48, 49, 50, 51] (by decide +kernel) (by decide +kernel)
set_option maxRecDepth 20000 in
theorem gX7_looksAt_X7_isCalm : GoodIn wsX7_looksAt (wsV RX7 147 RX7 yX7_isCalm wsX7_isCalm) := goodIn_app (goodIn_of _ (by decide +kernel)) ggX7_looksAt_X7_isCalm
theorem dX7_looksAt_0 : decode cX7_looksAt 0 = .ok (.iconst 1, 1) := by decide +kernel
theorem dX7_looksAt_1 : decode cX7_looksAt 1 = .ok (.istore_n 2, 1) := by decide +kernel
theorem dX7_looksAt_2 : decode cX7_looksAt 2 = .ok (.iconst 0, 1) := by decide +kernel
theorem dX7_looksAt_3 : decode cX7_looksAt 3 = .ok (.istore_n 3, 1) := by decide +kernel
theorem dX7_looksAt_4 : decode cX7_looksAt 4 = .ok (.iload_n 3, 1) := by decide +kernel
theorem dX7_looksAt_5 : decode cX7_looksAt 5 = .ok (.aload_n 0, 1) := by decide +kernel
theorem dX7_looksAt_6 : decode cX7_looksAt 6 = .ok (.getfield 7, 3) := by decide +kernel
theorem dX7_looksAt_9 : decode cX7_looksAt 9 = .ok (.iconst 0, 1) := by decide +kernel
theorem dX7_looksAt_10 : decode cX7_looksAt 10 = .ok (.iaload, 1) := by decide +kernel
theorem dX7_looksAt_11 : decode cX7_looksAt 11 = .ok (.if_icmp .ge 13, 3) := by decide +kernel
theorem dX7_looksAt_14 : decode cX7_looksAt 14 = .ok (.iload_n 2, 1) := by decide +kernel
theorem dX7_looksAt_15 : decode cX7_looksAt 15 = .ok (.iconst 4, 1) := by decide +kernel
theorem dX7_looksAt_16 : decode cX7_looksAt 16 = .ok (.imul, 1) := by decide +kernel
theorem dX7_looksAt_17 : decode cX7_looksAt 17 = .ok (.istore_n 2, 1) := by decide +kernel
theorem dX7_looksAt_18 : decode cX7_looksAt 18 = .ok (.iinc 3 1, 3) := by decide +kernel
theorem dX7_looksAt_21 : decode cX7_looksAt 21 = .ok (.goto (-17), 3) := by decide +kernel
theorem dX7_looksAt_24 : decode cX7_looksAt 24 = .ok (.iconst 0, 1) := by decide +kernel
theorem dX7_looksAt_25 : decode cX7_looksAt 25 = .ok (.istore_n 3, 1) := by decide +kernel
theorem dX7_looksAt_26 : decode cX7_looksAt 26 = .ok (.iload_n 3, 1) := by decide +kernel
theorem dX7_looksAt_27 : decode cX7_looksAt 27 = .ok (.iload_n 2, 1) := by decide +kernel
theorem dX7_looksAt_28 : decode cX7_looksAt 28 = .ok (.if_icmp .ge 93, 3) := by decide +kernel
theorem dX7_looksAt_31 : decode cX7_looksAt 31 = .ok (.aload_n 0, 1) := by decide +kernel
theorem dX7_looksAt_32 : decode cX7_looksAt 32 = .ok (.iload_n 3, 1) := by decide +kernel
theorem dX7_looksAt_33 : decode cX7_looksAt 33 = .ok (.invokevirtual 141, 3) := by decide +kernel
theorem dX7_looksAt_36 : decode cX7_looksAt 36 = .ok (.ifCond .eq 79, 3) := by decide +kernel
theorem dX7_looksAt_39 : decode cX7_looksAt 39 = .ok (.iload_n 1, 1) := by decide +kernel
theorem dX7_looksAt_40 : decode cX7_looksAt 40 = .ok (.ifCond .ne 10, 3) := by decide +kernel
theorem dX7_looksAt_43 : decode cX7_looksAt 43 = .ok (.aload_n 0, 1) := by decide +kernel
theorem dX7_looksAt_44 : decode cX7_looksAt 44 = .ok (.invokevirtual 144, 3) := by decide +kernel
theorem dX7_looksAt_47 : decode cX7_looksAt 47 = .ok (.goto 68, 3) := by decide +kernel
theorem dX7_looksAt_50 : decode cX7_looksAt 50 = .ok (.aload_n 0, 1) := by decide +kernel
theorem dX7_looksAt_51 : decode cX7_looksAt 51 = .ok (.invokevirtual 147, 3) := by decide +kernel
theorem dX7_looksAt_54 : decode cX7_looksAt 54 = .ok (.ifCond .eq 61, 3) := by decide +kernel
theorem dX7_looksAt_57 : decode cX7_looksAt 57 = .ok (.aload_n 0, 1) := by decide +kernel
theorem dX7_looksAt_58 : decode cX7_looksAt 58 = .ok (.aload_n 0, 1) := by decide +kernel
theorem dX7_looksAt_59 : decode cX7_looksAt 59 = .ok (.getfield 151, 3) := by decide +kernel
theorem dX7_looksAt_62 : decode cX7_looksAt 62 = .ok (.ifCond .ne 12, 3) := by decide +kernel
theorem dX7_looksAt_65 : decode cX7_looksAt 65 = .ok (.aload_n 0, 1) := by decide +kernel
theorem dX7_looksAt_66 : decode cX7_looksAt 66 = .ok (.getfield 25, 3) := by decide +kernel
theorem dX7_looksAt_69 : decode cX7_looksAt 69 = .ok (.iconst 0, 1) := by decide +kernel
theorem dX7_looksAt_70 : decode cX7_looksAt 70 = .ok (.iaload, 1) := by decide +kernel
theorem dX7_looksAt_71 : decode cX7_looksAt 71 = .ok (.goto 7, 3) := by decide +kernel
theorem dX7_looksAt_74 : decode cX7_looksAt 74 = .ok (.aload_n 0, 1) := by decide +kernel
theorem dX7_looksAt_75 : decode cX7_looksAt 75 = .ok (.getfield 154, 3) := by decide +kernel
theorem dX7_looksAt_78 : decode cX7_looksAt 78 = .ok (.putfield 154, 3) := by decide +kernel
theorem dX7_looksAt_81 : decode cX7_looksAt 81 = .ok (.aload_n 0, 1) := by decide +kernel
theorem dX7_looksAt_82 : decode cX7_looksAt 82 = .ok (.aload_n 0, 1) := by decide +kernel
theorem dX7_looksAt_83 : decode cX7_looksAt 83 = .ok (.getfield 151, 3) := by decide +kernel
theorem dX7_looksAt_86 : decode cX7_looksAt 86 = .ok (.ifCond .ne 12, 3) := by decide +kernel
theorem dX7_looksAt_89 : decode cX7_looksAt 89 = .ok (.aload_n 0, 1) := by decide +kernel
theorem dX7_looksAt_90 : decode cX7_looksAt 90 = .ok (.getfield 22, 3) := by decide +kernel
theorem dX7_looksAt_93 : decode cX7_looksAt 93 = .ok (.iconst 1, 1) := by decide +kernel
theorem dX7_looksAt_94 : decode cX7_looksAt 94 = .ok (.iaload, 1) := by decide +kernel
theorem dX7_looksAt_95 : decode cX7_looksAt 95 = .ok (.goto 7, 3) := by decide +kernel
theorem dX7_looksAt_98 : decode cX7_looksAt 98 = .ok (.aload_n 0, 1) := by decide +kernel
theorem dX7_looksAt_99 : decode cX7_looksAt 99 = .ok (.getfield 157, 3) := by decide +kernel
theorem dX7_looksAt_102 : decode cX7_looksAt 102 = .ok (.putfield 157, 3) := by decide +kernel
theorem dX7_looksAt_105 : decode cX7_looksAt 105 = .ok (.aload_n 0, 1) := by decide +kernel
theorem dX7_looksAt_106 : decode cX7_looksAt 106 = .ok (.dup, 1) := by decide +kernel
theorem dX7_looksAt_107 : decode cX7_looksAt 107 = .ok (.getfield 151, 3) := by decide +kernel
theorem dX7_looksAt_110 : decode cX7_looksAt 110 = .ok (.iconst 1, 1) := by decide +kernel
theorem dX7_looksAt_111 : decode cX7_looksAt 111 = .ok (.iadd, 1) := by decide +kernel
theorem dX7_looksAt_112 : decode cX7_looksAt 112 = .ok (.putfield 151, 3) := by decide +kernel
theorem dX7_looksAt_115 : decode cX7_looksAt 115 = .ok (.iinc 3 1, 3) := by decide +kernel
theorem dX7_looksAt_118 : decode cX7_looksAt 118 = .ok (.goto (-92), 3) := by decide +kernel
theorem dX7_looksAt_121 : decode cX7_looksAt 121 = .ok (.return_, 1) := by decide +kernel
set_option maxRecDepth 20000 in
theorem ggX7_searches_X7_looksAt : GoodIn wsX7_searches wsX7_looksAt := goodIn_r _ [9, 1, 3, 10, 11, 4, 12, 13, 14, 15, 8, 16, 17, 18, 19, 20, 2, 21, 22, 23, 24, 25, 26, 27, 28, 29, 30, 31, 32, 33, 34, 35, 36, 37, 38, 39, 40, 41, 42, 43, 44, 45, 46, 47, 48, 49, 50, 51, 52, 53, 54, 55] (by decide +kernel) (by decide +kernel)
set_option maxRecDepth 20000 in
theorem gX7_searches_X7_looksAt : GoodIn wsX7_searches (wsV RX7 160 RX7 yX7_looksAt wsX7_looksAt) := goodIn_app (goodIn_of _ (by decide +kernel)) ggX7_searches_X7_looksAt
theorem dX7_searches_0 : decode cX7_searches 0 = .ok (.aload_n 0, 1) := by decide +kernel
theorem dX7_searches_1 : decode cX7_searches 1 = .ok (.getfield 7, 3) := by decide +kernel
theorem dX7_searches_4 : decode cX7_searches 4 = .ok (.iconst 0, 1) := by decide +kernel
theorem dX7_searches_5 : decode cX7_searches 5 = .ok (.iaload, 1) := by decide +kernel
theorem dX7_searches_6 : decode cX7_searches 6 = .ok (.istore_n 2, 1) := by decide +kernel
theorem dX7_searches_7 : decode cX7_searches 7 = .ok (.aload_n 0, 1) := by decide +kernel
theorem dX7_searches_8 : decode cX7_searches 8 = .ok (.iconst 0, 1) := by decide +kernel
theorem dX7_searches_9 : decode cX7_searches 9 = .ok (.putfield 132, 3) := by decide +kernel
theorem dX7_searches_12 : decode cX7_searches 12 = .ok (.aload_n 0, 1) := by decide +kernel
theorem dX7_searches_13 : decode cX7_searches 13 = .ok (.iconst 0, 1) := by decide +kernel
theorem dX7_searches_14 : decode cX7_searches 14 = .ok (.putfield 151, 3) := by decide +kernel
theorem dX7_searches_17 : decode cX7_searches 17 = .ok (.bipush 23, 2) := by decide +kernel
theorem dX7_searches_19 : decode cX7_searches 19 = .ok (.istore_n 3, 1) := by decide +kernel
theorem dX7_searches_20 : decode cX7_searches 20 = .ok (.iconst 1, 1) := by decide +kernel
theorem dX7_searches_21 : decode cX7_searches 21 = .ok (.istore 4, 2) := by decide +kernel
theorem dX7_searches_23 : decode cX7_searches 23 = .ok (.iload 4, 2) := by decide +kernel
theorem dX7_searches_25 : decode cX7_searches 25 = .ok (.iload_n 2, 1) := by decide +kernel
theorem dX7_searches_26 : decode cX7_searches 26 = .ok (.iconst 1, 1) := by decide +kernel
theorem dX7_searches_27 : decode cX7_searches 27 = .ok (.if_icmp .le 7, 3) := by decide +kernel
theorem dX7_searches_30 : decode cX7_searches 30 = .ok (.iload_n 3, 1) := by decide +kernel
theorem dX7_searches_31 : decode cX7_searches 31 = .ok (.goto 4, 3) := by decide +kernel
theorem dX7_searches_34 : decode cX7_searches 34 = .ok (.iconst 1, 1) := by decide +kernel
theorem dX7_searches_35 : decode cX7_searches 35 = .ok (.if_icmp .gt 148, 3) := by decide +kernel
theorem dX7_searches_38 : decode cX7_searches 38 = .ok (.iload_n 2, 1) := by decide +kernel
theorem dX7_searches_39 : decode cX7_searches 39 = .ok (.iconst 2, 1) := by decide +kernel
theorem dX7_searches_40 : decode cX7_searches 40 = .ok (.if_icmp .le 10, 3) := by decide +kernel
theorem dX7_searches_43 : decode cX7_searches 43 = .ok (.iload 4, 2) := by decide +kernel
theorem dX7_searches_45 : decode cX7_searches 45 = .ok (.iconst 1, 1) := by decide +kernel
theorem dX7_searches_46 : decode cX7_searches 46 = .ok (.iadd, 1) := by decide +kernel
theorem dX7_searches_47 : decode cX7_searches 47 = .ok (.goto 4, 3) := by decide +kernel
theorem dX7_searches_50 : decode cX7_searches 50 = .ok (.iconst 1, 1) := by decide +kernel
theorem dX7_searches_51 : decode cX7_searches 51 = .ok (.istore 5, 2) := by decide +kernel
theorem dX7_searches_53 : decode cX7_searches 53 = .ok (.iload 5, 2) := by decide +kernel
theorem dX7_searches_55 : decode cX7_searches 55 = .ok (.iload_n 2, 1) := by decide +kernel
theorem dX7_searches_56 : decode cX7_searches 56 = .ok (.iconst 2, 1) := by decide +kernel
theorem dX7_searches_57 : decode cX7_searches 57 = .ok (.if_icmp .le 7, 3) := by decide +kernel
theorem dX7_searches_60 : decode cX7_searches 60 = .ok (.iload_n 3, 1) := by decide +kernel
theorem dX7_searches_61 : decode cX7_searches 61 = .ok (.goto 4, 3) := by decide +kernel
theorem dX7_searches_64 : decode cX7_searches 64 = .ok (.iconst 1, 1) := by decide +kernel
theorem dX7_searches_65 : decode cX7_searches 65 = .ok (.if_icmp .gt 112, 3) := by decide +kernel
theorem dX7_searches_68 : decode cX7_searches 68 = .ok (.iload_n 2, 1) := by decide +kernel
theorem dX7_searches_69 : decode cX7_searches 69 = .ok (.iconst 3, 1) := by decide +kernel
theorem dX7_searches_70 : decode cX7_searches 70 = .ok (.if_icmp .le 10, 3) := by decide +kernel
theorem dX7_searches_73 : decode cX7_searches 73 = .ok (.iload 5, 2) := by decide +kernel
theorem dX7_searches_75 : decode cX7_searches 75 = .ok (.iconst 1, 1) := by decide +kernel
theorem dX7_searches_76 : decode cX7_searches 76 = .ok (.iadd, 1) := by decide +kernel
theorem dX7_searches_77 : decode cX7_searches 77 = .ok (.goto 4, 3) := by decide +kernel
theorem dX7_searches_80 : decode cX7_searches 80 = .ok (.iconst 1, 1) := by decide +kernel
theorem dX7_searches_81 : decode cX7_searches 81 = .ok (.istore 6, 2) := by decide +kernel
theorem dX7_searches_83 : decode cX7_searches 83 = .ok (.iload 6, 2) := by decide +kernel
theorem dX7_searches_85 : decode cX7_searches 85 = .ok (.iload_n 2, 1) := by decide +kernel
theorem dX7_searches_86 : decode cX7_searches 86 = .ok (.iconst 3, 1) := by decide +kernel
theorem dX7_searches_87 : decode cX7_searches 87 = .ok (.if_icmp .le 7, 3) := by decide +kernel
theorem dX7_searches_90 : decode cX7_searches 90 = .ok (.iload_n 3, 1) := by decide +kernel
theorem dX7_searches_91 : decode cX7_searches 91 = .ok (.goto 4, 3) := by decide +kernel
theorem dX7_searches_94 : decode cX7_searches 94 = .ok (.iconst 1, 1) := by decide +kernel
theorem dX7_searches_95 : decode cX7_searches 95 = .ok (.if_icmp .gt 76, 3) := by decide +kernel
theorem dX7_searches_98 : decode cX7_searches 98 = .ok (.aload_n 0, 1) := by decide +kernel
theorem dX7_searches_99 : decode cX7_searches 99 = .ok (.getfield 22, 3) := by decide +kernel
theorem dX7_searches_102 : decode cX7_searches 102 = .ok (.iconst 1, 1) := by decide +kernel
theorem dX7_searches_103 : decode cX7_searches 103 = .ok (.iload_n 2, 1) := by decide +kernel
theorem dX7_searches_104 : decode cX7_searches 104 = .ok (.iconst 1, 1) := by decide +kernel
theorem dX7_searches_105 : decode cX7_searches 105 = .ok (.if_icmp .le 8, 3) := by decide +kernel
theorem dX7_searches_108 : decode cX7_searches 108 = .ok (.iload 4, 2) := by decide +kernel
theorem dX7_searches_110 : decode cX7_searches 110 = .ok (.goto 5, 3) := by decide +kernel
theorem dX7_searches_113 : decode cX7_searches 113 = .ok (.bipush 24, 2) := by decide +kernel
theorem dX7_searches_115 : decode cX7_searches 115 = .ok (.iastore, 1) := by decide +kernel
theorem dX7_searches_116 : decode cX7_searches 116 = .ok (.aload_n 0, 1) := by decide +kernel
theorem dX7_searches_117 : decode cX7_searches 117 = .ok (.getfield 22, 3) := by decide +kernel
theorem dX7_searches_120 : decode cX7_searches 120 = .ok (.iconst 2, 1) := by decide +kernel
theorem dX7_searches_121 : decode cX7_searches 121 = .ok (.iload_n 2, 1) := by decide +kernel
theorem dX7_searches_122 : decode cX7_searches 122 = .ok (.iconst 2, 1) := by decide +kernel
theorem dX7_searches_123 : decode cX7_searches 123 = .ok (.if_icmp .le 8, 3) := by decide +kernel
theorem dX7_searches_126 : decode cX7_searches 126 = .ok (.iload 5, 2) := by decide +kernel
theorem dX7_searches_128 : decode cX7_searches 128 = .ok (.goto 5, 3) := by decide +kernel
theorem dX7_searches_131 : decode cX7_searches 131 = .ok (.bipush 24, 2) := by decide +kernel
theorem dX7_searches_133 : decode cX7_searches 133 = .ok (.iastore, 1) := by decide +kernel
theorem dX7_searches_134 : decode cX7_searches 134 = .ok (.aload_n 0, 1) := by decide +kernel
theorem dX7_searches_135 : decode cX7_searches 135 = .ok (.getfield 22, 3) := by decide +kernel
theorem dX7_searches_138 : decode cX7_searches 138 = .ok (.iconst 3, 1) := by decide +kernel
theorem dX7_searches_139 : decode cX7_searches 139 = .ok (.iload_n 2, 1) := by decide +kernel
theorem dX7_searches_140 : decode cX7_searches 140 = .ok (.iconst 3, 1) := by decide +kernel
theorem dX7_searches_141 : decode cX7_searches 141 = .ok (.if_icmp .le 8, 3) := by decide +kernel
theorem dX7_searches_144 : decode cX7_searches 144 = .ok (.iload 6, 2) := by decide +kernel
theorem dX7_searches_146 : decode cX7_searches 146 = .ok (.goto 5, 3) := by decide +kernel
theorem dX7_searches_149 : decode cX7_searches 149 = .ok (.bipush 24, 2) := by decide +kernel
theorem dX7_searches_151 : decode cX7_searches 151 = .ok (.iastore, 1) := by decide +kernel
theorem dX7_searches_152 : decode cX7_searches 152 = .ok (.aload_n 0, 1) := by decide +kernel
theorem dX7_searches_153 : decode cX7_searches 153 = .ok (.getfield 22, 3) := by decide +kernel
theorem dX7_searches_156 : decode cX7_searches 156 = .ok (.iconst 4, 1) := by decide +kernel
theorem dX7_searches_157 : decode cX7_searches 157 = .ok (.bipush 24, 2) := by decide +kernel
theorem dX7_searches_159 : decode cX7_searches 159 = .ok (.iastore, 1) := by decide +kernel
theorem dX7_searches_160 : decode cX7_searches 160 = .ok (.aload_n 0, 1) := by decide +kernel
theorem dX7_searches_161 : decode cX7_searches 161 = .ok (.iload_n 1, 1) := by decide +kernel
theorem dX7_searches_162 : decode cX7_searches 162 = .ok (.invokevirtual 160, 3) := by decide +kernel
theorem dX7_searches_165 : decode cX7_searches 165 = .ok (.iinc 6 1, 3) := by decide +kernel
theorem dX7_searches_168 : decode cX7_searches 168 = .ok (.goto (-85), 3) := by decide +kernel
theorem dX7_searches_171 : decode cX7_searches 171 = .ok (.iinc 5 1, 3) := by decide +kernel
theorem dX7_searches_174 : decode cX7_searches 174 = .ok (.goto (-121), 3) := by decide +kernel
theorem dX7_searches_177 : decode cX7_searches 177 = .ok (.iinc 4 1, 3) := by decide +kernel
theorem dX7_searches_180 : decode cX7_searches 180 = .ok (.goto (-157), 3) := by decide +kernel
theorem dX7_searches_183 : decode cX7_searches 183 = .ok (.return_, 1) := by decide +kernel
set_option maxRecDepth 20000 in
theorem ggX7_best_X7_in : GoodIn wsX7_best wsX7_in := goodIn_r _ [9] (by decide +kernel) (by decide +kernel)
set_option maxRecDepth 20000 in
theorem gX7_best_X7_in : GoodIn wsX7_best (va_wsS RX7 39 yX7_in wsX7_in) := goodIn_app (goodIn_of _ (by decide +kernel)) ggX7_best_X7_in
set_option maxRecDepth 20000 in
theorem ggX7_best_X7_searches : GoodIn wsX7_best wsX7_searches := goodIn_r _ [13, 1, 3, 14, 15, 16, 17, 18, 8, 19, 20, 21, 22, 23, 24, 25, 26, 27, 28, 29, 30, 2, 4, 5, 31, 32, 33, 34, 35, 36, 37, 38, 39, 40, 41, 42, 43, 44, 45, 46, 53, 54, 55, 56, 57, 58, 59, 60, 61, 62, 63, 64, 65, 66, 67, 68] (by decide +kernel) (by decide +kernel)
set_option maxRecDepth 20000 in
theorem gX7_best_X7_searches : GoodIn wsX7_best (wsV RX7 164 RX7 yX7_searches wsX7_searches) := goodIn_app (goodIn_of _ (by decide +kernel)) ggX7_best_X7_searches
set_option maxRecDepth 20000 in
theorem ggX7_best_X7_part : GoodIn wsX7_best wsX7_part := goodIn_r _ [49, 50, 51, 8, 52] (by decide +kernel) (by decide +kernel)
set_option maxRecDepth 20000 in
theorem gX7_best_X7_part : GoodIn wsX7_best (va_wsS RX7 128 yX7_part wsX7_part) := goodIn_app (goodIn_of _ (by decide +kernel)) ggX7_best_X7_part
theorem dX7_best_0 : decode cX7_best 0 = .ok (.iload_n 1, 1) := by decide +kernel
theorem dX7_best_1 : decode cX7_best 1 = .ok (.iconst 0, 1) := by decide +kernel
theorem dX7_best_2 : decode cX7_best 2 = .ok (.iconst 5, 1) := by decide +kernel
theorem dX7_best_3 : decode cX7_best 3 = .ok (.invokestatic 39, 3) := by decide +kernel
theorem dX7_best_6 : decode cX7_best 6 = .ok (.ifCond .ne 5, 3) := by decide +kernel
theorem dX7_best_9 : decode cX7_best 9 = .ok (.iconst (-1), 1) := by decide +kernel
theorem dX7_best_10 : decode cX7_best 10 = .ok (.ireturn, 1) := by decide +kernel
theorem dX7_best_11 : decode cX7_best 11 = .ok (.aload_n 0, 1) := by decide +kernel
theorem dX7_best_12 : decode cX7_best 12 = .ok (.getfield 7, 3) := by decide +kernel
theorem dX7_best_15 : decode cX7_best 15 = .ok (.iconst 0, 1) := by decide +kernel
theorem dX7_best_16 : decode cX7_best 16 = .ok (.iaload, 1) := by decide +kernel
theorem dX7_best_17 : decode cX7_best 17 = .ok (.ifCond .ne 6, 3) := by decide +kernel
theorem dX7_best_20 : decode cX7_best 20 = .ok (.bipush (-2), 2) := by decide +kernel
theorem dX7_best_22 : decode cX7_best 22 = .ok (.ireturn, 1) := by decide +kernel
theorem dX7_best_23 : decode cX7_best 23 = .ok (.aload_n 0, 1) := by decide +kernel
theorem dX7_best_24 : decode cX7_best 24 = .ok (.iconst 0, 1) := by decide +kernel
theorem dX7_best_25 : decode cX7_best 25 = .ok (.invokevirtual 164, 3) := by decide +kernel
theorem dX7_best_28 : decode cX7_best 28 = .ok (.iload_n 1, 1) := by decide +kernel
theorem dX7_best_29 : decode cX7_best 29 = .ok (.iconst 2, 1) := by decide +kernel
theorem dX7_best_30 : decode cX7_best 30 = .ok (.if_icmp .ge 24, 3) := by decide +kernel
theorem dX7_best_33 : decode cX7_best 33 = .ok (.aload_n 0, 1) := by decide +kernel
theorem dX7_best_34 : decode cX7_best 34 = .ok (.getfield 135, 3) := by decide +kernel
theorem dX7_best_37 : decode cX7_best 37 = .ok (.aload_n 0, 1) := by decide +kernel
theorem dX7_best_38 : decode cX7_best 38 = .ok (.getfield 132, 3) := by decide +kernel
theorem dX7_best_41 : decode cX7_best 41 = .ok (.iload_n 1, 1) := by decide +kernel
theorem dX7_best_42 : decode cX7_best 42 = .ok (.ifCond .ne 7, 3) := by decide +kernel
theorem dX7_best_45 : decode cX7_best 45 = .ok (.iconst 1, 1) := by decide +kernel
theorem dX7_best_46 : decode cX7_best 46 = .ok (.goto 4, 3) := by decide +kernel
theorem dX7_best_49 : decode cX7_best 49 = .ok (.iconst 0, 1) := by decide +kernel
theorem dX7_best_50 : decode cX7_best 50 = .ok (.invokestatic 128, 3) := by decide +kernel
theorem dX7_best_53 : decode cX7_best 53 = .ok (.ireturn, 1) := by decide +kernel
theorem dX7_best_54 : decode cX7_best 54 = .ok (.iload_n 1, 1) := by decide +kernel
theorem dX7_best_55 : decode cX7_best 55 = .ok (.iconst 2, 1) := by decide +kernel
theorem dX7_best_56 : decode cX7_best 56 = .ok (.if_icmp .ne 10, 3) := by decide +kernel
theorem dX7_best_59 : decode cX7_best 59 = .ok (.aload_n 0, 1) := by decide +kernel
theorem dX7_best_60 : decode cX7_best 60 = .ok (.getfield 138, 3) := by decide +kernel
theorem dX7_best_63 : decode cX7_best 63 = .ok (.goto 28, 3) := by decide +kernel
theorem dX7_best_66 : decode cX7_best 66 = .ok (.iload_n 1, 1) := by decide +kernel
theorem dX7_best_67 : decode cX7_best 67 = .ok (.iconst 2, 1) := by decide +kernel
theorem dX7_best_68 : decode cX7_best 68 = .ok (.isub, 1) := by decide +kernel
theorem dX7_best_69 : decode cX7_best 69 = .ok (.aload_n 0, 1) := by decide +kernel
theorem dX7_best_70 : decode cX7_best 70 = .ok (.getfield 7, 3) := by decide +kernel
theorem dX7_best_73 : decode cX7_best 73 = .ok (.iconst 0, 1) := by decide +kernel
theorem dX7_best_74 : decode cX7_best 74 = .ok (.iaload, 1) := by decide +kernel
theorem dX7_best_75 : decode cX7_best 75 = .ok (.if_icmp .ge 14, 3) := by decide +kernel
theorem dX7_best_78 : decode cX7_best 78 = .ok (.aload_n 0, 1) := by decide +kernel
theorem dX7_best_79 : decode cX7_best 79 = .ok (.getfield 28, 3) := by decide +kernel
theorem dX7_best_82 : decode cX7_best 82 = .ok (.iload_n 1, 1) := by decide +kernel
theorem dX7_best_83 : decode cX7_best 83 = .ok (.iconst 2, 1) := by decide +kernel
theorem dX7_best_84 : decode cX7_best 84 = .ok (.isub, 1) := by decide +kernel
theorem dX7_best_85 : decode cX7_best 85 = .ok (.iaload, 1) := by decide +kernel
theorem dX7_best_86 : decode cX7_best 86 = .ok (.goto 5, 3) := by decide +kernel
theorem dX7_best_89 : decode cX7_best 89 = .ok (.bipush (-9), 2) := by decide +kernel
theorem dX7_best_91 : decode cX7_best 91 = .ok (.ireturn, 1) := by decide +kernel
set_option maxRecDepth 20000 in
theorem ggX7_calm_X7_in : GoodIn wsX7_calm wsX7_in := goodIn_r _ [8] (by decide +kernel) (by decide +kernel)
set_option maxRecDepth 20000 in
theorem gX7_calm_X7_in : GoodIn wsX7_calm (va_wsS RX7 39 yX7_in wsX7_in) := goodIn_app (goodIn_of _ (by decide +kernel)) ggX7_calm_X7_in
set_option maxRecDepth 20000 in
theorem ggX7_calm_X7_searches : GoodIn wsX7_calm wsX7_searches := goodIn_r _ [12, 1, 13, 2, 14, 15, 16, 17, 7, 18, 19, 3, 4, 20, 21, 22, 23, 24, 25, 26, 27, 28, 29, 30, 31, 32, 33, 34, 35, 36, 37, 38, 39, 40, 41, 42, 43, 44, 45, 46, 47, 48, 49, 50, 51, 52, 53, 54, 55, 56, 57, 58, 59, 60, 61, 62] (by decide +kernel) (by decide +kernel)
set_option maxRecDepth 20000 in
theorem gX7_calm_X7_searches : GoodIn wsX7_calm (wsV RX7 164 RX7 yX7_searches wsX7_searches) := goodIn_app (goodIn_of _ (by decide +kernel)) ggX7_calm_X7_searches
theorem dX7_calm_0 : decode cX7_calm 0 = .ok (.iload_n 1, 1) := by decide +kernel
theorem dX7_calm_1 : decode cX7_calm 1 = .ok (.iconst 0, 1) := by decide +kernel
theorem dX7_calm_2 : decode cX7_calm 2 = .ok (.iconst 2, 1) := by decide +kernel
theorem dX7_calm_3 : decode cX7_calm 3 = .ok (.invokestatic 39, 3) := by decide +kernel
theorem dX7_calm_6 : decode cX7_calm 6 = .ok (.ifCond .ne 5, 3) := by decide +kernel
theorem dX7_calm_9 : decode cX7_calm 9 = .ok (.iconst (-1), 1) := by decide +kernel
theorem dX7_calm_10 : decode cX7_calm 10 = .ok (.ireturn, 1) := by decide +kernel
theorem dX7_calm_11 : decode cX7_calm 11 = .ok (.aload_n 0, 1) := by decide +kernel
theorem dX7_calm_12 : decode cX7_calm 12 = .ok (.getfield 7, 3) := by decide +kernel
theorem dX7_calm_15 : decode cX7_calm 15 = .ok (.iconst 0, 1) := by decide +kernel
theorem dX7_calm_16 : decode cX7_calm 16 = .ok (.iaload, 1) := by decide +kernel
theorem dX7_calm_17 : decode cX7_calm 17 = .ok (.iconst 2, 1) := by decide +kernel
theorem dX7_calm_18 : decode cX7_calm 18 = .ok (.if_icmp .ge 6, 3) := by decide +kernel
theorem dX7_calm_21 : decode cX7_calm 21 = .ok (.bipush (-2), 2) := by decide +kernel
theorem dX7_calm_23 : decode cX7_calm 23 = .ok (.ireturn, 1) := by decide +kernel
theorem dX7_calm_24 : decode cX7_calm 24 = .ok (.aload_n 0, 1) := by decide +kernel
theorem dX7_calm_25 : decode cX7_calm 25 = .ok (.iconst 1, 1) := by decide +kernel
theorem dX7_calm_26 : decode cX7_calm 26 = .ok (.invokevirtual 164, 3) := by decide +kernel
theorem dX7_calm_29 : decode cX7_calm 29 = .ok (.iload_n 1, 1) := by decide +kernel
theorem dX7_calm_30 : decode cX7_calm 30 = .ok (.ifCond .ne 10, 3) := by decide +kernel
theorem dX7_calm_33 : decode cX7_calm 33 = .ok (.aload_n 0, 1) := by decide +kernel
theorem dX7_calm_34 : decode cX7_calm 34 = .ok (.getfield 151, 3) := by decide +kernel
theorem dX7_calm_37 : decode cX7_calm 37 = .ok (.goto 31, 3) := by decide +kernel
theorem dX7_calm_40 : decode cX7_calm 40 = .ok (.aload_n 0, 1) := by decide +kernel
theorem dX7_calm_41 : decode cX7_calm 41 = .ok (.getfield 151, 3) := by decide +kernel
theorem dX7_calm_44 : decode cX7_calm 44 = .ok (.ifCond .ne 8, 3) := by decide +kernel
theorem dX7_calm_47 : decode cX7_calm 47 = .ok (.bipush (-9), 2) := by decide +kernel
theorem dX7_calm_49 : decode cX7_calm 49 = .ok (.goto 19, 3) := by decide +kernel
theorem dX7_calm_52 : decode cX7_calm 52 = .ok (.iload_n 1, 1) := by decide +kernel
theorem dX7_calm_53 : decode cX7_calm 53 = .ok (.iconst 1, 1) := by decide +kernel
theorem dX7_calm_54 : decode cX7_calm 54 = .ok (.if_icmp .ne 10, 3) := by decide +kernel
theorem dX7_calm_57 : decode cX7_calm 57 = .ok (.aload_n 0, 1) := by decide +kernel
theorem dX7_calm_58 : decode cX7_calm 58 = .ok (.getfield 154, 3) := by decide +kernel
theorem dX7_calm_61 : decode cX7_calm 61 = .ok (.goto 7, 3) := by decide +kernel
theorem dX7_calm_64 : decode cX7_calm 64 = .ok (.aload_n 0, 1) := by decide +kernel
theorem dX7_calm_65 : decode cX7_calm 65 = .ok (.getfield 157, 3) := by decide +kernel
theorem dX7_calm_68 : decode cX7_calm 68 = .ok (.ireturn, 1) := by decide +kernel
set_option maxRecDepth 20000 in
theorem ggX7_calls_X7_isMove : GoodIn wsX7_calls wsX7_isMove := goodIn_r _ [5, 6, 7, 8, 4, 9, 38, 39, 40, 41, 42, 43, 44, 45, 46, 47, 48, 49, 50, 51, 52, 53] (by decide +kernel) (by decide +kernel)
set_option maxRecDepth 20000 in
theorem gX7_calls_X7_isMove : GoodIn wsX7_calls (wsV RX7 90 RX7 yX7_isMove wsX7_isMove) := goodIn_app (goodIn_of _ (by decide +kernel)) ggX7_calls_X7_isMove
set_option maxRecDepth 20000 in
theorem ggX7_calls_X7_copies : GoodIn wsX7_calls wsX7_copies := goodIn_r _ [13, 6, 38, 39, 40, 41, 42, 43, 44, 45, 46, 47, 48, 49, 50, 51, 52, 53] (by decide +kernel) (by decide +kernel)
set_option maxRecDepth 20000 in
theorem gX7_calls_X7_copies : GoodIn wsX7_calls (wsV RX7 35 RX7 yX7_copies wsX7_copies) := goodIn_app (goodIn_of _ (by decide +kernel)) ggX7_calls_X7_copies
set_option maxRecDepth 20000 in
theorem ggX7_calls_X7_moves : GoodIn wsX7_calls wsX7_moves := goodIn_r _ [17, 6, 18, 19, 20, 4, 21, 22, 23, 24, 25, 26, 27, 28, 29, 30, 31, 32, 33, 34, 35, 36, 37, 38, 39, 40, 41, 42, 43, 44, 45, 46, 47, 48, 49, 50, 51, 52, 53] (by decide +kernel) (by decide +kernel)
set_option maxRecDepth 20000 in
theorem gX7_calls_X7_moves : GoodIn wsX7_calls (wsV RX7 93 RX7 yX7_moves wsX7_moves) := goodIn_app (goodIn_of _ (by decide +kernel)) ggX7_calls_X7_moves
theorem dX7_calls_0 : decode cX7_calls 0 = .ok (.aload_n 0, 1) := by decide +kernel
theorem dX7_calls_1 : decode cX7_calls 1 = .ok (.iload_n 1, 1) := by decide +kernel
theorem dX7_calls_2 : decode cX7_calls 2 = .ok (.iload_n 2, 1) := by decide +kernel
theorem dX7_calls_3 : decode cX7_calls 3 = .ok (.invokevirtual 90, 3) := by decide +kernel
theorem dX7_calls_6 : decode cX7_calls 6 = .ok (.ifCond .ne 5, 3) := by decide +kernel
theorem dX7_calls_9 : decode cX7_calls 9 = .ok (.iconst (-1), 1) := by decide +kernel
theorem dX7_calls_10 : decode cX7_calls 10 = .ok (.ireturn, 1) := by decide +kernel
theorem dX7_calls_11 : decode cX7_calls 11 = .ok (.sipush 726, 3) := by decide +kernel
theorem dX7_calls_14 : decode cX7_calls 14 = .ok (.istore_n 3, 1) := by decide +kernel
theorem dX7_calls_15 : decode cX7_calls 15 = .ok (.aload_n 0, 1) := by decide +kernel
theorem dX7_calls_16 : decode cX7_calls 16 = .ok (.iconst 0, 1) := by decide +kernel
theorem dX7_calls_17 : decode cX7_calls 17 = .ok (.iload_n 3, 1) := by decide +kernel
theorem dX7_calls_18 : decode cX7_calls 18 = .ok (.invokevirtual 35, 3) := by decide +kernel
theorem dX7_calls_21 : decode cX7_calls 21 = .ok (.aload_n 0, 1) := by decide +kernel
theorem dX7_calls_22 : decode cX7_calls 22 = .ok (.iload_n 1, 1) := by decide +kernel
theorem dX7_calls_23 : decode cX7_calls 23 = .ok (.iload_n 2, 1) := by decide +kernel
theorem dX7_calls_24 : decode cX7_calls 24 = .ok (.invokevirtual 93, 3) := by decide +kernel
theorem dX7_calls_27 : decode cX7_calls 27 = .ok (.istore 4, 2) := by decide +kernel
theorem dX7_calls_29 : decode cX7_calls 29 = .ok (.aload_n 0, 1) := by decide +kernel
theorem dX7_calls_30 : decode cX7_calls 30 = .ok (.iload_n 3, 1) := by decide +kernel
theorem dX7_calls_31 : decode cX7_calls 31 = .ok (.iconst 0, 1) := by decide +kernel
theorem dX7_calls_32 : decode cX7_calls 32 = .ok (.invokevirtual 35, 3) := by decide +kernel
theorem dX7_calls_35 : decode cX7_calls 35 = .ok (.iload 4, 2) := by decide +kernel
theorem dX7_calls_37 : decode cX7_calls 37 = .ok (.ireturn, 1) := by decide +kernel
theorem dJ9_abs_0f7a4_0 : decode cJ9_abs_0f7a4 0 = .ok (.iload_n 0, 1) := by decide +kernel
theorem dJ9_abs_0f7a4_1 : decode cJ9_abs_0f7a4 1 = .ok (.ifCond .ge 8, 3) := by decide +kernel
theorem dJ9_abs_0f7a4_4 : decode cJ9_abs_0f7a4 4 = .ok (.iload_n 0, 1) := by decide +kernel
theorem dJ9_abs_0f7a4_5 : decode cJ9_abs_0f7a4 5 = .ok (.ineg, 1) := by decide +kernel
theorem dJ9_abs_0f7a4_6 : decode cJ9_abs_0f7a4 6 = .ok (.goto 4, 3) := by decide +kernel
theorem dJ9_abs_0f7a4_9 : decode cJ9_abs_0f7a4 9 = .ok (.iload_n 0, 1) := by decide +kernel
theorem dJ9_abs_0f7a4_10 : decode cJ9_abs_0f7a4 10 = .ok (.ireturn, 1) := by decide +kernel
theorem dJ9_max_7cf53_0 : decode cJ9_max_7cf53 0 = .ok (.iload_n 0, 1) := by decide +kernel
theorem dJ9_max_7cf53_1 : decode cJ9_max_7cf53 1 = .ok (.iload_n 1, 1) := by decide +kernel
theorem dJ9_max_7cf53_2 : decode cJ9_max_7cf53 2 = .ok (.if_icmp .lt 7, 3) := by decide +kernel
theorem dJ9_max_7cf53_5 : decode cJ9_max_7cf53 5 = .ok (.iload_n 0, 1) := by decide +kernel
theorem dJ9_max_7cf53_6 : decode cJ9_max_7cf53 6 = .ok (.goto 4, 3) := by decide +kernel
theorem dJ9_max_7cf53_9 : decode cJ9_max_7cf53 9 = .ok (.iload_n 1, 1) := by decide +kernel
theorem dJ9_max_7cf53_10 : decode cJ9_max_7cf53 10 = .ok (.ireturn, 1) := by decide +kernel
theorem dJ9_min_7cf53_0 : decode cJ9_min_7cf53 0 = .ok (.iload_n 0, 1) := by decide +kernel
theorem dJ9_min_7cf53_1 : decode cJ9_min_7cf53 1 = .ok (.iload_n 1, 1) := by decide +kernel
theorem dJ9_min_7cf53_2 : decode cJ9_min_7cf53 2 = .ok (.if_icmp .gt 7, 3) := by decide +kernel
theorem dJ9_min_7cf53_5 : decode cJ9_min_7cf53 5 = .ok (.iload_n 0, 1) := by decide +kernel
theorem dJ9_min_7cf53_6 : decode cJ9_min_7cf53 6 = .ok (.goto 4, 3) := by decide +kernel
theorem dJ9_min_7cf53_9 : decode cJ9_min_7cf53 9 = .ok (.iload_n 1, 1) := by decide +kernel
theorem dJ9_min_7cf53_10 : decode cJ9_min_7cf53 10 = .ok (.ireturn, 1) := by decide +kernel
set_option maxRecDepth 20000 in
theorem ggL_law_X6_init : GoodIn wsL_law wsX6_init := goodIn_r _ [8, 9, 10, 11, 12, 13, 14, 15, 16, 17, 18, 19, 20, 21, 22, 23, 24, 25, 26, 27, 28, 29, 30, 31, 32, 33, 34, 35, 36, 37, 38, 39, 40, 41, 42, 43, 44, 45, 46, 47, 48, 49, 50, 51, 52, 53, 54, 55, 56, 57, 58, 59, 60, 61, 62, 63, 64, 65, 66, 67, 68, 69, 70, 71, 72, 73, 74, 75, 76, 77, 78, 79, 80, 81, 82, 83, 84, 85, 86, 87, 88, 708, 709, 710, 684, 685, 686, 687, 688, 689, 690, 691, 711, 712, 713, 714, 715, 716, 717, 718, 719, 720, 721, 722, 723, 724, 725, 726, 727, 728, 729, 730, 731, 732, 733, 734, 735] (by decide +kernel) (by decide +kernel)
set_option maxRecDepth 20000 in
theorem gL_law_X6_init : GoodIn wsL_law (wsX6_init) := ggL_law_X6_init
set_option maxRecDepth 20000 in
theorem ggL_law_X7_init : GoodIn wsL_law wsX7_init := goodIn_r _ [91, 92, 10, 11, 40, 93, 94, 95, 96, 97, 98, 99, 692, 693, 694, 695, 696, 697, 698, 699, 700, 701, 702, 703, 704, 705, 706, 707] (by decide +kernel) (by decide +kernel)
set_option maxRecDepth 20000 in
theorem gL_law_X7_init : GoodIn wsL_law (wsX7_init) := ggL_law_X7_init
set_option maxRecDepth 20000 in
theorem ggL_law_X6_addGuest : GoodIn wsL_law wsX6_addGuest := goodIn_r _ [103, 15, 104, 105, 106, 107, 2, 108, 17, 16, 34, 109, 110, 111, 112, 113, 114, 115, 14, 116, 39, 41, 43, 117, 118, 119, 120, 121, 122, 123, 124, 125, 126, 127, 128, 129, 130, 131, 132, 133, 134, 135, 136, 684, 685, 686, 687, 688, 689, 690, 691, 708, 709, 710] (by decide +kernel) (by decide +kernel)
set_option maxRecDepth 20000 in
theorem gL_law_X6_addGuest : GoodIn wsL_law (wsV RL 13 RX6 yX6_addGuest wsX6_addGuest) := goodIn_app (goodIn_of _ (by decide +kernel)) ggL_law_X6_addGuest
set_option maxRecDepth 20000 in
theorem ggL_law_X7_addGuest : GoodIn wsL_law wsX7_addGuest := goodIn_r _ [140, 93, 141, 142, 143, 5, 144, 145, 146, 147, 148, 149, 692, 693, 694, 695, 696, 697, 698, 699, 700, 701, 702, 703, 704, 705, 706, 707] (by decide +kernel) (by decide +kernel)
set_option maxRecDepth 20000 in
theorem gL_law_X7_addGuest : GoodIn wsL_law (wsV RL 17 RX7 yX7_addGuest wsX7_addGuest) := goodIn_app (goodIn_of _ (by decide +kernel)) ggL_law_X7_addGuest
set_option maxRecDepth 20000 in
theorem ggL_law_X6_setValue : GoodIn wsL_law wsX6_setValue := goodIn_r _ [153, 15, 154, 155, 156, 14, 157, 39, 158, 159, 2, 160, 105, 106, 107, 108, 17, 16, 34, 109, 110, 111, 112, 113, 114, 115, 116, 41, 43, 117, 118, 119, 120, 121, 122, 123, 124, 125, 126, 127, 128, 161, 134, 135, 136, 162, 163, 164, 165, 166, 167, 168, 169, 684, 685, 686, 687, 688, 689, 690, 691, 708, 709, 710] (by decide +kernel) (by decide +kernel)
set_option maxRecDepth 20000 in
theorem gL_law_X6_setValue : GoodIn wsL_law (wsV RL 18 RX6 yX6_setValue wsX6_setValue) := goodIn_app (goodIn_of _ (by decide +kernel)) ggL_law_X6_setValue
set_option maxRecDepth 20000 in
theorem ggL_law_X7_setValue : GoodIn wsL_law wsX7_setValue := goodIn_r _ [173, 93, 174, 175, 176, 5, 177, 178, 179, 180, 181, 182, 183, 141, 142, 143, 144, 145, 146, 147, 148, 149, 184, 185, 186, 187, 188, 189, 190, 191, 192, 193, 194, 195, 692, 693, 694, 695, 696, 697, 698, 699, 700, 701, 702, 703, 704, 705, 706, 707] (by decide +kernel) (by decide +kernel)
set_option maxRecDepth 20000 in
theorem gL_law_X7_setValue : GoodIn wsL_law (wsV RL 22 RX7 yX7_setValue wsX7_setValue) := goodIn_app (goodIn_of _ (by decide +kernel)) ggL_law_X7_setValue
set_option maxRecDepth 20000 in
theorem ggL_law_X6_append : GoodIn wsL_law wsX6_append := goodIn_r _ [199, 21, 200, 201, 202, 203, 20, 204, 47, 48, 684, 685, 686, 687, 688, 689, 690, 691, 711, 712, 713, 714, 715] (by decide +kernel) (by decide +kernel)
set_option maxRecDepth 20000 in
theorem gL_law_X6_append : GoodIn wsL_law (wsV RL 23 RX6 yX6_append wsX6_append) := goodIn_app (goodIn_of _ (by decide +kernel)) ggL_law_X6_append
set_option maxRecDepth 20000 in
theorem ggL_law_X7_append : GoodIn wsL_law wsX7_append := goodIn_r _ [208, 209, 94, 178, 179, 5, 180, 692, 693, 694, 695, 696, 697, 698, 699, 700, 701, 702, 703, 704, 705, 706, 707] (by decide +kernel) (by decide +kernel)
set_option maxRecDepth 20000 in
theorem gL_law_X7_append : GoodIn wsL_law (wsV RL 27 RX7 yX7_append wsX7_append) := goodIn_app (goodIn_of _ (by decide +kernel)) ggL_law_X7_append
set_option maxRecDepth 20000 in
theorem ggL_law_X6_clearText : GoodIn wsL_law wsX6_clearText := goodIn_r _ [213, 21, 200, 684, 685, 686, 687, 688, 689, 690, 691, 711, 712, 713, 714, 715] (by decide +kernel) (by decide +kernel)
set_option maxRecDepth 20000 in
theorem gL_law_X6_clearText : GoodIn wsL_law (wsV RL 28 RX6 yX6_clearText wsX6_clearText) := goodIn_app (goodIn_of _ (by decide +kernel)) ggL_law_X6_clearText
set_option maxRecDepth 20000 in
theorem ggL_law_X7_clearText : GoodIn wsL_law wsX7_clearText := goodIn_r _ [217, 209, 692, 693, 694, 695, 696, 697, 698, 699, 700, 701, 702, 703, 704, 705, 706, 707] (by decide +kernel) (by decide +kernel)
set_option maxRecDepth 20000 in
theorem gL_law_X7_clearText : GoodIn wsL_law (wsV RL 31 RX7 yX7_clearText wsX7_clearText) := goodIn_app (goodIn_of _ (by decide +kernel)) ggL_law_X7_clearText
set_option maxRecDepth 20000 in
theorem ggL_law_X6_read : GoodIn wsL_law wsX6_read := goodIn_r _ [221, 15, 21, 222, 154, 155, 156, 14, 157, 39, 223, 224, 225, 20, 226, 50, 51, 47, 48, 227, 228, 229, 230, 49, 231, 232, 233, 234, 235, 236, 237, 238, 105, 106, 107, 2, 108, 17, 16, 34, 109, 110, 111, 112, 113, 114, 115, 116, 41, 43, 117, 118, 119, 120, 121, 122, 123, 124, 125, 126, 127, 128, 239, 162, 163, 164, 165, 166, 167, 168, 169, 684, 685, 686, 687, 688, 689, 690, 691, 711, 712, 713, 714, 715, 708, 709, 710] (by decide +kernel) (by decide +kernel)
set_option maxRecDepth 20000 in
theorem gL_law_X6_read : GoodIn wsL_law (wsV RL 32 RX6 yX6_read wsX6_read) := goodIn_app (goodIn_of _ (by decide +kernel)) ggL_law_X6_read
set_option maxRecDepth 20000 in
theorem ggL_law_X7_read : GoodIn wsL_law wsX7_read := goodIn_r _ [243, 244, 93, 95, 174, 175, 176, 5, 177, 178, 179, 180, 245, 246, 247, 248, 94, 209, 249, 250, 251, 252, 141, 142, 143, 144, 145, 146, 147, 148, 149, 184, 185, 186, 187, 188, 189, 190, 191, 192, 193, 194, 195, 692, 693, 694, 695, 696, 697, 698, 699, 700, 701, 702, 703, 704, 705, 706, 707] (by decide +kernel) (by decide +kernel)
set_option maxRecDepth 20000 in
theorem gL_law_X7_read : GoodIn wsL_law (wsV RL 35 RX7 yX7_read wsX7_read) := goodIn_app (goodIn_of _ (by decide +kernel)) ggL_law_X7_read
set_option maxRecDepth 20000 in
theorem ggL_law_X6_give : GoodIn wsL_law wsX6_give := goodIn_r _ [256, 15, 154, 155, 156, 14, 157, 39, 158, 159, 2, 160, 105, 106, 107, 108, 17, 16, 34, 109, 110, 111, 112, 113, 114, 115, 116, 41, 43, 117, 118, 119, 120, 121, 122, 123, 124, 125, 126, 127, 128, 257, 258, 259, 260, 684, 685, 686, 687, 688, 689, 690, 691, 708, 709, 710] (by decide +kernel) (by decide +kernel)
set_option maxRecDepth 20000 in
theorem gL_law_X6_give : GoodIn wsL_law (wsV RL 36 RX6 yX6_give wsX6_give) := goodIn_app (goodIn_of _ (by decide +kernel)) ggL_law_X6_give
set_option maxRecDepth 20000 in
theorem ggL_law_X7_give : GoodIn wsL_law wsX7_give := goodIn_r _ [264, 174, 175, 176, 5, 177, 93, 178, 179, 180, 181, 182, 183, 141, 142, 143, 144, 145, 146, 147, 148, 149, 265, 266, 267, 268, 692, 693, 694, 695, 696, 697, 698, 699, 700, 701, 702, 703, 704, 705, 706, 707] (by decide +kernel) (by decide +kernel)
set_option maxRecDepth 20000 in
theorem gL_law_X7_give : GoodIn wsL_law (wsV RL 40 RX7 yX7_give wsX7_give) := goodIn_app (goodIn_of _ (by decide +kernel)) ggL_law_X7_give
set_option maxRecDepth 20000 in
theorem ggL_law_X6_putBack : GoodIn wsL_law wsX6_putBack := goodIn_r _ [272, 15, 158, 159, 2, 160, 105, 106, 107, 108, 17, 16, 34, 109, 110, 111, 112, 113, 114, 115, 14, 116, 39, 41, 43, 117, 118, 119, 120, 121, 122, 123, 124, 125, 126, 127, 128, 273, 274, 275, 276, 684, 685, 686, 687, 688, 689, 690, 691, 708, 709, 710] (by decide +kernel) (by decide +kernel)
set_option maxRecDepth 20000 in
theorem gL_law_X6_putBack : GoodIn wsL_law (wsV RL 41 RX6 yX6_putBack wsX6_putBack) := goodIn_app (goodIn_of _ (by decide +kernel)) ggL_law_X6_putBack
set_option maxRecDepth 20000 in
theorem ggL_law_X7_putBack : GoodIn wsL_law wsX7_putBack := goodIn_r _ [280, 181, 182, 5, 183, 178, 179, 180, 141, 142, 143, 144, 145, 146, 147, 148, 149, 93, 265, 266, 267, 268, 692, 693, 694, 695, 696, 697, 698, 699, 700, 701, 702, 703, 704, 705, 706, 707] (by decide +kernel) (by decide +kernel)
set_option maxRecDepth 20000 in
theorem gL_law_X7_putBack : GoodIn wsL_law (wsV RL 45 RX7 yX7_putBack wsX7_putBack) := goodIn_app (goodIn_of _ (by decide +kernel)) ggL_law_X7_putBack
set_option maxRecDepth 20000 in
theorem ggL_law_X6_move : GoodIn wsL_law wsX6_move := goodIn_r _ [284, 25, 15, 285, 286, 287, 288, 2, 289, 104, 105, 106, 107, 108, 17, 16, 34, 109, 110, 111, 112, 113, 114, 115, 14, 116, 39, 41, 43, 117, 118, 119, 120, 121, 122, 123, 124, 125, 126, 127, 128, 290, 291, 292, 24, 293, 294, 55, 295, 296, 297, 298, 299, 300, 301, 302, 303, 304, 163, 164, 165, 166, 167, 168, 169, 305, 306, 307, 308, 309, 684, 685, 686, 687, 688, 689, 690, 691, 716, 708, 709, 710] (by decide +kernel) (by decide +kernel)
set_option maxRecDepth 20000 in
theorem gL_law_X6_move : GoodIn wsL_law (wsV RL 46 RX6 yX6_move wsX6_move) := goodIn_app (goodIn_of _ (by decide +kernel)) ggL_law_X6_move
set_option maxRecDepth 20000 in
theorem ggL_law_X7_move : GoodIn wsL_law wsX7_move := goodIn_r _ [313, 314, 315, 316, 5, 317, 93, 178, 179, 180, 141, 142, 143, 144, 145, 146, 147, 148, 149, 318, 319, 320, 321, 322, 323, 324, 325, 192, 193, 194, 195, 184, 185, 186, 187, 188, 189, 190, 191, 265, 266, 267, 268, 692, 693, 694, 695, 696, 697, 698, 699, 700, 701, 702, 703, 704, 705, 706, 707] (by decide +kernel) (by decide +kernel)
set_option maxRecDepth 20000 in
theorem gL_law_X7_move : GoodIn wsL_law (wsV RL 49 RX7 yX7_move wsX7_move) := goodIn_app (goodIn_of _ (by decide +kernel)) ggL_law_X7_move
set_option maxRecDepth 20000 in
theorem ggL_law_X6_cut : GoodIn wsL_law wsX6_cut := goodIn_r _ [329, 15, 330, 331, 332, 2, 333, 154, 155, 156, 14, 157, 39, 158, 159, 160, 334, 335, 336, 337, 41, 105, 106, 107, 108, 17, 16, 34, 109, 110, 111, 112, 113, 114, 115, 116, 43, 117, 118, 119, 120, 121, 122, 123, 124, 125, 126, 127, 128, 338, 339, 340, 341, 342, 343, 344, 345, 166, 167, 168, 169, 346, 257, 258, 259, 260, 684, 685, 686, 687, 688, 689, 690, 691, 708, 709, 710] (by decide +kernel) (by decide +kernel)
set_option maxRecDepth 20000 in
theorem gL_law_X6_cut : GoodIn wsL_law (wsV RL 50 RX6 yX6_cut wsX6_cut) := goodIn_app (goodIn_of _ (by decide +kernel)) ggL_law_X6_cut
set_option maxRecDepth 20000 in
theorem ggL_law_X7_cut : GoodIn wsL_law wsX7_cut := goodIn_r _ [350, 93, 351, 352, 353, 5, 354, 174, 175, 176, 177, 178, 179, 180, 141, 142, 143, 144, 145, 146, 147, 148, 149, 355, 356, 357, 358, 188, 189, 190, 191, 192, 193, 194, 195, 265, 266, 267, 268, 692, 693, 694, 695, 696, 697, 698, 699, 700, 701, 702, 703, 704, 705, 706, 707] (by decide +kernel) (by decide +kernel)
set_option maxRecDepth 20000 in
theorem gL_law_X7_cut : GoodIn wsL_law (wsV RL 53 RX7 yX7_cut wsX7_cut) := goodIn_app (goodIn_of _ (by decide +kernel)) ggL_law_X7_cut
set_option maxRecDepth 20000 in
theorem ggL_law_X6_trim : GoodIn wsL_law wsX6_trim := goodIn_r _ [362, 15, 330, 331, 332, 2, 333, 154, 155, 156, 14, 157, 39, 105, 106, 107, 108, 17, 16, 34, 109, 110, 111, 112, 113, 114, 115, 116, 41, 43, 117, 118, 119, 120, 121, 122, 123, 124, 125, 126, 127, 128, 363, 364, 365, 366, 367, 368, 369, 370, 371, 301, 302, 303, 684, 685, 686, 687, 688, 689, 690, 691, 708, 709, 710] (by decide +kernel) (by decide +kernel)
set_option maxRecDepth 20000 in
theorem gL_law_X6_trim : GoodIn wsL_law (wsV RL 54 RX6 yX6_trim wsX6_trim) := goodIn_app (goodIn_of _ (by decide +kernel)) ggL_law_X6_trim
set_option maxRecDepth 20000 in
theorem ggL_law_X7_trim : GoodIn wsL_law wsX7_trim := goodIn_r _ [375, 93, 351, 352, 353, 5, 354, 174, 175, 176, 177, 178, 179, 180, 141, 142, 143, 144, 145, 146, 147, 148, 149, 376, 377, 378, 379, 380, 381, 382, 383, 192, 193, 194, 195, 692, 693, 694, 695, 696, 697, 698, 699, 700, 701, 702, 703, 704, 705, 706, 707] (by decide +kernel) (by decide +kernel)
set_option maxRecDepth 20000 in
theorem gL_law_X7_trim : GoodIn wsL_law (wsV RL 57 RX7 yX7_trim wsX7_trim) := goodIn_app (goodIn_of _ (by decide +kernel)) ggL_law_X7_trim
set_option maxRecDepth 20000 in
theorem ggL_law_X6_exchange : GoodIn wsL_law wsX6_exchange := goodIn_r _ [387, 29, 15, 388, 389, 390, 391, 28, 392, 393, 62, 394, 395, 396, 397, 398, 63, 399, 400, 401, 14, 402, 403, 404, 344, 405, 367, 368, 369, 370, 371, 301, 302, 303, 41, 43, 406, 407, 408, 61, 409, 410, 411, 412, 68, 69, 413, 414, 415, 416, 67, 417, 418, 419, 420, 421, 422, 423, 424, 425, 426, 427, 428, 429, 430, 105, 106, 107, 2, 108, 17, 16, 34, 109, 110, 111, 112, 113, 114, 115, 116, 39, 117, 118, 119, 120, 121, 122, 123, 124, 125, 126, 127, 128, 431, 432, 433, 434, 435, 436, 437, 438, 439, 440, 684, 685, 686, 687, 688, 689, 690, 691, 717, 718, 708, 709, 710, 733, 734, 735] (by decide +kernel) (by decide +kernel)
set_option maxRecDepth 20000 in
theorem gL_law_X6_exchange : GoodIn wsL_law (wsV RL 58 RX6 yX6_exchange wsX6_exchange) := goodIn_app (goodIn_of _ (by decide +kernel)) ggL_law_X6_exchange
set_option maxRecDepth 20000 in
theorem ggL_law_X7_exchange : GoodIn wsL_law wsX7_exchange := goodIn_r _ [444, 93, 96, 445, 446, 447, 5, 448, 449, 450, 451, 452, 376, 377, 378, 379, 380, 381, 382, 383, 192, 193, 194, 195, 141, 142, 143, 144, 145, 146, 147, 148, 149, 692, 693, 694, 695, 696, 697, 698, 699, 700, 701, 702, 703, 704, 705, 706, 707] (by decide +kernel) (by decide +kernel)
set_option maxRecDepth 20000 in
theorem gL_law_X7_exchange : GoodIn wsL_law (wsV RL 61 RX7 yX7_exchange wsX7_exchange) := goodIn_app (goodIn_of _ (by decide +kernel)) ggL_law_X7_exchange
set_option maxRecDepth 20000 in
theorem ggL_law_X6_undo : GoodIn wsL_law wsX6_undo := goodIn_r _ [456, 17, 15, 16, 34, 113, 114, 115, 14, 116, 39, 41, 43, 117, 118, 119, 120, 121, 122, 123, 124, 125, 126, 127, 128, 684, 685, 686, 687, 688, 689, 690, 691, 708, 709, 710] (by decide +kernel) (by decide +kernel)
set_option maxRecDepth 20000 in
theorem gL_law_X6_undo : GoodIn wsL_law (wsV RL 62 RX6 yX6_undo wsX6_undo) := goodIn_app (goodIn_of _ (by decide +kernel)) ggL_law_X6_undo
set_option maxRecDepth 20000 in
theorem ggL_law_X7_undo : GoodIn wsL_law wsX7_undo := goodIn_r _ [460, 145, 146, 147, 148, 5, 149, 93, 692, 693, 694, 695, 696, 697, 698, 699, 700, 701, 702, 703, 704, 705, 706, 707] (by decide +kernel) (by decide +kernel)
set_option maxRecDepth 20000 in
theorem gL_law_X7_undo : GoodIn wsL_law (wsV RL 65 RX7 yX7_undo wsX7_undo) := goodIn_app (goodIn_of _ (by decide +kernel)) ggL_law_X7_undo
set_option maxRecDepth 20000 in
theorem ggL_law_X6_count : GoodIn wsL_law wsX6_count := goodIn_r _ [464, 15, 104, 17, 21, 200, 465, 466, 467, 14, 468, 41, 469, 470, 471, 472, 39, 473, 400, 401, 402, 403, 404, 344, 405, 367, 368, 369, 370, 371, 301, 302, 303, 43, 474, 475, 476, 477, 478, 479, 480, 481, 482, 163, 164, 165, 166, 167, 168, 169, 684, 685, 686, 687, 688, 689, 690, 691, 708, 709, 710, 711, 712, 713, 714, 715] (by decide +kernel) (by decide +kernel)
set_option maxRecDepth 20000 in
theorem gL_law_X6_count : GoodIn wsL_law (wsV RL 66 RX6 yX6_count wsX6_count) := goodIn_app (goodIn_of _ (by decide +kernel)) ggL_law_X6_count
set_option maxRecDepth 20000 in
theorem ggL_law_X7_count : GoodIn wsL_law wsX7_count := goodIn_r _ [486, 93, 145, 209, 487, 488, 489, 5, 490, 491, 492, 493, 494, 376, 377, 378, 379, 380, 381, 382, 383, 192, 193, 194, 195, 495, 496, 497, 498, 184, 185, 186, 187, 188, 189, 190, 191, 692, 693, 694, 695, 696, 697, 698, 699, 700, 701, 702, 703, 704, 705, 706, 707] (by decide +kernel) (by decide +kernel)
set_option maxRecDepth 20000 in
theorem gL_law_X7_count : GoodIn wsL_law (wsV RL 69 RX7 yX7_count wsX7_count) := goodIn_app (goodIn_of _ (by decide +kernel)) ggL_law_X7_count
set_option maxRecDepth 20000 in
theorem ggL_law_X6_guest : GoodIn wsL_law wsX6_guest := goodIn_r _ [502, 15, 154, 155, 156, 14, 157, 39, 162, 163, 164, 165, 166, 167, 168, 169, 43, 503, 368, 369, 370, 371, 301, 302, 303, 41, 465, 466, 467, 468, 504, 505, 2, 506, 507, 508, 509, 510, 511, 512, 513, 514, 515, 516, 517, 684, 685, 686, 687, 688, 689, 690, 691, 708, 709, 710] (by decide +kernel) (by decide +kernel)
set_option maxRecDepth 20000 in
theorem gL_law_X6_guest : GoodIn wsL_law (wsV RL 70 RX6 yX6_guest wsX6_guest) := goodIn_app (goodIn_of _ (by decide +kernel)) ggL_law_X6_guest
set_option maxRecDepth 20000 in
theorem ggL_law_X7_guest : GoodIn wsL_law wsX7_guest := goodIn_r _ [521, 174, 175, 176, 5, 177, 93, 178, 179, 180, 184, 185, 186, 187, 188, 189, 190, 191, 192, 193, 194, 195, 380, 381, 382, 383, 522, 523, 524, 525, 526, 527, 528, 529, 530, 531, 692, 693, 694, 695, 696, 697, 698, 699, 700, 701, 702, 703, 704, 705, 706, 707] (by decide +kernel) (by decide +kernel)
set_option maxRecDepth 20000 in
theorem gL_law_X7_guest : GoodIn wsL_law (wsV RL 73 RX7 yX7_guest wsX7_guest) := goodIn_app (goodIn_of _ (by decide +kernel)) ggL_law_X7_guest
set_option maxRecDepth 20000 in
theorem ggL_law_X6_crumb : GoodIn wsL_law wsX6_crumb := goodIn_r _ [535, 15, 536, 684, 685, 686, 687, 688, 689, 690, 691, 708, 709, 710] (by decide +kernel) (by decide +kernel)
set_option maxRecDepth 20000 in
theorem gL_law_X6_crumb : GoodIn wsL_law (wsV RL 74 RX6 yX6_crumb wsX6_crumb) := goodIn_app (goodIn_of _ (by decide +kernel)) ggL_law_X6_crumb
set_option maxRecDepth 20000 in
theorem ggL_law_X7_crumb : GoodIn wsL_law wsX7_crumb := goodIn_r _ [540, 93, 178, 179, 5, 180, 692, 693, 694, 695, 696, 697, 698, 699, 700, 701, 702, 703, 704, 705, 706, 707] (by decide +kernel) (by decide +kernel)
end
section
set_option maxRecDepth 20000 in
theorem gL_law_X7_crumb : GoodIn wsL_law (wsV RL 77 RX7 yX7_crumb wsX7_crumb) := goodIn_app (goodIn_of _ (by decide +kernel)) ggL_law_X7_crumb
set_option maxRecDepth 20000 in
theorem ggL_law_X6_value : GoodIn wsL_law wsX6_value := goodIn_r _ [544, 15, 545, 154, 155, 156, 14, 157, 39, 684, 685, 686, 687, 688, 689, 690, 691, 708, 709, 710] (by decide +kernel) (by decide +kernel)
set_option maxRecDepth 20000 in
theorem gL_law_X6_value : GoodIn wsL_law (wsV RL 78 RX6 yX6_value wsX6_value) := goodIn_app (goodIn_of _ (by decide +kernel)) ggL_law_X6_value
set_option maxRecDepth 20000 in
theorem ggL_law_X7_value : GoodIn wsL_law wsX7_value := goodIn_r _ [549, 174, 175, 176, 5, 177, 93, 178, 179, 180, 192, 193, 194, 195, 692, 693, 694, 695, 696, 697, 698, 699, 700, 701, 702, 703, 704, 705, 706, 707] (by decide +kernel) (by decide +kernel)
set_option maxRecDepth 20000 in
theorem gL_law_X7_value : GoodIn wsL_law (wsV RL 81 RX7 yX7_value wsX7_value) := goodIn_app (goodIn_of _ (by decide +kernel)) ggL_law_X7_value
set_option maxRecDepth 20000 in
theorem ggL_law_X6_envy : GoodIn wsL_law wsX6_envy := goodIn_r _ [553, 15, 330, 331, 332, 2, 333, 154, 155, 156, 14, 157, 39, 554, 400, 401, 402, 403, 404, 344, 405, 367, 368, 369, 370, 371, 301, 302, 303, 41, 43, 684, 685, 686, 687, 688, 689, 690, 691, 708, 709, 710] (by decide +kernel) (by decide +kernel)
set_option maxRecDepth 20000 in
theorem gL_law_X6_envy : GoodIn wsL_law (wsV RL 82 RX6 yX6_envy wsX6_envy) := goodIn_app (goodIn_of _ (by decide +kernel)) ggL_law_X6_envy
set_option maxRecDepth 20000 in
theorem ggL_law_X7_envy : GoodIn wsL_law wsX7_envy := goodIn_r _ [558, 351, 352, 353, 5, 354, 174, 175, 176, 177, 93, 178, 179, 180, 376, 377, 378, 379, 380, 381, 382, 383, 192, 193, 194, 195, 692, 693, 694, 695, 696, 697, 698, 699, 700, 701, 702, 703, 704, 705, 706, 707] (by decide +kernel) (by decide +kernel)
set_option maxRecDepth 20000 in
theorem gL_law_X7_envy : GoodIn wsL_law (wsV RL 85 RX7 yX7_envy wsX7_envy) := goodIn_app (goodIn_of _ (by decide +kernel)) ggL_law_X7_envy
set_option maxRecDepth 20000 in
theorem ggL_law_X6_ring : GoodIn wsL_law wsX6_ring := goodIn_r _ [562, 29, 15, 388, 563, 389, 390, 391, 28, 392, 393, 62, 394, 395, 396, 397, 398, 63, 399, 400, 401, 14, 402, 403, 404, 344, 405, 367, 368, 369, 370, 371, 301, 302, 303, 41, 43, 406, 407, 408, 61, 409, 410, 411, 412, 68, 69, 413, 414, 415, 416, 67, 417, 418, 419, 420, 421, 422, 423, 424, 425, 426, 427, 428, 429, 430, 684, 685, 686, 687, 688, 689, 690, 691, 717, 718, 733, 734, 735, 708, 709, 710] (by decide +kernel) (by decide +kernel)
set_option maxRecDepth 20000 in
theorem gL_law_X6_ring : GoodIn wsL_law (wsV RL 86 RX6 yX6_ring wsX6_ring) := goodIn_app (goodIn_of _ (by decide +kernel)) ggL_law_X6_ring
set_option maxRecDepth 20000 in
theorem ggL_law_X7_ring : GoodIn wsL_law wsX7_ring := goodIn_r _ [567, 96, 445, 446, 447, 5, 448, 93, 449, 450, 451, 452, 376, 377, 378, 379, 380, 381, 382, 383, 192, 193, 194, 195, 692, 693, 694, 695, 696, 697, 698, 699, 700, 701, 702, 703, 704, 705, 706, 707] (by decide +kernel) (by decide +kernel)
set_option maxRecDepth 20000 in
theorem gL_law_X7_ring : GoodIn wsL_law (wsV RL 89 RX7 yX7_ring wsX7_ring) := goodIn_app (goodIn_of _ (by decide +kernel)) ggL_law_X7_ring
set_option maxRecDepth 20000 in
theorem ggL_law_X6_middle : GoodIn wsL_law wsX6_middle := goodIn_r _ [571, 15, 154, 155, 156, 14, 157, 39, 338, 339, 340, 341, 43, 342, 343, 344, 345, 166, 167, 168, 169, 684, 685, 686, 687, 688, 689, 690, 691, 708, 709, 710] (by decide +kernel) (by decide +kernel)
set_option maxRecDepth 20000 in
theorem gL_law_X6_middle : GoodIn wsL_law (wsV RL 90 RX6 yX6_middle wsX6_middle) := goodIn_app (goodIn_of _ (by decide +kernel)) ggL_law_X6_middle
set_option maxRecDepth 20000 in
theorem ggL_law_X7_middle : GoodIn wsL_law wsX7_middle := goodIn_r _ [575, 174, 175, 176, 5, 177, 93, 178, 179, 180, 355, 356, 357, 358, 188, 189, 190, 191, 192, 193, 194, 195, 692, 693, 694, 695, 696, 697, 698, 699, 700, 701, 702, 703, 704, 705, 706, 707] (by decide +kernel) (by decide +kernel)
set_option maxRecDepth 20000 in
theorem gL_law_X7_middle : GoodIn wsL_law (wsV RL 93 RX7 yX7_middle wsX7_middle) := goodIn_app (goodIn_of _ (by decide +kernel)) ggL_law_X7_middle
set_option maxRecDepth 20000 in
theorem ggL_law_X6_best : GoodIn wsL_law wsX6_best := goodIn_r _ [579, 15, 104, 33, 580, 581, 582, 583, 584, 585, 586, 2, 587, 34, 588, 589, 590, 32, 591, 80, 592, 593, 594, 595, 596, 597, 73, 74, 77, 86, 598, 84, 599, 404, 344, 405, 83, 600, 601, 602, 603, 88, 87, 604, 605, 606, 607, 82, 608, 407, 408, 61, 409, 410, 411, 412, 68, 69, 413, 414, 415, 416, 67, 417, 418, 419, 420, 609, 610, 611, 612, 613, 614, 615, 616, 617, 75, 76, 618, 428, 429, 430, 619, 620, 621, 622, 623, 624, 625, 626, 627, 628, 629, 630, 78, 79, 631, 632, 633, 634, 504, 505, 506, 507, 508, 509, 510, 511, 512, 513, 684, 685, 686, 687, 688, 689, 690, 691, 708, 709, 710, 719, 720, 721, 722, 723, 724, 725, 726, 727, 728, 729, 730, 731, 732, 733, 734, 735] (by decide +kernel) (by decide +kernel)
set_option maxRecDepth 20000 in
theorem gL_law_X6_best : GoodIn wsL_law (wsV RL 94 RX6 yX6_best wsX6_best) := goodIn_app (goodIn_of _ (by decide +kernel)) ggL_law_X6_best
set_option maxRecDepth 20000 in
theorem ggL_law_X7_best : GoodIn wsL_law wsX7_best := goodIn_r _ [638, 93, 639, 640, 641, 99, 178, 179, 5, 180, 642, 643, 644, 645, 646, 97, 647, 648, 649, 650, 98, 651, 652, 653, 654, 655, 656, 657, 658, 659, 660, 188, 189, 190, 191, 192, 193, 194, 195, 184, 185, 186, 187, 661, 662, 663, 664, 526, 527, 528, 529, 530, 531, 692, 693, 694, 695, 696, 697, 698, 699, 700, 701, 702, 703, 704, 705, 706, 707] (by decide +kernel) (by decide +kernel)
set_option maxRecDepth 20000 in
theorem gL_law_X7_best : GoodIn wsL_law (wsV RL 97 RX7 yX7_best wsX7_best) := goodIn_app (goodIn_of _ (by decide +kernel)) ggL_law_X7_best
set_option maxRecDepth 20000 in
theorem ggL_law_X6_calm : GoodIn wsL_law wsX6_calm := goodIn_r _ [668, 15, 104, 33, 669, 670, 671, 584, 585, 586, 2, 587, 34, 588, 589, 590, 32, 591, 80, 592, 593, 594, 595, 596, 597, 73, 74, 77, 86, 598, 84, 599, 404, 344, 405, 83, 600, 601, 602, 603, 88, 87, 604, 605, 606, 607, 82, 608, 407, 408, 61, 409, 410, 411, 412, 68, 69, 413, 414, 415, 416, 67, 417, 418, 419, 420, 609, 610, 611, 612, 613, 614, 615, 616, 617, 75, 76, 618, 428, 429, 430, 619, 620, 621, 622, 623, 624, 625, 626, 627, 628, 629, 630, 78, 79, 631, 632, 633, 634, 684, 685, 686, 687, 688, 689, 690, 691, 708, 709, 710, 719, 720, 721, 722, 723, 724, 725, 726, 727, 728, 729, 730, 731, 732, 733, 734, 735] (by decide +kernel) (by decide +kernel)
set_option maxRecDepth 20000 in
theorem gL_law_X6_calm : GoodIn wsL_law (wsV RL 98 RX6 yX6_calm wsX6_calm) := goodIn_app (goodIn_of _ (by decide +kernel)) ggL_law_X6_calm
set_option maxRecDepth 20000 in
theorem ggL_law_X7_calm : GoodIn wsL_law wsX7_calm := goodIn_r _ [675, 93, 646, 651, 652, 178, 179, 5, 180, 642, 643, 644, 645, 640, 97, 647, 648, 649, 650, 98, 653, 654, 655, 656, 657, 658, 659, 660, 639, 641, 99, 188, 189, 190, 191, 192, 193, 194, 195, 184, 185, 186, 187, 661, 662, 663, 664, 692, 693, 694, 695, 696, 697, 698, 699, 700, 701, 702, 703, 704, 705, 706, 707] (by decide +kernel) (by decide +kernel)
set_option maxRecDepth 20000 in
theorem gL_law_X7_calm : GoodIn wsL_law (wsV RL 101 RX7 yX7_calm wsX7_calm) := goodIn_app (goodIn_of _ (by decide +kernel)) ggL_law_X7_calm
set_option maxRecDepth 20000 in
theorem ggL_law_X6_calls : GoodIn wsL_law wsX6_calls := goodIn_r _ [679, 25, 15, 286, 287, 288, 2, 289, 104, 290, 291, 292, 24, 293, 294, 55, 295, 122, 123, 124, 296, 297, 298, 299, 300, 301, 302, 14, 303, 41, 43, 304, 163, 164, 165, 166, 167, 168, 169, 305, 306, 307, 308, 684, 685, 686, 687, 688, 689, 690, 691, 708, 709, 710, 716] (by decide +kernel) (by decide +kernel)
set_option maxRecDepth 20000 in
theorem gL_law_X6_calls : GoodIn wsL_law (wsV RL 102 RX6 yX6_calls wsX6_calls) := goodIn_app (goodIn_of _ (by decide +kernel)) ggL_law_X6_calls
set_option maxRecDepth 20000 in
theorem ggL_law_X7_calls : GoodIn wsL_law wsX7_calls := goodIn_r _ [683, 314, 315, 316, 5, 317, 93, 178, 179, 180, 146, 147, 148, 149, 318, 319, 320, 321, 322, 323, 324, 325, 192, 193, 194, 195, 184, 185, 186, 187, 188, 189, 190, 191, 265, 266, 267, 268, 692, 693, 694, 695, 696, 697, 698, 699, 700, 701, 702, 703, 704, 705, 706, 707] (by decide +kernel) (by decide +kernel)
set_option maxRecDepth 20000 in
theorem gL_law_X7_calls : GoodIn wsL_law (wsV RL 105 RX7 yX7_calls wsX7_calls) := goodIn_app (goodIn_of _ (by decide +kernel)) ggL_law_X7_calls
theorem dL_law_0 : decode cL_law 0 = .ok (.new 7, 3) := by decide +kernel
theorem dL_law_3 : decode cL_law 3 = .ok (.dup, 1) := by decide +kernel
theorem dL_law_4 : decode cL_law 4 = .ok (.invokespecial 9, 3) := by decide +kernel
theorem dL_law_7 : decode cL_law 7 = .ok (.astore_n 1, 1) := by decide +kernel
theorem dL_law_8 : decode cL_law 8 = .ok (.new 10, 3) := by decide +kernel
theorem dL_law_11 : decode cL_law 11 = .ok (.dup, 1) := by decide +kernel
theorem dL_law_12 : decode cL_law 12 = .ok (.invokespecial 12, 3) := by decide +kernel
theorem dL_law_15 : decode cL_law 15 = .ok (.astore_n 2, 1) := by decide +kernel
theorem dL_law_16 : decode cL_law 16 = .ok (.iconst 0, 1) := by decide +kernel
theorem dL_law_17 : decode cL_law 17 = .ok (.istore_n 3, 1) := by decide +kernel
theorem dL_law_18 : decode cL_law 18 = .ok (.iload_n 3, 1) := by decide +kernel
theorem dL_law_19 : decode cL_law 19 = .ok (.aload_n 0, 1) := by decide +kernel
theorem dL_law_20 : decode cL_law 20 = .ok (.arraylength, 1) := by decide +kernel
theorem dL_law_21 : decode cL_law 21 = .ok (.iconst 5, 1) := by decide +kernel
theorem dL_law_22 : decode cL_law 22 = .ok (.isub, 1) := by decide +kernel
theorem dL_law_23 : decode cL_law 23 = .ok (.if_icmp .gt 735, 3) := by decide +kernel
theorem dL_law_26 : decode cL_law 26 = .ok (.aload_n 0, 1) := by decide +kernel
theorem dL_law_27 : decode cL_law 27 = .ok (.iload_n 3, 1) := by decide +kernel
theorem dL_law_28 : decode cL_law 28 = .ok (.iaload, 1) := by decide +kernel
theorem dL_law_29 : decode cL_law 29 = .ok (.bipush 31, 2) := by decide +kernel
theorem dL_law_31 : decode cL_law 31 = .ok (.iand, 1) := by decide +kernel
theorem dL_law_32 : decode cL_law 32 = .ok (.tableswitch 720 0 21 #[104, 117, 170, 193, 206, 229, 272, 305, 338, 391, 424, 437, 450, 473, 506, 529, 562, 595, 618, 641, 664, 687], 104) := by decide +kernel
theorem dL_law_136 : decode cL_law 136 = .ok (.aload_n 1, 1) := by decide +kernel
theorem dL_law_137 : decode cL_law 137 = .ok (.invokevirtual 13, 3) := by decide +kernel
theorem dL_law_140 : decode cL_law 140 = .ok (.aload_n 2, 1) := by decide +kernel
theorem dL_law_141 : decode cL_law 141 = .ok (.invokevirtual 17, 3) := by decide +kernel
theorem dL_law_144 : decode cL_law 144 = .ok (.if_icmp .eq 608, 3) := by decide +kernel
theorem dL_law_147 : decode cL_law 147 = .ok (.iconst 0, 1) := by decide +kernel
theorem dL_law_148 : decode cL_law 148 = .ok (.ireturn, 1) := by decide +kernel
theorem dL_law_149 : decode cL_law 149 = .ok (.aload_n 1, 1) := by decide +kernel
theorem dL_law_150 : decode cL_law 150 = .ok (.aload_n 0, 1) := by decide +kernel
theorem dL_law_151 : decode cL_law 151 = .ok (.iload_n 3, 1) := by decide +kernel
theorem dL_law_152 : decode cL_law 152 = .ok (.iconst 1, 1) := by decide +kernel
theorem dL_law_153 : decode cL_law 153 = .ok (.iadd, 1) := by decide +kernel
theorem dL_law_154 : decode cL_law 154 = .ok (.iaload, 1) := by decide +kernel
theorem dL_law_155 : decode cL_law 155 = .ok (.aload_n 0, 1) := by decide +kernel
theorem dL_law_156 : decode cL_law 156 = .ok (.iload_n 3, 1) := by decide +kernel
theorem dL_law_157 : decode cL_law 157 = .ok (.iconst 2, 1) := by decide +kernel
theorem dL_law_158 : decode cL_law 158 = .ok (.iadd, 1) := by decide +kernel
theorem dL_law_159 : decode cL_law 159 = .ok (.iaload, 1) := by decide +kernel
theorem dL_law_160 : decode cL_law 160 = .ok (.aload_n 0, 1) := by decide +kernel
theorem dL_law_161 : decode cL_law 161 = .ok (.iload_n 3, 1) := by decide +kernel
theorem dL_law_162 : decode cL_law 162 = .ok (.iconst 3, 1) := by decide +kernel
theorem dL_law_163 : decode cL_law 163 = .ok (.iadd, 1) := by decide +kernel
theorem dL_law_164 : decode cL_law 164 = .ok (.iaload, 1) := by decide +kernel
theorem dL_law_165 : decode cL_law 165 = .ok (.aload_n 0, 1) := by decide +kernel
theorem dL_law_166 : decode cL_law 166 = .ok (.iload_n 3, 1) := by decide +kernel
theorem dL_law_167 : decode cL_law 167 = .ok (.iconst 4, 1) := by decide +kernel
theorem dL_law_168 : decode cL_law 168 = .ok (.iadd, 1) := by decide +kernel
theorem dL_law_169 : decode cL_law 169 = .ok (.iaload, 1) := by decide +kernel
theorem dL_law_170 : decode cL_law 170 = .ok (.invokevirtual 18, 3) := by decide +kernel
theorem dL_law_173 : decode cL_law 173 = .ok (.aload_n 2, 1) := by decide +kernel
theorem dL_law_174 : decode cL_law 174 = .ok (.aload_n 0, 1) := by decide +kernel
theorem dL_law_175 : decode cL_law 175 = .ok (.iload_n 3, 1) := by decide +kernel
theorem dL_law_176 : decode cL_law 176 = .ok (.iconst 1, 1) := by decide +kernel
theorem dL_law_177 : decode cL_law 177 = .ok (.iadd, 1) := by decide +kernel
theorem dL_law_178 : decode cL_law 178 = .ok (.iaload, 1) := by decide +kernel
theorem dL_law_179 : decode cL_law 179 = .ok (.aload_n 0, 1) := by decide +kernel
theorem dL_law_180 : decode cL_law 180 = .ok (.iload_n 3, 1) := by decide +kernel
theorem dL_law_181 : decode cL_law 181 = .ok (.iconst 2, 1) := by decide +kernel
theorem dL_law_182 : decode cL_law 182 = .ok (.iadd, 1) := by decide +kernel
theorem dL_law_183 : decode cL_law 183 = .ok (.iaload, 1) := by decide +kernel
theorem dL_law_184 : decode cL_law 184 = .ok (.aload_n 0, 1) := by decide +kernel
theorem dL_law_185 : decode cL_law 185 = .ok (.iload_n 3, 1) := by decide +kernel
theorem dL_law_186 : decode cL_law 186 = .ok (.iconst 3, 1) := by decide +kernel
theorem dL_law_187 : decode cL_law 187 = .ok (.iadd, 1) := by decide +kernel
theorem dL_law_188 : decode cL_law 188 = .ok (.iaload, 1) := by decide +kernel
theorem dL_law_189 : decode cL_law 189 = .ok (.aload_n 0, 1) := by decide +kernel
theorem dL_law_190 : decode cL_law 190 = .ok (.iload_n 3, 1) := by decide +kernel
theorem dL_law_191 : decode cL_law 191 = .ok (.iconst 4, 1) := by decide +kernel
theorem dL_law_192 : decode cL_law 192 = .ok (.iadd, 1) := by decide +kernel
theorem dL_law_193 : decode cL_law 193 = .ok (.iaload, 1) := by decide +kernel
theorem dL_law_194 : decode cL_law 194 = .ok (.invokevirtual 22, 3) := by decide +kernel
theorem dL_law_197 : decode cL_law 197 = .ok (.if_icmp .eq 555, 3) := by decide +kernel
theorem dL_law_200 : decode cL_law 200 = .ok (.iconst 0, 1) := by decide +kernel
theorem dL_law_201 : decode cL_law 201 = .ok (.ireturn, 1) := by decide +kernel
theorem dL_law_202 : decode cL_law 202 = .ok (.aload_n 1, 1) := by decide +kernel
theorem dL_law_203 : decode cL_law 203 = .ok (.aload_n 0, 1) := by decide +kernel
theorem dL_law_204 : decode cL_law 204 = .ok (.iload_n 3, 1) := by decide +kernel
theorem dL_law_205 : decode cL_law 205 = .ok (.iconst 1, 1) := by decide +kernel
theorem dL_law_206 : decode cL_law 206 = .ok (.iadd, 1) := by decide +kernel
theorem dL_law_207 : decode cL_law 207 = .ok (.iaload, 1) := by decide +kernel
theorem dL_law_208 : decode cL_law 208 = .ok (.invokevirtual 23, 3) := by decide +kernel
theorem dL_law_211 : decode cL_law 211 = .ok (.aload_n 2, 1) := by decide +kernel
theorem dL_law_212 : decode cL_law 212 = .ok (.aload_n 0, 1) := by decide +kernel
theorem dL_law_213 : decode cL_law 213 = .ok (.iload_n 3, 1) := by decide +kernel
theorem dL_law_214 : decode cL_law 214 = .ok (.iconst 1, 1) := by decide +kernel
theorem dL_law_215 : decode cL_law 215 = .ok (.iadd, 1) := by decide +kernel
theorem dL_law_216 : decode cL_law 216 = .ok (.iaload, 1) := by decide +kernel
theorem dL_law_217 : decode cL_law 217 = .ok (.invokevirtual 27, 3) := by decide +kernel
theorem dL_law_220 : decode cL_law 220 = .ok (.if_icmp .eq 532, 3) := by decide +kernel
theorem dL_law_223 : decode cL_law 223 = .ok (.iconst 0, 1) := by decide +kernel
theorem dL_law_224 : decode cL_law 224 = .ok (.ireturn, 1) := by decide +kernel
theorem dL_law_225 : decode cL_law 225 = .ok (.aload_n 1, 1) := by decide +kernel
theorem dL_law_226 : decode cL_law 226 = .ok (.invokevirtual 28, 3) := by decide +kernel
theorem dL_law_229 : decode cL_law 229 = .ok (.aload_n 2, 1) := by decide +kernel
theorem dL_law_230 : decode cL_law 230 = .ok (.invokevirtual 31, 3) := by decide +kernel
theorem dL_law_233 : decode cL_law 233 = .ok (.if_icmp .eq 519, 3) := by decide +kernel
theorem dL_law_236 : decode cL_law 236 = .ok (.iconst 0, 1) := by decide +kernel
theorem dL_law_237 : decode cL_law 237 = .ok (.ireturn, 1) := by decide +kernel
theorem dL_law_238 : decode cL_law 238 = .ok (.aload_n 1, 1) := by decide +kernel
theorem dL_law_239 : decode cL_law 239 = .ok (.aload_n 0, 1) := by decide +kernel
theorem dL_law_240 : decode cL_law 240 = .ok (.iload_n 3, 1) := by decide +kernel
theorem dL_law_241 : decode cL_law 241 = .ok (.iconst 1, 1) := by decide +kernel
theorem dL_law_242 : decode cL_law 242 = .ok (.iadd, 1) := by decide +kernel
theorem dL_law_243 : decode cL_law 243 = .ok (.iaload, 1) := by decide +kernel
theorem dL_law_244 : decode cL_law 244 = .ok (.invokevirtual 32, 3) := by decide +kernel
theorem dL_law_247 : decode cL_law 247 = .ok (.aload_n 2, 1) := by decide +kernel
theorem dL_law_248 : decode cL_law 248 = .ok (.aload_n 0, 1) := by decide +kernel
theorem dL_law_249 : decode cL_law 249 = .ok (.iload_n 3, 1) := by decide +kernel
theorem dL_law_250 : decode cL_law 250 = .ok (.iconst 1, 1) := by decide +kernel
theorem dL_law_251 : decode cL_law 251 = .ok (.iadd, 1) := by decide +kernel
theorem dL_law_252 : decode cL_law 252 = .ok (.iaload, 1) := by decide +kernel
theorem dL_law_253 : decode cL_law 253 = .ok (.invokevirtual 35, 3) := by decide +kernel
theorem dL_law_256 : decode cL_law 256 = .ok (.if_icmp .eq 496, 3) := by decide +kernel
theorem dL_law_259 : decode cL_law 259 = .ok (.iconst 0, 1) := by decide +kernel
theorem dL_law_260 : decode cL_law 260 = .ok (.ireturn, 1) := by decide +kernel
theorem dL_law_261 : decode cL_law 261 = .ok (.aload_n 1, 1) := by decide +kernel
theorem dL_law_262 : decode cL_law 262 = .ok (.aload_n 0, 1) := by decide +kernel
theorem dL_law_263 : decode cL_law 263 = .ok (.iload_n 3, 1) := by decide +kernel
theorem dL_law_264 : decode cL_law 264 = .ok (.iconst 1, 1) := by decide +kernel
theorem dL_law_265 : decode cL_law 265 = .ok (.iadd, 1) := by decide +kernel
theorem dL_law_266 : decode cL_law 266 = .ok (.iaload, 1) := by decide +kernel
theorem dL_law_267 : decode cL_law 267 = .ok (.aload_n 0, 1) := by decide +kernel
theorem dL_law_268 : decode cL_law 268 = .ok (.iload_n 3, 1) := by decide +kernel
theorem dL_law_269 : decode cL_law 269 = .ok (.iconst 2, 1) := by decide +kernel
theorem dL_law_270 : decode cL_law 270 = .ok (.iadd, 1) := by decide +kernel
theorem dL_law_271 : decode cL_law 271 = .ok (.iaload, 1) := by decide +kernel
theorem dL_law_272 : decode cL_law 272 = .ok (.aload_n 0, 1) := by decide +kernel
theorem dL_law_273 : decode cL_law 273 = .ok (.iload_n 3, 1) := by decide +kernel
theorem dL_law_274 : decode cL_law 274 = .ok (.iconst 3, 1) := by decide +kernel
theorem dL_law_275 : decode cL_law 275 = .ok (.iadd, 1) := by decide +kernel
theorem dL_law_276 : decode cL_law 276 = .ok (.iaload, 1) := by decide +kernel
theorem dL_law_277 : decode cL_law 277 = .ok (.invokevirtual 36, 3) := by decide +kernel
theorem dL_law_280 : decode cL_law 280 = .ok (.aload_n 2, 1) := by decide +kernel
theorem dL_law_281 : decode cL_law 281 = .ok (.aload_n 0, 1) := by decide +kernel
theorem dL_law_282 : decode cL_law 282 = .ok (.iload_n 3, 1) := by decide +kernel
theorem dL_law_283 : decode cL_law 283 = .ok (.iconst 1, 1) := by decide +kernel
theorem dL_law_284 : decode cL_law 284 = .ok (.iadd, 1) := by decide +kernel
theorem dL_law_285 : decode cL_law 285 = .ok (.iaload, 1) := by decide +kernel
theorem dL_law_286 : decode cL_law 286 = .ok (.aload_n 0, 1) := by decide +kernel
theorem dL_law_287 : decode cL_law 287 = .ok (.iload_n 3, 1) := by decide +kernel
theorem dL_law_288 : decode cL_law 288 = .ok (.iconst 2, 1) := by decide +kernel
theorem dL_law_289 : decode cL_law 289 = .ok (.iadd, 1) := by decide +kernel
theorem dL_law_290 : decode cL_law 290 = .ok (.iaload, 1) := by decide +kernel
theorem dL_law_291 : decode cL_law 291 = .ok (.aload_n 0, 1) := by decide +kernel
theorem dL_law_292 : decode cL_law 292 = .ok (.iload_n 3, 1) := by decide +kernel
theorem dL_law_293 : decode cL_law 293 = .ok (.iconst 3, 1) := by decide +kernel
theorem dL_law_294 : decode cL_law 294 = .ok (.iadd, 1) := by decide +kernel
theorem dL_law_295 : decode cL_law 295 = .ok (.iaload, 1) := by decide +kernel
theorem dL_law_296 : decode cL_law 296 = .ok (.invokevirtual 40, 3) := by decide +kernel
theorem dL_law_299 : decode cL_law 299 = .ok (.if_icmp .eq 453, 3) := by decide +kernel
theorem dL_law_302 : decode cL_law 302 = .ok (.iconst 0, 1) := by decide +kernel
theorem dL_law_303 : decode cL_law 303 = .ok (.ireturn, 1) := by decide +kernel
theorem dL_law_304 : decode cL_law 304 = .ok (.aload_n 1, 1) := by decide +kernel
theorem dL_law_305 : decode cL_law 305 = .ok (.aload_n 0, 1) := by decide +kernel
theorem dL_law_306 : decode cL_law 306 = .ok (.iload_n 3, 1) := by decide +kernel
theorem dL_law_307 : decode cL_law 307 = .ok (.iconst 1, 1) := by decide +kernel
theorem dL_law_308 : decode cL_law 308 = .ok (.iadd, 1) := by decide +kernel
theorem dL_law_309 : decode cL_law 309 = .ok (.iaload, 1) := by decide +kernel
theorem dL_law_310 : decode cL_law 310 = .ok (.aload_n 0, 1) := by decide +kernel
theorem dL_law_311 : decode cL_law 311 = .ok (.iload_n 3, 1) := by decide +kernel
theorem dL_law_312 : decode cL_law 312 = .ok (.iconst 2, 1) := by decide +kernel
theorem dL_law_313 : decode cL_law 313 = .ok (.iadd, 1) := by decide +kernel
theorem dL_law_314 : decode cL_law 314 = .ok (.iaload, 1) := by decide +kernel
theorem dL_law_315 : decode cL_law 315 = .ok (.invokevirtual 41, 3) := by decide +kernel
theorem dL_law_318 : decode cL_law 318 = .ok (.aload_n 2, 1) := by decide +kernel
theorem dL_law_319 : decode cL_law 319 = .ok (.aload_n 0, 1) := by decide +kernel
theorem dL_law_320 : decode cL_law 320 = .ok (.iload_n 3, 1) := by decide +kernel
theorem dL_law_321 : decode cL_law 321 = .ok (.iconst 1, 1) := by decide +kernel
theorem dL_law_322 : decode cL_law 322 = .ok (.iadd, 1) := by decide +kernel
theorem dL_law_323 : decode cL_law 323 = .ok (.iaload, 1) := by decide +kernel
theorem dL_law_324 : decode cL_law 324 = .ok (.aload_n 0, 1) := by decide +kernel
theorem dL_law_325 : decode cL_law 325 = .ok (.iload_n 3, 1) := by decide +kernel
theorem dL_law_326 : decode cL_law 326 = .ok (.iconst 2, 1) := by decide +kernel
theorem dL_law_327 : decode cL_law 327 = .ok (.iadd, 1) := by decide +kernel
theorem dL_law_328 : decode cL_law 328 = .ok (.iaload, 1) := by decide +kernel
theorem dL_law_329 : decode cL_law 329 = .ok (.invokevirtual 45, 3) := by decide +kernel
theorem dL_law_332 : decode cL_law 332 = .ok (.if_icmp .eq 420, 3) := by decide +kernel
theorem dL_law_335 : decode cL_law 335 = .ok (.iconst 0, 1) := by decide +kernel
theorem dL_law_336 : decode cL_law 336 = .ok (.ireturn, 1) := by decide +kernel
theorem dL_law_337 : decode cL_law 337 = .ok (.aload_n 1, 1) := by decide +kernel
theorem dL_law_338 : decode cL_law 338 = .ok (.aload_n 0, 1) := by decide +kernel
theorem dL_law_339 : decode cL_law 339 = .ok (.iload_n 3, 1) := by decide +kernel
theorem dL_law_340 : decode cL_law 340 = .ok (.iconst 1, 1) := by decide +kernel
theorem dL_law_341 : decode cL_law 341 = .ok (.iadd, 1) := by decide +kernel
theorem dL_law_342 : decode cL_law 342 = .ok (.iaload, 1) := by decide +kernel
theorem dL_law_343 : decode cL_law 343 = .ok (.aload_n 0, 1) := by decide +kernel
theorem dL_law_344 : decode cL_law 344 = .ok (.iload_n 3, 1) := by decide +kernel
theorem dL_law_345 : decode cL_law 345 = .ok (.iconst 2, 1) := by decide +kernel
theorem dL_law_346 : decode cL_law 346 = .ok (.iadd, 1) := by decide +kernel
theorem dL_law_347 : decode cL_law 347 = .ok (.iaload, 1) := by decide +kernel
theorem dL_law_348 : decode cL_law 348 = .ok (.invokevirtual 46, 3) := by decide +kernel
theorem dL_law_351 : decode cL_law 351 = .ok (.aload_n 2, 1) := by decide +kernel
theorem dL_law_352 : decode cL_law 352 = .ok (.aload_n 0, 1) := by decide +kernel
theorem dL_law_353 : decode cL_law 353 = .ok (.iload_n 3, 1) := by decide +kernel
theorem dL_law_354 : decode cL_law 354 = .ok (.iconst 1, 1) := by decide +kernel
theorem dL_law_355 : decode cL_law 355 = .ok (.iadd, 1) := by decide +kernel
theorem dL_law_356 : decode cL_law 356 = .ok (.iaload, 1) := by decide +kernel
theorem dL_law_357 : decode cL_law 357 = .ok (.aload_n 0, 1) := by decide +kernel
theorem dL_law_358 : decode cL_law 358 = .ok (.iload_n 3, 1) := by decide +kernel
theorem dL_law_359 : decode cL_law 359 = .ok (.iconst 2, 1) := by decide +kernel
theorem dL_law_360 : decode cL_law 360 = .ok (.iadd, 1) := by decide +kernel
theorem dL_law_361 : decode cL_law 361 = .ok (.iaload, 1) := by decide +kernel
theorem dL_law_362 : decode cL_law 362 = .ok (.invokevirtual 49, 3) := by decide +kernel
theorem dL_law_365 : decode cL_law 365 = .ok (.if_icmp .eq 387, 3) := by decide +kernel
theorem dL_law_368 : decode cL_law 368 = .ok (.iconst 0, 1) := by decide +kernel
theorem dL_law_369 : decode cL_law 369 = .ok (.ireturn, 1) := by decide +kernel
theorem dL_law_370 : decode cL_law 370 = .ok (.aload_n 1, 1) := by decide +kernel
theorem dL_law_371 : decode cL_law 371 = .ok (.aload_n 0, 1) := by decide +kernel
theorem dL_law_372 : decode cL_law 372 = .ok (.iload_n 3, 1) := by decide +kernel
theorem dL_law_373 : decode cL_law 373 = .ok (.iconst 1, 1) := by decide +kernel
theorem dL_law_374 : decode cL_law 374 = .ok (.iadd, 1) := by decide +kernel
theorem dL_law_375 : decode cL_law 375 = .ok (.iaload, 1) := by decide +kernel
theorem dL_law_376 : decode cL_law 376 = .ok (.aload_n 0, 1) := by decide +kernel
theorem dL_law_377 : decode cL_law 377 = .ok (.iload_n 3, 1) := by decide +kernel
theorem dL_law_378 : decode cL_law 378 = .ok (.iconst 2, 1) := by decide +kernel
theorem dL_law_379 : decode cL_law 379 = .ok (.iadd, 1) := by decide +kernel
theorem dL_law_380 : decode cL_law 380 = .ok (.iaload, 1) := by decide +kernel
theorem dL_law_381 : decode cL_law 381 = .ok (.aload_n 0, 1) := by decide +kernel
theorem dL_law_382 : decode cL_law 382 = .ok (.iload_n 3, 1) := by decide +kernel
theorem dL_law_383 : decode cL_law 383 = .ok (.iconst 3, 1) := by decide +kernel
theorem dL_law_384 : decode cL_law 384 = .ok (.iadd, 1) := by decide +kernel
theorem dL_law_385 : decode cL_law 385 = .ok (.iaload, 1) := by decide +kernel
theorem dL_law_386 : decode cL_law 386 = .ok (.aload_n 0, 1) := by decide +kernel
theorem dL_law_387 : decode cL_law 387 = .ok (.iload_n 3, 1) := by decide +kernel
theorem dL_law_388 : decode cL_law 388 = .ok (.iconst 4, 1) := by decide +kernel
theorem dL_law_389 : decode cL_law 389 = .ok (.iadd, 1) := by decide +kernel
theorem dL_law_390 : decode cL_law 390 = .ok (.iaload, 1) := by decide +kernel
theorem dL_law_391 : decode cL_law 391 = .ok (.invokevirtual 50, 3) := by decide +kernel
theorem dL_law_394 : decode cL_law 394 = .ok (.aload_n 2, 1) := by decide +kernel
theorem dL_law_395 : decode cL_law 395 = .ok (.aload_n 0, 1) := by decide +kernel
theorem dL_law_396 : decode cL_law 396 = .ok (.iload_n 3, 1) := by decide +kernel
theorem dL_law_397 : decode cL_law 397 = .ok (.iconst 1, 1) := by decide +kernel
theorem dL_law_398 : decode cL_law 398 = .ok (.iadd, 1) := by decide +kernel
theorem dL_law_399 : decode cL_law 399 = .ok (.iaload, 1) := by decide +kernel
theorem dL_law_400 : decode cL_law 400 = .ok (.aload_n 0, 1) := by decide +kernel
theorem dL_law_401 : decode cL_law 401 = .ok (.iload_n 3, 1) := by decide +kernel
theorem dL_law_402 : decode cL_law 402 = .ok (.iconst 2, 1) := by decide +kernel
theorem dL_law_403 : decode cL_law 403 = .ok (.iadd, 1) := by decide +kernel
theorem dL_law_404 : decode cL_law 404 = .ok (.iaload, 1) := by decide +kernel
theorem dL_law_405 : decode cL_law 405 = .ok (.aload_n 0, 1) := by decide +kernel
theorem dL_law_406 : decode cL_law 406 = .ok (.iload_n 3, 1) := by decide +kernel
theorem dL_law_407 : decode cL_law 407 = .ok (.iconst 3, 1) := by decide +kernel
theorem dL_law_408 : decode cL_law 408 = .ok (.iadd, 1) := by decide +kernel
theorem dL_law_409 : decode cL_law 409 = .ok (.iaload, 1) := by decide +kernel
theorem dL_law_410 : decode cL_law 410 = .ok (.aload_n 0, 1) := by decide +kernel
theorem dL_law_411 : decode cL_law 411 = .ok (.iload_n 3, 1) := by decide +kernel
theorem dL_law_412 : decode cL_law 412 = .ok (.iconst 4, 1) := by decide +kernel
theorem dL_law_413 : decode cL_law 413 = .ok (.iadd, 1) := by decide +kernel
theorem dL_law_414 : decode cL_law 414 = .ok (.iaload, 1) := by decide +kernel
theorem dL_law_415 : decode cL_law 415 = .ok (.invokevirtual 53, 3) := by decide +kernel
theorem dL_law_418 : decode cL_law 418 = .ok (.if_icmp .eq 334, 3) := by decide +kernel
theorem dL_law_421 : decode cL_law 421 = .ok (.iconst 0, 1) := by decide +kernel
theorem dL_law_422 : decode cL_law 422 = .ok (.ireturn, 1) := by decide +kernel
theorem dL_law_423 : decode cL_law 423 = .ok (.aload_n 1, 1) := by decide +kernel
theorem dL_law_424 : decode cL_law 424 = .ok (.aload_n 0, 1) := by decide +kernel
theorem dL_law_425 : decode cL_law 425 = .ok (.iload_n 3, 1) := by decide +kernel
theorem dL_law_426 : decode cL_law 426 = .ok (.iconst 1, 1) := by decide +kernel
theorem dL_law_427 : decode cL_law 427 = .ok (.iadd, 1) := by decide +kernel
theorem dL_law_428 : decode cL_law 428 = .ok (.iaload, 1) := by decide +kernel
theorem dL_law_429 : decode cL_law 429 = .ok (.aload_n 0, 1) := by decide +kernel
theorem dL_law_430 : decode cL_law 430 = .ok (.iload_n 3, 1) := by decide +kernel
theorem dL_law_431 : decode cL_law 431 = .ok (.iconst 2, 1) := by decide +kernel
theorem dL_law_432 : decode cL_law 432 = .ok (.iadd, 1) := by decide +kernel
theorem dL_law_433 : decode cL_law 433 = .ok (.iaload, 1) := by decide +kernel
theorem dL_law_434 : decode cL_law 434 = .ok (.invokevirtual 54, 3) := by decide +kernel
theorem dL_law_437 : decode cL_law 437 = .ok (.aload_n 2, 1) := by decide +kernel
theorem dL_law_438 : decode cL_law 438 = .ok (.aload_n 0, 1) := by decide +kernel
theorem dL_law_439 : decode cL_law 439 = .ok (.iload_n 3, 1) := by decide +kernel
theorem dL_law_440 : decode cL_law 440 = .ok (.iconst 1, 1) := by decide +kernel
theorem dL_law_441 : decode cL_law 441 = .ok (.iadd, 1) := by decide +kernel
theorem dL_law_442 : decode cL_law 442 = .ok (.iaload, 1) := by decide +kernel
theorem dL_law_443 : decode cL_law 443 = .ok (.aload_n 0, 1) := by decide +kernel
theorem dL_law_444 : decode cL_law 444 = .ok (.iload_n 3, 1) := by decide +kernel
theorem dL_law_445 : decode cL_law 445 = .ok (.iconst 2, 1) := by decide +kernel
theorem dL_law_446 : decode cL_law 446 = .ok (.iadd, 1) := by decide +kernel
theorem dL_law_447 : decode cL_law 447 = .ok (.iaload, 1) := by decide +kernel
theorem dL_law_448 : decode cL_law 448 = .ok (.invokevirtual 57, 3) := by decide +kernel
theorem dL_law_451 : decode cL_law 451 = .ok (.if_icmp .eq 301, 3) := by decide +kernel
theorem dL_law_454 : decode cL_law 454 = .ok (.iconst 0, 1) := by decide +kernel
theorem dL_law_455 : decode cL_law 455 = .ok (.ireturn, 1) := by decide +kernel
theorem dL_law_456 : decode cL_law 456 = .ok (.aload_n 1, 1) := by decide +kernel
theorem dL_law_457 : decode cL_law 457 = .ok (.invokevirtual 58, 3) := by decide +kernel
theorem dL_law_460 : decode cL_law 460 = .ok (.aload_n 2, 1) := by decide +kernel
theorem dL_law_461 : decode cL_law 461 = .ok (.invokevirtual 61, 3) := by decide +kernel
theorem dL_law_464 : decode cL_law 464 = .ok (.if_icmp .eq 288, 3) := by decide +kernel
theorem dL_law_467 : decode cL_law 467 = .ok (.iconst 0, 1) := by decide +kernel
theorem dL_law_468 : decode cL_law 468 = .ok (.ireturn, 1) := by decide +kernel
theorem dL_law_469 : decode cL_law 469 = .ok (.aload_n 1, 1) := by decide +kernel
theorem dL_law_470 : decode cL_law 470 = .ok (.invokevirtual 62, 3) := by decide +kernel
theorem dL_law_473 : decode cL_law 473 = .ok (.aload_n 2, 1) := by decide +kernel
theorem dL_law_474 : decode cL_law 474 = .ok (.invokevirtual 65, 3) := by decide +kernel
theorem dL_law_477 : decode cL_law 477 = .ok (.if_icmp .eq 275, 3) := by decide +kernel
theorem dL_law_480 : decode cL_law 480 = .ok (.iconst 0, 1) := by decide +kernel
theorem dL_law_481 : decode cL_law 481 = .ok (.ireturn, 1) := by decide +kernel
theorem dL_law_482 : decode cL_law 482 = .ok (.aload_n 1, 1) := by decide +kernel
theorem dL_law_483 : decode cL_law 483 = .ok (.aload_n 0, 1) := by decide +kernel
theorem dL_law_484 : decode cL_law 484 = .ok (.iload_n 3, 1) := by decide +kernel
theorem dL_law_485 : decode cL_law 485 = .ok (.iconst 1, 1) := by decide +kernel
theorem dL_law_486 : decode cL_law 486 = .ok (.iadd, 1) := by decide +kernel
theorem dL_law_487 : decode cL_law 487 = .ok (.iaload, 1) := by decide +kernel
theorem dL_law_488 : decode cL_law 488 = .ok (.invokevirtual 66, 3) := by decide +kernel
theorem dL_law_491 : decode cL_law 491 = .ok (.aload_n 2, 1) := by decide +kernel
theorem dL_law_492 : decode cL_law 492 = .ok (.aload_n 0, 1) := by decide +kernel
theorem dL_law_493 : decode cL_law 493 = .ok (.iload_n 3, 1) := by decide +kernel
theorem dL_law_494 : decode cL_law 494 = .ok (.iconst 1, 1) := by decide +kernel
theorem dL_law_495 : decode cL_law 495 = .ok (.iadd, 1) := by decide +kernel
theorem dL_law_496 : decode cL_law 496 = .ok (.iaload, 1) := by decide +kernel
theorem dL_law_497 : decode cL_law 497 = .ok (.invokevirtual 69, 3) := by decide +kernel
theorem dL_law_500 : decode cL_law 500 = .ok (.if_icmp .eq 252, 3) := by decide +kernel
theorem dL_law_503 : decode cL_law 503 = .ok (.iconst 0, 1) := by decide +kernel
theorem dL_law_504 : decode cL_law 504 = .ok (.ireturn, 1) := by decide +kernel
theorem dL_law_505 : decode cL_law 505 = .ok (.aload_n 1, 1) := by decide +kernel
theorem dL_law_506 : decode cL_law 506 = .ok (.aload_n 0, 1) := by decide +kernel
theorem dL_law_507 : decode cL_law 507 = .ok (.iload_n 3, 1) := by decide +kernel
theorem dL_law_508 : decode cL_law 508 = .ok (.iconst 1, 1) := by decide +kernel
theorem dL_law_509 : decode cL_law 509 = .ok (.iadd, 1) := by decide +kernel
theorem dL_law_510 : decode cL_law 510 = .ok (.iaload, 1) := by decide +kernel
theorem dL_law_511 : decode cL_law 511 = .ok (.aload_n 0, 1) := by decide +kernel
theorem dL_law_512 : decode cL_law 512 = .ok (.iload_n 3, 1) := by decide +kernel
theorem dL_law_513 : decode cL_law 513 = .ok (.iconst 2, 1) := by decide +kernel
theorem dL_law_514 : decode cL_law 514 = .ok (.iadd, 1) := by decide +kernel
theorem dL_law_515 : decode cL_law 515 = .ok (.iaload, 1) := by decide +kernel
theorem dL_law_516 : decode cL_law 516 = .ok (.invokevirtual 70, 3) := by decide +kernel
theorem dL_law_519 : decode cL_law 519 = .ok (.aload_n 2, 1) := by decide +kernel
theorem dL_law_520 : decode cL_law 520 = .ok (.aload_n 0, 1) := by decide +kernel
theorem dL_law_521 : decode cL_law 521 = .ok (.iload_n 3, 1) := by decide +kernel
theorem dL_law_522 : decode cL_law 522 = .ok (.iconst 1, 1) := by decide +kernel
theorem dL_law_523 : decode cL_law 523 = .ok (.iadd, 1) := by decide +kernel
theorem dL_law_524 : decode cL_law 524 = .ok (.iaload, 1) := by decide +kernel
theorem dL_law_525 : decode cL_law 525 = .ok (.aload_n 0, 1) := by decide +kernel
theorem dL_law_526 : decode cL_law 526 = .ok (.iload_n 3, 1) := by decide +kernel
theorem dL_law_527 : decode cL_law 527 = .ok (.iconst 2, 1) := by decide +kernel
theorem dL_law_528 : decode cL_law 528 = .ok (.iadd, 1) := by decide +kernel
theorem dL_law_529 : decode cL_law 529 = .ok (.iaload, 1) := by decide +kernel
theorem dL_law_530 : decode cL_law 530 = .ok (.invokevirtual 73, 3) := by decide +kernel
theorem dL_law_533 : decode cL_law 533 = .ok (.if_icmp .eq 219, 3) := by decide +kernel
theorem dL_law_536 : decode cL_law 536 = .ok (.iconst 0, 1) := by decide +kernel
theorem dL_law_537 : decode cL_law 537 = .ok (.ireturn, 1) := by decide +kernel
theorem dL_law_538 : decode cL_law 538 = .ok (.aload_n 1, 1) := by decide +kernel
theorem dL_law_539 : decode cL_law 539 = .ok (.aload_n 0, 1) := by decide +kernel
theorem dL_law_540 : decode cL_law 540 = .ok (.iload_n 3, 1) := by decide +kernel
theorem dL_law_541 : decode cL_law 541 = .ok (.iconst 1, 1) := by decide +kernel
theorem dL_law_542 : decode cL_law 542 = .ok (.iadd, 1) := by decide +kernel
theorem dL_law_543 : decode cL_law 543 = .ok (.iaload, 1) := by decide +kernel
theorem dL_law_544 : decode cL_law 544 = .ok (.invokevirtual 74, 3) := by decide +kernel
theorem dL_law_547 : decode cL_law 547 = .ok (.aload_n 2, 1) := by decide +kernel
theorem dL_law_548 : decode cL_law 548 = .ok (.aload_n 0, 1) := by decide +kernel
theorem dL_law_549 : decode cL_law 549 = .ok (.iload_n 3, 1) := by decide +kernel
theorem dL_law_550 : decode cL_law 550 = .ok (.iconst 1, 1) := by decide +kernel
theorem dL_law_551 : decode cL_law 551 = .ok (.iadd, 1) := by decide +kernel
theorem dL_law_552 : decode cL_law 552 = .ok (.iaload, 1) := by decide +kernel
theorem dL_law_553 : decode cL_law 553 = .ok (.invokevirtual 77, 3) := by decide +kernel
theorem dL_law_556 : decode cL_law 556 = .ok (.if_icmp .eq 196, 3) := by decide +kernel
theorem dL_law_559 : decode cL_law 559 = .ok (.iconst 0, 1) := by decide +kernel
theorem dL_law_560 : decode cL_law 560 = .ok (.ireturn, 1) := by decide +kernel
theorem dL_law_561 : decode cL_law 561 = .ok (.aload_n 1, 1) := by decide +kernel
theorem dL_law_562 : decode cL_law 562 = .ok (.aload_n 0, 1) := by decide +kernel
theorem dL_law_563 : decode cL_law 563 = .ok (.iload_n 3, 1) := by decide +kernel
theorem dL_law_564 : decode cL_law 564 = .ok (.iconst 1, 1) := by decide +kernel
theorem dL_law_565 : decode cL_law 565 = .ok (.iadd, 1) := by decide +kernel
theorem dL_law_566 : decode cL_law 566 = .ok (.iaload, 1) := by decide +kernel
theorem dL_law_567 : decode cL_law 567 = .ok (.aload_n 0, 1) := by decide +kernel
theorem dL_law_568 : decode cL_law 568 = .ok (.iload_n 3, 1) := by decide +kernel
theorem dL_law_569 : decode cL_law 569 = .ok (.iconst 2, 1) := by decide +kernel
theorem dL_law_570 : decode cL_law 570 = .ok (.iadd, 1) := by decide +kernel
theorem dL_law_571 : decode cL_law 571 = .ok (.iaload, 1) := by decide +kernel
theorem dL_law_572 : decode cL_law 572 = .ok (.invokevirtual 78, 3) := by decide +kernel
theorem dL_law_575 : decode cL_law 575 = .ok (.aload_n 2, 1) := by decide +kernel
theorem dL_law_576 : decode cL_law 576 = .ok (.aload_n 0, 1) := by decide +kernel
theorem dL_law_577 : decode cL_law 577 = .ok (.iload_n 3, 1) := by decide +kernel
theorem dL_law_578 : decode cL_law 578 = .ok (.iconst 1, 1) := by decide +kernel
theorem dL_law_579 : decode cL_law 579 = .ok (.iadd, 1) := by decide +kernel
theorem dL_law_580 : decode cL_law 580 = .ok (.iaload, 1) := by decide +kernel
theorem dL_law_581 : decode cL_law 581 = .ok (.aload_n 0, 1) := by decide +kernel
theorem dL_law_582 : decode cL_law 582 = .ok (.iload_n 3, 1) := by decide +kernel
theorem dL_law_583 : decode cL_law 583 = .ok (.iconst 2, 1) := by decide +kernel
theorem dL_law_584 : decode cL_law 584 = .ok (.iadd, 1) := by decide +kernel
theorem dL_law_585 : decode cL_law 585 = .ok (.iaload, 1) := by decide +kernel
theorem dL_law_586 : decode cL_law 586 = .ok (.invokevirtual 81, 3) := by decide +kernel
theorem dL_law_589 : decode cL_law 589 = .ok (.if_icmp .eq 163, 3) := by decide +kernel
theorem dL_law_592 : decode cL_law 592 = .ok (.iconst 0, 1) := by decide +kernel
theorem dL_law_593 : decode cL_law 593 = .ok (.ireturn, 1) := by decide +kernel
theorem dL_law_594 : decode cL_law 594 = .ok (.aload_n 1, 1) := by decide +kernel
theorem dL_law_595 : decode cL_law 595 = .ok (.aload_n 0, 1) := by decide +kernel
theorem dL_law_596 : decode cL_law 596 = .ok (.iload_n 3, 1) := by decide +kernel
theorem dL_law_597 : decode cL_law 597 = .ok (.iconst 1, 1) := by decide +kernel
theorem dL_law_598 : decode cL_law 598 = .ok (.iadd, 1) := by decide +kernel
theorem dL_law_599 : decode cL_law 599 = .ok (.iaload, 1) := by decide +kernel
theorem dL_law_600 : decode cL_law 600 = .ok (.aload_n 0, 1) := by decide +kernel
theorem dL_law_601 : decode cL_law 601 = .ok (.iload_n 3, 1) := by decide +kernel
theorem dL_law_602 : decode cL_law 602 = .ok (.iconst 2, 1) := by decide +kernel
theorem dL_law_603 : decode cL_law 603 = .ok (.iadd, 1) := by decide +kernel
theorem dL_law_604 : decode cL_law 604 = .ok (.iaload, 1) := by decide +kernel
theorem dL_law_605 : decode cL_law 605 = .ok (.invokevirtual 82, 3) := by decide +kernel
theorem dL_law_608 : decode cL_law 608 = .ok (.aload_n 2, 1) := by decide +kernel
theorem dL_law_609 : decode cL_law 609 = .ok (.aload_n 0, 1) := by decide +kernel
theorem dL_law_610 : decode cL_law 610 = .ok (.iload_n 3, 1) := by decide +kernel
theorem dL_law_611 : decode cL_law 611 = .ok (.iconst 1, 1) := by decide +kernel
theorem dL_law_612 : decode cL_law 612 = .ok (.iadd, 1) := by decide +kernel
theorem dL_law_613 : decode cL_law 613 = .ok (.iaload, 1) := by decide +kernel
theorem dL_law_614 : decode cL_law 614 = .ok (.aload_n 0, 1) := by decide +kernel
theorem dL_law_615 : decode cL_law 615 = .ok (.iload_n 3, 1) := by decide +kernel
theorem dL_law_616 : decode cL_law 616 = .ok (.iconst 2, 1) := by decide +kernel
theorem dL_law_617 : decode cL_law 617 = .ok (.iadd, 1) := by decide +kernel
theorem dL_law_618 : decode cL_law 618 = .ok (.iaload, 1) := by decide +kernel
theorem dL_law_619 : decode cL_law 619 = .ok (.invokevirtual 85, 3) := by decide +kernel
theorem dL_law_622 : decode cL_law 622 = .ok (.if_icmp .eq 130, 3) := by decide +kernel
theorem dL_law_625 : decode cL_law 625 = .ok (.iconst 0, 1) := by decide +kernel
theorem dL_law_626 : decode cL_law 626 = .ok (.ireturn, 1) := by decide +kernel
theorem dL_law_627 : decode cL_law 627 = .ok (.aload_n 1, 1) := by decide +kernel
theorem dL_law_628 : decode cL_law 628 = .ok (.aload_n 0, 1) := by decide +kernel
theorem dL_law_629 : decode cL_law 629 = .ok (.iload_n 3, 1) := by decide +kernel
theorem dL_law_630 : decode cL_law 630 = .ok (.iconst 1, 1) := by decide +kernel
theorem dL_law_631 : decode cL_law 631 = .ok (.iadd, 1) := by decide +kernel
theorem dL_law_632 : decode cL_law 632 = .ok (.iaload, 1) := by decide +kernel
theorem dL_law_633 : decode cL_law 633 = .ok (.invokevirtual 86, 3) := by decide +kernel
theorem dL_law_636 : decode cL_law 636 = .ok (.aload_n 2, 1) := by decide +kernel
theorem dL_law_637 : decode cL_law 637 = .ok (.aload_n 0, 1) := by decide +kernel
theorem dL_law_638 : decode cL_law 638 = .ok (.iload_n 3, 1) := by decide +kernel
theorem dL_law_639 : decode cL_law 639 = .ok (.iconst 1, 1) := by decide +kernel
theorem dL_law_640 : decode cL_law 640 = .ok (.iadd, 1) := by decide +kernel
theorem dL_law_641 : decode cL_law 641 = .ok (.iaload, 1) := by decide +kernel
theorem dL_law_642 : decode cL_law 642 = .ok (.invokevirtual 89, 3) := by decide +kernel
theorem dL_law_645 : decode cL_law 645 = .ok (.if_icmp .eq 107, 3) := by decide +kernel
theorem dL_law_648 : decode cL_law 648 = .ok (.iconst 0, 1) := by decide +kernel
theorem dL_law_649 : decode cL_law 649 = .ok (.ireturn, 1) := by decide +kernel
theorem dL_law_650 : decode cL_law 650 = .ok (.aload_n 1, 1) := by decide +kernel
theorem dL_law_651 : decode cL_law 651 = .ok (.aload_n 0, 1) := by decide +kernel
theorem dL_law_652 : decode cL_law 652 = .ok (.iload_n 3, 1) := by decide +kernel
theorem dL_law_653 : decode cL_law 653 = .ok (.iconst 1, 1) := by decide +kernel
theorem dL_law_654 : decode cL_law 654 = .ok (.iadd, 1) := by decide +kernel
theorem dL_law_655 : decode cL_law 655 = .ok (.iaload, 1) := by decide +kernel
theorem dL_law_656 : decode cL_law 656 = .ok (.invokevirtual 90, 3) := by decide +kernel
theorem dL_law_659 : decode cL_law 659 = .ok (.aload_n 2, 1) := by decide +kernel
theorem dL_law_660 : decode cL_law 660 = .ok (.aload_n 0, 1) := by decide +kernel
theorem dL_law_661 : decode cL_law 661 = .ok (.iload_n 3, 1) := by decide +kernel
theorem dL_law_662 : decode cL_law 662 = .ok (.iconst 1, 1) := by decide +kernel
theorem dL_law_663 : decode cL_law 663 = .ok (.iadd, 1) := by decide +kernel
theorem dL_law_664 : decode cL_law 664 = .ok (.iaload, 1) := by decide +kernel
theorem dL_law_665 : decode cL_law 665 = .ok (.invokevirtual 93, 3) := by decide +kernel
theorem dL_law_668 : decode cL_law 668 = .ok (.if_icmp .eq 84, 3) := by decide +kernel
theorem dL_law_671 : decode cL_law 671 = .ok (.iconst 0, 1) := by decide +kernel
theorem dL_law_672 : decode cL_law 672 = .ok (.ireturn, 1) := by decide +kernel
theorem dL_law_673 : decode cL_law 673 = .ok (.aload_n 1, 1) := by decide +kernel
theorem dL_law_674 : decode cL_law 674 = .ok (.aload_n 0, 1) := by decide +kernel
theorem dL_law_675 : decode cL_law 675 = .ok (.iload_n 3, 1) := by decide +kernel
theorem dL_law_676 : decode cL_law 676 = .ok (.iconst 1, 1) := by decide +kernel
theorem dL_law_677 : decode cL_law 677 = .ok (.iadd, 1) := by decide +kernel
theorem dL_law_678 : decode cL_law 678 = .ok (.iaload, 1) := by decide +kernel
theorem dL_law_679 : decode cL_law 679 = .ok (.invokevirtual 94, 3) := by decide +kernel
theorem dL_law_682 : decode cL_law 682 = .ok (.aload_n 2, 1) := by decide +kernel
theorem dL_law_683 : decode cL_law 683 = .ok (.aload_n 0, 1) := by decide +kernel
theorem dL_law_684 : decode cL_law 684 = .ok (.iload_n 3, 1) := by decide +kernel
theorem dL_law_685 : decode cL_law 685 = .ok (.iconst 1, 1) := by decide +kernel
theorem dL_law_686 : decode cL_law 686 = .ok (.iadd, 1) := by decide +kernel
theorem dL_law_687 : decode cL_law 687 = .ok (.iaload, 1) := by decide +kernel
theorem dL_law_688 : decode cL_law 688 = .ok (.invokevirtual 97, 3) := by decide +kernel
theorem dL_law_691 : decode cL_law 691 = .ok (.if_icmp .eq 61, 3) := by decide +kernel
theorem dL_law_694 : decode cL_law 694 = .ok (.iconst 0, 1) := by decide +kernel
theorem dL_law_695 : decode cL_law 695 = .ok (.ireturn, 1) := by decide +kernel
theorem dL_law_696 : decode cL_law 696 = .ok (.aload_n 1, 1) := by decide +kernel
theorem dL_law_697 : decode cL_law 697 = .ok (.aload_n 0, 1) := by decide +kernel
theorem dL_law_698 : decode cL_law 698 = .ok (.iload_n 3, 1) := by decide +kernel
theorem dL_law_699 : decode cL_law 699 = .ok (.iconst 1, 1) := by decide +kernel
theorem dL_law_700 : decode cL_law 700 = .ok (.iadd, 1) := by decide +kernel
theorem dL_law_701 : decode cL_law 701 = .ok (.iaload, 1) := by decide +kernel
theorem dL_law_702 : decode cL_law 702 = .ok (.invokevirtual 98, 3) := by decide +kernel
theorem dL_law_705 : decode cL_law 705 = .ok (.aload_n 2, 1) := by decide +kernel
theorem dL_law_706 : decode cL_law 706 = .ok (.aload_n 0, 1) := by decide +kernel
theorem dL_law_707 : decode cL_law 707 = .ok (.iload_n 3, 1) := by decide +kernel
theorem dL_law_708 : decode cL_law 708 = .ok (.iconst 1, 1) := by decide +kernel
theorem dL_law_709 : decode cL_law 709 = .ok (.iadd, 1) := by decide +kernel
theorem dL_law_710 : decode cL_law 710 = .ok (.iaload, 1) := by decide +kernel
theorem dL_law_711 : decode cL_law 711 = .ok (.invokevirtual 101, 3) := by decide +kernel
theorem dL_law_714 : decode cL_law 714 = .ok (.if_icmp .eq 38, 3) := by decide +kernel
theorem dL_law_717 : decode cL_law 717 = .ok (.iconst 0, 1) := by decide +kernel
theorem dL_law_718 : decode cL_law 718 = .ok (.ireturn, 1) := by decide +kernel
theorem dL_law_719 : decode cL_law 719 = .ok (.aload_n 1, 1) := by decide +kernel
theorem dL_law_720 : decode cL_law 720 = .ok (.aload_n 0, 1) := by decide +kernel
theorem dL_law_721 : decode cL_law 721 = .ok (.iload_n 3, 1) := by decide +kernel
theorem dL_law_722 : decode cL_law 722 = .ok (.iconst 1, 1) := by decide +kernel
theorem dL_law_723 : decode cL_law 723 = .ok (.iadd, 1) := by decide +kernel
theorem dL_law_724 : decode cL_law 724 = .ok (.iaload, 1) := by decide +kernel
theorem dL_law_725 : decode cL_law 725 = .ok (.aload_n 0, 1) := by decide +kernel
theorem dL_law_726 : decode cL_law 726 = .ok (.iload_n 3, 1) := by decide +kernel
theorem dL_law_727 : decode cL_law 727 = .ok (.iconst 2, 1) := by decide +kernel
theorem dL_law_728 : decode cL_law 728 = .ok (.iadd, 1) := by decide +kernel
theorem dL_law_729 : decode cL_law 729 = .ok (.iaload, 1) := by decide +kernel
theorem dL_law_730 : decode cL_law 730 = .ok (.invokevirtual 102, 3) := by decide +kernel
theorem dL_law_733 : decode cL_law 733 = .ok (.aload_n 2, 1) := by decide +kernel
theorem dL_law_734 : decode cL_law 734 = .ok (.aload_n 0, 1) := by decide +kernel
theorem dL_law_735 : decode cL_law 735 = .ok (.iload_n 3, 1) := by decide +kernel
theorem dL_law_736 : decode cL_law 736 = .ok (.iconst 1, 1) := by decide +kernel
theorem dL_law_737 : decode cL_law 737 = .ok (.iadd, 1) := by decide +kernel
theorem dL_law_738 : decode cL_law 738 = .ok (.iaload, 1) := by decide +kernel
theorem dL_law_739 : decode cL_law 739 = .ok (.aload_n 0, 1) := by decide +kernel
theorem dL_law_740 : decode cL_law 740 = .ok (.iload_n 3, 1) := by decide +kernel
theorem dL_law_741 : decode cL_law 741 = .ok (.iconst 2, 1) := by decide +kernel
theorem dL_law_742 : decode cL_law 742 = .ok (.iadd, 1) := by decide +kernel
theorem dL_law_743 : decode cL_law 743 = .ok (.iaload, 1) := by decide +kernel
theorem dL_law_744 : decode cL_law 744 = .ok (.invokevirtual 105, 3) := by decide +kernel
theorem dL_law_747 : decode cL_law 747 = .ok (.if_icmp .eq 5, 3) := by decide +kernel
theorem dL_law_750 : decode cL_law 750 = .ok (.iconst 0, 1) := by decide +kernel
theorem dL_law_751 : decode cL_law 751 = .ok (.ireturn, 1) := by decide +kernel
theorem dL_law_752 : decode cL_law 752 = .ok (.iinc 3 5, 3) := by decide +kernel
theorem dL_law_755 : decode cL_law 755 = .ok (.goto (-737), 3) := by decide +kernel
theorem dL_law_758 : decode cL_law 758 = .ok (.iconst 1, 1) := by decide +kernel
theorem dL_law_759 : decode cL_law 759 = .ok (.ireturn, 1) := by decide +kernel
abbrev vwCl : List vw_C := [(RX0, TX0, 3), (RX1, TX1, 14), (RX2, TX2, 1), (RX3, TX3, 2), (RX4, TX4, 3), (RX5, TX5, 5), (RX6, TX6, 8), (RX7, TX7, 16)]
end
section
/-! base: the walk's words in one form: an int row, a row of rows, one contract's form, its call, its return -/
abbrev zi (k : ClassId) (n : Nat) (f : Nat → Int32) : va_E := .inl (k, n, .inl f)
abbrev zr (k : ClassId) (n : Nat) (r : Nat → Nat) : va_E := .inl (k, n, .inr (.inr (.inr (.inr (fun i => if i < n then some (r i) else none)))))
abbrev zty (kI kA kC : ClassId) : List (ClassId × FieldType) := [(kI, .int), (kA, .array .int), (kC, .object "CakeMarks$Cake")]
theorem z_lt {i : Int32} {n : Nat} (h : vp_in i n) : i.toNatClampNeg < n := Nat.not_le.mp fun q => h (Or.inr q)
def zPre (dC : Nat → ClassId) (dI : Nat → Nat → Nat) (kI kA kC : ClassId) (sz : Nat) (W0 : va_W) : State → Prop := fun U => U.heap.size = sz ∧ va_P (dC, dI) vwCl W0 U.heap ∧ va_K (dC, dI) vwCl (zty kI kA kC) U ∧ va_D (fun _ => True) W0
def zEnd (dC : Nat → ClassId) (dI : Nat → Nat → Nat) {S : Type} (W1 : S → va_W) (A : Nat → Prop) : S → State → Prop := fun u t => va_P (dC, dI) vwCl (W1 u) t.heap ∧ va_D A (W1 u)
/-- a contract of a method that answers an int (or a boolean) -/
def zI (l : Launch) (y : MethodName) (ws : List Cond) (rm : Room) (dC : Nat → ClassId) (dI : Nat → Nat → Nat) (kI kA kC : ClassId) (sz mc ms : Nat) (args : List Value) (W0 : va_W) {S : Type} (post : Int32 → S → Prop) (W1 : S → va_W) : Prop :=
  Met l y ws rm (va_Pc args (zPre dC dI kI kA kC sz W0)) (va_Qi post (zEnd dC dI W1 (va_A W0 sz)) (va_A W0 sz)) mc ms (va_A W0 sz)
/-- of one that answers nothing -/
def zV (l : Launch) (y : MethodName) (ws : List Cond) (rm : Room) (dC : Nat → ClassId) (dI : Nat → Nat → Nat) (kI kA kC : ClassId) (sz mc ms : Nat) (args : List Value) (W0 : va_W) {S : Type} (post : S → Prop) (W1 : S → va_W) : Prop :=
  Met l y ws rm (va_Pc args (zPre dC dI kI kA kC sz W0)) (va_Qv post (zEnd dC dI W1 (va_A W0 sz)) (va_A W0 sz)) mc ms (va_A W0 sz)
/-- what a walk has at its start -/
def zCtx (p : Program) (s : State) (m : MethodId) (args : Array Value) (meth : Method) (c : Code) (dC : Nat → ClassId) (dI : Nat → Nat → Nat) (kI kA kC : ClassId) (W0 : va_W) (y : MethodName) (cc : ByteArray) (maxL : Nat) (ret : Option FieldType) (ws : List Cond) (A : Nat → Prop) : Prop :=
  p.tables.exec = Jvm.exec ∧ c.code = cc ∧ meth.sig.returnType = ret ∧ c.maxLocals = maxL ∧ (∀ w ∈ ws, w.before args s = true) ∧ s.vm.findClass y.cls = some m.cls ∧ meth.name = y.name ∧ va_P (dC, dI) vwCl W0 s.heap ∧ va_K (dC, dI) vwCl (zty kI kA kC) s ∧ va_D A W0 ∧ (∀ q : Nat, s.heap.size ≤ q → A q) ∧ va_S A s.heap s.heap []
/-- an int's end: with the post, the world and the frame -/
def zRetI (p : Program) (l : Launch) (e : Env) (rm : Room) (s : State) (m : MethodId) (args : Array Value) (below : List Frame) (meth : Method) (c : Code) (dC : Nat → ClassId) (dI : Nat → Nat → Nat) (mc ms : Nat) (cc : ByteArray) (A : Nat → Prop) {S : Type} (post : Int32 → S → Prop) (W1 : S → va_W) (Q : State → Prop) (bool : Bool) : Prop :=
  ∀ (pc : Nat) (v : Int32) (u : S) (H : Heap) (locs : List Loc) (ls : Array Slot), (bool = true → narrow .boolean (.int v) = .int v) → post v u → va_P (dC, dI) vwCl (W1 u) H → va_D A (W1 u) → va_S A s.heap H locs → decode cc pc = .ok (.ireturn, 1) → W p l e rm s m args below meth c H locs mc ms Q (F0 m pc ls [.int v])
def zRetV (p : Program) (l : Launch) (e : Env) (rm : Room) (s : State) (m : MethodId) (args : Array Value) (below : List Frame) (meth : Method) (c : Code) (dC : Nat → ClassId) (dI : Nat → Nat → Nat) (mc ms : Nat) (cc : ByteArray) (A : Nat → Prop) {S : Type} (post : S → Prop) (W1 : S → va_W) (Q : State → Prop) : Prop :=
  ∀ (pc : Nat) (u : S) (H : Heap) (locs : List Loc) (ls : Array Slot), post u → va_P (dC, dI) vwCl (W1 u) H → va_D A (W1 u) → va_S A s.heap H locs → decode cc pc = .ok (.return_, 1) → W p l e rm s m args below meth c H locs mc ms Q (F0 m pc ls [])
set_option maxHeartbeats 4000000 in
theorem zI.of {l : Launch} {y : MethodName} {ws ws' : List Cond} {rm : Room} {dC : Nat → ClassId} {dI : Nat → Nat → Nat} {kI kA kC : ClassId} {sz mc ms : Nat} {As : List Value} {W0 : va_W} {S : Type} {post : Int32 → S → Prop} {W1 : S → va_W} {cc : ByteArray} {maxL : Nat} {ty : FieldType} (hy : plainName y.cls = true) (hw : ws = Cond.code y cc maxL (some ty) :: ws') (hlen : (lg_sl As).length ≤ maxL) (hty : ty = .int ∨ ty = .boolean)
    (body : ∀ (p : Program) (e : Env) (s : State) (m : MethodId) (args : Array Value) (below : List Frame) (meth : Method) (c : Code) (A : Nat → Prop) (Q : State → Prop), zCtx p s m args meth c dC dI kI kA kC W0 y cc maxL (some ty) ws A → zRetI p l e rm s m args below meth c dC dI mc ms cc A post W1 Q (decide (ty = .boolean)) → ∀ (ls : Array Slot), lv_has ls maxL (lv_args 0 As) → W p l e rm s m args below meth c s.heap [] 0 0 Q (F0 m 0 ls [])) :
    zI l y ws rm dC dI kI kA kC sz mc ms As W0 post W1 := by
  refine Met.ofW (cc := cc) (maxL := maxL) (ret := some ty) hy hw ?_
  intro p e s m args below meth c s₁ B hml hv
  obtain ⟨rfl, hsz, hP, hK, hD0⟩ := hv
  have hx := B.exec
  have hb := B.bytes
  have hr := B.returns
  have hts := atoms_spec (ws := ws) B.pre
  have hown := findClass_of_methodNamed B.named
  have hlocks := B.notSynchronized
  have hin := (name_of_methodNamed B.named B.method).1
  subst hsz
  have hD := hD0.self (sz := s.heap.size)
  have hA : ∀ q : Nat, s.heap.size ≤ q → va_A W0 s.heap.size q := fun q h => Or.inr h
  have hl := lv_entry As (n := maxL) hlen
  rw [lg_entry_eq]
  generalize (lg_sl As ++ List.replicate (maxL - (lg_sl As).length) Slot.unset).toArray = ls at hl ⊢
  refine body p e s m _ below meth c (va_A W0 s.heap.size) _ ⟨hx, hb, hr, hml, hts, hown, hin, hP, hK, hD, hA, va_S.rf⟩ ?_ ls hl
  intro pc v u H locs ls' hn hp hP1 hD1 hS hdg
  have hq : ∀ t : State, t.heap = H → s.WarmedH t.vm → va_Qi post (zEnd dC dI W1 (va_A W0 s.heap.size)) (va_A W0 s.heap.size) As.toArray s (.returned (some (.int v))) t := fun t ht _ => ⟨⟨v, u, rfl, hp, by rw [ht]; exact hP1, hD1⟩, hS.F ht⟩
  rcases hty with rfl | rfl
  · exact W.iret (v := v) hx hb hr hq hS.2.2 hdg
  · exact W.zret (v := v) (ty := .boolean) hx hb hr (hn rfl) hq hS.2.2 hdg
set_option maxHeartbeats 4000000 in
theorem zV.of {l : Launch} {y : MethodName} {ws ws' : List Cond} {rm : Room} {dC : Nat → ClassId} {dI : Nat → Nat → Nat} {kI kA kC : ClassId} {sz mc ms : Nat} {As : List Value} {W0 : va_W} {S : Type} {post : S → Prop} {W1 : S → va_W} {cc : ByteArray} {maxL : Nat} (hy : plainName y.cls = true) (hw : ws = Cond.code y cc maxL none :: ws') (hlen : (lg_sl As).length ≤ maxL)
    (body : ∀ (p : Program) (e : Env) (s : State) (m : MethodId) (args : Array Value) (below : List Frame) (meth : Method) (c : Code) (A : Nat → Prop) (Q : State → Prop), zCtx p s m args meth c dC dI kI kA kC W0 y cc maxL none ws A → zRetV p l e rm s m args below meth c dC dI mc ms cc A post W1 Q → ∀ (ls : Array Slot), lv_has ls maxL (lv_args 0 As) → W p l e rm s m args below meth c s.heap [] 0 0 Q (F0 m 0 ls [])) :
    zV l y ws rm dC dI kI kA kC sz mc ms As W0 post W1 := by
  refine Met.ofW (cc := cc) (maxL := maxL) (ret := none) hy hw ?_
  intro p e s m args below meth c s₁ B hml hv
  obtain ⟨rfl, hsz, hP, hK, hD0⟩ := hv
  have hx := B.exec
  have hb := B.bytes
  have hr := B.returns
  have hts := atoms_spec (ws := ws) B.pre
  have hown := findClass_of_methodNamed B.named
  have hlocks := B.notSynchronized
  have hin := (name_of_methodNamed B.named B.method).1
  subst hsz
  have hD := hD0.self (sz := s.heap.size)
  have hA : ∀ q : Nat, s.heap.size ≤ q → va_A W0 s.heap.size q := fun q h => Or.inr h
  have hl := lv_entry As (n := maxL) hlen
  rw [lg_entry_eq]
  generalize (lg_sl As ++ List.replicate (maxL - (lg_sl As).length) Slot.unset).toArray = ls at hl ⊢
  refine body p e s m _ below meth c (va_A W0 s.heap.size) _ ⟨hx, hb, hr, hml, hts, hown, hin, hP, hK, hD, hA, va_S.rf⟩ ?_ ls hl
  intro pc u H locs ls' hp hP1 hD1 hS hdg
  exact W.vret hx hb hr (fun t ht _ => ⟨⟨u, rfl, hp, by rw [ht]; exact hP1, hD1⟩, hS.F ht⟩) hS.2.2 hdg
section ZCALL
variable {p : Program} {l : Launch} {e : Env} {R : Room} {s : State} {m : MethodId} {args : Array Value} {below : List Frame} {meth : Method} {c : Code} {H : Heap} {locs : List Loc} {cells slots : Nat} {Q : State → Prop}
variable {cc bytes : ByteArray} {pc nL maxL index n ci q0 mc ms : Nat} {ls : Array Slot} {rest As st : List Value} {dC : Nat → ClassId} {dI : Nat → Nat → Nat} {kI kA kC : ClassId} {A : Nat → Prop} {ws wc wr : va_W} {H0 : Heap} {Ts wsy : List Cond} {own C : String} {y : MethodName} {ret : Option FieldType} {rm : Room} {b : Nat} {fs : List Value} {S : Type} {W1 Wn : S → va_W}
theorem z_blind (sz : Nat) (W0 : va_W) (As : List Value) : FrameBlind (va_Pc As (zPre dC dI kI kA kC sz W0)) := fun a U g mk q => by
  obtain ⟨q0, q1, qP, qK, qD⟩ := q
  exact ⟨q0, q1, qP, va_K.moved (u := U) (U := U.calling g mk a) (Vm.Alike.refl U.vm) qK, qD⟩
theorem z_after {H1 : Heap} {u : S} (hP : va_P (dC, dI) vwCl ws H) (hD : va_D A ws) (hFc : ∀ q, va_A wc H.size q → A q) (isC isR isN : List Nat) (hC : isC.map (fun i => ws[i]?) = wc.map some) (hR : isR.map (fun i => ws[i]?) = wr.map some) (hnR : va_nd isR = true) (hdis : ∀ i ∈ isR, i ∉ isC) (hN : isN.map (fun i => (wr ++ W1 u)[i]?) = (Wn u).map some) (hnN : va_nd isN = true)
    (hk1 : ∀ q : Nat, q < H.size → ¬ va_A wc H.size q → H1[q]? = H[q]?) (hP1 : va_P (dC, dI) vwCl (W1 u) H1) (hD1 : va_D (va_A wc H.size) (W1 u)) : va_P (dC, dI) vwCl (Wn u) H1 ∧ va_D A (Wn u) := by
  obtain ⟨hPj, hDj⟩ := va_join (wr := wr) (w1 := W1 u) hP hD isC isR hC hR hnR hdis hk1 hFc hP1 hD1
  refine ⟨?_, hDj.sub isN hnN hN⟩
  intro k q hk
  have h1 : (isN.map (fun i => (wr ++ W1 u)[i]?))[k]? = some (some q) := by rw [hN, List.getElem?_map, hk]; rfl
  rw [List.getElem?_map] at h1
  cases hi : isN[k]? with
  | none => rw [hi] at h1; cases h1
  | some i => rw [hi] at h1; exact hPj i q (Option.some.inj h1)
theorem z_cut (hP : va_P (dC, dI) vwCl ws H) (isC : List Nat) (hC : isC.map (fun i => ws[i]?) = wc.map some) : va_P (dC, dI) vwCl wc H := by
  intro k q hk
  have h1 : (isC.map (fun i => ws[i]?))[k]? = some (some q) := by rw [hC, List.getElem?_map, hk]; rfl
  rw [List.getElem?_map] at h1
  cases hi : isC[k]? with
  | none => rw [hi] at h1; cases h1
  | some i => rw [hi] at h1; exact hP i q (Option.some.inj h1)
/-- a call of a method of an object, that answers an int -/
theorem zcallI {post : Int32 → S → Prop} (X : CallFix p m c cc nL s args Ts own) (hM : zI l y wsy rm dC dI kI kA kC H.size 0 0 (.ref b :: As) wc post W1) (cw : CallW R s args own C index y bytes maxL ret wsy rm 0 0 n)
    (hK : va_K (dC, dI) vwCl (zty kI kA kC) s) (hP : va_P (dC, dI) vwCl ws H) (hD : va_D A ws) (hS : va_S A H0 H locs) (hA : ∀ q, H0.size ≤ q → A q)
    (isC isR isN : List Nat) (hC : isC.map (fun i => ws[i]?) = wc.map some) (hR : isR.map (fun i => ws[i]?) = wr.map some) (hnC : va_nd isC = true) (hnR : va_nd isR = true) (hdis : ∀ i ∈ isR, i ∉ isC) (hN : ∀ u, isN.map (fun i => (wr ++ W1 u)[i]?) = (Wn u).map some) (hnN : va_nd isN = true)
    {qc : vw_C} (hc : vwCl[ci]? = some qc) (hqc : qc.1 = C) (he : wc[q0]? = some (b, .inr (ci, fs))) (hn : As.length = n) (hsize : ls.size = nL) (hst : st = As.reverse ++ .ref b :: rest) (hW : (rest.map fun v => v.category).sum ≤ 8) (hdg : decode cc pc = .ok (.invokevirtual index, 3)) (hf : cells ≤ R.cells ∧ slots ≤ R.slots)
    (kk : ∀ (r : Int32) (u : S) (H1 : Heap) (locs1 : List Loc), post r u → va_P (dC, dI) vwCl (Wn u) H1 → va_D A (Wn u) → va_S A H0 H1 locs1 → W p l e R s m args below meth c H1 locs1 cells slots Q (F0 m (pc + 3) ls (.int r :: rest))) :
    W p l e R s m args below meth c H locs cells slots Q (F0 m pc ls st) := by
  subst hqc
  have hPc := z_cut hP isC hC
  have hDc := hD.sub isC hnC hC
  have hFc := va_free (wc := wc) hD hS hA isC hC
  refine va_calli (va_runV (As := As) (rest := rest) X hM cw ⟨z_blind _ _ _, va_recv hK hPc hc he, fun U hU hW => ⟨rfl, by rw [hU], by rw [hU]; exact hPc, va_K.moved hW.alike hK, hDc.weaken (fun _ _ _ _ => trivial)⟩⟩ rfl hn hsize hst (lv_room hW) hdg hf) hS (fun q _ h => hFc q h) hFc (fun r u t H1 locs1 ht hvm hw hB hz1 hk1 hS => ?_)
  obtain ⟨hP1, hD1⟩ := hB
  rw [ht] at hP1
  obtain ⟨hPn, hDn⟩ := z_after (Wn := Wn) hP hD hFc isC isR isN hC hR hnR hdis (hN u) hnN hk1 hP1 hD1
  exact kk r u H1 locs1 hw hPn hDn hS
/-- one that answers nothing -/
theorem zcallV {post : S → Prop} (X : CallFix p m c cc nL s args Ts own) (hM : zV l y wsy rm dC dI kI kA kC H.size 0 0 (.ref b :: As) wc post W1) (cw : CallW R s args own C index y bytes maxL ret wsy rm 0 0 n)
    (hK : va_K (dC, dI) vwCl (zty kI kA kC) s) (hP : va_P (dC, dI) vwCl ws H) (hD : va_D A ws) (hS : va_S A H0 H locs) (hA : ∀ q, H0.size ≤ q → A q)
    (isC isR isN : List Nat) (hC : isC.map (fun i => ws[i]?) = wc.map some) (hR : isR.map (fun i => ws[i]?) = wr.map some) (hnC : va_nd isC = true) (hnR : va_nd isR = true) (hdis : ∀ i ∈ isR, i ∉ isC) (hN : ∀ u, isN.map (fun i => (wr ++ W1 u)[i]?) = (Wn u).map some) (hnN : va_nd isN = true)
    {qc : vw_C} (hc : vwCl[ci]? = some qc) (hqc : qc.1 = C) (he : wc[q0]? = some (b, .inr (ci, fs))) (hn : As.length = n) (hsize : ls.size = nL) (hst : st = As.reverse ++ .ref b :: rest) (hW : (rest.map fun v => v.category).sum ≤ 8) (hdg : decode cc pc = .ok (.invokevirtual index, 3)) (hf : cells ≤ R.cells ∧ slots ≤ R.slots)
    (kk : ∀ (u : S) (H1 : Heap) (locs1 : List Loc), post u → va_P (dC, dI) vwCl (Wn u) H1 → va_D A (Wn u) → va_S A H0 H1 locs1 → W p l e R s m args below meth c H1 locs1 cells slots Q (F0 m (pc + 3) ls rest)) :
    W p l e R s m args below meth c H locs cells slots Q (F0 m pc ls st) := by
  subst hqc
  have hPc := z_cut hP isC hC
  have hDc := hD.sub isC hnC hC
  have hFc := va_free (wc := wc) hD hS hA isC hC
  refine va_callv (va_runV (As := As) (rest := rest) X hM cw ⟨z_blind _ _ _, va_recv hK hPc hc he, fun U hU hW => ⟨rfl, by rw [hU], by rw [hU]; exact hPc, va_K.moved hW.alike hK, hDc.weaken (fun _ _ _ _ => trivial)⟩⟩ rfl hn hsize hst (lv_room hW) hdg hf) hS (fun q _ h => hFc q h) hFc (fun u t H1 locs1 ht hvm hw hB hz1 hk1 hS => ?_)
  obtain ⟨hP1, hD1⟩ := hB
  rw [ht] at hP1
  obtain ⟨hPn, hDn⟩ := z_after (Wn := Wn) hP hD hFc isC isR isN hC hR hnR hdis (hN u) hnN hk1 hP1 hD1
  exact kk u H1 locs1 hw hPn hDn hS
/-- a static one that answers an int -/
theorem zcallS {post : Int32 → S → Prop} (X : CallFix p m c cc nL s args Ts own) (hM : zI l y wsy rm dC dI kI kA kC H.size 0 0 As wc post W1) (cw : CallB R s args own index y bytes maxL ret wsy rm 0 0 n ∧ (Cond.static y).before args s = true)
    (hK : va_K (dC, dI) vwCl (zty kI kA kC) s) (hP : va_P (dC, dI) vwCl ws H) (hD : va_D A ws) (hS : va_S A H0 H locs) (hA : ∀ q, H0.size ≤ q → A q)
    (isC isR isN : List Nat) (hC : isC.map (fun i => ws[i]?) = wc.map some) (hR : isR.map (fun i => ws[i]?) = wr.map some) (hnC : va_nd isC = true) (hnR : va_nd isR = true) (hdis : ∀ i ∈ isR, i ∉ isC) (hN : ∀ u, isN.map (fun i => (wr ++ W1 u)[i]?) = (Wn u).map some) (hnN : va_nd isN = true)
    (hn : As.length = n) (hsize : ls.size = nL) (hst : st = As.reverse ++ rest) (hW : (rest.map fun v => v.category).sum ≤ 8) (hdg : decode cc pc = .ok (.invokestatic index, 3)) (hf : cells ≤ R.cells ∧ slots ≤ R.slots)
    (kk : ∀ (r : Int32) (u : S) (H1 : Heap) (locs1 : List Loc), post r u → va_P (dC, dI) vwCl (Wn u) H1 → va_D A (Wn u) → va_S A H0 H1 locs1 → W p l e R s m args below meth c H1 locs1 cells slots Q (F0 m (pc + 3) ls (.int r :: rest))) :
    W p l e R s m args below meth c H locs cells slots Q (F0 m pc ls st) := by
  have hPc := z_cut hP isC hC
  have hDc := hD.sub isC hnC hC
  have hFc := va_free (wc := wc) hD hS hA isC hC
  refine va_calli (va_runS (As := As) (rest := rest) X hM cw ⟨z_blind _ _ _, fun U hU hW => ⟨rfl, by rw [hU], by rw [hU]; exact hPc, va_K.moved hW.alike hK, hDc.weaken (fun _ _ _ _ => trivial)⟩⟩ rfl hn hsize hst (lv_room hW) hdg hf) hS (fun q _ h => hFc q h) hFc (fun r u t H1 locs1 ht hvm hw hB hz1 hk1 hS => ?_)
  obtain ⟨hP1, hD1⟩ := hB
  rw [ht] at hP1
  obtain ⟨hPn, hDn⟩ := z_after (Wn := Wn) hP hD hFc isC isR isN hC hR hnR hdis (hN u) hnN hk1 hP1 hD1
  exact kk r u H1 locs1 hw hPn hDn hS
/-- a row out of a row of rows -/
theorem zald {D : va_G} {cl : List vw_C} {tys : List (ClassId × FieldType)} {a : Nat} (hexec : p.tables.exec = Jvm.exec) (hb : c.code = cc) (hK : va_K D cl tys s) (hP : va_P D cl ws H) (q0 t0 : Nat) {cA : ClassId} {n : Nat} {r : Nat → Nat} {ty : FieldType} (ha : ws[q0]? = some (a, zr cA n r)) (ht : tys[t0]? = some (cA, ty)) (hty : ty.isReference = true) {i : Int32} {j : Nat} (hin : vp_in i n) (hij : i.toNatClampNeg = j) (hdg : decode cc pc = .ok (.aaload, 1))
    (kk : W p l e R s m args below meth c H locs cells slots Q (F0 m (pc + 1) ls (.ref (r j) :: rest))) : W p l e R s m args below meth c H locs cells slots Q (F0 m pc ls (.int i :: .ref a :: rest)) := by
  subst hij
  have hlt : i.toNatClampNeg < n := Nat.not_le.mp fun q => hin (Or.inr q)
  refine W.aald (v := .ref (r i.toNatClampNeg)) (ty := ty) hexec hb (hP q0 _ ha) ((hK.2 t0 _ ht).1 n (fun j => va_rf (if j < n then some (r j) else none))) hty (fun q => by cases q) (by show ¬ (i < 0 ∨ (arrV _ _ _).slots.size ≤ _); rw [arrV_size]; exact hin) (by
    show (arrV _ _ _).slots[_]? = _
    rw [arrV_read _ _ hlt]; show some (va_rf (if i.toNatClampNeg < n then some (r i.toNatClampNeg) else none)) = _; rw [if_pos hlt]
    rfl) rfl rfl hdg kk
/-- a copy of a row of 24 -/
theorem zcopy {D : va_G} {cl : List vw_C} {tys : List (ClassId × FieldType)} (hexec : p.tables.exec = Jvm.exec) (hb : c.code = cc) (hml : c.maxLocals = ls.size) {own : String} {index : Nat} (hown : s.vm.findClass own = some m.cls) (hlink : (Cond.methodLink own index arraycopyName).before args s = true) (hnat : (Cond.native arraycopyName).before args s = true) (hstat : (Cond.static arraycopyName).before args s = true) (hini : (Cond.initialized "java/lang/System").before args s = true)
    (hK : va_K D cl ((kI, .int) :: tys) s) (hP : va_P D cl ws H) (hD : va_D A ws) (hS : va_S A H0 H locs) (q0 q1 : Nat) {a a0 : Nat} {f g : Nat → Int32} (ha0 : ws[q0]? = some (a0, zi kI 24 f)) (ha1 : ws[q1]? = some (a, zi kI 24 g)) (hframes : 1 ≤ R.frames) (hlocals : (rest.map fun v => v.category).sum + 18 ≤ R.locals) (hdg : decode cc pc = .ok (.invokestatic index, 3))
    (kk : ∀ (H1 : Heap) (locs1 : List Loc), va_P D cl (ws.set q1 (a, zi kI 24 (va_cpy f g 0 0 24))) H1 → va_D A (ws.set q1 (a, zi kI 24 (va_cpy f g 0 0 24))) → va_S A H0 H1 locs1 → W p l e R s m args below meth c H1 locs1 cells slots Q (F0 m (pc + 3) ls rest)) : W p l e R s m args below meth c H locs cells slots Q (F0 m pc ls (.int 24 :: .int 0 :: .ref a :: .int 0 :: .ref a0 :: rest)) := by
  have e24 : (24 : Int32).toNatClampNeg = 24 := by decide
  have e0 : (0 : Int32).toNatClampNeg = 0 := by decide
  refine va_copyi hexec hb hml hown hlink hnat hstat hini hK hP hD hS q0 q1 0 0 ha0 ha1 rfl rfl rfl (by decide) (by decide) (by decide) (by decide) (by decide) (fun i _ => rfl) hframes (by
    have : nativeFrameWords "java/lang/System" "arraycopy" 5 = 7 := by decide
    rw [this]; exact hlocals) hdg (fun H1 locs1 h1 h2 h3 => ?_)
  rw [e24, e0] at h1 h2
  exact kk H1 locs1 h1 h2 h3
end ZCALL
theorem z_sw (n : Nat) (x : Int32) : (x.toInt < 0 ∨ (n : Int) < x.toInt) ∨ ∃ k : Nat, k ≤ n ∧ x = nI k := by
  by_cases h : x.toInt < 0 ∨ (n : Int) < x.toInt
  · exact Or.inl h
  · right
    have h0 : ¬ x < 0 := by
      intro q
      have q2 : x.toInt < (0 : Int32).toInt := Int32.lt_iff_toInt_lt.mp q
      have e : (0 : Int32).toInt = 0 := by decide
      rw [e] at q2
      omega
    obtain ⟨j, hj, rfl⟩ := nI_of h0
    rw [nI_toInt hj] at h
    exact ⟨j, by omega, rfl⟩
abbrev kCake (kI kA : ClassId) (o a v : Nat) (r : Nat → Nat) (g : Int32) (w : Nat → Int32) (V : Nat → Nat → Int32) : va_W := [(o, .inr (0, [.int g, .ref a, .ref v])), (a, zi kI 24 w), (v, zr kA 4 r), (r 0, zi kI 24 (V 0)), (r 1, zi kI 24 (V 1)), (r 2, zi kI 24 (V 2)), (r 3, zi kI 24 (V 3))]
abbrev kArr (kI : ClassId) (o : Nat) (w : Nat → Int32) : va_W := [(o, zi kI 24 w)]
abbrev kRow (kI : ClassId) (o a : Nat) (T : Nat → Int32) (s g : Int32) : va_W := [(o, .inr (4, [.ref a, .int s, .int g])), (a, zi kI 4 T)]
abbrev kText (kI : ClassId) (o s v : Nat) (l : Int32) (S V : Nat → Int32) (t p : Int32) : va_W := [(o, .inr (5, [.int l, .ref s, .ref v, .int t, .int p])), (s, zi kI 60 S), (v, zi kI 24 V)]
abbrev kMark (kI : ClassId) (o a : Nat) (w : Nat → Int32) : va_W := [(o, .inr (2, [.ref a])), (a, zi kI 24 w)]
abbrev kRings (kI : ClassId) (o ro e : Nat) (E : Nat → Int32) : va_W := [(o, .inr (3, [.ref ro, .ref e])), (e, zi kI 4 E)]
abbrev kDiv (kI kA : ClassId) (o fs ro st to ah : Nat) (ar : Nat → Nat) (pa : Nat) (pr : Nat → Nat) (gr : Nat) (Fp Ft Fg : Int32) (FS : Nat → Int32) (Qc Qg Qk Sp : Int32) (ST TO : Nat → Int32) (AH PA : Nat → Nat → Int32) (GR : Nat → Int32) : va_W := [(o, .inr (1, [.int Fp, .int Ft, .int Fg, .ref fs, .int Qc, .int Qg, .int Qk, .int Sp, .ref ro, .ref st, .ref to, .ref ah, .ref pa, .ref gr])), (fs, zi kI 4 FS), (st, zi kI 5 ST), (to, zi kI 4 TO), (ah, zr kA 4 ar), (ar 0, zi kI 25 (AH 0)), (ar 1, zi kI 25 (AH 1)), (ar 2, zi kI 25 (AH 2)), (ar 3, zi kI 25 (AH 3)), (pa, zr kA 4 pr), (pr 0, zi kI 4 (PA 0)), (pr 1, zi kI 4 (PA 1)), (pr 2, zi kI 4 (PA 2)), (pr 3, zi kI 4 (PA 3)), (gr, zi kI 4 GR)]
abbrev kRoot (o co sh xo mo no dj : Nat) (s q : Int32) : va_W := [(o, .inr (6, [.ref co, .ref sh, .int s, .ref xo, .ref mo, .ref no, .ref dj, .int q]))]
abbrev kHist (kI kA kC : ClassId) (sh : Nat) (o a v : Nat → Nat) (r : Nat → Nat → Nat) (g : Nat → Int32) (w : Nat → Nat → Int32) (V : Nat → Nat → Nat → Int32) : va_W := (sh, zr kC 5 o) :: (kCake kI kA (o 0) (a 0) (v 0) (r 0) (g 0) (w 0) (V 0) ++ (kCake kI kA (o 1) (a 1) (v 1) (r 1) (g 1) (w 1) (V 1) ++ (kCake kI kA (o 2) (a 2) (v 2) (r 2) (g 2) (w 2) (V 2) ++ (kCake kI kA (o 3) (a 3) (v 3) (r 3) (g 3) (w 3) (V 3) ++ kCake kI kA (o 4) (a 4) (v 4) (r 4) (g 4) (w 4) (V 4)))))
abbrev kModel (kI : ClassId) (o r x t n f w b : Nat) (R : Nat → Int32) (k : Int32) (X : Nat → Int32) (l : Int32) (T : Nat → Int32) (i : Int32) (N F W B : Nat → Int32) (bw bu bd cm cw cf : Int32) : va_W := [(o, .inr (7, [.ref r, .int k, .ref x, .int l, .ref t, .int i, .ref n, .ref f, .ref w, .ref b, .int bw, .int bu, .int bd, .int cm, .int cw, .int cf])), (r, zi kI 847 R), (x, zi kI 60 X), (t, zi kI 24 T), (n, zi kI 4 N), (f, zi kI 5 F), (w, zi kI 4 W), (b, zi kI 5 B)]
end
section
/-! making: an int row, a row of rows, a row of cakes; the calls of constructors -/
theorem vr_outer (c : ClassId) (N h0 : Nat) : ∀ i : Nat, Jvm.Free.Multi.outerC c N h0 i = arrV c N (fun j => va_rf (if j < i then some (h0 + 1 + j) else none))
  | 0 => by
    show ({ cls := c, slots := Array.replicate N .null, vm := .none } : Cell) = _
    rw [arrV_new]
    refine congrArg (arrV c N) (funext fun j => ?_)
    simp [va_rf]
  | i + 1 => by
    show (Jvm.Free.Multi.outerC c N h0 i).setSlot i (.ref (h0 + 1 + i)) = _
    rw [vr_outer c N h0 i, arrV_store]
    refine congrArg (arrV c N) (funext fun j => ?_)
    by_cases e : j = i
    · subst e
      simp [updV, va_rf]
    · by_cases h : j < i
      · simp [updV, e, h, Nat.lt_succ_of_lt h]
      · simp [updV, e, h, show ¬ j < i + 1 by omega]
section ZMAKE
variable {p : Program} {l : Launch} {e : Env} {R : Room} {s : State} {m : MethodId} {args : Array Value} {below : List Frame} {meth : Method} {c : Code} {H : Heap} {locs : List Loc} {cells slots : Nat} {Q : State → Prop}
variable {cc : ByteArray} {pc : Nat} {ls : Array Slot} {rest : List Value} {D : va_G} {cl : List vw_C} {A : Nat → Prop} {a : Nat} {kI kA kC : ClassId} {H0 : Heap}
theorem znewi {ws : va_W} (hexec : p.tables.exec = Jvm.exec) (hb : c.code = cc) (harr : (Cond.arrayClass .int).before args s = true) (hK : va_K D cl (zty kI kA kC) s) (hP : va_P D cl ws H) (hD : va_D A ws) (hS : va_S A H0 H locs) (hA : ∀ q, H0.size ≤ q → A q)
    {n : Int32} (N' : Nat) (hn : ¬ n < 0) (hN : n.toNatClampNeg = N') (hbytes : N' * 4 ≤ 536870912) (hcells : cells + 1 ≤ R.cells) (hslots : slots + N' ≤ R.slots) (hdg : decode cc pc = .ok (.newarray .int, 2))
    (kk : ∀ (q : Nat) (H1 : Heap) (locs1 : List Loc), va_P D cl (ws ++ [(q, zi kI N' (fun _ => 0))]) H1 → va_D A (ws ++ [(q, zi kI N' (fun _ => 0))]) → va_S A H0 H1 locs1 →
      W p l e R s m args below meth c H1 locs1 (cells + 1) (slots + N') Q (F0 m (pc + 2) ls (.ref q :: rest))) : W p l e R s m args below meth c H locs cells slots Q (F0 m pc ls (.int n :: rest)) := by
  refine va_newa (atype := .int) (ty := .int) (a0 := (N', .inl (fun _ => 0))) hexec hb harr rfl hK hP hD hS hA (fun cA => rfl) hn hN hbytes hcells hslots hdg (fun q cA H1 hK1 hP1 hD1 hS1 => ?_)
  have e1 := (hK1.2 3 (cA, .int) rfl).2
  have e0 := (hK.2 0 (kI, .int) rfl).2
  have ec : cA = kI := Option.some.inj (e1.symm.trans e0)
  subst ec
  exact kk q H1 _ hP1 hD1 hS1
theorem znewm {X : va_W} {cc : ByteArray} (hexec : p.tables.exec = Jvm.exec) (hb : c.code = cc) {own : String} {index : Nat} (hown : s.vm.findClass own = some m.cls) (hclink : (Cond.classLink own index "[[I").before args s = true) (hover : (Cond.arrayOver (.array .int)).before args s = true) (harr : (Cond.arrayClass .int).before args s = true)
    (hK0 : va_K D cl (zty kI kA kC) s) (hP : va_P D cl X H) (hD : va_D A X) (hS : va_S A H0 H locs) (hA : ∀ q, H0.size ≤ q → A q) {n k : Int32} (N' K' : Nat) (hn : ¬ n < 0) (hk : ¬ k < 0) (hN : n.toNatClampNeg = N') (hM : k.toNatClampNeg = K')
    (hb1 : N' * 4 ≤ 536870912) (hb2 : K' * 4 ≤ 536870912) (hb3 : K' ≤ 536870912) (hcells : cells + (1 + N') ≤ R.cells) (hslots : slots + (N' + N' * K') ≤ R.slots) (hdg : decode cc pc = .ok (.multianewarray index 2, 4))
    (kk : ∀ (q : Nat) (r : Nat → Nat) (H1 : Heap),
      va_P D cl ((X ++ [(q, zr kA N' r)]) ++ ((List.range N').map r).map (fun a => (a, zi kI K' (fun _ => 0)))) H1 → va_D A ((X ++ [(q, zr kA N' r)]) ++ ((List.range N').map r).map (fun a => (a, zi kI K' (fun _ => 0)))) → va_S A H0 H1 locs →
      W p l e R s m args below meth c H1 locs (cells + 1 + N') (slots + N' + N' * K') Q (F0 m (pc + 4) ls (.ref q :: rest))) : W p l e R s m args below meth c H locs cells slots Q (F0 m pc ls (.int k :: .int n :: rest)) := by
  obtain ⟨cy, hcy⟩ : ∃ cy, cy = kI := ⟨_, rfl⟩
  have hcy : s.vm.findClass (FieldType.array .int).toString = some kI := (hK0.2 0 (kI, .int) rfl).2
  obtain ⟨ty, ety⟩ : ∃ ty : FieldType, ty = .int := ⟨_, rfl⟩
  obtain ⟨z, ez⟩ : ∃ z : vp_A, z = (K', .inl (fun _ => 0)) := ⟨_, rfl⟩
  have hz : ∀ c : ClassId, Jvm.Free.Multi.innerC c K' (defaultValue ty) = vp_cell c z := fun c => by
    subst ety; subst ez
    rw [vp_cell_i]
    exact arrV_new c K' (.int 0)
  have hclink : (Cond.classLink own index ("[" ++ (FieldType.array ty).toString)).before args s = true := by subst ety; exact hclink
  have hover : (Cond.arrayOver (.array ty)).before args s = true := by subst ety; exact hover
  have harr : (Cond.arrayClass ty).before args s = true := by subst ety; exact harr
  have hcy : s.vm.findClass (FieldType.array ty).toString = some kI := by subst ety; exact hcy
  have hdf : fits ty (defaultValue ty) = true := by subst ety; rfl
  have hdd : (defaultValue ty).isDefault = true := by subst ety; rfl
  have hb2 : K' * componentBytes ty ≤ 536870912 := by subst ety; exact hb2
  have kk : ∀ (q : Nat) (r : Nat → Nat) (H1 : Heap),
      va_P D cl ((X ++ [(q, zr kA N' r)]) ++ ((List.range N').map r).map (fun a => (a, .inl (kI, z)))) H1 → va_D A ((X ++ [(q, zr kA N' r)]) ++ ((List.range N').map r).map (fun a => (a, .inl (kI, z)))) → va_S A H0 H1 locs →
      W p l e R s m args below meth c H1 locs (cells + 1 + N') (slots + N' + N' * K') Q (F0 m (pc + 4) ls (.ref q :: rest)) := by subst ez; exact kk
  have eArr : (FieldType.array ty) = .array .int := by rw [ety]
  clear ez
  subst hN
  subst hM
  intro T hT Xs
  obtain ⟨vm₁, cA, comp, -, fA, fC, hO, -, X', step⟩ := Xs.multianewarray2F hexec hown hclink hover harr (g := F0 m pc ls (.int k :: .int n :: rest)) rfl (by rw [hb]; exact hdg) rfl hn hk hb1 hb2 hb3 hdf hdd hcells hslots
  have ec : some kI = some comp := hcy.symm.trans fC
  cases ec
  generalize hF : Jvm.Free.Multi.fill (T.setVm vm₁) cA kI n.toNatClampNeg k.toNatClampNeg (defaultValue ty) n.toNatClampNeg = F at X' step
  have hTh : (T.setVm vm₁).heap = H := hT
  obtain ⟨f1, f2, -, -⟩ := Jvm.Free.Multi.fill_facts (T.setVm vm₁) cA kI n.toNatClampNeg k.toNatClampNeg (defaultValue ty) n.toNatClampNeg
  rw [hF, hTh] at f1 f2
  have hold : ∀ x : Nat, x < H.size → F.heap[x]? = H[x]? := fun x hx => by
    have := Jvm.Free.Multi.fill_old (T.setVm vm₁) cA kI n.toNatClampNeg k.toNatClampNeg (defaultValue ty) (a := x) (by rw [hTh]; exact hx) n.toNatClampNeg
    rw [hF, hTh] at this
    exact this
  have hrow : ∀ j : Nat, j < n.toNatClampNeg → F.heap[H.size + 1 + j]? = some (vp_cell kI z) := fun j hj => by
    have := Jvm.Free.Multi.fill_inner (T.setVm vm₁) cA kI n.toNatClampNeg k.toNatClampNeg (defaultValue ty) n.toNatClampNeg j hj
    rw [hF, hTh, hz] at this
    exact this
  have hout : Jvm.Free.Multi.outerC cA n.toNatClampNeg H.size n.toNatClampNeg = vp_cell cA (n.toNatClampNeg, .inr (.inr (.inr (.inr (fun i => if i < n.toNatClampNeg then some (H.size + 1 + i) else none))))) := by
    rw [vp_cell_q]
    exact vr_outer cA n.toNatClampNeg H.size n.toNatClampNeg
  rw [hout] at f2
  have hP0 : va_P D cl X F.heap := hP.kept (fun k9 x hx => hold x.1 ((hP k9 x hx).lt))
  have hP1 : va_P D cl (X ++ [(H.size, .inl (cA, n.toNatClampNeg, .inr (.inr (.inr (.inr (fun i => if i < n.toNatClampNeg then some (H.size + 1 + i) else none))))))]) F.heap := hP0.app (fun k9 x hx => by
    have h0 : k9 < 1 := (List.getElem?_eq_some_iff.mp hx).1
    rw [show k9 = 0 by omega] at hx
    cases hx
    exact f2)
  have hP2 : va_P D cl ((X ++ [(H.size, .inl (cA, n.toNatClampNeg, .inr (.inr (.inr (.inr (fun i => if i < n.toNatClampNeg then some (H.size + 1 + i) else none))))))]) ++ ((List.range n.toNatClampNeg).map (fun i => H.size + 1 + i)).map (fun a => (a, .inl (kI, z)))) F.heap := hP1.app (fun k9 x hx => by
    obtain ⟨a, ha, rfl⟩ := List.mem_map.mp (List.mem_of_getElem? hx)
    obtain ⟨i, hi, rfl⟩ := List.mem_map.mp ha
    exact hrow i (List.mem_range.mp hi))
  have hD2 : va_D A ((X ++ [(H.size, .inl (cA, n.toNatClampNeg, .inr (.inr (.inr (.inr (fun i => if i < n.toNatClampNeg then some (H.size + 1 + i) else none))))))]) ++ ((List.range n.toNatClampNeg).map (fun i => H.size + 1 + i)).map (fun a => (a, .inl (kI, z)))) := by
    have hD1 := hD.push (e := .inl (cA, n.toNatClampNeg, .inr (.inr (.inr (.inr (fun i => if i < n.toNatClampNeg then some (H.size + 1 + i) else none)))))) hP rfl (hA _ hS.1)
    generalize hW1 : X ++ [(H.size, .inl (cA, n.toNatClampNeg, .inr (.inr (.inr (.inr (fun i => if i < n.toNatClampNeg then some (H.size + 1 + i) else none))))))] = W1 at hD1 hP1 ⊢
    have hle : ∀ (k9 : Nat) (x : Nat × va_E), W1[k9]? = some x → x.1 ≤ H.size := fun k9 x hx => by
      rw [← hW1] at hx
      by_cases hl : k9 < X.length
      · rw [List.getElem?_append_left hl] at hx
        exact Nat.le_of_lt ((hP k9 x hx).lt)
      · rw [List.getElem?_append_right (by omega)] at hx
        have h0 : k9 - X.length < 1 := (List.getElem?_eq_some_iff.mp hx).1
        rw [show k9 - X.length = 0 by omega] at hx
        cases hx
        exact Nat.le_refl _
    have hr : ∀ (k9 : Nat) (x : Nat × va_E), (((List.range n.toNatClampNeg).map (fun i => H.size + 1 + i)).map (fun a => ((a, .inl (kI, z)) : Nat × va_E)))[k9]? = some x → x.1 = H.size + 1 + k9 := fun k9 x hx => by
      rw [List.getElem?_map, List.getElem?_map] at hx
      by_cases h9 : k9 < n.toNatClampNeg
      · rw [List.getElem?_range h9] at hx
        cases hx
        rfl
      · have hn0 : (List.range n.toNatClampNeg)[k9]? = none := List.getElem?_eq_none (by rw [List.length_range]; omega)
        rw [hn0] at hx
        cases hx
    refine ⟨fun i j x y hi hj hxy => ?_, fun k9 x hx => ?_⟩
    · by_cases h1 : i < W1.length <;> by_cases h2 : j < W1.length
      · rw [List.getElem?_append_left h1] at hi
        rw [List.getElem?_append_left h2] at hj
        exact hD1.1 i j x y hi hj hxy
      · rw [List.getElem?_append_left h1] at hi
        rw [List.getElem?_append_right (by omega)] at hj
        have := hle _ _ hi
        have := hr _ _ hj
        omega
      · rw [List.getElem?_append_right (by omega)] at hi
        rw [List.getElem?_append_left h2] at hj
        have := hle _ _ hj
        have := hr _ _ hi
        omega
      · rw [List.getElem?_append_right (by omega)] at hi hj
        have := hr _ _ hi
        have := hr _ _ hj
        omega
    · by_cases h1 : k9 < W1.length
      · rw [List.getElem?_append_left h1] at hx
        exact hD1.2 k9 x hx
      · rw [List.getElem?_append_right (by omega)] at hx
        have := hr _ _ hx
        exact hA _ (by have := hS.1; omega)
  have eA : cA = kA := Option.some.inj (fA.symm.trans (by rw [eArr]; exact (hK0.2 1 (kA, .array .int) rfl).2))
  obtain ⟨t, a1, b1⟩ := kk H.size (fun i => H.size + 1 + i) F.heap (by rw [← eA]; exact hP2) (by rw [← eA]; exact hD2) ⟨by rw [f1]; have := hS.1; omega, fun x h1 h2 => (hold x (Nat.lt_of_lt_of_le h1 hS.1)).trans (hS.2.1 x h1 h2), hS.2.2⟩ F rfl X'
  refine ⟨t, step t ?_, b1⟩
  have e : T.heap.size = H.size := by rw [hT]
  rw [e]
  exact a1
end ZMAKE
end
