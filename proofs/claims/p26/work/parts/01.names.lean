-- ===== PART A: goes FIRST, ahead of the names: the tables' words, and 'selects' of the private methods out of them =====
/-- a private method of a class that the tables say can be made, by its rows of tables_1 -/
def lw_okq (q : MethodName × Nat) : Prop := (q.1.cls ≠ "java/lang/invoke/MethodHandle" ∧ q.1.cls ≠ "java/lang/invoke/VarHandle") ∧ Cond.instantiable q.1.cls q.2 ∈ tables_1 ∧ Cond.privateMethod q.1 ∈ tables_1 ∧ Cond.instanceMethod q.1 ∈ tables_1
theorem lw_p0 : lw_okq (⟨"SermonScale$Parish", "beginAsAtFirst", "()V"⟩, 9) := ⟨⟨by decide +kernel, by decide +kernel⟩, List.mem_of_getElem? (i := 66) (by decide +kernel), List.mem_of_getElem? (i := 72) (by decide +kernel), List.mem_of_getElem? (i := 73) (by decide +kernel)⟩
theorem lw_p1 : lw_okq (⟨"SermonScale$Text", "readClause", "(I)Z"⟩, 10) := ⟨⟨by decide +kernel, by decide +kernel⟩, List.mem_of_getElem? (i := 23) (by decide +kernel), List.mem_of_getElem? (i := 247) (by decide +kernel), List.mem_of_getElem? (i := 248) (by decide +kernel)⟩
theorem lw_p2 : lw_okq (⟨"SermonScale$Text", "nextToken", "()V"⟩, 10) := ⟨⟨by decide +kernel, by decide +kernel⟩, List.mem_of_getElem? (i := 23) (by decide +kernel), List.mem_of_getElem? (i := 251) (by decide +kernel), List.mem_of_getElem? (i := 252) (by decide +kernel)⟩
theorem lw_p3 : lw_okq (⟨"SermonScale$Text", "endOfRow", "(III)I"⟩, 10) := ⟨⟨by decide +kernel, by decide +kernel⟩, List.mem_of_getElem? (i := 23) (by decide +kernel), List.mem_of_getElem? (i := 255) (by decide +kernel), List.mem_of_getElem? (i := 256) (by decide +kernel)⟩
theorem lw_p4 : lw_okq (⟨"SermonScale$Text", "tokenWord", "()I"⟩, 10) := ⟨⟨by decide +kernel, by decide +kernel⟩, List.mem_of_getElem? (i := 23) (by decide +kernel), List.mem_of_getElem? (i := 260) (by decide +kernel), List.mem_of_getElem? (i := 261) (by decide +kernel)⟩
theorem lw_p5 : lw_okq (⟨"SermonScale$Text", "tokenIs", "(Ljava/lang/String;)Z"⟩, 10) := ⟨⟨by decide +kernel, by decide +kernel⟩, List.mem_of_getElem? (i := 23) (by decide +kernel), List.mem_of_getElem? (i := 276) (by decide +kernel), List.mem_of_getElem? (i := 277) (by decide +kernel)⟩
theorem lw_p6 : lw_okq (⟨"SermonScale$Text", "countPartsAndSouls", "(I)V"⟩, 10) := ⟨⟨by decide +kernel, by decide +kernel⟩, List.mem_of_getElem? (i := 23) (by decide +kernel), List.mem_of_getElem? (i := 328) (by decide +kernel), List.mem_of_getElem? (i := 329) (by decide +kernel)⟩
theorem lw_p7 : lw_okq (⟨"SermonScale$Text", "tokenNumber", "()I"⟩, 10) := ⟨⟨by decide +kernel, by decide +kernel⟩, List.mem_of_getElem? (i := 23) (by decide +kernel), List.mem_of_getElem? (i := 335) (by decide +kernel), List.mem_of_getElem? (i := 336) (by decide +kernel)⟩
theorem lw_p8 : lw_okq (⟨"SermonScale$Parish", "addPart", "(III)V"⟩, 9) := ⟨⟨by decide +kernel, by decide +kernel⟩, List.mem_of_getElem? (i := 66) (by decide +kernel), List.mem_of_getElem? (i := 351) (by decide +kernel), List.mem_of_getElem? (i := 352) (by decide +kernel)⟩
theorem lw_p9 : lw_okq (⟨"SermonScale$Parish", "addSoul", "(I)V"⟩, 9) := ⟨⟨by decide +kernel, by decide +kernel⟩, List.mem_of_getElem? (i := 66) (by decide +kernel), List.mem_of_getElem? (i := 355) (by decide +kernel), List.mem_of_getElem? (i := 356) (by decide +kernel)⟩
theorem lw_p10 : lw_okq (⟨"SermonScale", "beginAnew", "()V"⟩, 9) := ⟨⟨by decide +kernel, by decide +kernel⟩, List.mem_of_getElem? (i := 15) (by decide +kernel), List.mem_of_getElem? (i := 359) (by decide +kernel), List.mem_of_getElem? (i := 360) (by decide +kernel)⟩
theorem lw_p11 : lw_okq (⟨"SermonScale", "isPart", "(I)Z"⟩, 9) := ⟨⟨by decide +kernel, by decide +kernel⟩, List.mem_of_getElem? (i := 15) (by decide +kernel), List.mem_of_getElem? (i := 378) (by decide +kernel), List.mem_of_getElem? (i := 379) (by decide +kernel)⟩
theorem lw_p12 : lw_okq (⟨"SermonScale", "isSoul", "(I)Z"⟩, 9) := ⟨⟨by decide +kernel, by decide +kernel⟩, List.mem_of_getElem? (i := 15) (by decide +kernel), List.mem_of_getElem? (i := 392) (by decide +kernel), List.mem_of_getElem? (i := 393) (by decide +kernel)⟩
theorem lw_p13 : lw_okq (⟨"SermonScale", "hangsLevelNow", "()Z"⟩, 9) := ⟨⟨by decide +kernel, by decide +kernel⟩, List.mem_of_getElem? (i := 15) (by decide +kernel), List.mem_of_getElem? (i := 407) (by decide +kernel), List.mem_of_getElem? (i := 408) (by decide +kernel)⟩
theorem lw_p14 : lw_okq (⟨"SermonScale", "sermonOf", "(I)I"⟩, 9) := ⟨⟨by decide +kernel, by decide +kernel⟩, List.mem_of_getElem? (i := 15) (by decide +kernel), List.mem_of_getElem? (i := 411) (by decide +kernel), List.mem_of_getElem? (i := 412) (by decide +kernel)⟩
theorem lw_p15 : lw_okq (⟨"SermonScale", "leadNow", "()I"⟩, 9) := ⟨⟨by decide +kernel, by decide +kernel⟩, List.mem_of_getElem? (i := 15) (by decide +kernel), List.mem_of_getElem? (i := 421) (by decide +kernel), List.mem_of_getElem? (i := 422) (by decide +kernel)⟩
def lw_privs_1 : List (MethodName × Nat) := [(⟨"SermonScale$Parish", "beginAsAtFirst", "()V"⟩, 9), (⟨"SermonScale$Text", "readClause", "(I)Z"⟩, 10), (⟨"SermonScale$Text", "nextToken", "()V"⟩, 10), (⟨"SermonScale$Text", "endOfRow", "(III)I"⟩, 10), (⟨"SermonScale$Text", "tokenWord", "()I"⟩, 10), (⟨"SermonScale$Text", "tokenIs", "(Ljava/lang/String;)Z"⟩, 10), (⟨"SermonScale$Text", "countPartsAndSouls", "(I)V"⟩, 10), (⟨"SermonScale$Text", "tokenNumber", "()I"⟩, 10), (⟨"SermonScale$Parish", "addPart", "(III)V"⟩, 9), (⟨"SermonScale$Parish", "addSoul", "(I)V"⟩, 9), (⟨"SermonScale", "beginAnew", "()V"⟩, 9), (⟨"SermonScale", "isPart", "(I)Z"⟩, 9), (⟨"SermonScale", "isSoul", "(I)Z"⟩, 9), (⟨"SermonScale", "hangsLevelNow", "()Z"⟩, 9), (⟨"SermonScale", "sermonOf", "(I)I"⟩, 9), (⟨"SermonScale", "leadNow", "()I"⟩, 9)]
theorem lw_r1 : ∀ q ∈ lw_privs_1, lw_okq q := List.forall_mem_cons.mpr ⟨lw_p0, List.forall_mem_cons.mpr ⟨lw_p1, List.forall_mem_cons.mpr ⟨lw_p2, List.forall_mem_cons.mpr ⟨lw_p3, List.forall_mem_cons.mpr ⟨lw_p4, List.forall_mem_cons.mpr ⟨lw_p5, List.forall_mem_cons.mpr ⟨lw_p6, List.forall_mem_cons.mpr ⟨lw_p7, List.forall_mem_cons.mpr ⟨lw_p8, List.forall_mem_cons.mpr ⟨lw_p9, List.forall_mem_cons.mpr ⟨lw_p10, List.forall_mem_cons.mpr ⟨lw_p11, List.forall_mem_cons.mpr ⟨lw_p12, List.forall_mem_cons.mpr ⟨lw_p13, List.forall_mem_cons.mpr ⟨lw_p14, List.forall_mem_cons.mpr ⟨lw_p15, fun _ h => absurd h List.not_mem_nil⟩⟩⟩⟩⟩⟩⟩⟩⟩⟩⟩⟩⟩⟩⟩⟩
theorem lw_p16 : lw_okq (⟨"SermonScale", "leadWithout", "(I)I"⟩, 9) := ⟨⟨by decide +kernel, by decide +kernel⟩, List.mem_of_getElem? (i := 15) (by decide +kernel), List.mem_of_getElem? (i := 425) (by decide +kernel), List.mem_of_getElem? (i := 426) (by decide +kernel)⟩
theorem lw_p17 : lw_okq (⟨"SermonScale", "hangsLevel", "(II)Z"⟩, 9) := ⟨⟨by decide +kernel, by decide +kernel⟩, List.mem_of_getElem? (i := 15) (by decide +kernel), List.mem_of_getElem? (i := 432) (by decide +kernel), List.mem_of_getElem? (i := 433) (by decide +kernel)⟩
theorem lw_p18 : lw_okq (⟨"SermonScale", "rememberWeek", "()V"⟩, 9) := ⟨⟨by decide +kernel, by decide +kernel⟩, List.mem_of_getElem? (i := 15) (by decide +kernel), List.mem_of_getElem? (i := 439) (by decide +kernel), List.mem_of_getElem? (i := 440) (by decide +kernel)⟩
theorem lw_p19 : lw_okq (⟨"SermonScale", "soonestSet", "()I"⟩, 9) := ⟨⟨by decide +kernel, by decide +kernel⟩, List.mem_of_getElem? (i := 15) (by decide +kernel), List.mem_of_getElem? (i := 490) (by decide +kernel), List.mem_of_getElem? (i := 491) (by decide +kernel)⟩
theorem lw_p20 : lw_okq (⟨"SermonScale", "levels", "(II)Z"⟩, 9) := ⟨⟨by decide +kernel, by decide +kernel⟩, List.mem_of_getElem? (i := 15) (by decide +kernel), List.mem_of_getElem? (i := 494) (by decide +kernel), List.mem_of_getElem? (i := 495) (by decide +kernel)⟩
theorem lw_p21 : lw_okq (⟨"SermonScale", "isSooner", "(II)Z"⟩, 9) := ⟨⟨by decide +kernel, by decide +kernel⟩, List.mem_of_getElem? (i := 15) (by decide +kernel), List.mem_of_getElem? (i := 498) (by decide +kernel), List.mem_of_getElem? (i := 499) (by decide +kernel)⟩
theorem lw_p22 : lw_okq (⟨"SermonScale", "isSet", "(I)Z"⟩, 9) := ⟨⟨by decide +kernel, by decide +kernel⟩, List.mem_of_getElem? (i := 15) (by decide +kernel), List.mem_of_getElem? (i := 520) (by decide +kernel), List.mem_of_getElem? (i := 521) (by decide +kernel)⟩
theorem lw_p23 : lw_okq (⟨"SermonScale", "fitsAllSeen", "(II)Z"⟩, 9) := ⟨⟨by decide +kernel, by decide +kernel⟩, List.mem_of_getElem? (i := 15) (by decide +kernel), List.mem_of_getElem? (i := 544) (by decide +kernel), List.mem_of_getElem? (i := 545) (by decide +kernel)⟩
theorem lw_p24 : lw_okq (⟨"SermonScale", "fitsAllHeard", "(I)Z"⟩, 9) := ⟨⟨by decide +kernel, by decide +kernel⟩, List.mem_of_getElem? (i := 15) (by decide +kernel), List.mem_of_getElem? (i := 552) (by decide +kernel), List.mem_of_getElem? (i := 553) (by decide +kernel)⟩
theorem lw_p25 : lw_okq (⟨"SermonScale", "waysOfConfessing", "(II)I"⟩, 9) := ⟨⟨by decide +kernel, by decide +kernel⟩, List.mem_of_getElem? (i := 15) (by decide +kernel), List.mem_of_getElem? (i := 560) (by decide +kernel), List.mem_of_getElem? (i := 561) (by decide +kernel)⟩
theorem lw_p26 : lw_okq (⟨"SermonScaleModel", "forgets", "()V"⟩, 17) := ⟨⟨by decide +kernel, by decide +kernel⟩, List.mem_of_getElem? (i := 571) (by decide +kernel), List.mem_of_getElem? (i := 577) (by decide +kernel), List.mem_of_getElem? (i := 578) (by decide +kernel)⟩
theorem lw_p27 : lw_okq (⟨"SermonScaleModel", "lays", "()V"⟩, 17) := ⟨⟨by decide +kernel, by decide +kernel⟩, List.mem_of_getElem? (i := 571) (by decide +kernel), List.mem_of_getElem? (i := 581) (by decide +kernel), List.mem_of_getElem? (i := 582) (by decide +kernel)⟩
theorem lw_p28 : lw_okq (⟨"SermonScaleModel", "reads", "()I"⟩, 17) := ⟨⟨by decide +kernel, by decide +kernel⟩, List.mem_of_getElem? (i := 571) (by decide +kernel), List.mem_of_getElem? (i := 652) (by decide +kernel), List.mem_of_getElem? (i := 653) (by decide +kernel)⟩
theorem lw_p29 : lw_okq (⟨"SermonScaleModel", "token", "()V"⟩, 17) := ⟨⟨by decide +kernel, by decide +kernel⟩, List.mem_of_getElem? (i := 571) (by decide +kernel), List.mem_of_getElem? (i := 656) (by decide +kernel), List.mem_of_getElem? (i := 657) (by decide +kernel)⟩
theorem lw_p30 : lw_okq (⟨"SermonScaleModel", "letterAt", "(I)I"⟩, 17) := ⟨⟨by decide +kernel, by decide +kernel⟩, List.mem_of_getElem? (i := 571) (by decide +kernel), List.mem_of_getElem? (i := 660) (by decide +kernel), List.mem_of_getElem? (i := 661) (by decide +kernel)⟩
theorem lw_p31 : lw_okq (⟨"SermonScaleModel", "readsClause", "()Z"⟩, 17) := ⟨⟨by decide +kernel, by decide +kernel⟩, List.mem_of_getElem? (i := 571) (by decide +kernel), List.mem_of_getElem? (i := 670) (by decide +kernel), List.mem_of_getElem? (i := 671) (by decide +kernel)⟩
def lw_privs_2 : List (MethodName × Nat) := [(⟨"SermonScale", "leadWithout", "(I)I"⟩, 9), (⟨"SermonScale", "hangsLevel", "(II)Z"⟩, 9), (⟨"SermonScale", "rememberWeek", "()V"⟩, 9), (⟨"SermonScale", "soonestSet", "()I"⟩, 9), (⟨"SermonScale", "levels", "(II)Z"⟩, 9), (⟨"SermonScale", "isSooner", "(II)Z"⟩, 9), (⟨"SermonScale", "isSet", "(I)Z"⟩, 9), (⟨"SermonScale", "fitsAllSeen", "(II)Z"⟩, 9), (⟨"SermonScale", "fitsAllHeard", "(I)Z"⟩, 9), (⟨"SermonScale", "waysOfConfessing", "(II)I"⟩, 9), (⟨"SermonScaleModel", "forgets", "()V"⟩, 17), (⟨"SermonScaleModel", "lays", "()V"⟩, 17), (⟨"SermonScaleModel", "reads", "()I"⟩, 17), (⟨"SermonScaleModel", "token", "()V"⟩, 17), (⟨"SermonScaleModel", "letterAt", "(I)I"⟩, 17), (⟨"SermonScaleModel", "readsClause", "()Z"⟩, 17)]
theorem lw_r2 : ∀ q ∈ lw_privs_2, lw_okq q := List.forall_mem_cons.mpr ⟨lw_p16, List.forall_mem_cons.mpr ⟨lw_p17, List.forall_mem_cons.mpr ⟨lw_p18, List.forall_mem_cons.mpr ⟨lw_p19, List.forall_mem_cons.mpr ⟨lw_p20, List.forall_mem_cons.mpr ⟨lw_p21, List.forall_mem_cons.mpr ⟨lw_p22, List.forall_mem_cons.mpr ⟨lw_p23, List.forall_mem_cons.mpr ⟨lw_p24, List.forall_mem_cons.mpr ⟨lw_p25, List.forall_mem_cons.mpr ⟨lw_p26, List.forall_mem_cons.mpr ⟨lw_p27, List.forall_mem_cons.mpr ⟨lw_p28, List.forall_mem_cons.mpr ⟨lw_p29, List.forall_mem_cons.mpr ⟨lw_p30, List.forall_mem_cons.mpr ⟨lw_p31, fun _ h => absurd h List.not_mem_nil⟩⟩⟩⟩⟩⟩⟩⟩⟩⟩⟩⟩⟩⟩⟩⟩
theorem lw_p32 : lw_okq (⟨"SermonScaleModel", "isWord", "(IIIII)Z"⟩, 17) := ⟨⟨by decide +kernel, by decide +kernel⟩, List.mem_of_getElem? (i := 571) (by decide +kernel), List.mem_of_getElem? (i := 674) (by decide +kernel), List.mem_of_getElem? (i := 675) (by decide +kernel)⟩
theorem lw_p33 : lw_okq (⟨"SermonScaleModel", "readsPart", "(I)Z"⟩, 17) := ⟨⟨by decide +kernel, by decide +kernel⟩, List.mem_of_getElem? (i := 571) (by decide +kernel), List.mem_of_getElem? (i := 678) (by decide +kernel), List.mem_of_getElem? (i := 679) (by decide +kernel)⟩
theorem lw_p34 : lw_okq (⟨"SermonScaleModel", "number", "(III)Z"⟩, 17) := ⟨⟨by decide +kernel, by decide +kernel⟩, List.mem_of_getElem? (i := 571) (by decide +kernel), List.mem_of_getElem? (i := 682) (by decide +kernel), List.mem_of_getElem? (i := 683) (by decide +kernel)⟩
theorem lw_p35 : lw_okq (⟨"SermonScaleModel", "readsSoul", "()Z"⟩, 17) := ⟨⟨by decide +kernel, by decide +kernel⟩, List.mem_of_getElem? (i := 571) (by decide +kernel), List.mem_of_getElem? (i := 686) (by decide +kernel), List.mem_of_getElem? (i := 687) (by decide +kernel)⟩
theorem lw_p36 : lw_okq (⟨"SermonScaleModel", "isPart", "(I)Z"⟩, 17) := ⟨⟨by decide +kernel, by decide +kernel⟩, List.mem_of_getElem? (i := 571) (by decide +kernel), List.mem_of_getElem? (i := 698) (by decide +kernel), List.mem_of_getElem? (i := 699) (by decide +kernel)⟩
theorem lw_p37 : lw_okq (⟨"SermonScaleModel", "ounces", "(II)I"⟩, 17) := ⟨⟨by decide +kernel, by decide +kernel⟩, List.mem_of_getElem? (i := 571) (by decide +kernel), List.mem_of_getElem? (i := 702) (by decide +kernel), List.mem_of_getElem? (i := 703) (by decide +kernel)⟩
theorem lw_p38 : lw_okq (⟨"SermonScaleModel", "isLevel", "()Z"⟩, 17) := ⟨⟨by decide +kernel, by decide +kernel⟩, List.mem_of_getElem? (i := 571) (by decide +kernel), List.mem_of_getElem? (i := 721) (by decide +kernel), List.mem_of_getElem? (i := 722) (by decide +kernel)⟩
theorem lw_p39 : lw_okq (⟨"SermonScaleModel", "sermon", "()I"⟩, 17) := ⟨⟨by decide +kernel, by decide +kernel⟩, List.mem_of_getElem? (i := 571) (by decide +kernel), List.mem_of_getElem? (i := 725) (by decide +kernel), List.mem_of_getElem? (i := 726) (by decide +kernel)⟩
theorem lw_p40 : lw_okq (⟨"SermonScaleModel", "ouncesOf", "(II)I"⟩, 17) := ⟨⟨by decide +kernel, by decide +kernel⟩, List.mem_of_getElem? (i := 571) (by decide +kernel), List.mem_of_getElem? (i := 729) (by decide +kernel), List.mem_of_getElem? (i := 730) (by decide +kernel)⟩
theorem lw_p41 : lw_okq (⟨"SermonScaleModel", "lead", "()I"⟩, 17) := ⟨⟨by decide +kernel, by decide +kernel⟩, List.mem_of_getElem? (i := 571) (by decide +kernel), List.mem_of_getElem? (i := 733) (by decide +kernel), List.mem_of_getElem? (i := 734) (by decide +kernel)⟩
theorem lw_p42 : lw_okq (⟨"SermonScaleModel", "hangs", "(II)Z"⟩, 17) := ⟨⟨by decide +kernel, by decide +kernel⟩, List.mem_of_getElem? (i := 571) (by decide +kernel), List.mem_of_getElem? (i := 737) (by decide +kernel), List.mem_of_getElem? (i := 738) (by decide +kernel)⟩
theorem lw_p43 : lw_okq (⟨"SermonScaleModel", "keeps", "()V"⟩, 17) := ⟨⟨by decide +kernel, by decide +kernel⟩, List.mem_of_getElem? (i := 571) (by decide +kernel), List.mem_of_getElem? (i := 741) (by decide +kernel), List.mem_of_getElem? (i := 742) (by decide +kernel)⟩
theorem lw_p44 : lw_okq (⟨"SermonScaleModel", "would", "(II)Z"⟩, 17) := ⟨⟨by decide +kernel, by decide +kernel⟩, List.mem_of_getElem? (i := 571) (by decide +kernel), List.mem_of_getElem? (i := 781) (by decide +kernel), List.mem_of_getElem? (i := 782) (by decide +kernel)⟩
theorem lw_p45 : lw_okq (⟨"SermonScaleModel", "minutesOf", "(I)I"⟩, 17) := ⟨⟨by decide +kernel, by decide +kernel⟩, List.mem_of_getElem? (i := 571) (by decide +kernel), List.mem_of_getElem? (i := 785) (by decide +kernel), List.mem_of_getElem? (i := 786) (by decide +kernel)⟩
theorem lw_p46 : lw_okq (⟨"SermonScaleModel", "isSet", "(I)Z"⟩, 17) := ⟨⟨by decide +kernel, by decide +kernel⟩, List.mem_of_getElem? (i := 571) (by decide +kernel), List.mem_of_getElem? (i := 800) (by decide +kernel), List.mem_of_getElem? (i := 801) (by decide +kernel)⟩
def lw_privs_3 : List (MethodName × Nat) := [(⟨"SermonScaleModel", "isWord", "(IIIII)Z"⟩, 17), (⟨"SermonScaleModel", "readsPart", "(I)Z"⟩, 17), (⟨"SermonScaleModel", "number", "(III)Z"⟩, 17), (⟨"SermonScaleModel", "readsSoul", "()Z"⟩, 17), (⟨"SermonScaleModel", "isPart", "(I)Z"⟩, 17), (⟨"SermonScaleModel", "ounces", "(II)I"⟩, 17), (⟨"SermonScaleModel", "isLevel", "()Z"⟩, 17), (⟨"SermonScaleModel", "sermon", "()I"⟩, 17), (⟨"SermonScaleModel", "ouncesOf", "(II)I"⟩, 17), (⟨"SermonScaleModel", "lead", "()I"⟩, 17), (⟨"SermonScaleModel", "hangs", "(II)Z"⟩, 17), (⟨"SermonScaleModel", "keeps", "()V"⟩, 17), (⟨"SermonScaleModel", "would", "(II)Z"⟩, 17), (⟨"SermonScaleModel", "minutesOf", "(I)I"⟩, 17), (⟨"SermonScaleModel", "isSet", "(I)Z"⟩, 17)]
theorem lw_r3 : ∀ q ∈ lw_privs_3, lw_okq q := List.forall_mem_cons.mpr ⟨lw_p32, List.forall_mem_cons.mpr ⟨lw_p33, List.forall_mem_cons.mpr ⟨lw_p34, List.forall_mem_cons.mpr ⟨lw_p35, List.forall_mem_cons.mpr ⟨lw_p36, List.forall_mem_cons.mpr ⟨lw_p37, List.forall_mem_cons.mpr ⟨lw_p38, List.forall_mem_cons.mpr ⟨lw_p39, List.forall_mem_cons.mpr ⟨lw_p40, List.forall_mem_cons.mpr ⟨lw_p41, List.forall_mem_cons.mpr ⟨lw_p42, List.forall_mem_cons.mpr ⟨lw_p43, List.forall_mem_cons.mpr ⟨lw_p44, List.forall_mem_cons.mpr ⟨lw_p45, List.forall_mem_cons.mpr ⟨lw_p46, fun _ h => absurd h List.not_mem_nil⟩⟩⟩⟩⟩⟩⟩⟩⟩⟩⟩⟩⟩⟩⟩
def lw_privs : List (MethodName × Nat) := lw_privs_1 ++ (lw_privs_2 ++ (lw_privs_3))
def lw_tbl : List Cond := k2_sels lw_privs ++ tables_1
theorem lw_privs_ok : ∀ q ∈ lw_privs, lw_okq q := by
  show ∀ q ∈ lw_privs_1 ++ (lw_privs_2 ++ (lw_privs_3)), lw_okq q
  exact List.forall_mem_append.mpr ⟨lw_r1, List.forall_mem_append.mpr ⟨lw_r2, lw_r3⟩⟩

def RX0 : String := "SermonScale$Notes"
def TX0 : u_T := fun k => match k with
  | 0 => ("SermonScale$Notes", "seenParts", "[I", true)
  | 1 => ("SermonScale$Notes", "seenWet", "[I", true)
  | 2 => ("SermonScale$Notes", "seenOunces", "[I", true)
  | 3 => ("SermonScale$Notes", "heardParts", "[I", true)
  | 4 => ("SermonScale$Notes", "heardLead", "[I", true)
  | 5 => ("SermonScale$Notes", "heardWet", "[I", true)
  | 6 => ("SermonScale$Notes", "heardLevel", "[Z", true)
  | 7 => ("SermonScale$Notes", "seenMany", "I", false)
  | _ => ("SermonScale$Notes", "heardMany", "I", false)
def tyX0 : Nat → FieldType := fun k => match k with
  | 0 => .array .int
  | 1 => .array .int
  | 2 => .array .int
  | 3 => .array .int
  | 4 => .array .int
  | 5 => .array .int
  | 6 => .array .boolean
  | 7 => .int
  | _ => .int
abbrev wsX00 : List Cond := u_ws RX0 TX0 9
theorem nmX0 : ∀ a, a < 9 → ∀ b, b < 9 → a ≠ b → (TX0 a).2.1 ≠ (TX0 b).2.1 := by decide +kernel
theorem tyX0_ok : ∀ k, k < 9 → parseFieldDescriptor (TX0 k).2.2.1 = some (tyX0 k) := by decide +kernel
abbrev cX0_init : ByteArray := prog_2_method_1_code
def yX0_init : MethodName := ⟨RX0, "<init>", "()V"⟩
abbrev cX0_addSeen : ByteArray := prog_2_method_2_code
def yX0_addSeen : MethodName := ⟨RX0, "addSeen", "(III)Z"⟩
abbrev cX0_addHeard : ByteArray := prog_2_method_3_code
def yX0_addHeard : MethodName := ⟨RX0, "addHeard", "(IIZI)Z"⟩
abbrev cX0_clear : ByteArray := prog_2_method_4_code
def yX0_clear : MethodName := ⟨RX0, "clear", "()V"⟩
def RX1 : String := "SermonScale$Parish"
def TX1 : u_T := fun k => match k with
  | 0 => ("SermonScale$Parish", "kind", "[I", true)
  | 1 => ("SermonScale$Parish", "weight", "[I", true)
  | 2 => ("SermonScale$Parish", "minutes", "[I", true)
  | 3 => ("SermonScale$Parish", "toldSins", "[I", true)
  | 4 => ("SermonScale$Parish", "parts", "I", false)
  | 5 => ("SermonScale$Parish", "souls", "I", false)
  | 6 => ("SermonScale$Parish", "thumb", "I", false)
  | 7 => ("SermonScale$Parish", "beam", "I", false)
  | _ => ("SermonScale$Parish", "toldWet", "I", false)
def tyX1 : Nat → FieldType := fun k => match k with
  | 0 => .array .int
  | 1 => .array .int
  | 2 => .array .int
  | 3 => .array .int
  | 4 => .int
  | 5 => .int
  | 6 => .int
  | 7 => .int
  | _ => .int
abbrev wsX10 : List Cond := u_ws RX1 TX1 9
theorem nmX1 : ∀ a, a < 9 → ∀ b, b < 9 → a ≠ b → (TX1 a).2.1 ≠ (TX1 b).2.1 := by decide +kernel
theorem tyX1_ok : ∀ k, k < 9 → parseFieldDescriptor (TX1 k).2.2.1 = some (tyX1 k) := by decide +kernel
abbrev cX1_init : ByteArray := prog_3_method_1_code
def yX1_init : MethodName := ⟨RX1, "<init>", "()V"⟩
abbrev cX1_beginAsAtFirst : ByteArray := prog_3_method_2_code
def yX1_beginAsAtFirst : MethodName := ⟨RX1, "beginAsAtFirst", "()V"⟩
abbrev cX1_tell : ByteArray := prog_3_method_3_code
def yX1_tell : MethodName := ⟨RX1, "tell", "(III)V"⟩
abbrev cX1_addPart : ByteArray := prog_3_method_4_code
def yX1_addPart : MethodName := ⟨RX1, "addPart", "(III)V"⟩
abbrev cX1_addSoul : ByteArray := prog_3_method_5_code
def yX1_addSoul : MethodName := ⟨RX1, "addSoul", "(I)V"⟩
abbrev cX1_ouncesOfSet : ByteArray := prog_3_method_6_code
def yX1_ouncesOfSet : MethodName := ⟨RX1, "ouncesOfSet", "(II)I"⟩
abbrev cX1_minutesOf : ByteArray := prog_3_method_7_code
def yX1_minutesOf : MethodName := ⟨RX1, "minutesOf", "(I)I"⟩
def RX2 : String := "SermonScale$Text"
def TX2 : u_T := fun k => match k with
  | 0 => ("SermonScale$Text", "letters", "[I", true)
  | 1 => ("SermonScale$Text", "word", "[I", true)
  | 2 => ("SermonScale$Text", "first", "[I", true)
  | 3 => ("SermonScale$Text", "second", "[I", true)
  | 4 => ("SermonScale$Text", "length", "I", false)
  | 5 => ("SermonScale$Text", "clauses", "I", false)
  | 6 => ("SermonScale$Text", "tokenStart", "I", false)
  | 7 => ("SermonScale$Text", "tokenEnd", "I", false)
  | 8 => ("SermonScale$Text", "partsThen", "I", false)
  | _ => ("SermonScale$Text", "soulsThen", "I", false)
def tyX2 : Nat → FieldType := fun k => match k with
  | 0 => .array .int
  | 1 => .array .int
  | 2 => .array .int
  | 3 => .array .int
  | 4 => .int
  | 5 => .int
  | 6 => .int
  | 7 => .int
  | 8 => .int
  | _ => .int
abbrev wsX20 : List Cond := u_ws RX2 TX2 10
theorem nmX2 : ∀ a, a < 10 → ∀ b, b < 10 → a ≠ b → (TX2 a).2.1 ≠ (TX2 b).2.1 := by decide +kernel
theorem tyX2_ok : ∀ k, k < 10 → parseFieldDescriptor (TX2 k).2.2.1 = some (tyX2 k) := by decide +kernel
abbrev cX2_init : ByteArray := prog_4_method_1_code
def yX2_init : MethodName := ⟨RX2, "<init>", "()V"⟩
abbrev cX2_add : ByteArray := prog_4_method_2_code
def yX2_add : MethodName := ⟨RX2, "add", "(I)Z"⟩
abbrev cX2_firstFault : ByteArray := prog_4_method_3_code
def yX2_firstFault : MethodName := ⟨RX2, "firstFault", "(II)I"⟩
abbrev cX2_readClause : ByteArray := prog_4_method_4_code
def yX2_readClause : MethodName := ⟨RX2, "readClause", "(I)Z"⟩
abbrev cX2_countPartsAndSouls : ByteArray := prog_4_method_5_code
def yX2_countPartsAndSouls : MethodName := ⟨RX2, "countPartsAndSouls", "(I)V"⟩
abbrev cX2_isOfPart : ByteArray := prog_4_method_6_code
def yX2_isOfPart : MethodName := ⟨RX2, "isOfPart", "(I)Z"⟩
abbrev cX2_mostFirst : ByteArray := prog_4_method_7_code
def yX2_mostFirst : MethodName := ⟨RX2, "mostFirst", "(I)I"⟩
abbrev cX2_nextToken : ByteArray := prog_4_method_8_code
def yX2_nextToken : MethodName := ⟨RX2, "nextToken", "()V"⟩
abbrev cX2_endOfRow : ByteArray := prog_4_method_9_code
def yX2_endOfRow : MethodName := ⟨RX2, "endOfRow", "(III)I"⟩
abbrev cX2_tokenNumber : ByteArray := prog_4_method_10_code
def yX2_tokenNumber : MethodName := ⟨RX2, "tokenNumber", "()I"⟩
abbrev cX2_tokenWord : ByteArray := prog_4_method_11_code
def yX2_tokenWord : MethodName := ⟨RX2, "tokenWord", "()I"⟩
abbrev cX2_tokenIs : ByteArray := prog_4_method_12_code
def yX2_tokenIs : MethodName := ⟨RX2, "tokenIs", "(Ljava/lang/String;)Z"⟩
abbrev cX2_nameOf : ByteArray := prog_4_method_13_code
def yX2_nameOf : MethodName := ⟨RX2, "nameOf", "(I)Ljava/lang/String;"⟩
def RX3 : String := "SermonScale$Week"
def TX3 : u_T := fun k => match k with
  | 0 => ("SermonScale$Week", "sins", "[I", true)
  | 1 => ("SermonScale$Week", "preached", "I", false)
  | 2 => ("SermonScale$Week", "paid", "I", false)
  | 3 => ("SermonScale$Week", "wet", "I", false)
  | 4 => ("SermonScale$Week", "number", "I", false)
  | 5 => ("SermonScale$Week", "minutes", "I", false)
  | _ => ("SermonScale$Week", "levelSundays", "I", false)
def tyX3 : Nat → FieldType := fun k => match k with
  | 0 => .array .int
  | 1 => .int
  | 2 => .int
  | 3 => .int
  | 4 => .int
  | 5 => .int
  | _ => .int
abbrev wsX30 : List Cond := u_ws RX3 TX3 7
theorem nmX3 : ∀ a, a < 7 → ∀ b, b < 7 → a ≠ b → (TX3 a).2.1 ≠ (TX3 b).2.1 := by decide +kernel
theorem tyX3_ok : ∀ k, k < 7 → parseFieldDescriptor (TX3 k).2.2.1 = some (tyX3 k) := by decide +kernel
abbrev cX3_init : ByteArray := prog_5_method_1_code
def yX3_init : MethodName := ⟨RX3, "<init>", "()V"⟩
abbrev cX3_beginAsTold : ByteArray := prog_5_method_2_code
def yX3_beginAsTold : MethodName := ⟨RX3, "beginAsTold", "(LSermonScale$Parish;)V"⟩
abbrev cX3_end : ByteArray := prog_5_method_3_code
def yX3_end : MethodName := ⟨RX3, "end", "(Z)V"⟩
abbrev cX3_becomeLike : ByteArray := prog_5_method_4_code
def yX3_becomeLike : MethodName := ⟨RX3, "becomeLike", "(LSermonScale$Week;)V"⟩
def RX4 : String := "SermonScale"
def TX4 : u_T := fun k => match k with
  | 0 => ("SermonScale", "text", "LSermonScale$Text;", true)
  | 1 => ("SermonScale", "parish", "LSermonScale$Parish;", true)
  | 2 => ("SermonScale", "now", "LSermonScale$Week;", true)
  | 3 => ("SermonScale", "past", "[LSermonScale$Week;", true)
  | 4 => ("SermonScale", "kept", "[LSermonScale$Week;", true)
  | 5 => ("SermonScale", "isKept", "[Z", true)
  | 6 => ("SermonScale", "notes", "LSermonScale$Notes;", true)
  | 7 => ("SermonScale", "undoable", "I", false)
  | _ => ("SermonScale", "nextPast", "I", false)
def tyX4 : Nat → FieldType := fun k => match k with
  | 0 => .object "SermonScale$Text"
  | 1 => .object "SermonScale$Parish"
  | 2 => .object "SermonScale$Week"
  | 3 => .array (.object "SermonScale$Week")
  | 4 => .array (.object "SermonScale$Week")
  | 5 => .array .boolean
  | 6 => .object "SermonScale$Notes"
  | 7 => .int
  | _ => .int
abbrev wsX40 : List Cond := u_ws RX4 TX4 9
theorem nmX4 : ∀ a, a < 9 → ∀ b, b < 9 → a ≠ b → (TX4 a).2.1 ≠ (TX4 b).2.1 := by decide +kernel
theorem tyX4_ok : ∀ k, k < 9 → parseFieldDescriptor (TX4 k).2.2.1 = some (tyX4 k) := by decide +kernel
abbrev cX4_init : ByteArray := prog_1_method_1_code
def yX4_init : MethodName := ⟨RX4, "<init>", "()V"⟩
abbrev cX4_newWeeks : ByteArray := prog_1_method_2_code
def yX4_newWeeks : MethodName := ⟨RX4, "newWeeks", "(I)[LSermonScale$Week;"⟩
abbrev cX4_write : ByteArray := prog_1_method_3_code
def yX4_write : MethodName := ⟨RX4, "write", "(I)I"⟩
abbrev cX4_erase : ByteArray := prog_1_method_4_code
def yX4_erase : MethodName := ⟨RX4, "erase", "()I"⟩
abbrev cX4_fault : ByteArray := prog_1_method_5_code
def yX4_fault : MethodName := ⟨RX4, "fault", "()I"⟩
abbrev cX4_kirk : ByteArray := prog_1_method_6_code
def yX4_kirk : MethodName := ⟨RX4, "kirk", "()I"⟩
abbrev cX4_beginAnew : ByteArray := prog_1_method_7_code
def yX4_beginAnew : MethodName := ⟨RX4, "beginAnew", "()V"⟩
abbrev cX4_part : ByteArray := prog_1_method_8_code
def yX4_part : MethodName := ⟨RX4, "part", "(II)I"⟩
abbrev cX4_sins : ByteArray := prog_1_method_9_code
def yX4_sins : MethodName := ⟨RX4, "sins", "(I)I"⟩
abbrev cX4_as : ByteArray := prog_1_method_10_code
def yX4_as : MethodName := ⟨RX4, "as", "(II)I"⟩
abbrev cX4_isTakenAs : ByteArray := prog_1_method_11_code
def yX4_isTakenAs : MethodName := ⟨RX4, "isTakenAs", "(II)Z"⟩
abbrev cX4_preach : ByteArray := prog_1_method_12_code
def yX4_preach : MethodName := ⟨RX4, "preach", "(I)I"⟩
abbrev cX4_sin : ByteArray := prog_1_method_13_code
def yX4_sin : MethodName := ⟨RX4, "sin", "(II)I"⟩
abbrev cX4_ballast : ByteArray := prog_1_method_14_code
def yX4_ballast : MethodName := ⟨RX4, "ballast", "(I)I"⟩
abbrev cX4_rain : ByteArray := prog_1_method_15_code
def yX4_rain : MethodName := ⟨RX4, "rain", "(I)I"⟩
abbrev cX4_sunday : ByteArray := prog_1_method_16_code
def yX4_sunday : MethodName := ⟨RX4, "sunday", "()I"⟩
abbrev cX4_undo : ByteArray := prog_1_method_17_code
def yX4_undo : MethodName := ⟨RX4, "undo", "()I"⟩
abbrev cX4_rememberWeek : ByteArray := prog_1_method_18_code
def yX4_rememberWeek : MethodName := ⟨RX4, "rememberWeek", "()V"⟩
abbrev cX4_keep : ByteArray := prog_1_method_19_code
def yX4_keep : MethodName := ⟨RX4, "keep", "(I)I"⟩
abbrev cX4_back : ByteArray := prog_1_method_20_code
def yX4_back : MethodName := ⟨RX4, "back", "(I)I"⟩
abbrev cX4_stops : ByteArray := prog_1_method_21_code
def yX4_stops : MethodName := ⟨RX4, "stops", "()I"⟩
abbrev cX4_soonest : ByteArray := prog_1_method_22_code
def yX4_soonest : MethodName := ⟨RX4, "soonest", "(I)I"⟩
abbrev cX4_soonestSet : ByteArray := prog_1_method_23_code
def yX4_soonestSet : MethodName := ⟨RX4, "soonestSet", "()I"⟩
abbrev cX4_isSooner : ByteArray := prog_1_method_24_code
def yX4_isSooner : MethodName := ⟨RX4, "isSooner", "(II)Z"⟩
abbrev cX4_never : ByteArray := prog_1_method_25_code
def yX4_never : MethodName := ⟨RX4, "never", "(I)I"⟩
abbrev cX4_levels : ByteArray := prog_1_method_26_code
def yX4_levels : MethodName := ⟨RX4, "levels", "(II)Z"⟩
abbrev cX4_seen : ByteArray := prog_1_method_27_code
def yX4_seen : MethodName := ⟨RX4, "seen", "(III)I"⟩
abbrev cX4_heard : ByteArray := prog_1_method_28_code
def yX4_heard : MethodName := ⟨RX4, "heard", "(III)I"⟩
abbrev cX4_forget : ByteArray := prog_1_method_29_code
def yX4_forget : MethodName := ⟨RX4, "forget", "()I"⟩
abbrev cX4_weights : ByteArray := prog_1_method_30_code
def yX4_weights : MethodName := ⟨RX4, "weights", "(I)I"⟩
abbrev cX4_fitsAllSeen : ByteArray := prog_1_method_31_code
def yX4_fitsAllSeen : MethodName := ⟨RX4, "fitsAllSeen", "(II)Z"⟩
abbrev cX4_thumbs : ByteArray := prog_1_method_32_code
def yX4_thumbs : MethodName := ⟨RX4, "thumbs", "()I"⟩
abbrev cX4_fitsAllHeard : ByteArray := prog_1_method_33_code
def yX4_fitsAllHeard : MethodName := ⟨RX4, "fitsAllHeard", "(I)Z"⟩
abbrev cX4_confessed : ByteArray := prog_1_method_34_code
def yX4_confessed : MethodName := ⟨RX4, "confessed", "(II)I"⟩
abbrev cX4_waysOfConfessing : ByteArray := prog_1_method_35_code
def yX4_waysOfConfessing : MethodName := ⟨RX4, "waysOfConfessing", "(II)I"⟩
abbrev cX4_greatestDivisor : ByteArray := prog_1_method_36_code
def yX4_greatestDivisor : MethodName := ⟨RX4, "greatestDivisor", "(II)I"⟩
abbrev cX4_count : ByteArray := prog_1_method_37_code
def yX4_count : MethodName := ⟨RX4, "count", "(I)I"⟩
abbrev cX4_hangsLevelNow : ByteArray := prog_1_method_38_code
def yX4_hangsLevelNow : MethodName := ⟨RX4, "hangsLevelNow", "()Z"⟩
abbrev cX4_hangsLevel : ByteArray := prog_1_method_39_code
def yX4_hangsLevel : MethodName := ⟨RX4, "hangsLevel", "(II)Z"⟩
abbrev cX4_sermonOf : ByteArray := prog_1_method_40_code
def yX4_sermonOf : MethodName := ⟨RX4, "sermonOf", "(I)I"⟩
abbrev cX4_leadNow : ByteArray := prog_1_method_41_code
def yX4_leadNow : MethodName := ⟨RX4, "leadNow", "()I"⟩
abbrev cX4_leadWithout : ByteArray := prog_1_method_42_code
def yX4_leadWithout : MethodName := ⟨RX4, "leadWithout", "(I)I"⟩
abbrev cX4_ouncesOf : ByteArray := prog_1_method_43_code
def yX4_ouncesOf : MethodName := ⟨RX4, "ouncesOf", "(III)I"⟩
abbrev cX4_isPart : ByteArray := prog_1_method_44_code
def yX4_isPart : MethodName := ⟨RX4, "isPart", "(I)Z"⟩
abbrev cX4_isSoul : ByteArray := prog_1_method_45_code
def yX4_isSoul : MethodName := ⟨RX4, "isSoul", "(I)Z"⟩
abbrev cX4_isSet : ByteArray := prog_1_method_46_code
def yX4_isSet : MethodName := ⟨RX4, "isSet", "(I)Z"⟩
abbrev cX4_isIn : ByteArray := prog_1_method_47_code
def yX4_isIn : MethodName := ⟨RX4, "isIn", "(II)Z"⟩
abbrev cX4_isWithin : ByteArray := prog_1_method_48_code
def yX4_isWithin : MethodName := ⟨RX4, "isWithin", "(III)Z"⟩
def RX5 : String := "SermonScaleModel"
def TX5 : u_T := fun k => match k with
  | 0 => ("SermonScaleModel", "text", "[I", true)
  | 1 => ("SermonScaleModel", "typed", "I", false)
  | 2 => ("SermonScaleModel", "told", "[I", true)
  | 3 => ("SermonScaleModel", "draft", "[I", true)
  | 4 => ("SermonScaleModel", "s", "[I", true)
  | 5 => ("SermonScaleModel", "past", "[I", true)
  | 6 => ("SermonScaleModel", "known", "I", false)
  | 7 => ("SermonScaleModel", "images", "[I", true)
  | 8 => ("SermonScaleModel", "kept", "[Z", true)
  | 9 => ("SermonScaleModel", "notes", "[I", true)
  | 10 => ("SermonScaleModel", "noted", "I", false)
  | 11 => ("SermonScaleModel", "rumours", "[I", true)
  | 12 => ("SermonScaleModel", "many", "I", false)
  | 13 => ("SermonScaleModel", "at", "I", false)
  | 14 => ("SermonScaleModel", "sort", "I", false)
  | 15 => ("SermonScaleModel", "start", "I", false)
  | _ => ("SermonScaleModel", "value", "I", false)
def tyX5 : Nat → FieldType := fun k => match k with
  | 0 => .array .int
  | 1 => .int
  | 2 => .array .int
  | 3 => .array .int
  | 4 => .array .int
  | 5 => .array .int
  | 6 => .int
  | 7 => .array .int
  | 8 => .array .boolean
  | 9 => .array .int
  | 10 => .int
  | 11 => .array .int
  | 12 => .int
  | 13 => .int
  | 14 => .int
  | 15 => .int
  | _ => .int
abbrev wsX50 : List Cond := u_ws RX5 TX5 17
theorem nmX5 : ∀ a, a < 17 → ∀ b, b < 17 → a ≠ b → (TX5 a).2.1 ≠ (TX5 b).2.1 := by decide +kernel
theorem tyX5_ok : ∀ k, k < 17 → parseFieldDescriptor (TX5 k).2.2.1 = some (tyX5 k) := by decide +kernel
abbrev cX5_init : ByteArray := prog_7_method_1_code
def yX5_init : MethodName := ⟨RX5, "<init>", "()V"⟩
abbrev cX5_in : ByteArray := prog_7_method_3_code
def yX5_in : MethodName := ⟨RX5, "in", "(III)Z"⟩
abbrev cX5_isPart : ByteArray := prog_7_method_4_code
def yX5_isPart : MethodName := ⟨RX5, "isPart", "(I)Z"⟩
abbrev cX5_isSet : ByteArray := prog_7_method_5_code
def yX5_isSet : MethodName := ⟨RX5, "isSet", "(I)Z"⟩
abbrev cX5_write : ByteArray := prog_7_method_6_code
def yX5_write : MethodName := ⟨RX5, "write", "(I)I"⟩
abbrev cX5_erase : ByteArray := prog_7_method_7_code
def yX5_erase : MethodName := ⟨RX5, "erase", "()I"⟩
abbrev cX5_letterAt : ByteArray := prog_7_method_8_code
def yX5_letterAt : MethodName := ⟨RX5, "letterAt", "(I)I"⟩
abbrev cX5_isLetter : ByteArray := prog_7_method_9_code
def yX5_isLetter : MethodName := ⟨RX5, "isLetter", "(I)Z"⟩
abbrev cX5_isDigit : ByteArray := prog_7_method_10_code
def yX5_isDigit : MethodName := ⟨RX5, "isDigit", "(I)Z"⟩
abbrev cX5_token : ByteArray := prog_7_method_11_code
def yX5_token : MethodName := ⟨RX5, "token", "()V"⟩
abbrev cX5_isWord : ByteArray := prog_7_method_12_code
def yX5_isWord : MethodName := ⟨RX5, "isWord", "(IIIII)Z"⟩
abbrev cX5_number : ByteArray := prog_7_method_13_code
def yX5_number : MethodName := ⟨RX5, "number", "(III)Z"⟩
abbrev cX5_forgets : ByteArray := prog_7_method_14_code
def yX5_forgets : MethodName := ⟨RX5, "forgets", "()V"⟩
abbrev cX5_readsPart : ByteArray := prog_7_method_15_code
def yX5_readsPart : MethodName := ⟨RX5, "readsPart", "(I)Z"⟩
abbrev cX5_readsSoul : ByteArray := prog_7_method_16_code
def yX5_readsSoul : MethodName := ⟨RX5, "readsSoul", "()Z"⟩
abbrev cX5_readsClause : ByteArray := prog_7_method_17_code
def yX5_readsClause : MethodName := ⟨RX5, "readsClause", "()Z"⟩
abbrev cX5_reads : ByteArray := prog_7_method_18_code
def yX5_reads : MethodName := ⟨RX5, "reads", "()I"⟩
abbrev cX5_lays : ByteArray := prog_7_method_19_code
def yX5_lays : MethodName := ⟨RX5, "lays", "()V"⟩
abbrev cX5_fault : ByteArray := prog_7_method_20_code
def yX5_fault : MethodName := ⟨RX5, "fault", "()I"⟩
abbrev cX5_kirk : ByteArray := prog_7_method_21_code
def yX5_kirk : MethodName := ⟨RX5, "kirk", "()I"⟩
abbrev cX5_weighs : ByteArray := prog_7_method_22_code
def yX5_weighs : MethodName := ⟨RX5, "weighs", "(III)I"⟩
abbrev cX5_ounces : ByteArray := prog_7_method_23_code
def yX5_ounces : MethodName := ⟨RX5, "ounces", "(II)I"⟩
abbrev cX5_ouncesOf : ByteArray := prog_7_method_24_code
def yX5_ouncesOf : MethodName := ⟨RX5, "ouncesOf", "(II)I"⟩
abbrev cX5_sermon : ByteArray := prog_7_method_25_code
def yX5_sermon : MethodName := ⟨RX5, "sermon", "()I"⟩
abbrev cX5_lead : ByteArray := prog_7_method_26_code
def yX5_lead : MethodName := ⟨RX5, "lead", "()I"⟩
abbrev cX5_hangs : ByteArray := prog_7_method_27_code
def yX5_hangs : MethodName := ⟨RX5, "hangs", "(II)Z"⟩
abbrev cX5_isLevel : ByteArray := prog_7_method_28_code
def yX5_isLevel : MethodName := ⟨RX5, "isLevel", "()Z"⟩
abbrev cX5_part : ByteArray := prog_7_method_29_code
def yX5_part : MethodName := ⟨RX5, "part", "(II)I"⟩
abbrev cX5_sins : ByteArray := prog_7_method_30_code
def yX5_sins : MethodName := ⟨RX5, "sins", "(I)I"⟩
abbrev cX5_as : ByteArray := prog_7_method_31_code
def yX5_as : MethodName := ⟨RX5, "as", "(II)I"⟩
abbrev cX5_keeps : ByteArray := prog_7_method_32_code
def yX5_keeps : MethodName := ⟨RX5, "keeps", "()V"⟩
abbrev cX5_preach : ByteArray := prog_7_method_33_code
def yX5_preach : MethodName := ⟨RX5, "preach", "(I)I"⟩
abbrev cX5_sin : ByteArray := prog_7_method_34_code
def yX5_sin : MethodName := ⟨RX5, "sin", "(II)I"⟩
abbrev cX5_ballast : ByteArray := prog_7_method_35_code
def yX5_ballast : MethodName := ⟨RX5, "ballast", "(I)I"⟩
abbrev cX5_rain : ByteArray := prog_7_method_36_code
def yX5_rain : MethodName := ⟨RX5, "rain", "(I)I"⟩
abbrev cX5_sunday : ByteArray := prog_7_method_37_code
def yX5_sunday : MethodName := ⟨RX5, "sunday", "()I"⟩
abbrev cX5_undo : ByteArray := prog_7_method_38_code
def yX5_undo : MethodName := ⟨RX5, "undo", "()I"⟩
abbrev cX5_keep : ByteArray := prog_7_method_39_code
def yX5_keep : MethodName := ⟨RX5, "keep", "(I)I"⟩
abbrev cX5_back : ByteArray := prog_7_method_40_code
def yX5_back : MethodName := ⟨RX5, "back", "(I)I"⟩
abbrev cX5_stops : ByteArray := prog_7_method_41_code
def yX5_stops : MethodName := ⟨RX5, "stops", "()I"⟩
abbrev cX5_minutesOf : ByteArray := prog_7_method_42_code
def yX5_minutesOf : MethodName := ⟨RX5, "minutesOf", "(I)I"⟩
abbrev cX5_ones : ByteArray := prog_7_method_43_code
def yX5_ones : MethodName := ⟨RX5, "ones", "(I)I"⟩
abbrev cX5_would : ByteArray := prog_7_method_44_code
def yX5_would : MethodName := ⟨RX5, "would", "(II)Z"⟩
abbrev cX5_soonest : ByteArray := prog_7_method_45_code
def yX5_soonest : MethodName := ⟨RX5, "soonest", "(I)I"⟩
abbrev cX5_never : ByteArray := prog_7_method_46_code
def yX5_never : MethodName := ⟨RX5, "never", "(I)I"⟩
abbrev cX5_seen : ByteArray := prog_7_method_47_code
def yX5_seen : MethodName := ⟨RX5, "seen", "(III)I"⟩
abbrev cX5_heard : ByteArray := prog_7_method_48_code
def yX5_heard : MethodName := ⟨RX5, "heard", "(III)I"⟩
abbrev cX5_forget : ByteArray := prog_7_method_49_code
def yX5_forget : MethodName := ⟨RX5, "forget", "()I"⟩
abbrev cX5_weights : ByteArray := prog_7_method_50_code
def yX5_weights : MethodName := ⟨RX5, "weights", "(I)I"⟩
abbrev cX5_thumbs : ByteArray := prog_7_method_51_code
def yX5_thumbs : MethodName := ⟨RX5, "thumbs", "()I"⟩
abbrev cX5_confessed : ByteArray := prog_7_method_52_code
def yX5_confessed : MethodName := ⟨RX5, "confessed", "(II)I"⟩
abbrev cX5_count : ByteArray := prog_7_method_53_code
def yX5_count : MethodName := ⟨RX5, "count", "(I)I"⟩
def RJ6 : String := "java/lang/Integer"
def TJ6 : u_T := fun k => match k with
  | _ => ("", "", "", false)
def tyJ6 : Nat → FieldType := fun k => match k with
  | _ => .int
abbrev wsJ60 : List Cond := u_ws RJ6 TJ6 0
theorem nmJ6 : ∀ a, a < 0 → ∀ b, b < 0 → a ≠ b → (TJ6 a).2.1 ≠ (TJ6 b).2.1 := by decide +kernel
theorem tyJ6_ok : ∀ k, k < 0 → parseFieldDescriptor (TJ6 k).2.2.1 = some (tyJ6 k) := by decide +kernel
abbrev cJ6_bitCount_0f7a4 : ByteArray := prog_8_method_49_code
def yJ6_bitCount_0f7a4 : MethodName := ⟨RJ6, "bitCount", "(I)I"⟩
def RJ9 : String := "java/lang/Math"
def TJ9 : u_T := fun k => match k with
  | _ => ("", "", "", false)
def tyJ9 : Nat → FieldType := fun k => match k with
  | _ => .int
abbrev wsJ90 : List Cond := u_ws RJ9 TJ9 0
theorem nmJ9 : ∀ a, a < 0 → ∀ b, b < 0 → a ≠ b → (TJ9 a).2.1 ≠ (TJ9 b).2.1 := by decide +kernel
theorem tyJ9_ok : ∀ k, k < 0 → parseFieldDescriptor (TJ9 k).2.2.1 = some (tyJ9 k) := by decide +kernel
abbrev cJ9_abs_0f7a4 : ByteArray := prog_9_method_59_code
def yJ9_abs_0f7a4 : MethodName := ⟨RJ9, "abs", "(I)I"⟩
abbrev cJ9_max_7cf53 : ByteArray := prog_9_method_65_code
def yJ9_max_7cf53 : MethodName := ⟨RJ9, "max", "(II)I"⟩
abbrev cJ9_min_7cf53 : ByteArray := prog_9_method_69_code
def yJ9_min_7cf53 : MethodName := ⟨RJ9, "min", "(II)I"⟩
def RJ0 : String := "java/lang/String"
def TJ0 : u_T := fun k => match k with
  | _ => ("", "", "", false)
def tyJ0 : Nat → FieldType := fun k => match k with
  | _ => .int
abbrev wsJ00 : List Cond := u_ws RJ0 TJ0 0
theorem nmJ0 : ∀ a, a < 0 → ∀ b, b < 0 → a ≠ b → (TJ0 a).2.1 ≠ (TJ0 b).2.1 := by decide +kernel
theorem tyJ0_ok : ∀ k, k < 0 → parseFieldDescriptor (TJ0 k).2.2.1 = some (tyJ0 k) := by decide +kernel
abbrev cJ0_length_8abf5 : ByteArray := prog_10_method_54_code
def yJ0_length_8abf5 : MethodName := ⟨RJ0, "length", "()I"⟩
abbrev cJ0_charAt_5068e : ByteArray := prog_10_method_56_code
def yJ0_charAt_5068e : MethodName := ⟨RJ0, "charAt", "(I)C"⟩
abbrev cJ0_coder_7d493 : ByteArray := prog_10_method_152_code
def yJ0_coder_7d493 : MethodName := ⟨RJ0, "coder", "()B"⟩
abbrev cJ0_isLatin1_aae02 : ByteArray := prog_10_method_154_code
def yJ0_isLatin1_aae02 : MethodName := ⟨RJ0, "isLatin1", "()Z"⟩
abbrev cJ0_checkIndex_df160 : ByteArray := prog_10_method_155_code
def yJ0_checkIndex_df160 : MethodName := ⟨RJ0, "checkIndex", "(II)V"⟩
def RJ1 : String := "java/lang/StringLatin1"
def TJ1 : u_T := fun k => match k with
  | _ => ("", "", "", false)
def tyJ1 : Nat → FieldType := fun k => match k with
  | _ => .int
abbrev wsJ10 : List Cond := u_ws RJ1 TJ1 0
theorem nmJ1 : ∀ a, a < 0 → ∀ b, b < 0 → a ≠ b → (TJ1 a).2.1 ≠ (TJ1 b).2.1 := by decide +kernel
theorem tyJ1_ok : ∀ k, k < 0 → parseFieldDescriptor (TJ1 k).2.2.1 = some (tyJ1 k) := by decide +kernel
abbrev cJ1_charAt_3b067 : ByteArray := prog_11_method_2_code
def yJ1_charAt_3b067 : MethodName := ⟨RJ1, "charAt", "([BI)C"⟩
def RJ2 : String := "java/lang/StringUTF16"
def TJ2 : u_T := fun k => match k with
  | _ => ("", "", "", false)
def tyJ2 : Nat → FieldType := fun k => match k with
  | _ => .int
abbrev wsJ20 : List Cond := u_ws RJ2 TJ2 0
theorem nmJ2 : ∀ a, a < 0 → ∀ b, b < 0 → a ≠ b → (TJ2 a).2.1 ≠ (TJ2 b).2.1 := by decide +kernel
theorem tyJ2_ok : ∀ k, k < 0 → parseFieldDescriptor (TJ2 k).2.2.1 = some (tyJ2 k) := by decide +kernel
abbrev cJ2_getChar_3b067 : ByteArray := prog_12_method_5_code
def yJ2_getChar_3b067 : MethodName := ⟨RJ2, "getChar", "([BI)C"⟩
abbrev cJ2_length_9d52b : ByteArray := prog_12_method_6_code
def yJ2_length_9d52b : MethodName := ⟨RJ2, "length", "([B)I"⟩
abbrev cJ2_charAt_3b067 : ByteArray := prog_12_method_83_code
def yJ2_charAt_3b067 : MethodName := ⟨RJ2, "charAt", "([BI)C"⟩
abbrev cJ2_checkIndex_2214a : ByteArray := prog_12_method_91_code
def yJ2_checkIndex_2214a : MethodName := ⟨RJ2, "checkIndex", "(I[B)V"⟩
def RJ10 : String := "java/lang/System"
def TJ10 : u_T := fun k => match k with
  | _ => ("", "", "", false)
def tyJ10 : Nat → FieldType := fun k => match k with
  | _ => .int
abbrev wsJ100 : List Cond := u_ws RJ10 TJ10 0
theorem nmJ10 : ∀ a, a < 0 → ∀ b, b < 0 → a ≠ b → (TJ10 a).2.1 ≠ (TJ10 b).2.1 := by decide +kernel
theorem tyJ10_ok : ∀ k, k < 0 → parseFieldDescriptor (TJ10 k).2.2.1 = some (tyJ10 k) := by decide +kernel
def RJ3 : String := "jdk/internal/util/Preconditions"
def TJ3 : u_T := fun k => match k with
  | _ => ("", "", "", false)
def tyJ3 : Nat → FieldType := fun k => match k with
  | _ => .int
abbrev wsJ30 : List Cond := u_ws RJ3 TJ3 0
theorem nmJ3 : ∀ a, a < 0 → ∀ b, b < 0 → a ≠ b → (TJ3 a).2.1 ≠ (TJ3 b).2.1 := by decide +kernel
theorem tyJ3_ok : ∀ k, k < 0 → parseFieldDescriptor (TJ3 k).2.2.1 = some (tyJ3 k) := by decide +kernel
abbrev cJ3_checkIndex_8e157 : ByteArray := prog_14_method_11_code
def yJ3_checkIndex_8e157 : MethodName := ⟨RJ3, "checkIndex", "(IILjava/util/function/BiFunction;)I"⟩
def RL : String := "SermonScaleLaw"

abbrev vwCl : List vw_C := [(RX0, TX0, 9), (RX1, TX1, 9), (RX2, TX2, 10), (RX3, TX3, 7), (RX4, TX4, 9), (RX5, TX5, 17)]

