section
-- ===== PART A: goes FIRST, ahead of the names: the tables' words, and 'selects' of the private methods out of them =====
/-- a private method of a class that the tables say can be made, by its rows of tables_1 -/
def lw_okq (q : MethodName × Nat) : Prop := (q.1.cls ≠ "java/lang/invoke/MethodHandle" ∧ q.1.cls ≠ "java/lang/invoke/VarHandle") ∧ Cond.instantiable q.1.cls q.2 ∈ tables_1 ∧ Cond.privateMethod q.1 ∈ tables_1 ∧ Cond.instanceMethod q.1 ∈ tables_1
theorem lw_p0 : lw_okq (⟨"SermonScale$Parish", "beginAsAtFirst", "()V"⟩, 9) := ⟨⟨by decide +kernel, by decide +kernel⟩, List.mem_of_getElem? (i := 66) (by decide +kernel), List.mem_of_getElem? (i := 72) (by decide +kernel), List.mem_of_getElem? (i := 73) (by decide +kernel)⟩
theorem lw_p1 : lw_okq (⟨"SermonScale$Text", "readClause", "(I)Z"⟩, 10) := ⟨⟨by decide +kernel, by decide +kernel⟩, List.mem_of_getElem? (i := 23) (by decide +kernel), List.mem_of_getElem? (i := 247) (by decide +kernel), List.mem_of_getElem? (i := 248) (by decide +kernel)⟩
theorem lw_p2 : lw_okq (⟨"SermonScale$Text", "nextToken", "()V"⟩, 10) := ⟨⟨by decide +kernel, by decide +kernel⟩, List.mem_of_getElem? (i := 23) (by decide +kernel), List.mem_of_getElem? (i := 251) (by decide +kernel), List.mem_of_getElem? (i := 252) (by decide +kernel)⟩
theorem lw_p3 : lw_okq (⟨"SermonScale$Text", "endOfRow", "(III)I"⟩, 10) := ⟨⟨by decide +kernel, by decide +kernel⟩, List.mem_of_getElem? (i := 23) (by decide +kernel), List.mem_of_getElem? (i := 255) (by decide +kernel), List.mem_of_getElem? (i := 256) (by decide +kernel)⟩
theorem lw_p4 : lw_okq (⟨"SermonScale$Text", "tokenWord", "()I"⟩, 10) := ⟨⟨by decide +kernel, by decide +kernel⟩, List.mem_of_getElem? (i := 23) (by decide +kernel), List.mem_of_getElem? (i := 260) (by decide +kernel), List.mem_of_getElem? (i := 261) (by decide +kernel)⟩
theorem lw_p5 : lw_okq (⟨"SermonScale$Text", "tokenIs", "(Ljava/lang/String;)Z"⟩, 10) := ⟨⟨by decide +kernel, by decide +kernel⟩, List.mem_of_getElem? (i := 23) (by decide +kernel), List.mem_of_getElem? (i := 276) (by decide +kernel), List.mem_of_getElem? (i := 277) (by decide +kernel)⟩
theorem lw_p6 : lw_okq (⟨"SermonScale$Text", "countPartsAndSouls", "(I)V"⟩, 10) := ⟨⟨by decide +kernel, by decide +kernel⟩, List.mem_of_getElem? (i := 23) (by decide +kernel), List.mem_of_getElem? (i := 328) (by decide +kernel), List.mem_of_getElem? (i := 329) (by decide +kernel)⟩
theorem lw_p7 : lw_okq (⟨"SermonScale$Text", "tokenNumber", "()I"⟩, 10) := ⟨⟨by decide +kernel, by decide +kernel⟩, List.mem_of_getElem? (i := 23) (by decide +kernel), List.mem_of_getElem? (i := 335) (by decide +kernel), List.mem_of_getElem? (i := 336) (by decide +kernel)⟩
theorem lw_p8 : lw_okq (⟨"SermonScale$Parish", "addPart", "(III)V"⟩, 9) := ⟨⟨by decide +kernel, by decide +kernel⟩, List.mem_of_getElem? (i := 66) (by decide +kernel), List.mem_of_getElem? (i := 351) (by decide +kernel), List.mem_of_getElem? (i := 352) (by decide +kernel)⟩
theorem lw_p9 : lw_okq (⟨"SermonScale$Parish", "addSoul", "(I)V"⟩, 9) := ⟨⟨by decide +kernel, by decide +kernel⟩, List.mem_of_getElem? (i := 66) (by decide +kernel), List.mem_of_getElem? (i := 355) (by decide +kernel), List.mem_of_getElem? (i := 356) (by decide +kernel)⟩
theorem lw_p10 : lw_okq (⟨"SermonScale", "beginAnew", "()V"⟩, 9) := ⟨⟨by decide +kernel, by decide +kernel⟩, List.mem_of_getElem? (i := 15) (by decide +kernel), List.mem_of_getElem? (i := 359) (by decide +kernel), List.mem_of_getElem? (i := 360) (by decide +kernel)⟩
theorem lw_p11 : lw_okq (⟨"SermonScale", "isPart", "(I)Z"⟩, 9) := ⟨⟨by decide +kernel, by decide +kernel⟩, List.mem_of_getElem? (i := 15) (by decide +kernel), List.mem_of_getElem? (i := 378) (by decide +kernel), List.mem_of_getElem? (i := 379) (by decide +kernel)⟩
theorem lw_p12 : lw_okq (⟨"SermonScale", "isSoul", "(I)Z"⟩, 9) := ⟨⟨by decide +kernel, by decide +kernel⟩, List.mem_of_getElem? (i := 15) (by decide +kernel), List.mem_of_getElem? (i := 392) (by decide +kernel), List.mem_of_getElem? (i := 393) (by decide +kernel)⟩
theorem lw_p13 : lw_okq (⟨"SermonScale", "hangsLevelNow", "()Z"⟩, 9) := ⟨⟨by decide +kernel, by decide +kernel⟩, List.mem_of_getElem? (i := 15) (by decide +kernel), List.mem_of_getElem? (i := 407) (by decide +kernel), List.mem_of_getElem? (i := 408) (by decide +kernel)⟩
theorem lw_p14 : lw_okq (⟨"SermonScale", "sermonOf", "(I)I"⟩, 9) := ⟨⟨by decide +kernel, by decide +kernel⟩, List.mem_of_getElem? (i := 15) (by decide +kernel), List.mem_of_getElem? (i := 411) (by decide +kernel), List.mem_of_getElem? (i := 412) (by decide +kernel)⟩
theorem lw_p15 : lw_okq (⟨"SermonScale", "leadNow", "()I"⟩, 9) := ⟨⟨by decide +kernel, by decide +kernel⟩, List.mem_of_getElem? (i := 15) (by decide +kernel), List.mem_of_getElem? (i := 421) (by decide +kernel), List.mem_of_getElem? (i := 422) (by decide +kernel)⟩
def lw_privs_1 : List (MethodName × Nat) := [(⟨"SermonScale$Parish", "beginAsAtFirst", "()V"⟩, 9), (⟨"SermonScale$Text", "readClause", "(I)Z"⟩, 10), (⟨"SermonScale$Text", "nextToken", "()V"⟩, 10), (⟨"SermonScale$Text", "endOfRow", "(III)I"⟩, 10), (⟨"SermonScale$Text", "tokenWord", "()I"⟩, 10), (⟨"SermonScale$Text", "tokenIs", "(Ljava/lang/String;)Z"⟩, 10), (⟨"SermonScale$Text", "countPartsAndSouls", "(I)V"⟩, 10), (⟨"SermonScale$Text", "tokenNumber", "()I"⟩, 10), (⟨"SermonScale$Parish", "addPart", "(III)V"⟩, 9), (⟨"SermonScale$Parish", "addSoul", "(I)V"⟩, 9), (⟨"SermonScale", "beginAnew", "()V"⟩, 9), (⟨"SermonScale", "isPart", "(I)Z"⟩, 9), (⟨"SermonScale", "isSoul", "(I)Z"⟩, 9), (⟨"SermonScale", "hangsLevelNow", "()Z"⟩, 9), (⟨"SermonScale", "sermonOf", "(I)I"⟩, 9), (⟨"SermonScale", "leadNow", "()I"⟩, 9)]
theorem lw_r1 : ∀ q ∈ lw_privs_1, lw_okq q := List.forall_mem_cons.mpr ⟨lw_p0, List.forall_mem_cons.mpr ⟨lw_p1, List.forall_mem_cons.mpr ⟨lw_p2, List.forall_mem_cons.mpr ⟨lw_p3, List.forall_mem_cons.mpr ⟨lw_p4, List.forall_mem_cons.mpr ⟨lw_p5, List.forall_mem_cons.mpr ⟨lw_p6, List.forall_mem_cons.mpr ⟨lw_p7, List.forall_mem_cons.mpr ⟨lw_p8, List.forall_mem_cons.mpr ⟨lw_p9, List.forall_mem_cons.mpr ⟨lw_p10, List.forall_mem_cons.mpr ⟨lw_p11, List.forall_mem_cons.mpr ⟨lw_p12, List.forall_mem_cons.mpr ⟨lw_p13, List.forall_mem_cons.mpr ⟨lw_p14, List.forall_mem_cons.mpr ⟨lw_p15, fun _ h => absurd h List.not_mem_nil⟩⟩⟩⟩⟩⟩⟩⟩⟩⟩⟩⟩⟩⟩⟩⟩
theorem lw_p16 : lw_okq (⟨"SermonScale", "leadWithout", "(I)I"⟩, 9) := ⟨⟨by decide +kernel, by decide +kernel⟩, List.mem_of_getElem? (i := 15) (by decide +kernel), List.mem_of_getElem? (i := 425) (by decide +kernel), List.mem_of_getElem? (i := 426) (by decide +kernel)⟩
theorem lw_p17 : lw_okq (⟨"SermonScale", "hangsLevel", "(II)Z"⟩, 9) := ⟨⟨by decide +kernel, by decide +kernel⟩, List.mem_of_getElem? (i := 15) (by decide +kernel), List.mem_of_getElem? (i := 432) (by decide +kernel), List.mem_of_getElem? (i := 433) (by decide +kernel)⟩
theorem lw_p18 : lw_okq (⟨"SermonScale", "rememberWeek", "()V"⟩, 9) := ⟨⟨by decide +kernel, by decide +kernel⟩, List.mem_of_getElem? (i := 15) (by decide +kernel), List.mem_of_getElem? (i := 439) (by decide +kernel), List.mem_of_getElem? (i := 440) (by decide +kernel)⟩
theorem lw_p19 : lw_okq (⟨"SermonScale", "soonestSet", "()I"⟩, 9) := ⟨⟨by decide +kernel, by decide +kernel⟩, List.mem_of_getElem? (i := 15) (by decide +kernel), List.mem_of_getElem? (i := 490) (by decide +kernel), List.mem_of_getElem? (i := 491) (by decide +kernel)⟩
theorem lw_p20 : lw_okq (⟨"SermonScale", "levels", "(II)Z"⟩, 9) := ⟨⟨by decide +kernel, by decide +kernel⟩, List.mem_of_getElem? (i := 15) (by decide +kernel), List.mem_of_getElem? (i := 494) (by decide +kernel), List.mem_of_getElem? (i := 495) (by decide +kernel)⟩
theorem lw_p21 : lw_okq (⟨"SermonScale", "isSooner", "(II)Z"⟩, 9) := ⟨⟨by decide +kernel, by decide +kernel⟩, List.mem_of_getElem? (i := 15) (by decide +kernel), List.mem_of_getElem? (i := 498) (by decide +kernel), List.mem_of_getElem? (i := 499) (by decide +kernel)⟩
theorem lw_p22 : lw_okq (⟨"SermonScale", "isSet", "(I)Z"⟩, 9) := ⟨⟨by decide +kernel, by decide +kernel⟩, List.mem_of_getElem? (i := 15) (by decide +kernel), List.mem_of_getElem? (i := 520) (by decide +kernel), List.mem_of_getElem? (i := 521) (by decide +kernel)⟩
theorem lw_p23 : lw_okq (⟨"SermonScale", "fitsAllSeen", "(II)Z"⟩, 9) := ⟨⟨by decide +kernel, by decide +kernel⟩, List.mem_of_getElem? (i := 15) (by decide +kernel), List.mem_of_getElem? (i := 544) (by decide +kernel), List.mem_of_getElem? (i := 545) (by decide +kernel)⟩
theorem lw_p24 : lw_okq (⟨"SermonScale", "fitsAllHeard", "(I)Z"⟩, 9) := ⟨⟨by decide +kernel, by decide +kernel⟩, List.mem_of_getElem? (i := 15) (by decide +kernel), List.mem_of_getElem? (i := 552) (by decide +kernel), List.mem_of_getElem? (i := 553) (by decide +kernel)⟩
theorem lw_p25 : lw_okq (⟨"SermonScale", "waysOfConfessing", "(II)I"⟩, 9) := ⟨⟨by decide +kernel, by decide +kernel⟩, List.mem_of_getElem? (i := 15) (by decide +kernel), List.mem_of_getElem? (i := 560) (by decide +kernel), List.mem_of_getElem? (i := 561) (by decide +kernel)⟩
theorem lw_p26 : lw_okq (⟨"SermonScaleModel", "forgets", "()V"⟩, 17) := ⟨⟨by decide +kernel, by decide +kernel⟩, List.mem_of_getElem? (i := 571) (by decide +kernel), List.mem_of_getElem? (i := 577) (by decide +kernel), List.mem_of_getElem? (i := 578) (by decide +kernel)⟩
theorem lw_p27 : lw_okq (⟨"SermonScaleModel", "lays", "()V"⟩, 17) := ⟨⟨by decide +kernel, by decide +kernel⟩, List.mem_of_getElem? (i := 571) (by decide +kernel), List.mem_of_getElem? (i := 581) (by decide +kernel), List.mem_of_getElem? (i := 582) (by decide +kernel)⟩
theorem lw_p28 : lw_okq (⟨"SermonScaleModel", "reads", "()I"⟩, 17) := ⟨⟨by decide +kernel, by decide +kernel⟩, List.mem_of_getElem? (i := 571) (by decide +kernel), List.mem_of_getElem? (i := 652) (by decide +kernel), List.mem_of_getElem? (i := 653) (by decide +kernel)⟩
theorem lw_p29 : lw_okq (⟨"SermonScaleModel", "token", "()V"⟩, 17) := ⟨⟨by decide +kernel, by decide +kernel⟩, List.mem_of_getElem? (i := 571) (by decide +kernel), List.mem_of_getElem? (i := 656) (by decide +kernel), List.mem_of_getElem? (i := 657) (by decide +kernel)⟩
theorem lw_p30 : lw_okq (⟨"SermonScaleModel", "letterAt", "(I)I"⟩, 17) := ⟨⟨by decide +kernel, by decide +kernel⟩, List.mem_of_getElem? (i := 571) (by decide +kernel), List.mem_of_getElem? (i := 660) (by decide +kernel), List.mem_of_getElem? (i := 661) (by decide +kernel)⟩
theorem lw_p31 : lw_okq (⟨"SermonScaleModel", "readsClause", "()Z"⟩, 17) := ⟨⟨by decide +kernel, by decide +kernel⟩, List.mem_of_getElem? (i := 571) (by decide +kernel), List.mem_of_getElem? (i := 670) (by decide +kernel), List.mem_of_getElem? (i := 671) (by decide +kernel)⟩
def lw_privs_2 : List (MethodName × Nat) := [(⟨"SermonScale", "leadWithout", "(I)I"⟩, 9), (⟨"SermonScale", "hangsLevel", "(II)Z"⟩, 9), (⟨"SermonScale", "rememberWeek", "()V"⟩, 9), (⟨"SermonScale", "soonestSet", "()I"⟩, 9), (⟨"SermonScale", "levels", "(II)Z"⟩, 9), (⟨"SermonScale", "isSooner", "(II)Z"⟩, 9), (⟨"SermonScale", "isSet", "(I)Z"⟩, 9), (⟨"SermonScale", "fitsAllSeen", "(II)Z"⟩, 9), (⟨"SermonScale", "fitsAllHeard", "(I)Z"⟩, 9), (⟨"SermonScale", "waysOfConfessing", "(II)I"⟩, 9), (⟨"SermonScaleModel", "forgets", "()V"⟩, 17), (⟨"SermonScaleModel", "lays", "()V"⟩, 17), (⟨"SermonScaleModel", "reads", "()I"⟩, 17), (⟨"SermonScaleModel", "token", "()V"⟩, 17), (⟨"SermonScaleModel", "letterAt", "(I)I"⟩, 17), (⟨"SermonScaleModel", "readsClause", "()Z"⟩, 17)]
theorem lw_r2 : ∀ q ∈ lw_privs_2, lw_okq q := List.forall_mem_cons.mpr ⟨lw_p16, List.forall_mem_cons.mpr ⟨lw_p17, List.forall_mem_cons.mpr ⟨lw_p18, List.forall_mem_cons.mpr ⟨lw_p19, List.forall_mem_cons.mpr ⟨lw_p20, List.forall_mem_cons.mpr ⟨lw_p21, List.forall_mem_cons.mpr ⟨lw_p22, List.forall_mem_cons.mpr ⟨lw_p23, List.forall_mem_cons.mpr ⟨lw_p24, List.forall_mem_cons.mpr ⟨lw_p25, List.forall_mem_cons.mpr ⟨lw_p26, List.forall_mem_cons.mpr ⟨lw_p27, List.forall_mem_cons.mpr ⟨lw_p28, List.forall_mem_cons.mpr ⟨lw_p29, List.forall_mem_cons.mpr ⟨lw_p30, List.forall_mem_cons.mpr ⟨lw_p31, fun _ h => absurd h List.not_mem_nil⟩⟩⟩⟩⟩⟩⟩⟩⟩⟩⟩⟩⟩⟩⟩⟩
theorem lw_p32 : lw_okq (⟨"SermonScaleModel", "isWord", "(IIIII)Z"⟩, 17) := ⟨⟨by decide +kernel, by decide +kernel⟩, List.mem_of_getElem? (i := 571) (by decide +kernel), List.mem_of_getElem? (i := 674) (by decide +kernel), List.mem_of_getElem? (i := 675) (by decide +kernel)⟩
theorem lw_p33 : lw_okq (⟨"SermonScaleModel", "readsPart", "(I)Z"⟩, 17) := ⟨⟨by decide +kernel, by decide +kernel⟩, List.mem_of_getElem? (i := 571) (by decide +kernel), List.mem_of_getElem? (i := 678) (by decide +kernel), List.mem_of_getElem? (i := 679) (by decide +kernel)⟩
theorem lw_p34 : lw_okq (⟨"SermonScaleModel", "number", "(III)Z"⟩, 17) := ⟨⟨by decide +kernel, by decide +kernel⟩, List.mem_of_getElem? (i := 571) (by decide +kernel), List.mem_of_getElem? (i := 682) (by decide +kernel), List.mem_of_getElem? (i := 683) (by decide +kernel)⟩
theorem lw_p35 : lw_okq (⟨"SermonScaleModel", "readsSoul", "()Z"⟩, 17) := ⟨⟨by decide +kernel, by decide +kernel⟩, List.mem_of_getElem? (i := 571) (by decide +kernel), List.mem_of_getElem? (i := 686) (by decide +kernel), List.mem_of_getElem? (i := 687) (by decide +kernel)⟩
theorem lw_p36 : lw_okq (⟨"SermonScaleModel", "isPart", "(I)Z"⟩, 17) := ⟨⟨by decide +kernel, by decide +kernel⟩, List.mem_of_getElem? (i := 571) (by decide +kernel), List.mem_of_getElem? (i := 698) (by decide +kernel), List.mem_of_getElem? (i := 699) (by decide +kernel)⟩
theorem lw_p37 : lw_okq (⟨"SermonScaleModel", "ounces", "(II)I"⟩, 17) := ⟨⟨by decide +kernel, by decide +kernel⟩, List.mem_of_getElem? (i := 571) (by decide +kernel), List.mem_of_getElem? (i := 702) (by decide +kernel), List.mem_of_getElem? (i := 703) (by decide +kernel)⟩
theorem lw_p38 : lw_okq (⟨"SermonScaleModel", "isLevel", "()Z"⟩, 17) := ⟨⟨by decide +kernel, by decide +kernel⟩, List.mem_of_getElem? (i := 571) (by decide +kernel), List.mem_of_getElem? (i := 721) (by decide +kernel), List.mem_of_getElem? (i := 722) (by decide +kernel)⟩
theorem lw_p39 : lw_okq (⟨"SermonScaleModel", "sermon", "()I"⟩, 17) := ⟨⟨by decide +kernel, by decide +kernel⟩, List.mem_of_getElem? (i := 571) (by decide +kernel), List.mem_of_getElem? (i := 725) (by decide +kernel), List.mem_of_getElem? (i := 726) (by decide +kernel)⟩
theorem lw_p40 : lw_okq (⟨"SermonScaleModel", "ouncesOf", "(II)I"⟩, 17) := ⟨⟨by decide +kernel, by decide +kernel⟩, List.mem_of_getElem? (i := 571) (by decide +kernel), List.mem_of_getElem? (i := 729) (by decide +kernel), List.mem_of_getElem? (i := 730) (by decide +kernel)⟩
theorem lw_p41 : lw_okq (⟨"SermonScaleModel", "lead", "()I"⟩, 17) := ⟨⟨by decide +kernel, by decide +kernel⟩, List.mem_of_getElem? (i := 571) (by decide +kernel), List.mem_of_getElem? (i := 733) (by decide +kernel), List.mem_of_getElem? (i := 734) (by decide +kernel)⟩
theorem lw_p42 : lw_okq (⟨"SermonScaleModel", "hangs", "(II)Z"⟩, 17) := ⟨⟨by decide +kernel, by decide +kernel⟩, List.mem_of_getElem? (i := 571) (by decide +kernel), List.mem_of_getElem? (i := 737) (by decide +kernel), List.mem_of_getElem? (i := 738) (by decide +kernel)⟩
theorem lw_p43 : lw_okq (⟨"SermonScaleModel", "keeps", "()V"⟩, 17) := ⟨⟨by decide +kernel, by decide +kernel⟩, List.mem_of_getElem? (i := 571) (by decide +kernel), List.mem_of_getElem? (i := 741) (by decide +kernel), List.mem_of_getElem? (i := 742) (by decide +kernel)⟩
theorem lw_p44 : lw_okq (⟨"SermonScaleModel", "would", "(II)Z"⟩, 17) := ⟨⟨by decide +kernel, by decide +kernel⟩, List.mem_of_getElem? (i := 571) (by decide +kernel), List.mem_of_getElem? (i := 781) (by decide +kernel), List.mem_of_getElem? (i := 782) (by decide +kernel)⟩
theorem lw_p45 : lw_okq (⟨"SermonScaleModel", "minutesOf", "(I)I"⟩, 17) := ⟨⟨by decide +kernel, by decide +kernel⟩, List.mem_of_getElem? (i := 571) (by decide +kernel), List.mem_of_getElem? (i := 785) (by decide +kernel), List.mem_of_getElem? (i := 786) (by decide +kernel)⟩
theorem lw_p46 : lw_okq (⟨"SermonScaleModel", "isSet", "(I)Z"⟩, 17) := ⟨⟨by decide +kernel, by decide +kernel⟩, List.mem_of_getElem? (i := 571) (by decide +kernel), List.mem_of_getElem? (i := 800) (by decide +kernel), List.mem_of_getElem? (i := 801) (by decide +kernel)⟩
def lw_privs_3 : List (MethodName × Nat) := [(⟨"SermonScaleModel", "isWord", "(IIIII)Z"⟩, 17), (⟨"SermonScaleModel", "readsPart", "(I)Z"⟩, 17), (⟨"SermonScaleModel", "number", "(III)Z"⟩, 17), (⟨"SermonScaleModel", "readsSoul", "()Z"⟩, 17), (⟨"SermonScaleModel", "isPart", "(I)Z"⟩, 17), (⟨"SermonScaleModel", "ounces", "(II)I"⟩, 17), (⟨"SermonScaleModel", "isLevel", "()Z"⟩, 17), (⟨"SermonScaleModel", "sermon", "()I"⟩, 17), (⟨"SermonScaleModel", "ouncesOf", "(II)I"⟩, 17), (⟨"SermonScaleModel", "lead", "()I"⟩, 17), (⟨"SermonScaleModel", "hangs", "(II)Z"⟩, 17), (⟨"SermonScaleModel", "keeps", "()V"⟩, 17), (⟨"SermonScaleModel", "would", "(II)Z"⟩, 17), (⟨"SermonScaleModel", "minutesOf", "(I)I"⟩, 17), (⟨"SermonScaleModel", "isSet", "(I)Z"⟩, 17)]
theorem lw_r3 : ∀ q ∈ lw_privs_3, lw_okq q := List.forall_mem_cons.mpr ⟨lw_p32, List.forall_mem_cons.mpr ⟨lw_p33, List.forall_mem_cons.mpr ⟨lw_p34, List.forall_mem_cons.mpr ⟨lw_p35, List.forall_mem_cons.mpr ⟨lw_p36, List.forall_mem_cons.mpr ⟨lw_p37, List.forall_mem_cons.mpr ⟨lw_p38, List.forall_mem_cons.mpr ⟨lw_p39, List.forall_mem_cons.mpr ⟨lw_p40, List.forall_mem_cons.mpr ⟨lw_p41, List.forall_mem_cons.mpr ⟨lw_p42, List.forall_mem_cons.mpr ⟨lw_p43, List.forall_mem_cons.mpr ⟨lw_p44, List.forall_mem_cons.mpr ⟨lw_p45, List.forall_mem_cons.mpr ⟨lw_p46, fun _ h => absurd h List.not_mem_nil⟩⟩⟩⟩⟩⟩⟩⟩⟩⟩⟩⟩⟩⟩⟩
def lw_privs : List (MethodName × Nat) := lw_privs_1 ++ (lw_privs_2 ++ (lw_privs_3))
def lw_tbl : List Cond := k2_sels lw_privs ++ tables_1
theorem lw_privs_ok : ∀ q ∈ lw_privs, lw_okq q := by
  show ∀ q ∈ lw_privs_1 ++ (lw_privs_2 ++ (lw_privs_3)), lw_okq q
  exact List.forall_mem_append.mpr ⟨lw_r1, List.forall_mem_append.mpr ⟨lw_r2, lw_r3⟩⟩

def RX0 : String := "SermonScale$Notes"
def TX0 : u_T := fun k => match k with
  | 0 => ("SermonScale$Notes", "seenParts", "[I", true)
  | 1 => ("SermonScale$Notes", "seenWet", "[I", true)
  | 2 => ("SermonScale$Notes", "seenOunces", "[I", true)
  | 3 => ("SermonScale$Notes", "heardParts", "[I", true)
  | 4 => ("SermonScale$Notes", "heardLead", "[I", true)
  | 5 => ("SermonScale$Notes", "heardWet", "[I", true)
  | 6 => ("SermonScale$Notes", "heardLevel", "[Z", true)
  | 7 => ("SermonScale$Notes", "seenMany", "I", false)
  | _ => ("SermonScale$Notes", "heardMany", "I", false)
def tyX0 : Nat → FieldType := fun k => match k with
  | 0 => .array .int
  | 1 => .array .int
  | 2 => .array .int
  | 3 => .array .int
  | 4 => .array .int
  | 5 => .array .int
  | 6 => .array .boolean
  | 7 => .int
  | _ => .int
abbrev wsX00 : List Cond := u_ws RX0 TX0 9
theorem nmX0 : ∀ a, a < 9 → ∀ b, b < 9 → a ≠ b → (TX0 a).2.1 ≠ (TX0 b).2.1 := by decide +kernel
theorem tyX0_ok : ∀ k, k < 9 → parseFieldDescriptor (TX0 k).2.2.1 = some (tyX0 k) := by decide +kernel
abbrev cX0_init : ByteArray := prog_2_method_1_code
def yX0_init : MethodName := ⟨RX0, "<init>", "()V"⟩
abbrev cX0_addSeen : ByteArray := prog_2_method_2_code
def yX0_addSeen : MethodName := ⟨RX0, "addSeen", "(III)Z"⟩
abbrev cX0_addHeard : ByteArray := prog_2_method_3_code
def yX0_addHeard : MethodName := ⟨RX0, "addHeard", "(IIZI)Z"⟩
abbrev cX0_clear : ByteArray := prog_2_method_4_code
def yX0_clear : MethodName := ⟨RX0, "clear", "()V"⟩
def RX1 : String := "SermonScale$Parish"
def TX1 : u_T := fun k => match k with
  | 0 => ("SermonScale$Parish", "kind", "[I", true)
  | 1 => ("SermonScale$Parish", "weight", "[I", true)
  | 2 => ("SermonScale$Parish", "minutes", "[I", true)
  | 3 => ("SermonScale$Parish", "toldSins", "[I", true)
  | 4 => ("SermonScale$Parish", "parts", "I", false)
  | 5 => ("SermonScale$Parish", "souls", "I", false)
  | 6 => ("SermonScale$Parish", "thumb", "I", false)
  | 7 => ("SermonScale$Parish", "beam", "I", false)
  | _ => ("SermonScale$Parish", "toldWet", "I", false)
def tyX1 : Nat → FieldType := fun k => match k with
  | 0 => .array .int
  | 1 => .array .int
  | 2 => .array .int
  | 3 => .array .int
  | 4 => .int
  | 5 => .int
  | 6 => .int
  | 7 => .int
  | _ => .int
abbrev wsX10 : List Cond := u_ws RX1 TX1 9
theorem nmX1 : ∀ a, a < 9 → ∀ b, b < 9 → a ≠ b → (TX1 a).2.1 ≠ (TX1 b).2.1 := by decide +kernel
theorem tyX1_ok : ∀ k, k < 9 → parseFieldDescriptor (TX1 k).2.2.1 = some (tyX1 k) := by decide +kernel
abbrev cX1_init : ByteArray := prog_3_method_1_code
def yX1_init : MethodName := ⟨RX1, "<init>", "()V"⟩
abbrev cX1_beginAsAtFirst : ByteArray := prog_3_method_2_code
def yX1_beginAsAtFirst : MethodName := ⟨RX1, "beginAsAtFirst", "()V"⟩
abbrev cX1_tell : ByteArray := prog_3_method_3_code
def yX1_tell : MethodName := ⟨RX1, "tell", "(III)V"⟩
abbrev cX1_addPart : ByteArray := prog_3_method_4_code
def yX1_addPart : MethodName := ⟨RX1, "addPart", "(III)V"⟩
abbrev cX1_addSoul : ByteArray := prog_3_method_5_code
def yX1_addSoul : MethodName := ⟨RX1, "addSoul", "(I)V"⟩
abbrev cX1_ouncesOfSet : ByteArray := prog_3_method_6_code
def yX1_ouncesOfSet : MethodName := ⟨RX1, "ouncesOfSet", "(II)I"⟩
abbrev cX1_minutesOf : ByteArray := prog_3_method_7_code
def yX1_minutesOf : MethodName := ⟨RX1, "minutesOf", "(I)I"⟩
def RX2 : String := "SermonScale$Text"
def TX2 : u_T := fun k => match k with
  | 0 => ("SermonScale$Text", "letters", "[I", true)
  | 1 => ("SermonScale$Text", "word", "[I", true)
  | 2 => ("SermonScale$Text", "first", "[I", true)
  | 3 => ("SermonScale$Text", "second", "[I", true)
  | 4 => ("SermonScale$Text", "length", "I", false)
  | 5 => ("SermonScale$Text", "clauses", "I", false)
  | 6 => ("SermonScale$Text", "tokenStart", "I", false)
  | 7 => ("SermonScale$Text", "tokenEnd", "I", false)
  | 8 => ("SermonScale$Text", "partsThen", "I", false)
  | _ => ("SermonScale$Text", "soulsThen", "I", false)
def tyX2 : Nat → FieldType := fun k => match k with
  | 0 => .array .int
  | 1 => .array .int
  | 2 => .array .int
  | 3 => .array .int
  | 4 => .int
  | 5 => .int
  | 6 => .int
  | 7 => .int
  | 8 => .int
  | _ => .int
abbrev wsX20 : List Cond := u_ws RX2 TX2 10
theorem nmX2 : ∀ a, a < 10 → ∀ b, b < 10 → a ≠ b → (TX2 a).2.1 ≠ (TX2 b).2.1 := by decide +kernel
theorem tyX2_ok : ∀ k, k < 10 → parseFieldDescriptor (TX2 k).2.2.1 = some (tyX2 k) := by decide +kernel
abbrev cX2_init : ByteArray := prog_4_method_1_code
def yX2_init : MethodName := ⟨RX2, "<init>", "()V"⟩
abbrev cX2_add : ByteArray := prog_4_method_2_code
def yX2_add : MethodName := ⟨RX2, "add", "(I)Z"⟩
abbrev cX2_firstFault : ByteArray := prog_4_method_3_code
def yX2_firstFault : MethodName := ⟨RX2, "firstFault", "(II)I"⟩
abbrev cX2_readClause : ByteArray := prog_4_method_4_code
def yX2_readClause : MethodName := ⟨RX2, "readClause", "(I)Z"⟩
abbrev cX2_countPartsAndSouls : ByteArray := prog_4_method_5_code
def yX2_countPartsAndSouls : MethodName := ⟨RX2, "countPartsAndSouls", "(I)V"⟩
abbrev cX2_isOfPart : ByteArray := prog_4_method_6_code
def yX2_isOfPart : MethodName := ⟨RX2, "isOfPart", "(I)Z"⟩
abbrev cX2_mostFirst : ByteArray := prog_4_method_7_code
def yX2_mostFirst : MethodName := ⟨RX2, "mostFirst", "(I)I"⟩
abbrev cX2_nextToken : ByteArray := prog_4_method_8_code
def yX2_nextToken : MethodName := ⟨RX2, "nextToken", "()V"⟩
abbrev cX2_endOfRow : ByteArray := prog_4_method_9_code
def yX2_endOfRow : MethodName := ⟨RX2, "endOfRow", "(III)I"⟩
abbrev cX2_tokenNumber : ByteArray := prog_4_method_10_code
def yX2_tokenNumber : MethodName := ⟨RX2, "tokenNumber", "()I"⟩
abbrev cX2_tokenWord : ByteArray := prog_4_method_11_code
def yX2_tokenWord : MethodName := ⟨RX2, "tokenWord", "()I"⟩
abbrev cX2_tokenIs : ByteArray := prog_4_method_12_code
def yX2_tokenIs : MethodName := ⟨RX2, "tokenIs", "(Ljava/lang/String;)Z"⟩
abbrev cX2_nameOf : ByteArray := prog_4_method_13_code
def yX2_nameOf : MethodName := ⟨RX2, "nameOf", "(I)Ljava/lang/String;"⟩
def RX3 : String := "SermonScale$Week"
def TX3 : u_T := fun k => match k with
  | 0 => ("SermonScale$Week", "sins", "[I", true)
  | 1 => ("SermonScale$Week", "preached", "I", false)
  | 2 => ("SermonScale$Week", "paid", "I", false)
  | 3 => ("SermonScale$Week", "wet", "I", false)
  | 4 => ("SermonScale$Week", "number", "I", false)
  | 5 => ("SermonScale$Week", "minutes", "I", false)
  | _ => ("SermonScale$Week", "levelSundays", "I", false)
def tyX3 : Nat → FieldType := fun k => match k with
  | 0 => .array .int
  | 1 => .int
  | 2 => .int
  | 3 => .int
  | 4 => .int
  | 5 => .int
  | _ => .int
abbrev wsX30 : List Cond := u_ws RX3 TX3 7
theorem nmX3 : ∀ a, a < 7 → ∀ b, b < 7 → a ≠ b → (TX3 a).2.1 ≠ (TX3 b).2.1 := by decide +kernel
theorem tyX3_ok : ∀ k, k < 7 → parseFieldDescriptor (TX3 k).2.2.1 = some (tyX3 k) := by decide +kernel
abbrev cX3_init : ByteArray := prog_5_method_1_code
def yX3_init : MethodName := ⟨RX3, "<init>", "()V"⟩
abbrev cX3_beginAsTold : ByteArray := prog_5_method_2_code
def yX3_beginAsTold : MethodName := ⟨RX3, "beginAsTold", "(LSermonScale$Parish;)V"⟩
abbrev cX3_end : ByteArray := prog_5_method_3_code
def yX3_end : MethodName := ⟨RX3, "end", "(Z)V"⟩
abbrev cX3_becomeLike : ByteArray := prog_5_method_4_code
def yX3_becomeLike : MethodName := ⟨RX3, "becomeLike", "(LSermonScale$Week;)V"⟩
def RX4 : String := "SermonScale"
def TX4 : u_T := fun k => match k with
  | 0 => ("SermonScale", "text", "LSermonScale$Text;", true)
  | 1 => ("SermonScale", "parish", "LSermonScale$Parish;", true)
  | 2 => ("SermonScale", "now", "LSermonScale$Week;", true)
  | 3 => ("SermonScale", "past", "[LSermonScale$Week;", true)
  | 4 => ("SermonScale", "kept", "[LSermonScale$Week;", true)
  | 5 => ("SermonScale", "isKept", "[Z", true)
  | 6 => ("SermonScale", "notes", "LSermonScale$Notes;", true)
  | 7 => ("SermonScale", "undoable", "I", false)
  | _ => ("SermonScale", "nextPast", "I", false)
def tyX4 : Nat → FieldType := fun k => match k with
  | 0 => .object "SermonScale$Text"
  | 1 => .object "SermonScale$Parish"
  | 2 => .object "SermonScale$Week"
  | 3 => .array (.object "SermonScale$Week")
  | 4 => .array (.object "SermonScale$Week")
  | 5 => .array .boolean
  | 6 => .object "SermonScale$Notes"
  | 7 => .int
  | _ => .int
abbrev wsX40 : List Cond := u_ws RX4 TX4 9
theorem nmX4 : ∀ a, a < 9 → ∀ b, b < 9 → a ≠ b → (TX4 a).2.1 ≠ (TX4 b).2.1 := by decide +kernel
theorem tyX4_ok : ∀ k, k < 9 → parseFieldDescriptor (TX4 k).2.2.1 = some (tyX4 k) := by decide +kernel
abbrev cX4_init : ByteArray := prog_1_method_1_code
def yX4_init : MethodName := ⟨RX4, "<init>", "()V"⟩
abbrev cX4_newWeeks : ByteArray := prog_1_method_2_code
def yX4_newWeeks : MethodName := ⟨RX4, "newWeeks", "(I)[LSermonScale$Week;"⟩
abbrev cX4_write : ByteArray := prog_1_method_3_code
def yX4_write : MethodName := ⟨RX4, "write", "(I)I"⟩
abbrev cX4_erase : ByteArray := prog_1_method_4_code
def yX4_erase : MethodName := ⟨RX4, "erase", "()I"⟩
abbrev cX4_fault : ByteArray := prog_1_method_5_code
def yX4_fault : MethodName := ⟨RX4, "fault", "()I"⟩
abbrev cX4_kirk : ByteArray := prog_1_method_6_code
def yX4_kirk : MethodName := ⟨RX4, "kirk", "()I"⟩
abbrev cX4_beginAnew : ByteArray := prog_1_method_7_code
def yX4_beginAnew : MethodName := ⟨RX4, "beginAnew", "()V"⟩
abbrev cX4_part : ByteArray := prog_1_method_8_code
def yX4_part : MethodName := ⟨RX4, "part", "(II)I"⟩
abbrev cX4_sins : ByteArray := prog_1_method_9_code
def yX4_sins : MethodName := ⟨RX4, "sins", "(I)I"⟩
abbrev cX4_as : ByteArray := prog_1_method_10_code
def yX4_as : MethodName := ⟨RX4, "as", "(II)I"⟩
abbrev cX4_isTakenAs : ByteArray := prog_1_method_11_code
def yX4_isTakenAs : MethodName := ⟨RX4, "isTakenAs", "(II)Z"⟩
abbrev cX4_preach : ByteArray := prog_1_method_12_code
def yX4_preach : MethodName := ⟨RX4, "preach", "(I)I"⟩
abbrev cX4_sin : ByteArray := prog_1_method_13_code
def yX4_sin : MethodName := ⟨RX4, "sin", "(II)I"⟩
abbrev cX4_ballast : ByteArray := prog_1_method_14_code
def yX4_ballast : MethodName := ⟨RX4, "ballast", "(I)I"⟩
abbrev cX4_rain : ByteArray := prog_1_method_15_code
def yX4_rain : MethodName := ⟨RX4, "rain", "(I)I"⟩
abbrev cX4_sunday : ByteArray := prog_1_method_16_code
def yX4_sunday : MethodName := ⟨RX4, "sunday", "()I"⟩
abbrev cX4_undo : ByteArray := prog_1_method_17_code
def yX4_undo : MethodName := ⟨RX4, "undo", "()I"⟩
abbrev cX4_rememberWeek : ByteArray := prog_1_method_18_code
def yX4_rememberWeek : MethodName := ⟨RX4, "rememberWeek", "()V"⟩
abbrev cX4_keep : ByteArray := prog_1_method_19_code
def yX4_keep : MethodName := ⟨RX4, "keep", "(I)I"⟩
abbrev cX4_back : ByteArray := prog_1_method_20_code
def yX4_back : MethodName := ⟨RX4, "back", "(I)I"⟩
abbrev cX4_stops : ByteArray := prog_1_method_21_code
def yX4_stops : MethodName := ⟨RX4, "stops", "()I"⟩
abbrev cX4_soonest : ByteArray := prog_1_method_22_code
def yX4_soonest : MethodName := ⟨RX4, "soonest", "(I)I"⟩
abbrev cX4_soonestSet : ByteArray := prog_1_method_23_code
def yX4_soonestSet : MethodName := ⟨RX4, "soonestSet", "()I"⟩
abbrev cX4_isSooner : ByteArray := prog_1_method_24_code
def yX4_isSooner : MethodName := ⟨RX4, "isSooner", "(II)Z"⟩
abbrev cX4_never : ByteArray := prog_1_method_25_code
def yX4_never : MethodName := ⟨RX4, "never", "(I)I"⟩
abbrev cX4_levels : ByteArray := prog_1_method_26_code
def yX4_levels : MethodName := ⟨RX4, "levels", "(II)Z"⟩
abbrev cX4_seen : ByteArray := prog_1_method_27_code
def yX4_seen : MethodName := ⟨RX4, "seen", "(III)I"⟩
abbrev cX4_heard : ByteArray := prog_1_method_28_code
def yX4_heard : MethodName := ⟨RX4, "heard", "(III)I"⟩
abbrev cX4_forget : ByteArray := prog_1_method_29_code
def yX4_forget : MethodName := ⟨RX4, "forget", "()I"⟩
abbrev cX4_weights : ByteArray := prog_1_method_30_code
def yX4_weights : MethodName := ⟨RX4, "weights", "(I)I"⟩
abbrev cX4_fitsAllSeen : ByteArray := prog_1_method_31_code
def yX4_fitsAllSeen : MethodName := ⟨RX4, "fitsAllSeen", "(II)Z"⟩
abbrev cX4_thumbs : ByteArray := prog_1_method_32_code
def yX4_thumbs : MethodName := ⟨RX4, "thumbs", "()I"⟩
abbrev cX4_fitsAllHeard : ByteArray := prog_1_method_33_code
def yX4_fitsAllHeard : MethodName := ⟨RX4, "fitsAllHeard", "(I)Z"⟩
abbrev cX4_confessed : ByteArray := prog_1_method_34_code
def yX4_confessed : MethodName := ⟨RX4, "confessed", "(II)I"⟩
abbrev cX4_waysOfConfessing : ByteArray := prog_1_method_35_code
def yX4_waysOfConfessing : MethodName := ⟨RX4, "waysOfConfessing", "(II)I"⟩
abbrev cX4_greatestDivisor : ByteArray := prog_1_method_36_code
def yX4_greatestDivisor : MethodName := ⟨RX4, "greatestDivisor", "(II)I"⟩
abbrev cX4_count : ByteArray := prog_1_method_37_code
def yX4_count : MethodName := ⟨RX4, "count", "(I)I"⟩
abbrev cX4_hangsLevelNow : ByteArray := prog_1_method_38_code
def yX4_hangsLevelNow : MethodName := ⟨RX4, "hangsLevelNow", "()Z"⟩
abbrev cX4_hangsLevel : ByteArray := prog_1_method_39_code
def yX4_hangsLevel : MethodName := ⟨RX4, "hangsLevel", "(II)Z"⟩
abbrev cX4_sermonOf : ByteArray := prog_1_method_40_code
def yX4_sermonOf : MethodName := ⟨RX4, "sermonOf", "(I)I"⟩
abbrev cX4_leadNow : ByteArray := prog_1_method_41_code
def yX4_leadNow : MethodName := ⟨RX4, "leadNow", "()I"⟩
abbrev cX4_leadWithout : ByteArray := prog_1_method_42_code
def yX4_leadWithout : MethodName := ⟨RX4, "leadWithout", "(I)I"⟩
abbrev cX4_ouncesOf : ByteArray := prog_1_method_43_code
def yX4_ouncesOf : MethodName := ⟨RX4, "ouncesOf", "(III)I"⟩
abbrev cX4_isPart : ByteArray := prog_1_method_44_code
def yX4_isPart : MethodName := ⟨RX4, "isPart", "(I)Z"⟩
abbrev cX4_isSoul : ByteArray := prog_1_method_45_code
def yX4_isSoul : MethodName := ⟨RX4, "isSoul", "(I)Z"⟩
abbrev cX4_isSet : ByteArray := prog_1_method_46_code
def yX4_isSet : MethodName := ⟨RX4, "isSet", "(I)Z"⟩
abbrev cX4_isIn : ByteArray := prog_1_method_47_code
def yX4_isIn : MethodName := ⟨RX4, "isIn", "(II)Z"⟩
abbrev cX4_isWithin : ByteArray := prog_1_method_48_code
def yX4_isWithin : MethodName := ⟨RX4, "isWithin", "(III)Z"⟩
def RX5 : String := "SermonScaleModel"
def TX5 : u_T := fun k => match k with
  | 0 => ("SermonScaleModel", "text", "[I", true)
  | 1 => ("SermonScaleModel", "typed", "I", false)
  | 2 => ("SermonScaleModel", "told", "[I", true)
  | 3 => ("SermonScaleModel", "draft", "[I", true)
  | 4 => ("SermonScaleModel", "s", "[I", true)
  | 5 => ("SermonScaleModel", "past", "[I", true)
  | 6 => ("SermonScaleModel", "known", "I", false)
  | 7 => ("SermonScaleModel", "images", "[I", true)
  | 8 => ("SermonScaleModel", "kept", "[Z", true)
  | 9 => ("SermonScaleModel", "notes", "[I", true)
  | 10 => ("SermonScaleModel", "noted", "I", false)
  | 11 => ("SermonScaleModel", "rumours", "[I", true)
  | 12 => ("SermonScaleModel", "many", "I", false)
  | 13 => ("SermonScaleModel", "at", "I", false)
  | 14 => ("SermonScaleModel", "sort", "I", false)
  | 15 => ("SermonScaleModel", "start", "I", false)
  | _ => ("SermonScaleModel", "value", "I", false)
def tyX5 : Nat → FieldType := fun k => match k with
  | 0 => .array .int
  | 1 => .int
  | 2 => .array .int
  | 3 => .array .int
  | 4 => .array .int
  | 5 => .array .int
  | 6 => .int
  | 7 => .array .int
  | 8 => .array .boolean
  | 9 => .array .int
  | 10 => .int
  | 11 => .array .int
  | 12 => .int
  | 13 => .int
  | 14 => .int
  | 15 => .int
  | _ => .int
abbrev wsX50 : List Cond := u_ws RX5 TX5 17
theorem nmX5 : ∀ a, a < 17 → ∀ b, b < 17 → a ≠ b → (TX5 a).2.1 ≠ (TX5 b).2.1 := by decide +kernel
theorem tyX5_ok : ∀ k, k < 17 → parseFieldDescriptor (TX5 k).2.2.1 = some (tyX5 k) := by decide +kernel
abbrev cX5_init : ByteArray := prog_7_method_1_code
def yX5_init : MethodName := ⟨RX5, "<init>", "()V"⟩
abbrev cX5_in : ByteArray := prog_7_method_3_code
def yX5_in : MethodName := ⟨RX5, "in", "(III)Z"⟩
abbrev cX5_isPart : ByteArray := prog_7_method_4_code
def yX5_isPart : MethodName := ⟨RX5, "isPart", "(I)Z"⟩
abbrev cX5_isSet : ByteArray := prog_7_method_5_code
def yX5_isSet : MethodName := ⟨RX5, "isSet", "(I)Z"⟩
abbrev cX5_write : ByteArray := prog_7_method_6_code
def yX5_write : MethodName := ⟨RX5, "write", "(I)I"⟩
abbrev cX5_erase : ByteArray := prog_7_method_7_code
def yX5_erase : MethodName := ⟨RX5, "erase", "()I"⟩
abbrev cX5_letterAt : ByteArray := prog_7_method_8_code
def yX5_letterAt : MethodName := ⟨RX5, "letterAt", "(I)I"⟩
abbrev cX5_isLetter : ByteArray := prog_7_method_9_code
def yX5_isLetter : MethodName := ⟨RX5, "isLetter", "(I)Z"⟩
abbrev cX5_isDigit : ByteArray := prog_7_method_10_code
def yX5_isDigit : MethodName := ⟨RX5, "isDigit", "(I)Z"⟩
abbrev cX5_token : ByteArray := prog_7_method_11_code
def yX5_token : MethodName := ⟨RX5, "token", "()V"⟩
abbrev cX5_isWord : ByteArray := prog_7_method_12_code
def yX5_isWord : MethodName := ⟨RX5, "isWord", "(IIIII)Z"⟩
abbrev cX5_number : ByteArray := prog_7_method_13_code
def yX5_number : MethodName := ⟨RX5, "number", "(III)Z"⟩
abbrev cX5_forgets : ByteArray := prog_7_method_14_code
def yX5_forgets : MethodName := ⟨RX5, "forgets", "()V"⟩
abbrev cX5_readsPart : ByteArray := prog_7_method_15_code
def yX5_readsPart : MethodName := ⟨RX5, "readsPart", "(I)Z"⟩
abbrev cX5_readsSoul : ByteArray := prog_7_method_16_code
def yX5_readsSoul : MethodName := ⟨RX5, "readsSoul", "()Z"⟩
abbrev cX5_readsClause : ByteArray := prog_7_method_17_code
def yX5_readsClause : MethodName := ⟨RX5, "readsClause", "()Z"⟩
abbrev cX5_reads : ByteArray := prog_7_method_18_code
def yX5_reads : MethodName := ⟨RX5, "reads", "()I"⟩
abbrev cX5_lays : ByteArray := prog_7_method_19_code
def yX5_lays : MethodName := ⟨RX5, "lays", "()V"⟩
abbrev cX5_fault : ByteArray := prog_7_method_20_code
def yX5_fault : MethodName := ⟨RX5, "fault", "()I"⟩
abbrev cX5_kirk : ByteArray := prog_7_method_21_code
def yX5_kirk : MethodName := ⟨RX5, "kirk", "()I"⟩
abbrev cX5_weighs : ByteArray := prog_7_method_22_code
def yX5_weighs : MethodName := ⟨RX5, "weighs", "(III)I"⟩
abbrev cX5_ounces : ByteArray := prog_7_method_23_code
def yX5_ounces : MethodName := ⟨RX5, "ounces", "(II)I"⟩
abbrev cX5_ouncesOf : ByteArray := prog_7_method_24_code
def yX5_ouncesOf : MethodName := ⟨RX5, "ouncesOf", "(II)I"⟩
abbrev cX5_sermon : ByteArray := prog_7_method_25_code
def yX5_sermon : MethodName := ⟨RX5, "sermon", "()I"⟩
abbrev cX5_lead : ByteArray := prog_7_method_26_code
def yX5_lead : MethodName := ⟨RX5, "lead", "()I"⟩
abbrev cX5_hangs : ByteArray := prog_7_method_27_code
def yX5_hangs : MethodName := ⟨RX5, "hangs", "(II)Z"⟩
abbrev cX5_isLevel : ByteArray := prog_7_method_28_code
def yX5_isLevel : MethodName := ⟨RX5, "isLevel", "()Z"⟩
abbrev cX5_part : ByteArray := prog_7_method_29_code
def yX5_part : MethodName := ⟨RX5, "part", "(II)I"⟩
abbrev cX5_sins : ByteArray := prog_7_method_30_code
def yX5_sins : MethodName := ⟨RX5, "sins", "(I)I"⟩
abbrev cX5_as : ByteArray := prog_7_method_31_code
def yX5_as : MethodName := ⟨RX5, "as", "(II)I"⟩
abbrev cX5_keeps : ByteArray := prog_7_method_32_code
def yX5_keeps : MethodName := ⟨RX5, "keeps", "()V"⟩
abbrev cX5_preach : ByteArray := prog_7_method_33_code
def yX5_preach : MethodName := ⟨RX5, "preach", "(I)I"⟩
abbrev cX5_sin : ByteArray := prog_7_method_34_code
def yX5_sin : MethodName := ⟨RX5, "sin", "(II)I"⟩
abbrev cX5_ballast : ByteArray := prog_7_method_35_code
def yX5_ballast : MethodName := ⟨RX5, "ballast", "(I)I"⟩
abbrev cX5_rain : ByteArray := prog_7_method_36_code
def yX5_rain : MethodName := ⟨RX5, "rain", "(I)I"⟩
abbrev cX5_sunday : ByteArray := prog_7_method_37_code
def yX5_sunday : MethodName := ⟨RX5, "sunday", "()I"⟩
abbrev cX5_undo : ByteArray := prog_7_method_38_code
def yX5_undo : MethodName := ⟨RX5, "undo", "()I"⟩
abbrev cX5_keep : ByteArray := prog_7_method_39_code
def yX5_keep : MethodName := ⟨RX5, "keep", "(I)I"⟩
abbrev cX5_back : ByteArray := prog_7_method_40_code
def yX5_back : MethodName := ⟨RX5, "back", "(I)I"⟩
abbrev cX5_stops : ByteArray := prog_7_method_41_code
def yX5_stops : MethodName := ⟨RX5, "stops", "()I"⟩
abbrev cX5_minutesOf : ByteArray := prog_7_method_42_code
def yX5_minutesOf : MethodName := ⟨RX5, "minutesOf", "(I)I"⟩
abbrev cX5_ones : ByteArray := prog_7_method_43_code
def yX5_ones : MethodName := ⟨RX5, "ones", "(I)I"⟩
abbrev cX5_would : ByteArray := prog_7_method_44_code
def yX5_would : MethodName := ⟨RX5, "would", "(II)Z"⟩
abbrev cX5_soonest : ByteArray := prog_7_method_45_code
def yX5_soonest : MethodName := ⟨RX5, "soonest", "(I)I"⟩
abbrev cX5_never : ByteArray := prog_7_method_46_code
def yX5_never : MethodName := ⟨RX5, "never", "(I)I"⟩
abbrev cX5_seen : ByteArray := prog_7_method_47_code
def yX5_seen : MethodName := ⟨RX5, "seen", "(III)I"⟩
abbrev cX5_heard : ByteArray := prog_7_method_48_code
def yX5_heard : MethodName := ⟨RX5, "heard", "(III)I"⟩
abbrev cX5_forget : ByteArray := prog_7_method_49_code
def yX5_forget : MethodName := ⟨RX5, "forget", "()I"⟩
abbrev cX5_weights : ByteArray := prog_7_method_50_code
def yX5_weights : MethodName := ⟨RX5, "weights", "(I)I"⟩
abbrev cX5_thumbs : ByteArray := prog_7_method_51_code
def yX5_thumbs : MethodName := ⟨RX5, "thumbs", "()I"⟩
abbrev cX5_confessed : ByteArray := prog_7_method_52_code
def yX5_confessed : MethodName := ⟨RX5, "confessed", "(II)I"⟩
abbrev cX5_count : ByteArray := prog_7_method_53_code
def yX5_count : MethodName := ⟨RX5, "count", "(I)I"⟩
def RJ6 : String := "java/lang/Integer"
def TJ6 : u_T := fun k => match k with
  | _ => ("", "", "", false)
def tyJ6 : Nat → FieldType := fun k => match k with
  | _ => .int
abbrev wsJ60 : List Cond := u_ws RJ6 TJ6 0
theorem nmJ6 : ∀ a, a < 0 → ∀ b, b < 0 → a ≠ b → (TJ6 a).2.1 ≠ (TJ6 b).2.1 := by decide +kernel
theorem tyJ6_ok : ∀ k, k < 0 → parseFieldDescriptor (TJ6 k).2.2.1 = some (tyJ6 k) := by decide +kernel
abbrev cJ6_bitCount_0f7a4 : ByteArray := prog_8_method_49_code
def yJ6_bitCount_0f7a4 : MethodName := ⟨RJ6, "bitCount", "(I)I"⟩
def RJ9 : String := "java/lang/Math"
def TJ9 : u_T := fun k => match k with
  | _ => ("", "", "", false)
def tyJ9 : Nat → FieldType := fun k => match k with
  | _ => .int
abbrev wsJ90 : List Cond := u_ws RJ9 TJ9 0
theorem nmJ9 : ∀ a, a < 0 → ∀ b, b < 0 → a ≠ b → (TJ9 a).2.1 ≠ (TJ9 b).2.1 := by decide +kernel
theorem tyJ9_ok : ∀ k, k < 0 → parseFieldDescriptor (TJ9 k).2.2.1 = some (tyJ9 k) := by decide +kernel
abbrev cJ9_abs_0f7a4 : ByteArray := prog_9_method_59_code
def yJ9_abs_0f7a4 : MethodName := ⟨RJ9, "abs", "(I)I"⟩
abbrev cJ9_max_7cf53 : ByteArray := prog_9_method_65_code
def yJ9_max_7cf53 : MethodName := ⟨RJ9, "max", "(II)I"⟩
abbrev cJ9_min_7cf53 : ByteArray := prog_9_method_69_code
def yJ9_min_7cf53 : MethodName := ⟨RJ9, "min", "(II)I"⟩
def RJ0 : String := "java/lang/String"
def TJ0 : u_T := fun k => match k with
  | _ => ("", "", "", false)
def tyJ0 : Nat → FieldType := fun k => match k with
  | _ => .int
abbrev wsJ00 : List Cond := u_ws RJ0 TJ0 0
theorem nmJ0 : ∀ a, a < 0 → ∀ b, b < 0 → a ≠ b → (TJ0 a).2.1 ≠ (TJ0 b).2.1 := by decide +kernel
theorem tyJ0_ok : ∀ k, k < 0 → parseFieldDescriptor (TJ0 k).2.2.1 = some (tyJ0 k) := by decide +kernel
abbrev cJ0_length_8abf5 : ByteArray := prog_10_method_54_code
def yJ0_length_8abf5 : MethodName := ⟨RJ0, "length", "()I"⟩
abbrev cJ0_charAt_5068e : ByteArray := prog_10_method_56_code
def yJ0_charAt_5068e : MethodName := ⟨RJ0, "charAt", "(I)C"⟩
abbrev cJ0_coder_7d493 : ByteArray := prog_10_method_152_code
def yJ0_coder_7d493 : MethodName := ⟨RJ0, "coder", "()B"⟩
abbrev cJ0_isLatin1_aae02 : ByteArray := prog_10_method_154_code
def yJ0_isLatin1_aae02 : MethodName := ⟨RJ0, "isLatin1", "()Z"⟩
abbrev cJ0_checkIndex_df160 : ByteArray := prog_10_method_155_code
def yJ0_checkIndex_df160 : MethodName := ⟨RJ0, "checkIndex", "(II)V"⟩
def RJ1 : String := "java/lang/StringLatin1"
def TJ1 : u_T := fun k => match k with
  | _ => ("", "", "", false)
def tyJ1 : Nat → FieldType := fun k => match k with
  | _ => .int
abbrev wsJ10 : List Cond := u_ws RJ1 TJ1 0
theorem nmJ1 : ∀ a, a < 0 → ∀ b, b < 0 → a ≠ b → (TJ1 a).2.1 ≠ (TJ1 b).2.1 := by decide +kernel
theorem tyJ1_ok : ∀ k, k < 0 → parseFieldDescriptor (TJ1 k).2.2.1 = some (tyJ1 k) := by decide +kernel
abbrev cJ1_charAt_3b067 : ByteArray := prog_11_method_2_code
def yJ1_charAt_3b067 : MethodName := ⟨RJ1, "charAt", "([BI)C"⟩
def RJ2 : String := "java/lang/StringUTF16"
def TJ2 : u_T := fun k => match k with
  | _ => ("", "", "", false)
def tyJ2 : Nat → FieldType := fun k => match k with
  | _ => .int
abbrev wsJ20 : List Cond := u_ws RJ2 TJ2 0
theorem nmJ2 : ∀ a, a < 0 → ∀ b, b < 0 → a ≠ b → (TJ2 a).2.1 ≠ (TJ2 b).2.1 := by decide +kernel
theorem tyJ2_ok : ∀ k, k < 0 → parseFieldDescriptor (TJ2 k).2.2.1 = some (tyJ2 k) := by decide +kernel
abbrev cJ2_getChar_3b067 : ByteArray := prog_12_method_5_code
def yJ2_getChar_3b067 : MethodName := ⟨RJ2, "getChar", "([BI)C"⟩
abbrev cJ2_length_9d52b : ByteArray := prog_12_method_6_code
def yJ2_length_9d52b : MethodName := ⟨RJ2, "length", "([B)I"⟩
abbrev cJ2_charAt_3b067 : ByteArray := prog_12_method_83_code
def yJ2_charAt_3b067 : MethodName := ⟨RJ2, "charAt", "([BI)C"⟩
abbrev cJ2_checkIndex_2214a : ByteArray := prog_12_method_91_code
def yJ2_checkIndex_2214a : MethodName := ⟨RJ2, "checkIndex", "(I[B)V"⟩
def RJ10 : String := "java/lang/System"
def TJ10 : u_T := fun k => match k with
  | _ => ("", "", "", false)
def tyJ10 : Nat → FieldType := fun k => match k with
  | _ => .int
abbrev wsJ100 : List Cond := u_ws RJ10 TJ10 0
theorem nmJ10 : ∀ a, a < 0 → ∀ b, b < 0 → a ≠ b → (TJ10 a).2.1 ≠ (TJ10 b).2.1 := by decide +kernel
theorem tyJ10_ok : ∀ k, k < 0 → parseFieldDescriptor (TJ10 k).2.2.1 = some (tyJ10 k) := by decide +kernel
def RJ3 : String := "jdk/internal/util/Preconditions"
def TJ3 : u_T := fun k => match k with
  | _ => ("", "", "", false)
def tyJ3 : Nat → FieldType := fun k => match k with
  | _ => .int
abbrev wsJ30 : List Cond := u_ws RJ3 TJ3 0
theorem nmJ3 : ∀ a, a < 0 → ∀ b, b < 0 → a ≠ b → (TJ3 a).2.1 ≠ (TJ3 b).2.1 := by decide +kernel
theorem tyJ3_ok : ∀ k, k < 0 → parseFieldDescriptor (TJ3 k).2.2.1 = some (tyJ3 k) := by decide +kernel
abbrev cJ3_checkIndex_8e157 : ByteArray := prog_14_method_11_code
def yJ3_checkIndex_8e157 : MethodName := ⟨RJ3, "checkIndex", "(IILjava/util/function/BiFunction;)I"⟩
def RL : String := "SermonScaleLaw"

abbrev vwCl : List vw_C := [(RX0, TX0, 9), (RX1, TX1, 9), (RX2, TX2, 10), (RX3, TX3, 7), (RX4, TX4, 9), (RX5, TX5, 17)]
end
section
theorem dX0_init_0 : decode cX0_init 0 = .ok (.aload_n 0, 1) := by decide +kernel
theorem dX0_init_1 : decode cX0_init 1 = .ok (.invokespecial 3, 3) := by decide +kernel
theorem dX0_init_4 : decode cX0_init 4 = .ok (.aload_n 0, 1) := by decide +kernel
theorem dX0_init_5 : decode cX0_init 5 = .ok (.bipush 6, 2) := by decide +kernel
theorem dX0_init_7 : decode cX0_init 7 = .ok (.newarray .int, 2) := by decide +kernel
theorem dX0_init_9 : decode cX0_init 9 = .ok (.putfield 9, 3) := by decide +kernel
theorem dX0_init_12 : decode cX0_init 12 = .ok (.aload_n 0, 1) := by decide +kernel
theorem dX0_init_13 : decode cX0_init 13 = .ok (.bipush 6, 2) := by decide +kernel
theorem dX0_init_15 : decode cX0_init 15 = .ok (.newarray .int, 2) := by decide +kernel
theorem dX0_init_17 : decode cX0_init 17 = .ok (.putfield 15, 3) := by decide +kernel
theorem dX0_init_20 : decode cX0_init 20 = .ok (.aload_n 0, 1) := by decide +kernel
theorem dX0_init_21 : decode cX0_init 21 = .ok (.bipush 6, 2) := by decide +kernel
theorem dX0_init_23 : decode cX0_init 23 = .ok (.newarray .int, 2) := by decide +kernel
theorem dX0_init_25 : decode cX0_init 25 = .ok (.putfield 18, 3) := by decide +kernel
theorem dX0_init_28 : decode cX0_init 28 = .ok (.aload_n 0, 1) := by decide +kernel
theorem dX0_init_29 : decode cX0_init 29 = .ok (.bipush 6, 2) := by decide +kernel
theorem dX0_init_31 : decode cX0_init 31 = .ok (.newarray .int, 2) := by decide +kernel
theorem dX0_init_33 : decode cX0_init 33 = .ok (.putfield 21, 3) := by decide +kernel
theorem dX0_init_36 : decode cX0_init 36 = .ok (.aload_n 0, 1) := by decide +kernel
theorem dX0_init_37 : decode cX0_init 37 = .ok (.bipush 6, 2) := by decide +kernel
theorem dX0_init_39 : decode cX0_init 39 = .ok (.newarray .int, 2) := by decide +kernel
theorem dX0_init_41 : decode cX0_init 41 = .ok (.putfield 24, 3) := by decide +kernel
theorem dX0_init_44 : decode cX0_init 44 = .ok (.aload_n 0, 1) := by decide +kernel
theorem dX0_init_45 : decode cX0_init 45 = .ok (.bipush 6, 2) := by decide +kernel
theorem dX0_init_47 : decode cX0_init 47 = .ok (.newarray .int, 2) := by decide +kernel
theorem dX0_init_49 : decode cX0_init 49 = .ok (.putfield 27, 3) := by decide +kernel
theorem dX0_init_52 : decode cX0_init 52 = .ok (.aload_n 0, 1) := by decide +kernel
theorem dX0_init_53 : decode cX0_init 53 = .ok (.bipush 6, 2) := by decide +kernel
theorem dX0_init_55 : decode cX0_init 55 = .ok (.newarray .boolean, 2) := by decide +kernel
theorem dX0_init_57 : decode cX0_init 57 = .ok (.putfield 30, 3) := by decide +kernel
theorem dX0_init_60 : decode cX0_init 60 = .ok (.return_, 1) := by decide +kernel
theorem dX0_addSeen_0 : decode cX0_addSeen 0 = .ok (.aload_n 0, 1) := by decide +kernel
theorem dX0_addSeen_1 : decode cX0_addSeen 1 = .ok (.getfield 34, 3) := by decide +kernel
theorem dX0_addSeen_4 : decode cX0_addSeen 4 = .ok (.bipush 6, 2) := by decide +kernel
theorem dX0_addSeen_6 : decode cX0_addSeen 6 = .ok (.if_icmp .lt 5, 3) := by decide +kernel
theorem dX0_addSeen_9 : decode cX0_addSeen 9 = .ok (.iconst 0, 1) := by decide +kernel
theorem dX0_addSeen_10 : decode cX0_addSeen 10 = .ok (.ireturn, 1) := by decide +kernel
theorem dX0_addSeen_11 : decode cX0_addSeen 11 = .ok (.aload_n 0, 1) := by decide +kernel
theorem dX0_addSeen_12 : decode cX0_addSeen 12 = .ok (.getfield 9, 3) := by decide +kernel
theorem dX0_addSeen_15 : decode cX0_addSeen 15 = .ok (.aload_n 0, 1) := by decide +kernel
theorem dX0_addSeen_16 : decode cX0_addSeen 16 = .ok (.getfield 34, 3) := by decide +kernel
theorem dX0_addSeen_19 : decode cX0_addSeen 19 = .ok (.iload_n 1, 1) := by decide +kernel
theorem dX0_addSeen_20 : decode cX0_addSeen 20 = .ok (.iastore, 1) := by decide +kernel
theorem dX0_addSeen_21 : decode cX0_addSeen 21 = .ok (.aload_n 0, 1) := by decide +kernel
theorem dX0_addSeen_22 : decode cX0_addSeen 22 = .ok (.getfield 15, 3) := by decide +kernel
theorem dX0_addSeen_25 : decode cX0_addSeen 25 = .ok (.aload_n 0, 1) := by decide +kernel
theorem dX0_addSeen_26 : decode cX0_addSeen 26 = .ok (.getfield 34, 3) := by decide +kernel
theorem dX0_addSeen_29 : decode cX0_addSeen 29 = .ok (.iload_n 2, 1) := by decide +kernel
theorem dX0_addSeen_30 : decode cX0_addSeen 30 = .ok (.iastore, 1) := by decide +kernel
theorem dX0_addSeen_31 : decode cX0_addSeen 31 = .ok (.aload_n 0, 1) := by decide +kernel
theorem dX0_addSeen_32 : decode cX0_addSeen 32 = .ok (.getfield 18, 3) := by decide +kernel
theorem dX0_addSeen_35 : decode cX0_addSeen 35 = .ok (.aload_n 0, 1) := by decide +kernel
theorem dX0_addSeen_36 : decode cX0_addSeen 36 = .ok (.getfield 34, 3) := by decide +kernel
theorem dX0_addSeen_39 : decode cX0_addSeen 39 = .ok (.iload_n 3, 1) := by decide +kernel
theorem dX0_addSeen_40 : decode cX0_addSeen 40 = .ok (.iastore, 1) := by decide +kernel
theorem dX0_addSeen_41 : decode cX0_addSeen 41 = .ok (.aload_n 0, 1) := by decide +kernel
theorem dX0_addSeen_42 : decode cX0_addSeen 42 = .ok (.dup, 1) := by decide +kernel
theorem dX0_addSeen_43 : decode cX0_addSeen 43 = .ok (.getfield 34, 3) := by decide +kernel
theorem dX0_addSeen_46 : decode cX0_addSeen 46 = .ok (.iconst 1, 1) := by decide +kernel
theorem dX0_addSeen_47 : decode cX0_addSeen 47 = .ok (.iadd, 1) := by decide +kernel
theorem dX0_addSeen_48 : decode cX0_addSeen 48 = .ok (.putfield 34, 3) := by decide +kernel
theorem dX0_addSeen_51 : decode cX0_addSeen 51 = .ok (.iconst 1, 1) := by decide +kernel
theorem dX0_addSeen_52 : decode cX0_addSeen 52 = .ok (.ireturn, 1) := by decide +kernel
theorem dX0_addHeard_0 : decode cX0_addHeard 0 = .ok (.aload_n 0, 1) := by decide +kernel
theorem dX0_addHeard_1 : decode cX0_addHeard 1 = .ok (.getfield 38, 3) := by decide +kernel
theorem dX0_addHeard_4 : decode cX0_addHeard 4 = .ok (.bipush 6, 2) := by decide +kernel
theorem dX0_addHeard_6 : decode cX0_addHeard 6 = .ok (.if_icmp .lt 5, 3) := by decide +kernel
theorem dX0_addHeard_9 : decode cX0_addHeard 9 = .ok (.iconst 0, 1) := by decide +kernel
theorem dX0_addHeard_10 : decode cX0_addHeard 10 = .ok (.ireturn, 1) := by decide +kernel
theorem dX0_addHeard_11 : decode cX0_addHeard 11 = .ok (.aload_n 0, 1) := by decide +kernel
theorem dX0_addHeard_12 : decode cX0_addHeard 12 = .ok (.getfield 21, 3) := by decide +kernel
theorem dX0_addHeard_15 : decode cX0_addHeard 15 = .ok (.aload_n 0, 1) := by decide +kernel
theorem dX0_addHeard_16 : decode cX0_addHeard 16 = .ok (.getfield 38, 3) := by decide +kernel
theorem dX0_addHeard_19 : decode cX0_addHeard 19 = .ok (.iload_n 1, 1) := by decide +kernel
theorem dX0_addHeard_20 : decode cX0_addHeard 20 = .ok (.iastore, 1) := by decide +kernel
theorem dX0_addHeard_21 : decode cX0_addHeard 21 = .ok (.aload_n 0, 1) := by decide +kernel
theorem dX0_addHeard_22 : decode cX0_addHeard 22 = .ok (.getfield 24, 3) := by decide +kernel
theorem dX0_addHeard_25 : decode cX0_addHeard 25 = .ok (.aload_n 0, 1) := by decide +kernel
theorem dX0_addHeard_26 : decode cX0_addHeard 26 = .ok (.getfield 38, 3) := by decide +kernel
theorem dX0_addHeard_29 : decode cX0_addHeard 29 = .ok (.iload_n 2, 1) := by decide +kernel
theorem dX0_addHeard_30 : decode cX0_addHeard 30 = .ok (.iastore, 1) := by decide +kernel
theorem dX0_addHeard_31 : decode cX0_addHeard 31 = .ok (.aload_n 0, 1) := by decide +kernel
theorem dX0_addHeard_32 : decode cX0_addHeard 32 = .ok (.getfield 30, 3) := by decide +kernel
theorem dX0_addHeard_35 : decode cX0_addHeard 35 = .ok (.aload_n 0, 1) := by decide +kernel
theorem dX0_addHeard_36 : decode cX0_addHeard 36 = .ok (.getfield 38, 3) := by decide +kernel
theorem dX0_addHeard_39 : decode cX0_addHeard 39 = .ok (.iload_n 3, 1) := by decide +kernel
theorem dX0_addHeard_40 : decode cX0_addHeard 40 = .ok (.bastore, 1) := by decide +kernel
theorem dX0_addHeard_41 : decode cX0_addHeard 41 = .ok (.aload_n 0, 1) := by decide +kernel
theorem dX0_addHeard_42 : decode cX0_addHeard 42 = .ok (.getfield 27, 3) := by decide +kernel
theorem dX0_addHeard_45 : decode cX0_addHeard 45 = .ok (.aload_n 0, 1) := by decide +kernel
theorem dX0_addHeard_46 : decode cX0_addHeard 46 = .ok (.getfield 38, 3) := by decide +kernel
theorem dX0_addHeard_49 : decode cX0_addHeard 49 = .ok (.iload 4, 2) := by decide +kernel
theorem dX0_addHeard_51 : decode cX0_addHeard 51 = .ok (.iastore, 1) := by decide +kernel
theorem dX0_addHeard_52 : decode cX0_addHeard 52 = .ok (.aload_n 0, 1) := by decide +kernel
theorem dX0_addHeard_53 : decode cX0_addHeard 53 = .ok (.dup, 1) := by decide +kernel
theorem dX0_addHeard_54 : decode cX0_addHeard 54 = .ok (.getfield 38, 3) := by decide +kernel
theorem dX0_addHeard_57 : decode cX0_addHeard 57 = .ok (.iconst 1, 1) := by decide +kernel
theorem dX0_addHeard_58 : decode cX0_addHeard 58 = .ok (.iadd, 1) := by decide +kernel
theorem dX0_addHeard_59 : decode cX0_addHeard 59 = .ok (.putfield 38, 3) := by decide +kernel
theorem dX0_addHeard_62 : decode cX0_addHeard 62 = .ok (.iconst 1, 1) := by decide +kernel
theorem dX0_addHeard_63 : decode cX0_addHeard 63 = .ok (.ireturn, 1) := by decide +kernel
theorem dX0_clear_0 : decode cX0_clear 0 = .ok (.aload_n 0, 1) := by decide +kernel
theorem dX0_clear_1 : decode cX0_clear 1 = .ok (.iconst 0, 1) := by decide +kernel
theorem dX0_clear_2 : decode cX0_clear 2 = .ok (.putfield 34, 3) := by decide +kernel
theorem dX0_clear_5 : decode cX0_clear 5 = .ok (.aload_n 0, 1) := by decide +kernel
theorem dX0_clear_6 : decode cX0_clear 6 = .ok (.iconst 0, 1) := by decide +kernel
theorem dX0_clear_7 : decode cX0_clear 7 = .ok (.putfield 38, 3) := by decide +kernel
theorem dX0_clear_10 : decode cX0_clear 10 = .ok (.return_, 1) := by decide +kernel
theorem dX1_init_0 : decode cX1_init 0 = .ok (.aload_n 0, 1) := by decide +kernel
theorem dX1_init_1 : decode cX1_init 1 = .ok (.invokespecial 3, 3) := by decide +kernel
theorem dX1_init_4 : decode cX1_init 4 = .ok (.aload_n 0, 1) := by decide +kernel
theorem dX1_init_5 : decode cX1_init 5 = .ok (.bipush 8, 2) := by decide +kernel
theorem dX1_init_7 : decode cX1_init 7 = .ok (.newarray .int, 2) := by decide +kernel
theorem dX1_init_9 : decode cX1_init 9 = .ok (.putfield 9, 3) := by decide +kernel
theorem dX1_init_12 : decode cX1_init 12 = .ok (.aload_n 0, 1) := by decide +kernel
theorem dX1_init_13 : decode cX1_init 13 = .ok (.bipush 8, 2) := by decide +kernel
theorem dX1_init_15 : decode cX1_init 15 = .ok (.newarray .int, 2) := by decide +kernel
theorem dX1_init_17 : decode cX1_init 17 = .ok (.putfield 15, 3) := by decide +kernel
theorem dX1_init_20 : decode cX1_init 20 = .ok (.aload_n 0, 1) := by decide +kernel
theorem dX1_init_21 : decode cX1_init 21 = .ok (.bipush 8, 2) := by decide +kernel
theorem dX1_init_23 : decode cX1_init 23 = .ok (.newarray .int, 2) := by decide +kernel
theorem dX1_init_25 : decode cX1_init 25 = .ok (.putfield 18, 3) := by decide +kernel
theorem dX1_init_28 : decode cX1_init 28 = .ok (.aload_n 0, 1) := by decide +kernel
theorem dX1_init_29 : decode cX1_init 29 = .ok (.bipush 6, 2) := by decide +kernel
theorem dX1_init_31 : decode cX1_init 31 = .ok (.newarray .int, 2) := by decide +kernel
theorem dX1_init_33 : decode cX1_init 33 = .ok (.putfield 21, 3) := by decide +kernel
theorem dX1_init_36 : decode cX1_init 36 = .ok (.aload_n 0, 1) := by decide +kernel
theorem dX1_init_37 : decode cX1_init 37 = .ok (.invokevirtual 24, 3) := by decide +kernel
theorem dX1_init_40 : decode cX1_init 40 = .ok (.return_, 1) := by decide +kernel
theorem dX1_beginAsAtFirst_0 : decode cX1_beginAsAtFirst 0 = .ok (.aload_n 0, 1) := by decide +kernel
theorem dX1_beginAsAtFirst_1 : decode cX1_beginAsAtFirst 1 = .ok (.iconst 0, 1) := by decide +kernel
theorem dX1_beginAsAtFirst_2 : decode cX1_beginAsAtFirst 2 = .ok (.putfield 27, 3) := by decide +kernel
theorem dX1_beginAsAtFirst_5 : decode cX1_beginAsAtFirst 5 = .ok (.aload_n 0, 1) := by decide +kernel
theorem dX1_beginAsAtFirst_6 : decode cX1_beginAsAtFirst 6 = .ok (.iconst 0, 1) := by decide +kernel
theorem dX1_beginAsAtFirst_7 : decode cX1_beginAsAtFirst 7 = .ok (.putfield 31, 3) := by decide +kernel
theorem dX1_beginAsAtFirst_10 : decode cX1_beginAsAtFirst 10 = .ok (.aload_n 0, 1) := by decide +kernel
theorem dX1_beginAsAtFirst_11 : decode cX1_beginAsAtFirst 11 = .ok (.iconst 0, 1) := by decide +kernel
theorem dX1_beginAsAtFirst_12 : decode cX1_beginAsAtFirst 12 = .ok (.putfield 34, 3) := by decide +kernel
theorem dX1_beginAsAtFirst_15 : decode cX1_beginAsAtFirst 15 = .ok (.aload_n 0, 1) := by decide +kernel
theorem dX1_beginAsAtFirst_16 : decode cX1_beginAsAtFirst 16 = .ok (.iconst 1, 1) := by decide +kernel
theorem dX1_beginAsAtFirst_17 : decode cX1_beginAsAtFirst 17 = .ok (.putfield 37, 3) := by decide +kernel
theorem dX1_beginAsAtFirst_20 : decode cX1_beginAsAtFirst 20 = .ok (.aload_n 0, 1) := by decide +kernel
theorem dX1_beginAsAtFirst_21 : decode cX1_beginAsAtFirst 21 = .ok (.iconst 0, 1) := by decide +kernel
theorem dX1_beginAsAtFirst_22 : decode cX1_beginAsAtFirst 22 = .ok (.putfield 40, 3) := by decide +kernel
theorem dX1_beginAsAtFirst_25 : decode cX1_beginAsAtFirst 25 = .ok (.return_, 1) := by decide +kernel
theorem dX1_tell_0 : decode cX1_tell 0 = .ok (.iload_n 1, 1) := by decide +kernel
theorem dX1_tell_1 : decode cX1_tell 1 = .ok (.tableswitch 130 0 8 #[51, 58, 68, 78, 88, 98, 106, 114, 122], 51) := by decide +kernel
theorem dX1_tell_52 : decode cX1_tell 52 = .ok (.aload_n 0, 1) := by decide +kernel
theorem dX1_tell_53 : decode cX1_tell 53 = .ok (.invokevirtual 24, 3) := by decide +kernel
theorem dX1_tell_56 : decode cX1_tell 56 = .ok (.goto 75, 3) := by decide +kernel
theorem dX1_tell_59 : decode cX1_tell 59 = .ok (.aload_n 0, 1) := by decide +kernel
theorem dX1_tell_60 : decode cX1_tell 60 = .ok (.iconst 0, 1) := by decide +kernel
theorem dX1_tell_61 : decode cX1_tell 61 = .ok (.iload_n 2, 1) := by decide +kernel
theorem dX1_tell_62 : decode cX1_tell 62 = .ok (.iload_n 3, 1) := by decide +kernel
theorem dX1_tell_63 : decode cX1_tell 63 = .ok (.invokevirtual 43, 3) := by decide +kernel
theorem dX1_tell_66 : decode cX1_tell 66 = .ok (.goto 65, 3) := by decide +kernel
theorem dX1_tell_69 : decode cX1_tell 69 = .ok (.aload_n 0, 1) := by decide +kernel
theorem dX1_tell_70 : decode cX1_tell 70 = .ok (.iconst 1, 1) := by decide +kernel
theorem dX1_tell_71 : decode cX1_tell 71 = .ok (.iload_n 2, 1) := by decide +kernel
theorem dX1_tell_72 : decode cX1_tell 72 = .ok (.iload_n 3, 1) := by decide +kernel
theorem dX1_tell_73 : decode cX1_tell 73 = .ok (.invokevirtual 43, 3) := by decide +kernel
theorem dX1_tell_76 : decode cX1_tell 76 = .ok (.goto 55, 3) := by decide +kernel
theorem dX1_tell_79 : decode cX1_tell 79 = .ok (.aload_n 0, 1) := by decide +kernel
theorem dX1_tell_80 : decode cX1_tell 80 = .ok (.iconst 2, 1) := by decide +kernel
theorem dX1_tell_81 : decode cX1_tell 81 = .ok (.iload_n 2, 1) := by decide +kernel
theorem dX1_tell_82 : decode cX1_tell 82 = .ok (.iload_n 3, 1) := by decide +kernel
theorem dX1_tell_83 : decode cX1_tell 83 = .ok (.invokevirtual 43, 3) := by decide +kernel
theorem dX1_tell_86 : decode cX1_tell 86 = .ok (.goto 45, 3) := by decide +kernel
theorem dX1_tell_89 : decode cX1_tell 89 = .ok (.aload_n 0, 1) := by decide +kernel
theorem dX1_tell_90 : decode cX1_tell 90 = .ok (.iconst 3, 1) := by decide +kernel
theorem dX1_tell_91 : decode cX1_tell 91 = .ok (.iload_n 2, 1) := by decide +kernel
theorem dX1_tell_92 : decode cX1_tell 92 = .ok (.iload_n 3, 1) := by decide +kernel
theorem dX1_tell_93 : decode cX1_tell 93 = .ok (.invokevirtual 43, 3) := by decide +kernel
theorem dX1_tell_96 : decode cX1_tell 96 = .ok (.goto 35, 3) := by decide +kernel
theorem dX1_tell_99 : decode cX1_tell 99 = .ok (.aload_n 0, 1) := by decide +kernel
theorem dX1_tell_100 : decode cX1_tell 100 = .ok (.iload_n 2, 1) := by decide +kernel
theorem dX1_tell_101 : decode cX1_tell 101 = .ok (.invokevirtual 47, 3) := by decide +kernel
theorem dX1_tell_104 : decode cX1_tell 104 = .ok (.goto 27, 3) := by decide +kernel
theorem dX1_tell_107 : decode cX1_tell 107 = .ok (.aload_n 0, 1) := by decide +kernel
theorem dX1_tell_108 : decode cX1_tell 108 = .ok (.iload_n 2, 1) := by decide +kernel
theorem dX1_tell_109 : decode cX1_tell 109 = .ok (.putfield 34, 3) := by decide +kernel
theorem dX1_tell_112 : decode cX1_tell 112 = .ok (.goto 19, 3) := by decide +kernel
theorem dX1_tell_115 : decode cX1_tell 115 = .ok (.aload_n 0, 1) := by decide +kernel
theorem dX1_tell_116 : decode cX1_tell 116 = .ok (.iload_n 2, 1) := by decide +kernel
theorem dX1_tell_117 : decode cX1_tell 117 = .ok (.putfield 37, 3) := by decide +kernel
theorem dX1_tell_120 : decode cX1_tell 120 = .ok (.goto 11, 3) := by decide +kernel
theorem dX1_tell_123 : decode cX1_tell 123 = .ok (.aload_n 0, 1) := by decide +kernel
theorem dX1_tell_124 : decode cX1_tell 124 = .ok (.iload_n 2, 1) := by decide +kernel
theorem dX1_tell_125 : decode cX1_tell 125 = .ok (.putfield 40, 3) := by decide +kernel
theorem dX1_tell_128 : decode cX1_tell 128 = .ok (.goto 3, 3) := by decide +kernel
theorem dX1_tell_131 : decode cX1_tell 131 = .ok (.return_, 1) := by decide +kernel
theorem dX1_addPart_0 : decode cX1_addPart 0 = .ok (.aload_n 0, 1) := by decide +kernel
theorem dX1_addPart_1 : decode cX1_addPart 1 = .ok (.getfield 27, 3) := by decide +kernel
theorem dX1_addPart_4 : decode cX1_addPart 4 = .ok (.bipush 8, 2) := by decide +kernel
theorem dX1_addPart_6 : decode cX1_addPart 6 = .ok (.if_icmp .ge 43, 3) := by decide +kernel
theorem dX1_addPart_9 : decode cX1_addPart 9 = .ok (.aload_n 0, 1) := by decide +kernel
theorem dX1_addPart_10 : decode cX1_addPart 10 = .ok (.getfield 9, 3) := by decide +kernel
theorem dX1_addPart_13 : decode cX1_addPart 13 = .ok (.aload_n 0, 1) := by decide +kernel
theorem dX1_addPart_14 : decode cX1_addPart 14 = .ok (.getfield 27, 3) := by decide +kernel
theorem dX1_addPart_17 : decode cX1_addPart 17 = .ok (.iload_n 1, 1) := by decide +kernel
theorem dX1_addPart_18 : decode cX1_addPart 18 = .ok (.iastore, 1) := by decide +kernel
theorem dX1_addPart_19 : decode cX1_addPart 19 = .ok (.aload_n 0, 1) := by decide +kernel
theorem dX1_addPart_20 : decode cX1_addPart 20 = .ok (.getfield 15, 3) := by decide +kernel
theorem dX1_addPart_23 : decode cX1_addPart 23 = .ok (.aload_n 0, 1) := by decide +kernel
theorem dX1_addPart_24 : decode cX1_addPart 24 = .ok (.getfield 27, 3) := by decide +kernel
theorem dX1_addPart_27 : decode cX1_addPart 27 = .ok (.iload_n 2, 1) := by decide +kernel
theorem dX1_addPart_28 : decode cX1_addPart 28 = .ok (.iastore, 1) := by decide +kernel
theorem dX1_addPart_29 : decode cX1_addPart 29 = .ok (.aload_n 0, 1) := by decide +kernel
theorem dX1_addPart_30 : decode cX1_addPart 30 = .ok (.getfield 18, 3) := by decide +kernel
theorem dX1_addPart_33 : decode cX1_addPart 33 = .ok (.aload_n 0, 1) := by decide +kernel
theorem dX1_addPart_34 : decode cX1_addPart 34 = .ok (.getfield 27, 3) := by decide +kernel
theorem dX1_addPart_37 : decode cX1_addPart 37 = .ok (.iload_n 3, 1) := by decide +kernel
theorem dX1_addPart_38 : decode cX1_addPart 38 = .ok (.iastore, 1) := by decide +kernel
theorem dX1_addPart_39 : decode cX1_addPart 39 = .ok (.aload_n 0, 1) := by decide +kernel
theorem dX1_addPart_40 : decode cX1_addPart 40 = .ok (.dup, 1) := by decide +kernel
theorem dX1_addPart_41 : decode cX1_addPart 41 = .ok (.getfield 27, 3) := by decide +kernel
theorem dX1_addPart_44 : decode cX1_addPart 44 = .ok (.iconst 1, 1) := by decide +kernel
theorem dX1_addPart_45 : decode cX1_addPart 45 = .ok (.iadd, 1) := by decide +kernel
theorem dX1_addPart_46 : decode cX1_addPart 46 = .ok (.putfield 27, 3) := by decide +kernel
theorem dX1_addPart_49 : decode cX1_addPart 49 = .ok (.return_, 1) := by decide +kernel
theorem dX1_addSoul_0 : decode cX1_addSoul 0 = .ok (.aload_n 0, 1) := by decide +kernel
theorem dX1_addSoul_1 : decode cX1_addSoul 1 = .ok (.getfield 31, 3) := by decide +kernel
theorem dX1_addSoul_4 : decode cX1_addSoul 4 = .ok (.bipush 6, 2) := by decide +kernel
theorem dX1_addSoul_6 : decode cX1_addSoul 6 = .ok (.if_icmp .ge 23, 3) := by decide +kernel
theorem dX1_addSoul_9 : decode cX1_addSoul 9 = .ok (.aload_n 0, 1) := by decide +kernel
theorem dX1_addSoul_10 : decode cX1_addSoul 10 = .ok (.getfield 21, 3) := by decide +kernel
theorem dX1_addSoul_13 : decode cX1_addSoul 13 = .ok (.aload_n 0, 1) := by decide +kernel
theorem dX1_addSoul_14 : decode cX1_addSoul 14 = .ok (.getfield 31, 3) := by decide +kernel
theorem dX1_addSoul_17 : decode cX1_addSoul 17 = .ok (.iload_n 1, 1) := by decide +kernel
theorem dX1_addSoul_18 : decode cX1_addSoul 18 = .ok (.iastore, 1) := by decide +kernel
theorem dX1_addSoul_19 : decode cX1_addSoul 19 = .ok (.aload_n 0, 1) := by decide +kernel
theorem dX1_addSoul_20 : decode cX1_addSoul 20 = .ok (.dup, 1) := by decide +kernel
theorem dX1_addSoul_21 : decode cX1_addSoul 21 = .ok (.getfield 31, 3) := by decide +kernel
theorem dX1_addSoul_24 : decode cX1_addSoul 24 = .ok (.iconst 1, 1) := by decide +kernel
theorem dX1_addSoul_25 : decode cX1_addSoul 25 = .ok (.iadd, 1) := by decide +kernel
theorem dX1_addSoul_26 : decode cX1_addSoul 26 = .ok (.putfield 31, 3) := by decide +kernel
theorem dX1_addSoul_29 : decode cX1_addSoul 29 = .ok (.return_, 1) := by decide +kernel
theorem dX1_ouncesOfSet_0 : decode cX1_ouncesOfSet 0 = .ok (.iconst 0, 1) := by decide +kernel
theorem dX1_ouncesOfSet_1 : decode cX1_ouncesOfSet 1 = .ok (.istore_n 3, 1) := by decide +kernel
theorem dX1_ouncesOfSet_2 : decode cX1_ouncesOfSet 2 = .ok (.iconst 0, 1) := by decide +kernel
theorem dX1_ouncesOfSet_3 : decode cX1_ouncesOfSet 3 = .ok (.istore 4, 2) := by decide +kernel
theorem dX1_ouncesOfSet_5 : decode cX1_ouncesOfSet 5 = .ok (.iload 4, 2) := by decide +kernel
theorem dX1_ouncesOfSet_7 : decode cX1_ouncesOfSet 7 = .ok (.aload_n 0, 1) := by decide +kernel
theorem dX1_ouncesOfSet_8 : decode cX1_ouncesOfSet 8 = .ok (.getfield 27, 3) := by decide +kernel
theorem dX1_ouncesOfSet_11 : decode cX1_ouncesOfSet 11 = .ok (.if_icmp .ge 39, 3) := by decide +kernel
theorem dX1_ouncesOfSet_14 : decode cX1_ouncesOfSet 14 = .ok (.iload 4, 2) := by decide +kernel
theorem dX1_ouncesOfSet_16 : decode cX1_ouncesOfSet 16 = .ok (.iload_n 1, 1) := by decide +kernel
theorem dX1_ouncesOfSet_17 : decode cX1_ouncesOfSet 17 = .ok (.invokestatic 51, 3) := by decide +kernel
theorem dX1_ouncesOfSet_20 : decode cX1_ouncesOfSet 20 = .ok (.ifCond .eq 24, 3) := by decide +kernel
theorem dX1_ouncesOfSet_23 : decode cX1_ouncesOfSet 23 = .ok (.iload_n 3, 1) := by decide +kernel
theorem dX1_ouncesOfSet_24 : decode cX1_ouncesOfSet 24 = .ok (.aload_n 0, 1) := by decide +kernel
theorem dX1_ouncesOfSet_25 : decode cX1_ouncesOfSet 25 = .ok (.getfield 9, 3) := by decide +kernel
theorem dX1_ouncesOfSet_28 : decode cX1_ouncesOfSet 28 = .ok (.iload 4, 2) := by decide +kernel
theorem dX1_ouncesOfSet_30 : decode cX1_ouncesOfSet 30 = .ok (.iaload, 1) := by decide +kernel
theorem dX1_ouncesOfSet_31 : decode cX1_ouncesOfSet 31 = .ok (.aload_n 0, 1) := by decide +kernel
theorem dX1_ouncesOfSet_32 : decode cX1_ouncesOfSet 32 = .ok (.getfield 15, 3) := by decide +kernel
theorem dX1_ouncesOfSet_35 : decode cX1_ouncesOfSet 35 = .ok (.iload 4, 2) := by decide +kernel
theorem dX1_ouncesOfSet_37 : decode cX1_ouncesOfSet 37 = .ok (.iaload, 1) := by decide +kernel
theorem dX1_ouncesOfSet_38 : decode cX1_ouncesOfSet 38 = .ok (.iload_n 2, 1) := by decide +kernel
theorem dX1_ouncesOfSet_39 : decode cX1_ouncesOfSet 39 = .ok (.invokestatic 55, 3) := by decide +kernel
theorem dX1_ouncesOfSet_42 : decode cX1_ouncesOfSet 42 = .ok (.iadd, 1) := by decide +kernel
theorem dX1_ouncesOfSet_43 : decode cX1_ouncesOfSet 43 = .ok (.istore_n 3, 1) := by decide +kernel
theorem dX1_ouncesOfSet_44 : decode cX1_ouncesOfSet 44 = .ok (.iinc 4 1, 3) := by decide +kernel
theorem dX1_ouncesOfSet_47 : decode cX1_ouncesOfSet 47 = .ok (.goto (-42), 3) := by decide +kernel
theorem dX1_ouncesOfSet_50 : decode cX1_ouncesOfSet 50 = .ok (.iload_n 3, 1) := by decide +kernel
theorem dX1_ouncesOfSet_51 : decode cX1_ouncesOfSet 51 = .ok (.ireturn, 1) := by decide +kernel
theorem dX1_minutesOf_0 : decode cX1_minutesOf 0 = .ok (.iconst 0, 1) := by decide +kernel
theorem dX1_minutesOf_1 : decode cX1_minutesOf 1 = .ok (.istore_n 2, 1) := by decide +kernel
theorem dX1_minutesOf_2 : decode cX1_minutesOf 2 = .ok (.iconst 0, 1) := by decide +kernel
theorem dX1_minutesOf_3 : decode cX1_minutesOf 3 = .ok (.istore_n 3, 1) := by decide +kernel
theorem dX1_minutesOf_4 : decode cX1_minutesOf 4 = .ok (.iload_n 3, 1) := by decide +kernel
theorem dX1_minutesOf_5 : decode cX1_minutesOf 5 = .ok (.aload_n 0, 1) := by decide +kernel
theorem dX1_minutesOf_6 : decode cX1_minutesOf 6 = .ok (.getfield 27, 3) := by decide +kernel
theorem dX1_minutesOf_9 : decode cX1_minutesOf 9 = .ok (.if_icmp .ge 26, 3) := by decide +kernel
theorem dX1_minutesOf_12 : decode cX1_minutesOf 12 = .ok (.iload_n 3, 1) := by decide +kernel
theorem dX1_minutesOf_13 : decode cX1_minutesOf 13 = .ok (.iload_n 1, 1) := by decide +kernel
theorem dX1_minutesOf_14 : decode cX1_minutesOf 14 = .ok (.invokestatic 51, 3) := by decide +kernel
theorem dX1_minutesOf_17 : decode cX1_minutesOf 17 = .ok (.ifCond .eq 12, 3) := by decide +kernel
theorem dX1_minutesOf_20 : decode cX1_minutesOf 20 = .ok (.iload_n 2, 1) := by decide +kernel
theorem dX1_minutesOf_21 : decode cX1_minutesOf 21 = .ok (.aload_n 0, 1) := by decide +kernel
theorem dX1_minutesOf_22 : decode cX1_minutesOf 22 = .ok (.getfield 18, 3) := by decide +kernel
theorem dX1_minutesOf_25 : decode cX1_minutesOf 25 = .ok (.iload_n 3, 1) := by decide +kernel
theorem dX1_minutesOf_26 : decode cX1_minutesOf 26 = .ok (.iaload, 1) := by decide +kernel
theorem dX1_minutesOf_27 : decode cX1_minutesOf 27 = .ok (.iadd, 1) := by decide +kernel
theorem dX1_minutesOf_28 : decode cX1_minutesOf 28 = .ok (.istore_n 2, 1) := by decide +kernel
theorem dX1_minutesOf_29 : decode cX1_minutesOf 29 = .ok (.iinc 3 1, 3) := by decide +kernel
theorem dX1_minutesOf_32 : decode cX1_minutesOf 32 = .ok (.goto (-28), 3) := by decide +kernel
theorem dX1_minutesOf_35 : decode cX1_minutesOf 35 = .ok (.iload_n 2, 1) := by decide +kernel
theorem dX1_minutesOf_36 : decode cX1_minutesOf 36 = .ok (.ireturn, 1) := by decide +kernel
theorem dX2_init_0 : decode cX2_init 0 = .ok (.aload_n 0, 1) := by decide +kernel
theorem dX2_init_1 : decode cX2_init 1 = .ok (.invokespecial 3, 3) := by decide +kernel
theorem dX2_init_4 : decode cX2_init 4 = .ok (.aload_n 0, 1) := by decide +kernel
theorem dX2_init_5 : decode cX2_init 5 = .ok (.sipush 160, 3) := by decide +kernel
theorem dX2_init_8 : decode cX2_init 8 = .ok (.newarray .int, 2) := by decide +kernel
theorem dX2_init_10 : decode cX2_init 10 = .ok (.putfield 9, 3) := by decide +kernel
theorem dX2_init_13 : decode cX2_init 13 = .ok (.aload_n 0, 1) := by decide +kernel
theorem dX2_init_14 : decode cX2_init 14 = .ok (.bipush 14, 2) := by decide +kernel
theorem dX2_init_16 : decode cX2_init 16 = .ok (.newarray .int, 2) := by decide +kernel
theorem dX2_init_18 : decode cX2_init 18 = .ok (.putfield 15, 3) := by decide +kernel
theorem dX2_init_21 : decode cX2_init 21 = .ok (.aload_n 0, 1) := by decide +kernel
theorem dX2_init_22 : decode cX2_init 22 = .ok (.bipush 14, 2) := by decide +kernel
theorem dX2_init_24 : decode cX2_init 24 = .ok (.newarray .int, 2) := by decide +kernel
theorem dX2_init_26 : decode cX2_init 26 = .ok (.putfield 18, 3) := by decide +kernel
theorem dX2_init_29 : decode cX2_init 29 = .ok (.aload_n 0, 1) := by decide +kernel
theorem dX2_init_30 : decode cX2_init 30 = .ok (.bipush 14, 2) := by decide +kernel
theorem dX2_init_32 : decode cX2_init 32 = .ok (.newarray .int, 2) := by decide +kernel
theorem dX2_init_34 : decode cX2_init 34 = .ok (.putfield 21, 3) := by decide +kernel
theorem dX2_init_37 : decode cX2_init 37 = .ok (.return_, 1) := by decide +kernel
theorem dX2_add_0 : decode cX2_add 0 = .ok (.aload_n 0, 1) := by decide +kernel
theorem dX2_add_1 : decode cX2_add 1 = .ok (.getfield 24, 3) := by decide +kernel
theorem dX2_add_4 : decode cX2_add 4 = .ok (.sipush 160, 3) := by decide +kernel
theorem dX2_add_7 : decode cX2_add 7 = .ok (.if_icmp .lt 5, 3) := by decide +kernel
theorem dX2_add_10 : decode cX2_add 10 = .ok (.iconst 0, 1) := by decide +kernel
theorem dX2_add_11 : decode cX2_add 11 = .ok (.ireturn, 1) := by decide +kernel
theorem dX2_add_12 : decode cX2_add 12 = .ok (.aload_n 0, 1) := by decide +kernel
theorem dX2_add_13 : decode cX2_add 13 = .ok (.getfield 9, 3) := by decide +kernel
theorem dX2_add_16 : decode cX2_add 16 = .ok (.aload_n 0, 1) := by decide +kernel
theorem dX2_add_17 : decode cX2_add 17 = .ok (.getfield 24, 3) := by decide +kernel
theorem dX2_add_20 : decode cX2_add 20 = .ok (.iload_n 1, 1) := by decide +kernel
theorem dX2_add_21 : decode cX2_add 21 = .ok (.iastore, 1) := by decide +kernel
theorem dX2_add_22 : decode cX2_add 22 = .ok (.aload_n 0, 1) := by decide +kernel
theorem dX2_add_23 : decode cX2_add 23 = .ok (.dup, 1) := by decide +kernel
theorem dX2_add_24 : decode cX2_add 24 = .ok (.getfield 24, 3) := by decide +kernel
theorem dX2_add_27 : decode cX2_add 27 = .ok (.iconst 1, 1) := by decide +kernel
theorem dX2_add_28 : decode cX2_add 28 = .ok (.iadd, 1) := by decide +kernel
theorem dX2_add_29 : decode cX2_add 29 = .ok (.putfield 24, 3) := by decide +kernel
theorem dX2_add_32 : decode cX2_add 32 = .ok (.iconst 1, 1) := by decide +kernel
theorem dX2_add_33 : decode cX2_add 33 = .ok (.ireturn, 1) := by decide +kernel
theorem dX2_firstFault_0 : decode cX2_firstFault 0 = .ok (.aload_n 0, 1) := by decide +kernel
theorem dX2_firstFault_1 : decode cX2_firstFault 1 = .ok (.iload_n 1, 1) := by decide +kernel
theorem dX2_firstFault_2 : decode cX2_firstFault 2 = .ok (.putfield 28, 3) := by decide +kernel
theorem dX2_firstFault_5 : decode cX2_firstFault 5 = .ok (.aload_n 0, 1) := by decide +kernel
theorem dX2_firstFault_6 : decode cX2_firstFault 6 = .ok (.iload_n 2, 1) := by decide +kernel
theorem dX2_firstFault_7 : decode cX2_firstFault 7 = .ok (.putfield 31, 3) := by decide +kernel
theorem dX2_firstFault_10 : decode cX2_firstFault 10 = .ok (.aload_n 0, 1) := by decide +kernel
theorem dX2_firstFault_11 : decode cX2_firstFault 11 = .ok (.iconst 0, 1) := by decide +kernel
theorem dX2_firstFault_12 : decode cX2_firstFault 12 = .ok (.putfield 34, 3) := by decide +kernel
theorem dX2_firstFault_15 : decode cX2_firstFault 15 = .ok (.aload_n 0, 1) := by decide +kernel
theorem dX2_firstFault_16 : decode cX2_firstFault 16 = .ok (.iconst 0, 1) := by decide +kernel
theorem dX2_firstFault_17 : decode cX2_firstFault 17 = .ok (.putfield 37, 3) := by decide +kernel
theorem dX2_firstFault_20 : decode cX2_firstFault 20 = .ok (.iconst 0, 1) := by decide +kernel
theorem dX2_firstFault_21 : decode cX2_firstFault 21 = .ok (.istore_n 3, 1) := by decide +kernel
theorem dX2_firstFault_22 : decode cX2_firstFault 22 = .ok (.iload_n 3, 1) := by decide +kernel
theorem dX2_firstFault_23 : decode cX2_firstFault 23 = .ok (.bipush 14, 2) := by decide +kernel
theorem dX2_firstFault_25 : decode cX2_firstFault 25 = .ok (.if_icmp .ge 65, 3) := by decide +kernel
theorem dX2_firstFault_28 : decode cX2_firstFault 28 = .ok (.aload_n 0, 1) := by decide +kernel
theorem dX2_firstFault_29 : decode cX2_firstFault 29 = .ok (.iload_n 3, 1) := by decide +kernel
theorem dX2_firstFault_30 : decode cX2_firstFault 30 = .ok (.invokevirtual 40, 3) := by decide +kernel
theorem dX2_firstFault_33 : decode cX2_firstFault 33 = .ok (.ifCond .ne 8, 3) := by decide +kernel
theorem dX2_firstFault_36 : decode cX2_firstFault 36 = .ok (.aload_n 0, 1) := by decide +kernel
theorem dX2_firstFault_37 : decode cX2_firstFault 37 = .ok (.getfield 44, 3) := by decide +kernel
theorem dX2_firstFault_40 : decode cX2_firstFault 40 = .ok (.ireturn, 1) := by decide +kernel
theorem dX2_firstFault_41 : decode cX2_firstFault 41 = .ok (.aload_n 0, 1) := by decide +kernel
theorem dX2_firstFault_42 : decode cX2_firstFault 42 = .ok (.iload_n 3, 1) := by decide +kernel
theorem dX2_firstFault_43 : decode cX2_firstFault 43 = .ok (.iconst 1, 1) := by decide +kernel
theorem dX2_firstFault_44 : decode cX2_firstFault 44 = .ok (.iadd, 1) := by decide +kernel
theorem dX2_firstFault_45 : decode cX2_firstFault 45 = .ok (.putfield 37, 3) := by decide +kernel
theorem dX2_firstFault_48 : decode cX2_firstFault 48 = .ok (.aload_n 0, 1) := by decide +kernel
theorem dX2_firstFault_49 : decode cX2_firstFault 49 = .ok (.invokevirtual 47, 3) := by decide +kernel
theorem dX2_firstFault_52 : decode cX2_firstFault 52 = .ok (.aload_n 0, 1) := by decide +kernel
theorem dX2_firstFault_53 : decode cX2_firstFault 53 = .ok (.getfield 44, 3) := by decide +kernel
theorem dX2_firstFault_56 : decode cX2_firstFault 56 = .ok (.aload_n 0, 1) := by decide +kernel
theorem dX2_firstFault_57 : decode cX2_firstFault 57 = .ok (.getfield 24, 3) := by decide +kernel
theorem dX2_firstFault_60 : decode cX2_firstFault 60 = .ok (.if_icmp .lt 5, 3) := by decide +kernel
theorem dX2_firstFault_63 : decode cX2_firstFault 63 = .ok (.iconst (-1), 1) := by decide +kernel
theorem dX2_firstFault_64 : decode cX2_firstFault 64 = .ok (.ireturn, 1) := by decide +kernel
theorem dX2_firstFault_65 : decode cX2_firstFault 65 = .ok (.aload_n 0, 1) := by decide +kernel
theorem dX2_firstFault_66 : decode cX2_firstFault 66 = .ok (.getfield 9, 3) := by decide +kernel
theorem dX2_firstFault_69 : decode cX2_firstFault 69 = .ok (.aload_n 0, 1) := by decide +kernel
theorem dX2_firstFault_70 : decode cX2_firstFault 70 = .ok (.getfield 44, 3) := by decide +kernel
theorem dX2_firstFault_73 : decode cX2_firstFault 73 = .ok (.iaload, 1) := by decide +kernel
theorem dX2_firstFault_74 : decode cX2_firstFault 74 = .ok (.bipush 59, 2) := by decide +kernel
theorem dX2_firstFault_76 : decode cX2_firstFault 76 = .ok (.if_icmp .eq 8, 3) := by decide +kernel
theorem dX2_firstFault_79 : decode cX2_firstFault 79 = .ok (.aload_n 0, 1) := by decide +kernel
theorem dX2_firstFault_80 : decode cX2_firstFault 80 = .ok (.getfield 44, 3) := by decide +kernel
theorem dX2_firstFault_83 : decode cX2_firstFault 83 = .ok (.ireturn, 1) := by decide +kernel
theorem dX2_firstFault_84 : decode cX2_firstFault 84 = .ok (.iinc 3 1, 3) := by decide +kernel
theorem dX2_firstFault_87 : decode cX2_firstFault 87 = .ok (.goto (-65), 3) := by decide +kernel
theorem dX2_firstFault_90 : decode cX2_firstFault 90 = .ok (.aload_n 0, 1) := by decide +kernel
theorem dX2_firstFault_91 : decode cX2_firstFault 91 = .ok (.getfield 44, 3) := by decide +kernel
theorem dX2_firstFault_94 : decode cX2_firstFault 94 = .ok (.ireturn, 1) := by decide +kernel
theorem dX2_readClause_0 : decode cX2_readClause 0 = .ok (.aload_n 0, 1) := by decide +kernel
theorem dX2_readClause_1 : decode cX2_readClause 1 = .ok (.invokevirtual 47, 3) := by decide +kernel
theorem dX2_readClause_4 : decode cX2_readClause 4 = .ok (.aload_n 0, 1) := by decide +kernel
theorem dX2_readClause_5 : decode cX2_readClause 5 = .ok (.invokevirtual 50, 3) := by decide +kernel
theorem dX2_readClause_8 : decode cX2_readClause 8 = .ok (.istore_n 2, 1) := by decide +kernel
theorem dX2_readClause_9 : decode cX2_readClause 9 = .ok (.aload_n 0, 1) := by decide +kernel
theorem dX2_readClause_10 : decode cX2_readClause 10 = .ok (.getfield 15, 3) := by decide +kernel
theorem dX2_readClause_13 : decode cX2_readClause 13 = .ok (.iload_n 1, 1) := by decide +kernel
theorem dX2_readClause_14 : decode cX2_readClause 14 = .ok (.iload_n 2, 1) := by decide +kernel
theorem dX2_readClause_15 : decode cX2_readClause 15 = .ok (.iastore, 1) := by decide +kernel
theorem dX2_readClause_16 : decode cX2_readClause 16 = .ok (.aload_n 0, 1) := by decide +kernel
theorem dX2_readClause_17 : decode cX2_readClause 17 = .ok (.getfield 18, 3) := by decide +kernel
theorem dX2_readClause_20 : decode cX2_readClause 20 = .ok (.iload_n 1, 1) := by decide +kernel
theorem dX2_readClause_21 : decode cX2_readClause 21 = .ok (.iconst 0, 1) := by decide +kernel
theorem dX2_readClause_22 : decode cX2_readClause 22 = .ok (.iastore, 1) := by decide +kernel
theorem dX2_readClause_23 : decode cX2_readClause 23 = .ok (.aload_n 0, 1) := by decide +kernel
theorem dX2_readClause_24 : decode cX2_readClause 24 = .ok (.getfield 21, 3) := by decide +kernel
theorem dX2_readClause_27 : decode cX2_readClause 27 = .ok (.iload_n 1, 1) := by decide +kernel
theorem dX2_readClause_28 : decode cX2_readClause 28 = .ok (.iconst 0, 1) := by decide +kernel
theorem dX2_readClause_29 : decode cX2_readClause 29 = .ok (.iastore, 1) := by decide +kernel
theorem dX2_readClause_30 : decode cX2_readClause 30 = .ok (.iload_n 2, 1) := by decide +kernel
theorem dX2_readClause_31 : decode cX2_readClause 31 = .ok (.iconst (-1), 1) := by decide +kernel
theorem dX2_readClause_32 : decode cX2_readClause 32 = .ok (.if_icmp .ne 5, 3) := by decide +kernel
theorem dX2_readClause_35 : decode cX2_readClause 35 = .ok (.iconst 0, 1) := by decide +kernel
theorem dX2_readClause_36 : decode cX2_readClause 36 = .ok (.ireturn, 1) := by decide +kernel
theorem dX2_readClause_37 : decode cX2_readClause 37 = .ok (.aload_n 0, 1) := by decide +kernel
theorem dX2_readClause_38 : decode cX2_readClause 38 = .ok (.iload_n 2, 1) := by decide +kernel
theorem dX2_readClause_39 : decode cX2_readClause 39 = .ok (.invokevirtual 54, 3) := by decide +kernel
theorem dX2_readClause_42 : decode cX2_readClause 42 = .ok (.aload_n 0, 1) := by decide +kernel
theorem dX2_readClause_43 : decode cX2_readClause 43 = .ok (.getfield 28, 3) := by decide +kernel
theorem dX2_readClause_46 : decode cX2_readClause 46 = .ok (.bipush 8, 2) := by decide +kernel
theorem dX2_readClause_48 : decode cX2_readClause 48 = .ok (.if_icmp .gt 12, 3) := by decide +kernel
theorem dX2_readClause_51 : decode cX2_readClause 51 = .ok (.aload_n 0, 1) := by decide +kernel
theorem dX2_readClause_52 : decode cX2_readClause 52 = .ok (.getfield 31, 3) := by decide +kernel
theorem dX2_readClause_55 : decode cX2_readClause 55 = .ok (.bipush 6, 2) := by decide +kernel
theorem dX2_readClause_57 : decode cX2_readClause 57 = .ok (.if_icmp .le 5, 3) := by decide +kernel
theorem dX2_readClause_60 : decode cX2_readClause 60 = .ok (.iconst 0, 1) := by decide +kernel
theorem dX2_readClause_61 : decode cX2_readClause 61 = .ok (.ireturn, 1) := by decide +kernel
theorem dX2_readClause_62 : decode cX2_readClause 62 = .ok (.iload_n 2, 1) := by decide +kernel
theorem dX2_readClause_63 : decode cX2_readClause 63 = .ok (.ifCond .ne 5, 3) := by decide +kernel
theorem dX2_readClause_66 : decode cX2_readClause 66 = .ok (.iconst 1, 1) := by decide +kernel
theorem dX2_readClause_67 : decode cX2_readClause 67 = .ok (.ireturn, 1) := by decide +kernel
theorem dX2_readClause_68 : decode cX2_readClause 68 = .ok (.aload_n 0, 1) := by decide +kernel
theorem dX2_readClause_69 : decode cX2_readClause 69 = .ok (.invokevirtual 47, 3) := by decide +kernel
theorem dX2_readClause_72 : decode cX2_readClause 72 = .ok (.aload_n 0, 1) := by decide +kernel
theorem dX2_readClause_73 : decode cX2_readClause 73 = .ok (.getfield 18, 3) := by decide +kernel
theorem dX2_readClause_76 : decode cX2_readClause 76 = .ok (.iload_n 1, 1) := by decide +kernel
theorem dX2_readClause_77 : decode cX2_readClause 77 = .ok (.aload_n 0, 1) := by decide +kernel
theorem dX2_readClause_78 : decode cX2_readClause 78 = .ok (.invokevirtual 58, 3) := by decide +kernel
theorem dX2_readClause_81 : decode cX2_readClause 81 = .ok (.iastore, 1) := by decide +kernel
theorem dX2_readClause_82 : decode cX2_readClause 82 = .ok (.aload_n 0, 1) := by decide +kernel
theorem dX2_readClause_83 : decode cX2_readClause 83 = .ok (.getfield 18, 3) := by decide +kernel
theorem dX2_readClause_86 : decode cX2_readClause 86 = .ok (.iload_n 1, 1) := by decide +kernel
theorem dX2_readClause_87 : decode cX2_readClause 87 = .ok (.iaload, 1) := by decide +kernel
theorem dX2_readClause_88 : decode cX2_readClause 88 = .ok (.iconst 0, 1) := by decide +kernel
theorem dX2_readClause_89 : decode cX2_readClause 89 = .ok (.iload_n 2, 1) := by decide +kernel
theorem dX2_readClause_90 : decode cX2_readClause 90 = .ok (.invokestatic 61, 3) := by decide +kernel
theorem dX2_readClause_93 : decode cX2_readClause 93 = .ok (.invokestatic 65, 3) := by decide +kernel
theorem dX2_readClause_96 : decode cX2_readClause 96 = .ok (.ifCond .ne 5, 3) := by decide +kernel
theorem dX2_readClause_99 : decode cX2_readClause 99 = .ok (.iconst 0, 1) := by decide +kernel
theorem dX2_readClause_100 : decode cX2_readClause 100 = .ok (.ireturn, 1) := by decide +kernel
theorem dX2_readClause_101 : decode cX2_readClause 101 = .ok (.iload_n 2, 1) := by decide +kernel
theorem dX2_readClause_102 : decode cX2_readClause 102 = .ok (.invokestatic 69, 3) := by decide +kernel
theorem dX2_readClause_105 : decode cX2_readClause 105 = .ok (.ifCond .ne 5, 3) := by decide +kernel
theorem dX2_readClause_108 : decode cX2_readClause 108 = .ok (.iconst 1, 1) := by decide +kernel
theorem dX2_readClause_109 : decode cX2_readClause 109 = .ok (.ireturn, 1) := by decide +kernel
theorem dX2_readClause_110 : decode cX2_readClause 110 = .ok (.aload_n 0, 1) := by decide +kernel
theorem dX2_readClause_111 : decode cX2_readClause 111 = .ok (.invokevirtual 47, 3) := by decide +kernel
theorem dX2_readClause_114 : decode cX2_readClause 114 = .ok (.aload_n 0, 1) := by decide +kernel
theorem dX2_readClause_115 : decode cX2_readClause 115 = .ok (.getfield 21, 3) := by decide +kernel
theorem dX2_readClause_118 : decode cX2_readClause 118 = .ok (.iload_n 1, 1) := by decide +kernel
theorem dX2_readClause_119 : decode cX2_readClause 119 = .ok (.aload_n 0, 1) := by decide +kernel
theorem dX2_readClause_120 : decode cX2_readClause 120 = .ok (.invokevirtual 58, 3) := by decide +kernel
theorem dX2_readClause_123 : decode cX2_readClause 123 = .ok (.iastore, 1) := by decide +kernel
theorem dX2_readClause_124 : decode cX2_readClause 124 = .ok (.aload_n 0, 1) := by decide +kernel
theorem dX2_readClause_125 : decode cX2_readClause 125 = .ok (.getfield 21, 3) := by decide +kernel
theorem dX2_readClause_128 : decode cX2_readClause 128 = .ok (.iload_n 1, 1) := by decide +kernel
theorem dX2_readClause_129 : decode cX2_readClause 129 = .ok (.iaload, 1) := by decide +kernel
theorem dX2_readClause_130 : decode cX2_readClause 130 = .ok (.iconst 1, 1) := by decide +kernel
theorem dX2_readClause_131 : decode cX2_readClause 131 = .ok (.bipush 30, 2) := by decide +kernel
theorem dX2_readClause_133 : decode cX2_readClause 133 = .ok (.invokestatic 65, 3) := by decide +kernel
theorem dX2_readClause_136 : decode cX2_readClause 136 = .ok (.ireturn, 1) := by decide +kernel
theorem dX2_countPartsAndSouls_0 : decode cX2_countPartsAndSouls 0 = .ok (.iload_n 1, 1) := by decide +kernel
theorem dX2_countPartsAndSouls_1 : decode cX2_countPartsAndSouls 1 = .ok (.ifCond .ne 16, 3) := by decide +kernel
theorem dX2_countPartsAndSouls_4 : decode cX2_countPartsAndSouls 4 = .ok (.aload_n 0, 1) := by decide +kernel
theorem dX2_countPartsAndSouls_5 : decode cX2_countPartsAndSouls 5 = .ok (.iconst 0, 1) := by decide +kernel
theorem dX2_countPartsAndSouls_6 : decode cX2_countPartsAndSouls 6 = .ok (.putfield 28, 3) := by decide +kernel
theorem dX2_countPartsAndSouls_9 : decode cX2_countPartsAndSouls 9 = .ok (.aload_n 0, 1) := by decide +kernel
theorem dX2_countPartsAndSouls_10 : decode cX2_countPartsAndSouls 10 = .ok (.iconst 0, 1) := by decide +kernel
theorem dX2_countPartsAndSouls_11 : decode cX2_countPartsAndSouls 11 = .ok (.putfield 31, 3) := by decide +kernel
theorem dX2_countPartsAndSouls_14 : decode cX2_countPartsAndSouls 14 = .ok (.goto 38, 3) := by decide +kernel
theorem dX2_countPartsAndSouls_17 : decode cX2_countPartsAndSouls 17 = .ok (.iload_n 1, 1) := by decide +kernel
theorem dX2_countPartsAndSouls_18 : decode cX2_countPartsAndSouls 18 = .ok (.iconst 5, 1) := by decide +kernel
theorem dX2_countPartsAndSouls_19 : decode cX2_countPartsAndSouls 19 = .ok (.if_icmp .ne 16, 3) := by decide +kernel
theorem dX2_countPartsAndSouls_22 : decode cX2_countPartsAndSouls 22 = .ok (.aload_n 0, 1) := by decide +kernel
theorem dX2_countPartsAndSouls_23 : decode cX2_countPartsAndSouls 23 = .ok (.dup, 1) := by decide +kernel
theorem dX2_countPartsAndSouls_24 : decode cX2_countPartsAndSouls 24 = .ok (.getfield 31, 3) := by decide +kernel
theorem dX2_countPartsAndSouls_27 : decode cX2_countPartsAndSouls 27 = .ok (.iconst 1, 1) := by decide +kernel
theorem dX2_countPartsAndSouls_28 : decode cX2_countPartsAndSouls 28 = .ok (.iadd, 1) := by decide +kernel
theorem dX2_countPartsAndSouls_29 : decode cX2_countPartsAndSouls 29 = .ok (.putfield 31, 3) := by decide +kernel
theorem dX2_countPartsAndSouls_32 : decode cX2_countPartsAndSouls 32 = .ok (.goto 20, 3) := by decide +kernel
theorem dX2_countPartsAndSouls_35 : decode cX2_countPartsAndSouls 35 = .ok (.iload_n 1, 1) := by decide +kernel
theorem dX2_countPartsAndSouls_36 : decode cX2_countPartsAndSouls 36 = .ok (.invokestatic 69, 3) := by decide +kernel
theorem dX2_countPartsAndSouls_39 : decode cX2_countPartsAndSouls 39 = .ok (.ifCond .eq 13, 3) := by decide +kernel
theorem dX2_countPartsAndSouls_42 : decode cX2_countPartsAndSouls 42 = .ok (.aload_n 0, 1) := by decide +kernel
theorem dX2_countPartsAndSouls_43 : decode cX2_countPartsAndSouls 43 = .ok (.dup, 1) := by decide +kernel
theorem dX2_countPartsAndSouls_44 : decode cX2_countPartsAndSouls 44 = .ok (.getfield 28, 3) := by decide +kernel
theorem dX2_countPartsAndSouls_47 : decode cX2_countPartsAndSouls 47 = .ok (.iconst 1, 1) := by decide +kernel
theorem dX2_countPartsAndSouls_48 : decode cX2_countPartsAndSouls 48 = .ok (.iadd, 1) := by decide +kernel
theorem dX2_countPartsAndSouls_49 : decode cX2_countPartsAndSouls 49 = .ok (.putfield 28, 3) := by decide +kernel
theorem dX2_countPartsAndSouls_52 : decode cX2_countPartsAndSouls 52 = .ok (.return_, 1) := by decide +kernel
theorem dX2_isOfPart_0 : decode cX2_isOfPart 0 = .ok (.iload_n 0, 1) := by decide +kernel
theorem dX2_isOfPart_1 : decode cX2_isOfPart 1 = .ok (.iconst 1, 1) := by decide +kernel
theorem dX2_isOfPart_2 : decode cX2_isOfPart 2 = .ok (.iconst 4, 1) := by decide +kernel
theorem dX2_isOfPart_3 : decode cX2_isOfPart 3 = .ok (.invokestatic 65, 3) := by decide +kernel
theorem dX2_isOfPart_6 : decode cX2_isOfPart 6 = .ok (.ireturn, 1) := by decide +kernel
theorem dX2_mostFirst_0 : decode cX2_mostFirst 0 = .ok (.iload_n 0, 1) := by decide +kernel
theorem dX2_mostFirst_1 : decode cX2_mostFirst 1 = .ok (.tableswitch 42 5 8 #[31, 34, 37, 39], 31) := by decide +kernel
theorem dX2_mostFirst_32 : decode cX2_mostFirst 32 = .ok (.bipush 40, 2) := by decide +kernel
theorem dX2_mostFirst_34 : decode cX2_mostFirst 34 = .ok (.ireturn, 1) := by decide +kernel
theorem dX2_mostFirst_35 : decode cX2_mostFirst 35 = .ok (.bipush 9, 2) := by decide +kernel
theorem dX2_mostFirst_37 : decode cX2_mostFirst 37 = .ok (.ireturn, 1) := by decide +kernel
theorem dX2_mostFirst_38 : decode cX2_mostFirst 38 = .ok (.iconst 5, 1) := by decide +kernel
theorem dX2_mostFirst_39 : decode cX2_mostFirst 39 = .ok (.ireturn, 1) := by decide +kernel
theorem dX2_mostFirst_40 : decode cX2_mostFirst 40 = .ok (.bipush 9, 2) := by decide +kernel
theorem dX2_mostFirst_42 : decode cX2_mostFirst 42 = .ok (.ireturn, 1) := by decide +kernel
theorem dX2_mostFirst_43 : decode cX2_mostFirst 43 = .ok (.bipush 20, 2) := by decide +kernel
theorem dX2_mostFirst_45 : decode cX2_mostFirst 45 = .ok (.ireturn, 1) := by decide +kernel
theorem dX2_nextToken_0 : decode cX2_nextToken 0 = .ok (.aload_n 0, 1) := by decide +kernel
theorem dX2_nextToken_1 : decode cX2_nextToken 1 = .ok (.aload_n 0, 1) := by decide +kernel
theorem dX2_nextToken_2 : decode cX2_nextToken 2 = .ok (.aload_n 0, 1) := by decide +kernel
theorem dX2_nextToken_3 : decode cX2_nextToken 3 = .ok (.getfield 34, 3) := by decide +kernel
theorem dX2_nextToken_6 : decode cX2_nextToken 6 = .ok (.bipush 32, 2) := by decide +kernel
theorem dX2_nextToken_8 : decode cX2_nextToken 8 = .ok (.bipush 32, 2) := by decide +kernel
theorem dX2_nextToken_10 : decode cX2_nextToken 10 = .ok (.invokevirtual 72, 3) := by decide +kernel
theorem dX2_nextToken_13 : decode cX2_nextToken 13 = .ok (.putfield 44, 3) := by decide +kernel
theorem dX2_nextToken_16 : decode cX2_nextToken 16 = .ok (.aload_n 0, 1) := by decide +kernel
theorem dX2_nextToken_17 : decode cX2_nextToken 17 = .ok (.aload_n 0, 1) := by decide +kernel
theorem dX2_nextToken_18 : decode cX2_nextToken 18 = .ok (.aload_n 0, 1) := by decide +kernel
theorem dX2_nextToken_19 : decode cX2_nextToken 19 = .ok (.getfield 44, 3) := by decide +kernel
theorem dX2_nextToken_22 : decode cX2_nextToken 22 = .ok (.bipush 97, 2) := by decide +kernel
theorem dX2_nextToken_24 : decode cX2_nextToken 24 = .ok (.bipush 122, 2) := by decide +kernel
theorem dX2_nextToken_26 : decode cX2_nextToken 26 = .ok (.invokevirtual 72, 3) := by decide +kernel
theorem dX2_nextToken_29 : decode cX2_nextToken 29 = .ok (.putfield 34, 3) := by decide +kernel
theorem dX2_nextToken_32 : decode cX2_nextToken 32 = .ok (.aload_n 0, 1) := by decide +kernel
theorem dX2_nextToken_33 : decode cX2_nextToken 33 = .ok (.getfield 34, 3) := by decide +kernel
theorem dX2_nextToken_36 : decode cX2_nextToken 36 = .ok (.aload_n 0, 1) := by decide +kernel
theorem dX2_nextToken_37 : decode cX2_nextToken 37 = .ok (.getfield 44, 3) := by decide +kernel
theorem dX2_nextToken_40 : decode cX2_nextToken 40 = .ok (.if_icmp .ne 19, 3) := by decide +kernel
theorem dX2_nextToken_43 : decode cX2_nextToken 43 = .ok (.aload_n 0, 1) := by decide +kernel
theorem dX2_nextToken_44 : decode cX2_nextToken 44 = .ok (.aload_n 0, 1) := by decide +kernel
theorem dX2_nextToken_45 : decode cX2_nextToken 45 = .ok (.aload_n 0, 1) := by decide +kernel
theorem dX2_nextToken_46 : decode cX2_nextToken 46 = .ok (.getfield 44, 3) := by decide +kernel
theorem dX2_nextToken_49 : decode cX2_nextToken 49 = .ok (.bipush 48, 2) := by decide +kernel
theorem dX2_nextToken_51 : decode cX2_nextToken 51 = .ok (.bipush 57, 2) := by decide +kernel
theorem dX2_nextToken_53 : decode cX2_nextToken 53 = .ok (.invokevirtual 72, 3) := by decide +kernel
theorem dX2_nextToken_56 : decode cX2_nextToken 56 = .ok (.putfield 34, 3) := by decide +kernel
theorem dX2_nextToken_59 : decode cX2_nextToken 59 = .ok (.aload_n 0, 1) := by decide +kernel
theorem dX2_nextToken_60 : decode cX2_nextToken 60 = .ok (.getfield 34, 3) := by decide +kernel
theorem dX2_nextToken_63 : decode cX2_nextToken 63 = .ok (.aload_n 0, 1) := by decide +kernel
theorem dX2_nextToken_64 : decode cX2_nextToken 64 = .ok (.getfield 44, 3) := by decide +kernel
theorem dX2_nextToken_67 : decode cX2_nextToken 67 = .ok (.if_icmp .ne 24, 3) := by decide +kernel
theorem dX2_nextToken_70 : decode cX2_nextToken 70 = .ok (.aload_n 0, 1) := by decide +kernel
theorem dX2_nextToken_71 : decode cX2_nextToken 71 = .ok (.getfield 44, 3) := by decide +kernel
theorem dX2_nextToken_74 : decode cX2_nextToken 74 = .ok (.aload_n 0, 1) := by decide +kernel
theorem dX2_nextToken_75 : decode cX2_nextToken 75 = .ok (.getfield 24, 3) := by decide +kernel
theorem dX2_nextToken_78 : decode cX2_nextToken 78 = .ok (.if_icmp .ge 13, 3) := by decide +kernel
theorem dX2_nextToken_81 : decode cX2_nextToken 81 = .ok (.aload_n 0, 1) := by decide +kernel
theorem dX2_nextToken_82 : decode cX2_nextToken 82 = .ok (.dup, 1) := by decide +kernel
theorem dX2_nextToken_83 : decode cX2_nextToken 83 = .ok (.getfield 34, 3) := by decide +kernel
theorem dX2_nextToken_86 : decode cX2_nextToken 86 = .ok (.iconst 1, 1) := by decide +kernel
theorem dX2_nextToken_87 : decode cX2_nextToken 87 = .ok (.iadd, 1) := by decide +kernel
theorem dX2_nextToken_88 : decode cX2_nextToken 88 = .ok (.putfield 34, 3) := by decide +kernel
theorem dX2_nextToken_91 : decode cX2_nextToken 91 = .ok (.return_, 1) := by decide +kernel
theorem dX2_endOfRow_0 : decode cX2_endOfRow 0 = .ok (.iload_n 1, 1) := by decide +kernel
theorem dX2_endOfRow_1 : decode cX2_endOfRow 1 = .ok (.istore 4, 2) := by decide +kernel
theorem dX2_endOfRow_3 : decode cX2_endOfRow 3 = .ok (.iload 4, 2) := by decide +kernel
theorem dX2_endOfRow_5 : decode cX2_endOfRow 5 = .ok (.aload_n 0, 1) := by decide +kernel
theorem dX2_endOfRow_6 : decode cX2_endOfRow 6 = .ok (.getfield 24, 3) := by decide +kernel
theorem dX2_endOfRow_9 : decode cX2_endOfRow 9 = .ok (.if_icmp .ge 24, 3) := by decide +kernel
theorem dX2_endOfRow_12 : decode cX2_endOfRow 12 = .ok (.aload_n 0, 1) := by decide +kernel
theorem dX2_endOfRow_13 : decode cX2_endOfRow 13 = .ok (.getfield 9, 3) := by decide +kernel
theorem dX2_endOfRow_16 : decode cX2_endOfRow 16 = .ok (.iload 4, 2) := by decide +kernel
theorem dX2_endOfRow_18 : decode cX2_endOfRow 18 = .ok (.iaload, 1) := by decide +kernel
theorem dX2_endOfRow_19 : decode cX2_endOfRow 19 = .ok (.iload_n 2, 1) := by decide +kernel
theorem dX2_endOfRow_20 : decode cX2_endOfRow 20 = .ok (.iload_n 3, 1) := by decide +kernel
theorem dX2_endOfRow_21 : decode cX2_endOfRow 21 = .ok (.invokestatic 65, 3) := by decide +kernel
theorem dX2_endOfRow_24 : decode cX2_endOfRow 24 = .ok (.ifCond .eq 9, 3) := by decide +kernel
theorem dX2_endOfRow_27 : decode cX2_endOfRow 27 = .ok (.iinc 4 1, 3) := by decide +kernel
theorem dX2_endOfRow_30 : decode cX2_endOfRow 30 = .ok (.goto (-27), 3) := by decide +kernel
theorem dX2_endOfRow_33 : decode cX2_endOfRow 33 = .ok (.iload 4, 2) := by decide +kernel
theorem dX2_endOfRow_35 : decode cX2_endOfRow 35 = .ok (.ireturn, 1) := by decide +kernel
theorem dX2_tokenNumber_0 : decode cX2_tokenNumber 0 = .ok (.aload_n 0, 1) := by decide +kernel
theorem dX2_tokenNumber_1 : decode cX2_tokenNumber 1 = .ok (.getfield 34, 3) := by decide +kernel
theorem dX2_tokenNumber_4 : decode cX2_tokenNumber 4 = .ok (.aload_n 0, 1) := by decide +kernel
theorem dX2_tokenNumber_5 : decode cX2_tokenNumber 5 = .ok (.getfield 44, 3) := by decide +kernel
theorem dX2_tokenNumber_8 : decode cX2_tokenNumber 8 = .ok (.isub, 1) := by decide +kernel
theorem dX2_tokenNumber_9 : decode cX2_tokenNumber 9 = .ok (.istore_n 1, 1) := by decide +kernel
theorem dX2_tokenNumber_10 : decode cX2_tokenNumber 10 = .ok (.iload_n 1, 1) := by decide +kernel
theorem dX2_tokenNumber_11 : decode cX2_tokenNumber 11 = .ok (.iconst 1, 1) := by decide +kernel
theorem dX2_tokenNumber_12 : decode cX2_tokenNumber 12 = .ok (.if_icmp .lt 27, 3) := by decide +kernel
theorem dX2_tokenNumber_15 : decode cX2_tokenNumber 15 = .ok (.iload_n 1, 1) := by decide +kernel
theorem dX2_tokenNumber_16 : decode cX2_tokenNumber 16 = .ok (.iconst 2, 1) := by decide +kernel
theorem dX2_tokenNumber_17 : decode cX2_tokenNumber 17 = .ok (.if_icmp .gt 22, 3) := by decide +kernel
theorem dX2_tokenNumber_20 : decode cX2_tokenNumber 20 = .ok (.aload_n 0, 1) := by decide +kernel
theorem dX2_tokenNumber_21 : decode cX2_tokenNumber 21 = .ok (.getfield 9, 3) := by decide +kernel
theorem dX2_tokenNumber_24 : decode cX2_tokenNumber 24 = .ok (.aload_n 0, 1) := by decide +kernel
theorem dX2_tokenNumber_25 : decode cX2_tokenNumber 25 = .ok (.getfield 44, 3) := by decide +kernel
theorem dX2_tokenNumber_28 : decode cX2_tokenNumber 28 = .ok (.iaload, 1) := by decide +kernel
theorem dX2_tokenNumber_29 : decode cX2_tokenNumber 29 = .ok (.bipush 48, 2) := by decide +kernel
theorem dX2_tokenNumber_31 : decode cX2_tokenNumber 31 = .ok (.bipush 57, 2) := by decide +kernel
theorem dX2_tokenNumber_33 : decode cX2_tokenNumber 33 = .ok (.invokestatic 65, 3) := by decide +kernel
theorem dX2_tokenNumber_36 : decode cX2_tokenNumber 36 = .ok (.ifCond .ne 5, 3) := by decide +kernel
theorem dX2_tokenNumber_39 : decode cX2_tokenNumber 39 = .ok (.iconst (-1), 1) := by decide +kernel
theorem dX2_tokenNumber_40 : decode cX2_tokenNumber 40 = .ok (.ireturn, 1) := by decide +kernel
theorem dX2_tokenNumber_41 : decode cX2_tokenNumber 41 = .ok (.iconst 0, 1) := by decide +kernel
theorem dX2_tokenNumber_42 : decode cX2_tokenNumber 42 = .ok (.istore_n 2, 1) := by decide +kernel
theorem dX2_tokenNumber_43 : decode cX2_tokenNumber 43 = .ok (.aload_n 0, 1) := by decide +kernel
theorem dX2_tokenNumber_44 : decode cX2_tokenNumber 44 = .ok (.getfield 44, 3) := by decide +kernel
theorem dX2_tokenNumber_47 : decode cX2_tokenNumber 47 = .ok (.istore_n 3, 1) := by decide +kernel
theorem dX2_tokenNumber_48 : decode cX2_tokenNumber 48 = .ok (.iload_n 3, 1) := by decide +kernel
theorem dX2_tokenNumber_49 : decode cX2_tokenNumber 49 = .ok (.aload_n 0, 1) := by decide +kernel
theorem dX2_tokenNumber_50 : decode cX2_tokenNumber 50 = .ok (.getfield 34, 3) := by decide +kernel
theorem dX2_tokenNumber_53 : decode cX2_tokenNumber 53 = .ok (.if_icmp .ge 24, 3) := by decide +kernel
theorem dX2_tokenNumber_56 : decode cX2_tokenNumber 56 = .ok (.iload_n 2, 1) := by decide +kernel
theorem dX2_tokenNumber_57 : decode cX2_tokenNumber 57 = .ok (.bipush 10, 2) := by decide +kernel
theorem dX2_tokenNumber_59 : decode cX2_tokenNumber 59 = .ok (.imul, 1) := by decide +kernel
theorem dX2_tokenNumber_60 : decode cX2_tokenNumber 60 = .ok (.aload_n 0, 1) := by decide +kernel
theorem dX2_tokenNumber_61 : decode cX2_tokenNumber 61 = .ok (.getfield 9, 3) := by decide +kernel
theorem dX2_tokenNumber_64 : decode cX2_tokenNumber 64 = .ok (.iload_n 3, 1) := by decide +kernel
theorem dX2_tokenNumber_65 : decode cX2_tokenNumber 65 = .ok (.iaload, 1) := by decide +kernel
theorem dX2_tokenNumber_66 : decode cX2_tokenNumber 66 = .ok (.iadd, 1) := by decide +kernel
theorem dX2_tokenNumber_67 : decode cX2_tokenNumber 67 = .ok (.bipush 48, 2) := by decide +kernel
theorem dX2_tokenNumber_69 : decode cX2_tokenNumber 69 = .ok (.isub, 1) := by decide +kernel
theorem dX2_tokenNumber_70 : decode cX2_tokenNumber 70 = .ok (.istore_n 2, 1) := by decide +kernel
theorem dX2_tokenNumber_71 : decode cX2_tokenNumber 71 = .ok (.iinc 3 1, 3) := by decide +kernel
theorem dX2_tokenNumber_74 : decode cX2_tokenNumber 74 = .ok (.goto (-26), 3) := by decide +kernel
theorem dX2_tokenNumber_77 : decode cX2_tokenNumber 77 = .ok (.iload_n 2, 1) := by decide +kernel
theorem dX2_tokenNumber_78 : decode cX2_tokenNumber 78 = .ok (.ireturn, 1) := by decide +kernel
theorem dX2_tokenWord_0 : decode cX2_tokenWord 0 = .ok (.iconst 0, 1) := by decide +kernel
theorem dX2_tokenWord_1 : decode cX2_tokenWord 1 = .ok (.istore_n 1, 1) := by decide +kernel
theorem dX2_tokenWord_2 : decode cX2_tokenWord 2 = .ok (.iload_n 1, 1) := by decide +kernel
theorem dX2_tokenWord_3 : decode cX2_tokenWord 3 = .ok (.bipush 8, 2) := by decide +kernel
theorem dX2_tokenWord_5 : decode cX2_tokenWord 5 = .ok (.if_icmp .gt 22, 3) := by decide +kernel
theorem dX2_tokenWord_8 : decode cX2_tokenWord 8 = .ok (.aload_n 0, 1) := by decide +kernel
theorem dX2_tokenWord_9 : decode cX2_tokenWord 9 = .ok (.iload_n 1, 1) := by decide +kernel
theorem dX2_tokenWord_10 : decode cX2_tokenWord 10 = .ok (.invokestatic 76, 3) := by decide +kernel
theorem dX2_tokenWord_13 : decode cX2_tokenWord 13 = .ok (.invokevirtual 80, 3) := by decide +kernel
theorem dX2_tokenWord_16 : decode cX2_tokenWord 16 = .ok (.ifCond .eq 5, 3) := by decide +kernel
theorem dX2_tokenWord_19 : decode cX2_tokenWord 19 = .ok (.iload_n 1, 1) := by decide +kernel
theorem dX2_tokenWord_20 : decode cX2_tokenWord 20 = .ok (.ireturn, 1) := by decide +kernel
theorem dX2_tokenWord_21 : decode cX2_tokenWord 21 = .ok (.iinc 1 1, 3) := by decide +kernel
theorem dX2_tokenWord_24 : decode cX2_tokenWord 24 = .ok (.goto (-22), 3) := by decide +kernel
theorem dX2_tokenWord_27 : decode cX2_tokenWord 27 = .ok (.iconst (-1), 1) := by decide +kernel
theorem dX2_tokenWord_28 : decode cX2_tokenWord 28 = .ok (.ireturn, 1) := by decide +kernel
theorem dX2_tokenIs_0 : decode cX2_tokenIs 0 = .ok (.aload_n 1, 1) := by decide +kernel
theorem dX2_tokenIs_1 : decode cX2_tokenIs 1 = .ok (.invokevirtual 84, 3) := by decide +kernel
theorem dX2_tokenIs_4 : decode cX2_tokenIs 4 = .ok (.aload_n 0, 1) := by decide +kernel
theorem dX2_tokenIs_5 : decode cX2_tokenIs 5 = .ok (.getfield 34, 3) := by decide +kernel
theorem dX2_tokenIs_8 : decode cX2_tokenIs 8 = .ok (.aload_n 0, 1) := by decide +kernel
theorem dX2_tokenIs_9 : decode cX2_tokenIs 9 = .ok (.getfield 44, 3) := by decide +kernel
theorem dX2_tokenIs_12 : decode cX2_tokenIs 12 = .ok (.isub, 1) := by decide +kernel
theorem dX2_tokenIs_13 : decode cX2_tokenIs 13 = .ok (.if_icmp .eq 5, 3) := by decide +kernel
theorem dX2_tokenIs_16 : decode cX2_tokenIs 16 = .ok (.iconst 0, 1) := by decide +kernel
theorem dX2_tokenIs_17 : decode cX2_tokenIs 17 = .ok (.ireturn, 1) := by decide +kernel
theorem dX2_tokenIs_18 : decode cX2_tokenIs 18 = .ok (.iconst 0, 1) := by decide +kernel
theorem dX2_tokenIs_19 : decode cX2_tokenIs 19 = .ok (.istore_n 2, 1) := by decide +kernel
theorem dX2_tokenIs_20 : decode cX2_tokenIs 20 = .ok (.iload_n 2, 1) := by decide +kernel
theorem dX2_tokenIs_21 : decode cX2_tokenIs 21 = .ok (.aload_n 1, 1) := by decide +kernel
theorem dX2_tokenIs_22 : decode cX2_tokenIs 22 = .ok (.invokevirtual 84, 3) := by decide +kernel
theorem dX2_tokenIs_25 : decode cX2_tokenIs 25 = .ok (.if_icmp .ge 30, 3) := by decide +kernel
theorem dX2_tokenIs_28 : decode cX2_tokenIs 28 = .ok (.aload_n 0, 1) := by decide +kernel
theorem dX2_tokenIs_29 : decode cX2_tokenIs 29 = .ok (.getfield 9, 3) := by decide +kernel
theorem dX2_tokenIs_32 : decode cX2_tokenIs 32 = .ok (.aload_n 0, 1) := by decide +kernel
theorem dX2_tokenIs_33 : decode cX2_tokenIs 33 = .ok (.getfield 44, 3) := by decide +kernel
theorem dX2_tokenIs_36 : decode cX2_tokenIs 36 = .ok (.iload_n 2, 1) := by decide +kernel
theorem dX2_tokenIs_37 : decode cX2_tokenIs 37 = .ok (.iadd, 1) := by decide +kernel
theorem dX2_tokenIs_38 : decode cX2_tokenIs 38 = .ok (.iaload, 1) := by decide +kernel
theorem dX2_tokenIs_39 : decode cX2_tokenIs 39 = .ok (.aload_n 1, 1) := by decide +kernel
theorem dX2_tokenIs_40 : decode cX2_tokenIs 40 = .ok (.iload_n 2, 1) := by decide +kernel
theorem dX2_tokenIs_41 : decode cX2_tokenIs 41 = .ok (.invokevirtual 88, 3) := by decide +kernel
theorem dX2_tokenIs_44 : decode cX2_tokenIs 44 = .ok (.if_icmp .eq 5, 3) := by decide +kernel
theorem dX2_tokenIs_47 : decode cX2_tokenIs 47 = .ok (.iconst 0, 1) := by decide +kernel
theorem dX2_tokenIs_48 : decode cX2_tokenIs 48 = .ok (.ireturn, 1) := by decide +kernel
theorem dX2_tokenIs_49 : decode cX2_tokenIs 49 = .ok (.iinc 2 1, 3) := by decide +kernel
theorem dX2_tokenIs_52 : decode cX2_tokenIs 52 = .ok (.goto (-32), 3) := by decide +kernel
theorem dX2_tokenIs_55 : decode cX2_tokenIs 55 = .ok (.iconst 1, 1) := by decide +kernel
theorem dX2_tokenIs_56 : decode cX2_tokenIs 56 = .ok (.ireturn, 1) := by decide +kernel
theorem dX2_nameOf_0 : decode cX2_nameOf 0 = .ok (.iload_n 0, 1) := by decide +kernel
theorem dX2_nameOf_1 : decode cX2_nameOf 1 = .ok (.tableswitch 71 0 7 #[47, 50, 53, 56, 59, 62, 65, 68], 47) := by decide +kernel
theorem dX2_nameOf_48 : decode cX2_nameOf 48 = .ok (.ldc 92, 2) := by decide +kernel
theorem dX2_nameOf_50 : decode cX2_nameOf 50 = .ok (.areturn, 1) := by decide +kernel
theorem dX2_nameOf_51 : decode cX2_nameOf 51 = .ok (.ldc 94, 2) := by decide +kernel
theorem dX2_nameOf_53 : decode cX2_nameOf 53 = .ok (.areturn, 1) := by decide +kernel
theorem dX2_nameOf_54 : decode cX2_nameOf 54 = .ok (.ldc 95, 2) := by decide +kernel
theorem dX2_nameOf_56 : decode cX2_nameOf 56 = .ok (.areturn, 1) := by decide +kernel
theorem dX2_nameOf_57 : decode cX2_nameOf 57 = .ok (.ldc 97, 2) := by decide +kernel
theorem dX2_nameOf_59 : decode cX2_nameOf 59 = .ok (.areturn, 1) := by decide +kernel
theorem dX2_nameOf_60 : decode cX2_nameOf 60 = .ok (.ldc 99, 2) := by decide +kernel
theorem dX2_nameOf_62 : decode cX2_nameOf 62 = .ok (.areturn, 1) := by decide +kernel
theorem dX2_nameOf_63 : decode cX2_nameOf 63 = .ok (.ldc 101, 2) := by decide +kernel
theorem dX2_nameOf_65 : decode cX2_nameOf 65 = .ok (.areturn, 1) := by decide +kernel
theorem dX2_nameOf_66 : decode cX2_nameOf 66 = .ok (.ldc 103, 2) := by decide +kernel
theorem dX2_nameOf_68 : decode cX2_nameOf 68 = .ok (.areturn, 1) := by decide +kernel
theorem dX2_nameOf_69 : decode cX2_nameOf 69 = .ok (.ldc 105, 2) := by decide +kernel
theorem dX2_nameOf_71 : decode cX2_nameOf 71 = .ok (.areturn, 1) := by decide +kernel
theorem dX2_nameOf_72 : decode cX2_nameOf 72 = .ok (.ldc 107, 2) := by decide +kernel
theorem dX2_nameOf_74 : decode cX2_nameOf 74 = .ok (.areturn, 1) := by decide +kernel
theorem dX3_init_0 : decode cX3_init 0 = .ok (.aload_n 0, 1) := by decide +kernel
theorem dX3_init_1 : decode cX3_init 1 = .ok (.invokespecial 3, 3) := by decide +kernel
theorem dX3_init_4 : decode cX3_init 4 = .ok (.aload_n 0, 1) := by decide +kernel
theorem dX3_init_5 : decode cX3_init 5 = .ok (.bipush 6, 2) := by decide +kernel
theorem dX3_init_7 : decode cX3_init 7 = .ok (.newarray .int, 2) := by decide +kernel
theorem dX3_init_9 : decode cX3_init 9 = .ok (.putfield 9, 3) := by decide +kernel
theorem dX3_init_12 : decode cX3_init 12 = .ok (.return_, 1) := by decide +kernel
theorem dX3_beginAsTold_0 : decode cX3_beginAsTold 0 = .ok (.aload_n 1, 1) := by decide +kernel
theorem dX3_beginAsTold_1 : decode cX3_beginAsTold 1 = .ok (.getfield 15, 3) := by decide +kernel
theorem dX3_beginAsTold_4 : decode cX3_beginAsTold 4 = .ok (.iconst 0, 1) := by decide +kernel
theorem dX3_beginAsTold_5 : decode cX3_beginAsTold 5 = .ok (.aload_n 0, 1) := by decide +kernel
theorem dX3_beginAsTold_6 : decode cX3_beginAsTold 6 = .ok (.getfield 9, 3) := by decide +kernel
theorem dX3_beginAsTold_9 : decode cX3_beginAsTold 9 = .ok (.iconst 0, 1) := by decide +kernel
theorem dX3_beginAsTold_10 : decode cX3_beginAsTold 10 = .ok (.bipush 6, 2) := by decide +kernel
theorem dX3_beginAsTold_12 : decode cX3_beginAsTold 12 = .ok (.invokestatic 20, 3) := by decide +kernel
theorem dX3_beginAsTold_15 : decode cX3_beginAsTold 15 = .ok (.aload_n 0, 1) := by decide +kernel
theorem dX3_beginAsTold_16 : decode cX3_beginAsTold 16 = .ok (.iconst 0, 1) := by decide +kernel
theorem dX3_beginAsTold_17 : decode cX3_beginAsTold 17 = .ok (.putfield 26, 3) := by decide +kernel
theorem dX3_beginAsTold_20 : decode cX3_beginAsTold 20 = .ok (.aload_n 0, 1) := by decide +kernel
theorem dX3_beginAsTold_21 : decode cX3_beginAsTold 21 = .ok (.iconst 0, 1) := by decide +kernel
theorem dX3_beginAsTold_22 : decode cX3_beginAsTold 22 = .ok (.putfield 30, 3) := by decide +kernel
theorem dX3_beginAsTold_25 : decode cX3_beginAsTold 25 = .ok (.aload_n 0, 1) := by decide +kernel
theorem dX3_beginAsTold_26 : decode cX3_beginAsTold 26 = .ok (.aload_n 1, 1) := by decide +kernel
theorem dX3_beginAsTold_27 : decode cX3_beginAsTold 27 = .ok (.getfield 33, 3) := by decide +kernel
theorem dX3_beginAsTold_30 : decode cX3_beginAsTold 30 = .ok (.putfield 36, 3) := by decide +kernel
theorem dX3_beginAsTold_33 : decode cX3_beginAsTold 33 = .ok (.aload_n 0, 1) := by decide +kernel
theorem dX3_beginAsTold_34 : decode cX3_beginAsTold 34 = .ok (.iconst 0, 1) := by decide +kernel
theorem dX3_beginAsTold_35 : decode cX3_beginAsTold 35 = .ok (.putfield 39, 3) := by decide +kernel
theorem dX3_beginAsTold_38 : decode cX3_beginAsTold 38 = .ok (.aload_n 0, 1) := by decide +kernel
theorem dX3_beginAsTold_39 : decode cX3_beginAsTold 39 = .ok (.iconst 0, 1) := by decide +kernel
theorem dX3_beginAsTold_40 : decode cX3_beginAsTold 40 = .ok (.putfield 42, 3) := by decide +kernel
theorem dX3_beginAsTold_43 : decode cX3_beginAsTold 43 = .ok (.aload_n 0, 1) := by decide +kernel
theorem dX3_beginAsTold_44 : decode cX3_beginAsTold 44 = .ok (.iconst 0, 1) := by decide +kernel
theorem dX3_beginAsTold_45 : decode cX3_beginAsTold 45 = .ok (.putfield 45, 3) := by decide +kernel
theorem dX3_beginAsTold_48 : decode cX3_beginAsTold 48 = .ok (.return_, 1) := by decide +kernel
theorem dX3_end_0 : decode cX3_end 0 = .ok (.iconst 0, 1) := by decide +kernel
theorem dX3_end_1 : decode cX3_end 1 = .ok (.istore_n 2, 1) := by decide +kernel
theorem dX3_end_2 : decode cX3_end 2 = .ok (.iload_n 2, 1) := by decide +kernel
theorem dX3_end_3 : decode cX3_end 3 = .ok (.bipush 6, 2) := by decide +kernel
theorem dX3_end_5 : decode cX3_end 5 = .ok (.if_icmp .ge 31, 3) := by decide +kernel
theorem dX3_end_8 : decode cX3_end 8 = .ok (.aload_n 0, 1) := by decide +kernel
theorem dX3_end_9 : decode cX3_end 9 = .ok (.getfield 9, 3) := by decide +kernel
theorem dX3_end_12 : decode cX3_end 12 = .ok (.iload_n 2, 1) := by decide +kernel
theorem dX3_end_13 : decode cX3_end 13 = .ok (.iload_n 1, 1) := by decide +kernel
theorem dX3_end_14 : decode cX3_end 14 = .ok (.ifCond .eq 7, 3) := by decide +kernel
theorem dX3_end_17 : decode cX3_end 17 = .ok (.iconst 0, 1) := by decide +kernel
theorem dX3_end_18 : decode cX3_end 18 = .ok (.goto 11, 3) := by decide +kernel
theorem dX3_end_21 : decode cX3_end 21 = .ok (.aload_n 0, 1) := by decide +kernel
theorem dX3_end_22 : decode cX3_end 22 = .ok (.getfield 9, 3) := by decide +kernel
theorem dX3_end_25 : decode cX3_end 25 = .ok (.iload_n 2, 1) := by decide +kernel
theorem dX3_end_26 : decode cX3_end 26 = .ok (.iaload, 1) := by decide +kernel
theorem dX3_end_27 : decode cX3_end 27 = .ok (.iconst 2, 1) := by decide +kernel
theorem dX3_end_28 : decode cX3_end 28 = .ok (.idiv, 1) := by decide +kernel
theorem dX3_end_29 : decode cX3_end 29 = .ok (.iastore, 1) := by decide +kernel
theorem dX3_end_30 : decode cX3_end 30 = .ok (.iinc 2 1, 3) := by decide +kernel
theorem dX3_end_33 : decode cX3_end 33 = .ok (.goto (-31), 3) := by decide +kernel
theorem dX3_end_36 : decode cX3_end 36 = .ok (.aload_n 0, 1) := by decide +kernel
theorem dX3_end_37 : decode cX3_end 37 = .ok (.iconst 0, 1) := by decide +kernel
theorem dX3_end_38 : decode cX3_end 38 = .ok (.putfield 26, 3) := by decide +kernel
theorem dX3_end_41 : decode cX3_end 41 = .ok (.aload_n 0, 1) := by decide +kernel
theorem dX3_end_42 : decode cX3_end 42 = .ok (.iconst 0, 1) := by decide +kernel
theorem dX3_end_43 : decode cX3_end 43 = .ok (.putfield 30, 3) := by decide +kernel
theorem dX3_end_46 : decode cX3_end 46 = .ok (.aload_n 0, 1) := by decide +kernel
theorem dX3_end_47 : decode cX3_end 47 = .ok (.dup, 1) := by decide +kernel
theorem dX3_end_48 : decode cX3_end 48 = .ok (.getfield 39, 3) := by decide +kernel
theorem dX3_end_51 : decode cX3_end 51 = .ok (.iconst 1, 1) := by decide +kernel
theorem dX3_end_52 : decode cX3_end 52 = .ok (.iadd, 1) := by decide +kernel
theorem dX3_end_53 : decode cX3_end 53 = .ok (.putfield 39, 3) := by decide +kernel
theorem dX3_end_56 : decode cX3_end 56 = .ok (.aload_n 0, 1) := by decide +kernel
theorem dX3_end_57 : decode cX3_end 57 = .ok (.dup, 1) := by decide +kernel
theorem dX3_end_58 : decode cX3_end 58 = .ok (.getfield 45, 3) := by decide +kernel
theorem dX3_end_61 : decode cX3_end 61 = .ok (.iload_n 1, 1) := by decide +kernel
theorem dX3_end_62 : decode cX3_end 62 = .ok (.ifCond .eq 7, 3) := by decide +kernel
theorem dX3_end_65 : decode cX3_end 65 = .ok (.iconst 1, 1) := by decide +kernel
theorem dX3_end_66 : decode cX3_end 66 = .ok (.goto 4, 3) := by decide +kernel
theorem dX3_end_69 : decode cX3_end 69 = .ok (.iconst 0, 1) := by decide +kernel
theorem dX3_end_70 : decode cX3_end 70 = .ok (.iadd, 1) := by decide +kernel
theorem dX3_end_71 : decode cX3_end 71 = .ok (.putfield 45, 3) := by decide +kernel
theorem dX3_end_74 : decode cX3_end 74 = .ok (.return_, 1) := by decide +kernel
theorem dX3_becomeLike_0 : decode cX3_becomeLike 0 = .ok (.aload_n 1, 1) := by decide +kernel
theorem dX3_becomeLike_1 : decode cX3_becomeLike 1 = .ok (.getfield 9, 3) := by decide +kernel
theorem dX3_becomeLike_4 : decode cX3_becomeLike 4 = .ok (.iconst 0, 1) := by decide +kernel
theorem dX3_becomeLike_5 : decode cX3_becomeLike 5 = .ok (.aload_n 0, 1) := by decide +kernel
theorem dX3_becomeLike_6 : decode cX3_becomeLike 6 = .ok (.getfield 9, 3) := by decide +kernel
theorem dX3_becomeLike_9 : decode cX3_becomeLike 9 = .ok (.iconst 0, 1) := by decide +kernel
theorem dX3_becomeLike_10 : decode cX3_becomeLike 10 = .ok (.bipush 6, 2) := by decide +kernel
theorem dX3_becomeLike_12 : decode cX3_becomeLike 12 = .ok (.invokestatic 20, 3) := by decide +kernel
theorem dX3_becomeLike_15 : decode cX3_becomeLike 15 = .ok (.aload_n 0, 1) := by decide +kernel
theorem dX3_becomeLike_16 : decode cX3_becomeLike 16 = .ok (.aload_n 1, 1) := by decide +kernel
theorem dX3_becomeLike_17 : decode cX3_becomeLike 17 = .ok (.getfield 26, 3) := by decide +kernel
theorem dX3_becomeLike_20 : decode cX3_becomeLike 20 = .ok (.putfield 26, 3) := by decide +kernel
theorem dX3_becomeLike_23 : decode cX3_becomeLike 23 = .ok (.aload_n 0, 1) := by decide +kernel
theorem dX3_becomeLike_24 : decode cX3_becomeLike 24 = .ok (.aload_n 1, 1) := by decide +kernel
theorem dX3_becomeLike_25 : decode cX3_becomeLike 25 = .ok (.getfield 30, 3) := by decide +kernel
theorem dX3_becomeLike_28 : decode cX3_becomeLike 28 = .ok (.putfield 30, 3) := by decide +kernel
theorem dX3_becomeLike_31 : decode cX3_becomeLike 31 = .ok (.aload_n 0, 1) := by decide +kernel
theorem dX3_becomeLike_32 : decode cX3_becomeLike 32 = .ok (.aload_n 1, 1) := by decide +kernel
theorem dX3_becomeLike_33 : decode cX3_becomeLike 33 = .ok (.getfield 36, 3) := by decide +kernel
theorem dX3_becomeLike_36 : decode cX3_becomeLike 36 = .ok (.putfield 36, 3) := by decide +kernel
theorem dX3_becomeLike_39 : decode cX3_becomeLike 39 = .ok (.aload_n 0, 1) := by decide +kernel
theorem dX3_becomeLike_40 : decode cX3_becomeLike 40 = .ok (.aload_n 1, 1) := by decide +kernel
theorem dX3_becomeLike_41 : decode cX3_becomeLike 41 = .ok (.getfield 39, 3) := by decide +kernel
theorem dX3_becomeLike_44 : decode cX3_becomeLike 44 = .ok (.putfield 39, 3) := by decide +kernel
theorem dX3_becomeLike_47 : decode cX3_becomeLike 47 = .ok (.aload_n 0, 1) := by decide +kernel
theorem dX3_becomeLike_48 : decode cX3_becomeLike 48 = .ok (.aload_n 1, 1) := by decide +kernel
theorem dX3_becomeLike_49 : decode cX3_becomeLike 49 = .ok (.getfield 42, 3) := by decide +kernel
theorem dX3_becomeLike_52 : decode cX3_becomeLike 52 = .ok (.putfield 42, 3) := by decide +kernel
theorem dX3_becomeLike_55 : decode cX3_becomeLike 55 = .ok (.aload_n 0, 1) := by decide +kernel
theorem dX3_becomeLike_56 : decode cX3_becomeLike 56 = .ok (.aload_n 1, 1) := by decide +kernel
theorem dX3_becomeLike_57 : decode cX3_becomeLike 57 = .ok (.getfield 45, 3) := by decide +kernel
theorem dX3_becomeLike_60 : decode cX3_becomeLike 60 = .ok (.putfield 45, 3) := by decide +kernel
theorem dX3_becomeLike_63 : decode cX3_becomeLike 63 = .ok (.return_, 1) := by decide +kernel
theorem dX4_init_0 : decode cX4_init 0 = .ok (.aload_n 0, 1) := by decide +kernel
theorem dX4_init_1 : decode cX4_init 1 = .ok (.invokespecial 1, 3) := by decide +kernel
theorem dX4_init_4 : decode cX4_init 4 = .ok (.aload_n 0, 1) := by decide +kernel
theorem dX4_init_5 : decode cX4_init 5 = .ok (.new 7, 3) := by decide +kernel
theorem dX4_init_8 : decode cX4_init 8 = .ok (.dup, 1) := by decide +kernel
theorem dX4_init_9 : decode cX4_init 9 = .ok (.invokespecial 9, 3) := by decide +kernel
theorem dX4_init_12 : decode cX4_init 12 = .ok (.putfield 10, 3) := by decide +kernel
theorem dX4_init_15 : decode cX4_init 15 = .ok (.aload_n 0, 1) := by decide +kernel
theorem dX4_init_16 : decode cX4_init 16 = .ok (.new 16, 3) := by decide +kernel
theorem dX4_init_19 : decode cX4_init 19 = .ok (.dup, 1) := by decide +kernel
theorem dX4_init_20 : decode cX4_init 20 = .ok (.invokespecial 18, 3) := by decide +kernel
theorem dX4_init_23 : decode cX4_init 23 = .ok (.putfield 19, 3) := by decide +kernel
theorem dX4_init_26 : decode cX4_init 26 = .ok (.aload_n 0, 1) := by decide +kernel
theorem dX4_init_27 : decode cX4_init 27 = .ok (.new 23, 3) := by decide +kernel
theorem dX4_init_30 : decode cX4_init 30 = .ok (.dup, 1) := by decide +kernel
theorem dX4_init_31 : decode cX4_init 31 = .ok (.invokespecial 25, 3) := by decide +kernel
theorem dX4_init_34 : decode cX4_init 34 = .ok (.putfield 26, 3) := by decide +kernel
theorem dX4_init_37 : decode cX4_init 37 = .ok (.aload_n 0, 1) := by decide +kernel
theorem dX4_init_38 : decode cX4_init 38 = .ok (.bipush 8, 2) := by decide +kernel
theorem dX4_init_40 : decode cX4_init 40 = .ok (.invokestatic 30, 3) := by decide +kernel
theorem dX4_init_43 : decode cX4_init 43 = .ok (.putfield 34, 3) := by decide +kernel
theorem dX4_init_46 : decode cX4_init 46 = .ok (.aload_n 0, 1) := by decide +kernel
theorem dX4_init_47 : decode cX4_init 47 = .ok (.iconst 2, 1) := by decide +kernel
theorem dX4_init_48 : decode cX4_init 48 = .ok (.invokestatic 30, 3) := by decide +kernel
theorem dX4_init_51 : decode cX4_init 51 = .ok (.putfield 38, 3) := by decide +kernel
theorem dX4_init_54 : decode cX4_init 54 = .ok (.aload_n 0, 1) := by decide +kernel
theorem dX4_init_55 : decode cX4_init 55 = .ok (.iconst 2, 1) := by decide +kernel
theorem dX4_init_56 : decode cX4_init 56 = .ok (.newarray .boolean, 2) := by decide +kernel
theorem dX4_init_58 : decode cX4_init 58 = .ok (.putfield 41, 3) := by decide +kernel
theorem dX4_init_61 : decode cX4_init 61 = .ok (.aload_n 0, 1) := by decide +kernel
theorem dX4_init_62 : decode cX4_init 62 = .ok (.new 45, 3) := by decide +kernel
theorem dX4_init_65 : decode cX4_init 65 = .ok (.dup, 1) := by decide +kernel
theorem dX4_init_66 : decode cX4_init 66 = .ok (.invokespecial 47, 3) := by decide +kernel
theorem dX4_init_69 : decode cX4_init 69 = .ok (.putfield 48, 3) := by decide +kernel
theorem dX4_init_72 : decode cX4_init 72 = .ok (.return_, 1) := by decide +kernel
theorem dX4_newWeeks_0 : decode cX4_newWeeks 0 = .ok (.iload_n 0, 1) := by decide +kernel
theorem dX4_newWeeks_1 : decode cX4_newWeeks 1 = .ok (.anewarray 23, 3) := by decide +kernel
theorem dX4_newWeeks_4 : decode cX4_newWeeks 4 = .ok (.astore_n 1, 1) := by decide +kernel
theorem dX4_newWeeks_5 : decode cX4_newWeeks 5 = .ok (.iconst 0, 1) := by decide +kernel
theorem dX4_newWeeks_6 : decode cX4_newWeeks 6 = .ok (.istore_n 2, 1) := by decide +kernel
theorem dX4_newWeeks_7 : decode cX4_newWeeks 7 = .ok (.iload_n 2, 1) := by decide +kernel
theorem dX4_newWeeks_8 : decode cX4_newWeeks 8 = .ok (.aload_n 1, 1) := by decide +kernel
theorem dX4_newWeeks_9 : decode cX4_newWeeks 9 = .ok (.arraylength, 1) := by decide +kernel
theorem dX4_newWeeks_10 : decode cX4_newWeeks 10 = .ok (.if_icmp .ge 19, 3) := by decide +kernel
theorem dX4_newWeeks_13 : decode cX4_newWeeks 13 = .ok (.aload_n 1, 1) := by decide +kernel
theorem dX4_newWeeks_14 : decode cX4_newWeeks 14 = .ok (.iload_n 2, 1) := by decide +kernel
theorem dX4_newWeeks_15 : decode cX4_newWeeks 15 = .ok (.new 23, 3) := by decide +kernel
theorem dX4_newWeeks_18 : decode cX4_newWeeks 18 = .ok (.dup, 1) := by decide +kernel
theorem dX4_newWeeks_19 : decode cX4_newWeeks 19 = .ok (.invokespecial 25, 3) := by decide +kernel
theorem dX4_newWeeks_22 : decode cX4_newWeeks 22 = .ok (.aastore, 1) := by decide +kernel
theorem dX4_newWeeks_23 : decode cX4_newWeeks 23 = .ok (.iinc 2 1, 3) := by decide +kernel
theorem dX4_newWeeks_26 : decode cX4_newWeeks 26 = .ok (.goto (-19), 3) := by decide +kernel
theorem dX4_newWeeks_29 : decode cX4_newWeeks 29 = .ok (.aload_n 1, 1) := by decide +kernel
theorem dX4_newWeeks_30 : decode cX4_newWeeks 30 = .ok (.areturn, 1) := by decide +kernel
theorem dX4_write_0 : decode cX4_write 0 = .ok (.iload_n 1, 1) := by decide +kernel
theorem dX4_write_1 : decode cX4_write 1 = .ok (.iconst 0, 1) := by decide +kernel
theorem dX4_write_2 : decode cX4_write 2 = .ok (.sipush 255, 3) := by decide +kernel
theorem dX4_write_5 : decode cX4_write 5 = .ok (.invokestatic 52, 3) := by decide +kernel
theorem dX4_write_8 : decode cX4_write 8 = .ok (.ifCond .ne 6, 3) := by decide +kernel
theorem dX4_write_11 : decode cX4_write 11 = .ok (.bipush (-3), 2) := by decide +kernel
theorem dX4_write_13 : decode cX4_write 13 = .ok (.ireturn, 1) := by decide +kernel
theorem dX4_write_14 : decode cX4_write 14 = .ok (.aload_n 0, 1) := by decide +kernel
theorem dX4_write_15 : decode cX4_write 15 = .ok (.getfield 10, 3) := by decide +kernel
theorem dX4_write_18 : decode cX4_write 18 = .ok (.iload_n 1, 1) := by decide +kernel
theorem dX4_write_19 : decode cX4_write 19 = .ok (.invokevirtual 56, 3) := by decide +kernel
theorem dX4_write_22 : decode cX4_write 22 = .ok (.ifCond .eq 13, 3) := by decide +kernel
theorem dX4_write_25 : decode cX4_write 25 = .ok (.aload_n 0, 1) := by decide +kernel
theorem dX4_write_26 : decode cX4_write 26 = .ok (.getfield 10, 3) := by decide +kernel
theorem dX4_write_29 : decode cX4_write 29 = .ok (.getfield 60, 3) := by decide +kernel
theorem dX4_write_32 : decode cX4_write 32 = .ok (.goto 5, 3) := by decide +kernel
theorem dX4_write_35 : decode cX4_write 35 = .ok (.bipush (-5), 2) := by decide +kernel
theorem dX4_write_37 : decode cX4_write 37 = .ok (.ireturn, 1) := by decide +kernel
theorem dX4_erase_0 : decode cX4_erase 0 = .ok (.aload_n 0, 1) := by decide +kernel
theorem dX4_erase_1 : decode cX4_erase 1 = .ok (.getfield 10, 3) := by decide +kernel
theorem dX4_erase_4 : decode cX4_erase 4 = .ok (.getfield 60, 3) := by decide +kernel
theorem dX4_erase_7 : decode cX4_erase 7 = .ok (.istore_n 1, 1) := by decide +kernel
theorem dX4_erase_8 : decode cX4_erase 8 = .ok (.aload_n 0, 1) := by decide +kernel
theorem dX4_erase_9 : decode cX4_erase 9 = .ok (.getfield 10, 3) := by decide +kernel
theorem dX4_erase_12 : decode cX4_erase 12 = .ok (.iconst 0, 1) := by decide +kernel
theorem dX4_erase_13 : decode cX4_erase 13 = .ok (.putfield 60, 3) := by decide +kernel
theorem dX4_erase_16 : decode cX4_erase 16 = .ok (.iload_n 1, 1) := by decide +kernel
theorem dX4_erase_17 : decode cX4_erase 17 = .ok (.ireturn, 1) := by decide +kernel
theorem dX4_fault_0 : decode cX4_fault 0 = .ok (.aload_n 0, 1) := by decide +kernel
theorem dX4_fault_1 : decode cX4_fault 1 = .ok (.getfield 10, 3) := by decide +kernel
theorem dX4_fault_4 : decode cX4_fault 4 = .ok (.aload_n 0, 1) := by decide +kernel
theorem dX4_fault_5 : decode cX4_fault 5 = .ok (.getfield 19, 3) := by decide +kernel
theorem dX4_fault_8 : decode cX4_fault 8 = .ok (.getfield 64, 3) := by decide +kernel
theorem dX4_fault_11 : decode cX4_fault 11 = .ok (.aload_n 0, 1) := by decide +kernel
theorem dX4_fault_12 : decode cX4_fault 12 = .ok (.getfield 19, 3) := by decide +kernel
theorem dX4_fault_15 : decode cX4_fault 15 = .ok (.getfield 67, 3) := by decide +kernel
theorem dX4_fault_18 : decode cX4_fault 18 = .ok (.invokevirtual 70, 3) := by decide +kernel
theorem dX4_fault_21 : decode cX4_fault 21 = .ok (.ireturn, 1) := by decide +kernel
theorem dX4_kirk_0 : decode cX4_kirk 0 = .ok (.aload_n 0, 1) := by decide +kernel
theorem dX4_kirk_1 : decode cX4_kirk 1 = .ok (.getfield 10, 3) := by decide +kernel
theorem dX4_kirk_4 : decode cX4_kirk 4 = .ok (.aload_n 0, 1) := by decide +kernel
theorem dX4_kirk_5 : decode cX4_kirk 5 = .ok (.getfield 19, 3) := by decide +kernel
theorem dX4_kirk_8 : decode cX4_kirk 8 = .ok (.getfield 64, 3) := by decide +kernel
theorem dX4_kirk_11 : decode cX4_kirk 11 = .ok (.aload_n 0, 1) := by decide +kernel
theorem dX4_kirk_12 : decode cX4_kirk 12 = .ok (.getfield 19, 3) := by decide +kernel
theorem dX4_kirk_15 : decode cX4_kirk 15 = .ok (.getfield 67, 3) := by decide +kernel
theorem dX4_kirk_18 : decode cX4_kirk 18 = .ok (.invokevirtual 70, 3) := by decide +kernel
theorem dX4_kirk_21 : decode cX4_kirk 21 = .ok (.iconst (-1), 1) := by decide +kernel
theorem dX4_kirk_22 : decode cX4_kirk 22 = .ok (.if_icmp .eq 6, 3) := by decide +kernel
theorem dX4_kirk_25 : decode cX4_kirk 25 = .ok (.bipush (-4), 2) := by decide +kernel
theorem dX4_kirk_27 : decode cX4_kirk 27 = .ok (.ireturn, 1) := by decide +kernel
theorem dX4_kirk_28 : decode cX4_kirk 28 = .ok (.aload_n 0, 1) := by decide +kernel
theorem dX4_kirk_29 : decode cX4_kirk 29 = .ok (.getfield 10, 3) := by decide +kernel
theorem dX4_kirk_32 : decode cX4_kirk 32 = .ok (.getfield 74, 3) := by decide +kernel
theorem dX4_kirk_35 : decode cX4_kirk 35 = .ok (.istore_n 1, 1) := by decide +kernel
theorem dX4_kirk_36 : decode cX4_kirk 36 = .ok (.iconst 0, 1) := by decide +kernel
theorem dX4_kirk_37 : decode cX4_kirk 37 = .ok (.istore_n 2, 1) := by decide +kernel
theorem dX4_kirk_38 : decode cX4_kirk 38 = .ok (.iload_n 2, 1) := by decide +kernel
theorem dX4_kirk_39 : decode cX4_kirk 39 = .ok (.iload_n 1, 1) := by decide +kernel
theorem dX4_kirk_40 : decode cX4_kirk 40 = .ok (.if_icmp .ge 43, 3) := by decide +kernel
theorem dX4_kirk_43 : decode cX4_kirk 43 = .ok (.aload_n 0, 1) := by decide +kernel
theorem dX4_kirk_44 : decode cX4_kirk 44 = .ok (.getfield 19, 3) := by decide +kernel
theorem dX4_kirk_47 : decode cX4_kirk 47 = .ok (.aload_n 0, 1) := by decide +kernel
theorem dX4_kirk_48 : decode cX4_kirk 48 = .ok (.getfield 10, 3) := by decide +kernel
theorem dX4_kirk_51 : decode cX4_kirk 51 = .ok (.getfield 77, 3) := by decide +kernel
theorem dX4_kirk_54 : decode cX4_kirk 54 = .ok (.iload_n 2, 1) := by decide +kernel
theorem dX4_kirk_55 : decode cX4_kirk 55 = .ok (.iaload, 1) := by decide +kernel
theorem dX4_kirk_56 : decode cX4_kirk 56 = .ok (.aload_n 0, 1) := by decide +kernel
theorem dX4_kirk_57 : decode cX4_kirk 57 = .ok (.getfield 10, 3) := by decide +kernel
theorem dX4_kirk_60 : decode cX4_kirk 60 = .ok (.getfield 81, 3) := by decide +kernel
theorem dX4_kirk_63 : decode cX4_kirk 63 = .ok (.iload_n 2, 1) := by decide +kernel
theorem dX4_kirk_64 : decode cX4_kirk 64 = .ok (.iaload, 1) := by decide +kernel
theorem dX4_kirk_65 : decode cX4_kirk 65 = .ok (.aload_n 0, 1) := by decide +kernel
theorem dX4_kirk_66 : decode cX4_kirk 66 = .ok (.getfield 10, 3) := by decide +kernel
theorem dX4_kirk_69 : decode cX4_kirk 69 = .ok (.getfield 84, 3) := by decide +kernel
theorem dX4_kirk_72 : decode cX4_kirk 72 = .ok (.iload_n 2, 1) := by decide +kernel
theorem dX4_kirk_73 : decode cX4_kirk 73 = .ok (.iaload, 1) := by decide +kernel
theorem dX4_kirk_74 : decode cX4_kirk 74 = .ok (.invokevirtual 87, 3) := by decide +kernel
theorem dX4_kirk_77 : decode cX4_kirk 77 = .ok (.iinc 2 1, 3) := by decide +kernel
theorem dX4_kirk_80 : decode cX4_kirk 80 = .ok (.goto (-42), 3) := by decide +kernel
theorem dX4_kirk_83 : decode cX4_kirk 83 = .ok (.aload_n 0, 1) := by decide +kernel
theorem dX4_kirk_84 : decode cX4_kirk 84 = .ok (.getfield 10, 3) := by decide +kernel
theorem dX4_kirk_87 : decode cX4_kirk 87 = .ok (.iconst 0, 1) := by decide +kernel
theorem dX4_kirk_88 : decode cX4_kirk 88 = .ok (.putfield 60, 3) := by decide +kernel
theorem dX4_kirk_91 : decode cX4_kirk 91 = .ok (.aload_n 0, 1) := by decide +kernel
theorem dX4_kirk_92 : decode cX4_kirk 92 = .ok (.invokevirtual 91, 3) := by decide +kernel
theorem dX4_kirk_95 : decode cX4_kirk 95 = .ok (.iload_n 1, 1) := by decide +kernel
theorem dX4_kirk_96 : decode cX4_kirk 96 = .ok (.ireturn, 1) := by decide +kernel
theorem dX4_beginAnew_0 : decode cX4_beginAnew 0 = .ok (.aload_n 0, 1) := by decide +kernel
theorem dX4_beginAnew_1 : decode cX4_beginAnew 1 = .ok (.getfield 26, 3) := by decide +kernel
theorem dX4_beginAnew_4 : decode cX4_beginAnew 4 = .ok (.aload_n 0, 1) := by decide +kernel
theorem dX4_beginAnew_5 : decode cX4_beginAnew 5 = .ok (.getfield 19, 3) := by decide +kernel
theorem dX4_beginAnew_8 : decode cX4_beginAnew 8 = .ok (.invokevirtual 94, 3) := by decide +kernel
theorem dX4_beginAnew_11 : decode cX4_beginAnew 11 = .ok (.aload_n 0, 1) := by decide +kernel
theorem dX4_beginAnew_12 : decode cX4_beginAnew 12 = .ok (.getfield 48, 3) := by decide +kernel
theorem dX4_beginAnew_15 : decode cX4_beginAnew 15 = .ok (.invokevirtual 98, 3) := by decide +kernel
theorem dX4_beginAnew_18 : decode cX4_beginAnew 18 = .ok (.iconst 0, 1) := by decide +kernel
theorem dX4_beginAnew_19 : decode cX4_beginAnew 19 = .ok (.istore_n 1, 1) := by decide +kernel
theorem dX4_beginAnew_20 : decode cX4_beginAnew 20 = .ok (.iload_n 1, 1) := by decide +kernel
theorem dX4_beginAnew_21 : decode cX4_beginAnew 21 = .ok (.iconst 2, 1) := by decide +kernel
theorem dX4_beginAnew_22 : decode cX4_beginAnew 22 = .ok (.if_icmp .ge 16, 3) := by decide +kernel
theorem dX4_beginAnew_25 : decode cX4_beginAnew 25 = .ok (.aload_n 0, 1) := by decide +kernel
theorem dX4_beginAnew_26 : decode cX4_beginAnew 26 = .ok (.getfield 41, 3) := by decide +kernel
theorem dX4_beginAnew_29 : decode cX4_beginAnew 29 = .ok (.iload_n 1, 1) := by decide +kernel
theorem dX4_beginAnew_30 : decode cX4_beginAnew 30 = .ok (.iconst 0, 1) := by decide +kernel
theorem dX4_beginAnew_31 : decode cX4_beginAnew 31 = .ok (.bastore, 1) := by decide +kernel
theorem dX4_beginAnew_32 : decode cX4_beginAnew 32 = .ok (.iinc 1 1, 3) := by decide +kernel
theorem dX4_beginAnew_35 : decode cX4_beginAnew 35 = .ok (.goto (-15), 3) := by decide +kernel
theorem dX4_beginAnew_38 : decode cX4_beginAnew 38 = .ok (.aload_n 0, 1) := by decide +kernel
theorem dX4_beginAnew_39 : decode cX4_beginAnew 39 = .ok (.iconst 0, 1) := by decide +kernel
theorem dX4_beginAnew_40 : decode cX4_beginAnew 40 = .ok (.putfield 101, 3) := by decide +kernel
theorem dX4_beginAnew_43 : decode cX4_beginAnew 43 = .ok (.return_, 1) := by decide +kernel
theorem dX4_part_0 : decode cX4_part 0 = .ok (.aload_n 0, 1) := by decide +kernel
theorem dX4_part_1 : decode cX4_part 1 = .ok (.iload_n 1, 1) := by decide +kernel
theorem dX4_part_2 : decode cX4_part 2 = .ok (.invokevirtual 104, 3) := by decide +kernel
theorem dX4_part_5 : decode cX4_part 5 = .ok (.ifCond .ne 6, 3) := by decide +kernel
theorem dX4_part_8 : decode cX4_part 8 = .ok (.bipush (-2), 2) := by decide +kernel
theorem dX4_part_10 : decode cX4_part 10 = .ok (.ireturn, 1) := by decide +kernel
theorem dX4_part_11 : decode cX4_part 11 = .ok (.iload_n 2, 1) := by decide +kernel
theorem dX4_part_12 : decode cX4_part 12 = .ok (.tableswitch 115 0 4 #[36, 46, 56, 66, 95], 36) := by decide +kernel
theorem dX4_part_48 : decode cX4_part 48 = .ok (.aload_n 0, 1) := by decide +kernel
theorem dX4_part_49 : decode cX4_part 49 = .ok (.getfield 19, 3) := by decide +kernel
theorem dX4_part_52 : decode cX4_part 52 = .ok (.getfield 107, 3) := by decide +kernel
theorem dX4_part_55 : decode cX4_part 55 = .ok (.iload_n 1, 1) := by decide +kernel
theorem dX4_part_56 : decode cX4_part 56 = .ok (.iaload, 1) := by decide +kernel
theorem dX4_part_57 : decode cX4_part 57 = .ok (.ireturn, 1) := by decide +kernel
theorem dX4_part_58 : decode cX4_part 58 = .ok (.aload_n 0, 1) := by decide +kernel
theorem dX4_part_59 : decode cX4_part 59 = .ok (.getfield 19, 3) := by decide +kernel
theorem dX4_part_62 : decode cX4_part 62 = .ok (.getfield 110, 3) := by decide +kernel
theorem dX4_part_65 : decode cX4_part 65 = .ok (.iload_n 1, 1) := by decide +kernel
theorem dX4_part_66 : decode cX4_part 66 = .ok (.iaload, 1) := by decide +kernel
theorem dX4_part_67 : decode cX4_part 67 = .ok (.ireturn, 1) := by decide +kernel
theorem dX4_part_68 : decode cX4_part 68 = .ok (.aload_n 0, 1) := by decide +kernel
theorem dX4_part_69 : decode cX4_part 69 = .ok (.getfield 19, 3) := by decide +kernel
theorem dX4_part_72 : decode cX4_part 72 = .ok (.getfield 113, 3) := by decide +kernel
theorem dX4_part_75 : decode cX4_part 75 = .ok (.iload_n 1, 1) := by decide +kernel
theorem dX4_part_76 : decode cX4_part 76 = .ok (.iaload, 1) := by decide +kernel
theorem dX4_part_77 : decode cX4_part 77 = .ok (.ireturn, 1) := by decide +kernel
theorem dX4_part_78 : decode cX4_part 78 = .ok (.aload_n 0, 1) := by decide +kernel
theorem dX4_part_79 : decode cX4_part 79 = .ok (.getfield 19, 3) := by decide +kernel
theorem dX4_part_82 : decode cX4_part 82 = .ok (.getfield 107, 3) := by decide +kernel
theorem dX4_part_85 : decode cX4_part 85 = .ok (.iload_n 1, 1) := by decide +kernel
theorem dX4_part_86 : decode cX4_part 86 = .ok (.iaload, 1) := by decide +kernel
theorem dX4_part_87 : decode cX4_part 87 = .ok (.aload_n 0, 1) := by decide +kernel
theorem dX4_part_88 : decode cX4_part 88 = .ok (.getfield 19, 3) := by decide +kernel
theorem dX4_part_91 : decode cX4_part 91 = .ok (.getfield 110, 3) := by decide +kernel
theorem dX4_part_94 : decode cX4_part 94 = .ok (.iload_n 1, 1) := by decide +kernel
theorem dX4_part_95 : decode cX4_part 95 = .ok (.iaload, 1) := by decide +kernel
theorem dX4_part_96 : decode cX4_part 96 = .ok (.aload_n 0, 1) := by decide +kernel
theorem dX4_part_97 : decode cX4_part 97 = .ok (.getfield 26, 3) := by decide +kernel
theorem dX4_part_100 : decode cX4_part 100 = .ok (.getfield 116, 3) := by decide +kernel
theorem dX4_part_103 : decode cX4_part 103 = .ok (.invokestatic 119, 3) := by decide +kernel
theorem dX4_part_106 : decode cX4_part 106 = .ok (.ireturn, 1) := by decide +kernel
theorem dX4_part_107 : decode cX4_part 107 = .ok (.iload_n 1, 1) := by decide +kernel
theorem dX4_part_108 : decode cX4_part 108 = .ok (.aload_n 0, 1) := by decide +kernel
theorem dX4_part_109 : decode cX4_part 109 = .ok (.getfield 26, 3) := by decide +kernel
theorem dX4_part_112 : decode cX4_part 112 = .ok (.getfield 123, 3) := by decide +kernel
theorem dX4_part_115 : decode cX4_part 115 = .ok (.invokestatic 126, 3) := by decide +kernel
theorem dX4_part_118 : decode cX4_part 118 = .ok (.ifCond .eq 7, 3) := by decide +kernel
theorem dX4_part_121 : decode cX4_part 121 = .ok (.iconst 1, 1) := by decide +kernel
theorem dX4_part_122 : decode cX4_part 122 = .ok (.goto 4, 3) := by decide +kernel
theorem dX4_part_125 : decode cX4_part 125 = .ok (.iconst 0, 1) := by decide +kernel
theorem dX4_part_126 : decode cX4_part 126 = .ok (.ireturn, 1) := by decide +kernel
theorem dX4_part_127 : decode cX4_part 127 = .ok (.bipush (-3), 2) := by decide +kernel
theorem dX4_part_129 : decode cX4_part 129 = .ok (.ireturn, 1) := by decide +kernel
theorem dX4_sins_0 : decode cX4_sins 0 = .ok (.aload_n 0, 1) := by decide +kernel
theorem dX4_sins_1 : decode cX4_sins 1 = .ok (.iload_n 1, 1) := by decide +kernel
theorem dX4_sins_2 : decode cX4_sins 2 = .ok (.invokevirtual 130, 3) := by decide +kernel
theorem dX4_sins_5 : decode cX4_sins 5 = .ok (.ifCond .eq 15, 3) := by decide +kernel
theorem dX4_sins_8 : decode cX4_sins 8 = .ok (.aload_n 0, 1) := by decide +kernel
theorem dX4_sins_9 : decode cX4_sins 9 = .ok (.getfield 26, 3) := by decide +kernel
theorem dX4_sins_12 : decode cX4_sins 12 = .ok (.getfield 133, 3) := by decide +kernel
theorem dX4_sins_15 : decode cX4_sins 15 = .ok (.iload_n 1, 1) := by decide +kernel
theorem dX4_sins_16 : decode cX4_sins 16 = .ok (.iaload, 1) := by decide +kernel
theorem dX4_sins_17 : decode cX4_sins 17 = .ok (.goto 5, 3) := by decide +kernel
theorem dX4_sins_20 : decode cX4_sins 20 = .ok (.bipush (-2), 2) := by decide +kernel
theorem dX4_sins_22 : decode cX4_sins 22 = .ok (.ireturn, 1) := by decide +kernel
theorem dX4_as_0 : decode cX4_as 0 = .ok (.aload_n 0, 1) := by decide +kernel
theorem dX4_as_1 : decode cX4_as 1 = .ok (.iload_n 1, 1) := by decide +kernel
theorem dX4_as_2 : decode cX4_as 2 = .ok (.invokevirtual 104, 3) := by decide +kernel
theorem dX4_as_5 : decode cX4_as 5 = .ok (.ifCond .ne 6, 3) := by decide +kernel
theorem dX4_as_8 : decode cX4_as 8 = .ok (.bipush (-2), 2) := by decide +kernel
theorem dX4_as_10 : decode cX4_as 10 = .ok (.ireturn, 1) := by decide +kernel
theorem dX4_as_11 : decode cX4_as 11 = .ok (.iload_n 2, 1) := by decide +kernel
theorem dX4_as_12 : decode cX4_as 12 = .ok (.iconst 0, 1) := by decide +kernel
theorem dX4_as_13 : decode cX4_as 13 = .ok (.iconst 4, 1) := by decide +kernel
theorem dX4_as_14 : decode cX4_as 14 = .ok (.invokestatic 52, 3) := by decide +kernel
theorem dX4_as_17 : decode cX4_as 17 = .ok (.ifCond .ne 6, 3) := by decide +kernel
theorem dX4_as_20 : decode cX4_as 20 = .ok (.bipush (-3), 2) := by decide +kernel
theorem dX4_as_22 : decode cX4_as 22 = .ok (.ireturn, 1) := by decide +kernel
theorem dX4_as_23 : decode cX4_as 23 = .ok (.aload_n 0, 1) := by decide +kernel
theorem dX4_as_24 : decode cX4_as 24 = .ok (.getfield 19, 3) := by decide +kernel
theorem dX4_as_27 : decode cX4_as 27 = .ok (.getfield 107, 3) := by decide +kernel
theorem dX4_as_30 : decode cX4_as 30 = .ok (.iload_n 1, 1) := by decide +kernel
theorem dX4_as_31 : decode cX4_as 31 = .ok (.iaload, 1) := by decide +kernel
theorem dX4_as_32 : decode cX4_as 32 = .ok (.iload_n 2, 1) := by decide +kernel
theorem dX4_as_33 : decode cX4_as 33 = .ok (.invokestatic 136, 3) := by decide +kernel
theorem dX4_as_36 : decode cX4_as 36 = .ok (.ifCond .ne 6, 3) := by decide +kernel
theorem dX4_as_39 : decode cX4_as 39 = .ok (.bipush (-4), 2) := by decide +kernel
theorem dX4_as_41 : decode cX4_as 41 = .ok (.ireturn, 1) := by decide +kernel
theorem dX4_as_42 : decode cX4_as 42 = .ok (.aload_n 0, 1) := by decide +kernel
theorem dX4_as_43 : decode cX4_as 43 = .ok (.getfield 19, 3) := by decide +kernel
theorem dX4_as_46 : decode cX4_as 46 = .ok (.getfield 107, 3) := by decide +kernel
theorem dX4_as_49 : decode cX4_as 49 = .ok (.iload_n 1, 1) := by decide +kernel
theorem dX4_as_50 : decode cX4_as 50 = .ok (.iaload, 1) := by decide +kernel
theorem dX4_as_51 : decode cX4_as 51 = .ok (.aload_n 0, 1) := by decide +kernel
theorem dX4_as_52 : decode cX4_as 52 = .ok (.getfield 19, 3) := by decide +kernel
theorem dX4_as_55 : decode cX4_as 55 = .ok (.getfield 110, 3) := by decide +kernel
theorem dX4_as_58 : decode cX4_as 58 = .ok (.iload_n 1, 1) := by decide +kernel
theorem dX4_as_59 : decode cX4_as 59 = .ok (.iaload, 1) := by decide +kernel
theorem dX4_as_60 : decode cX4_as 60 = .ok (.bipush 9, 2) := by decide +kernel
theorem dX4_as_62 : decode cX4_as 62 = .ok (.invokestatic 119, 3) := by decide +kernel
theorem dX4_as_65 : decode cX4_as 65 = .ok (.ireturn, 1) := by decide +kernel
theorem dX4_isTakenAs_0 : decode cX4_isTakenAs 0 = .ok (.iload_n 1, 1) := by decide +kernel
theorem dX4_isTakenAs_1 : decode cX4_isTakenAs 1 = .ok (.ifCond .ne 7, 3) := by decide +kernel
theorem dX4_isTakenAs_4 : decode cX4_isTakenAs 4 = .ok (.iconst 1, 1) := by decide +kernel
theorem dX4_isTakenAs_5 : decode cX4_isTakenAs 5 = .ok (.goto 4, 3) := by decide +kernel
theorem dX4_isTakenAs_8 : decode cX4_isTakenAs 8 = .ok (.iconst 0, 1) := by decide +kernel
theorem dX4_isTakenAs_9 : decode cX4_isTakenAs 9 = .ok (.istore_n 2, 1) := by decide +kernel
theorem dX4_isTakenAs_10 : decode cX4_isTakenAs 10 = .ok (.iload_n 1, 1) := by decide +kernel
theorem dX4_isTakenAs_11 : decode cX4_isTakenAs 11 = .ok (.iconst 1, 1) := by decide +kernel
theorem dX4_isTakenAs_12 : decode cX4_isTakenAs 12 = .ok (.if_icmp .ne 12, 3) := by decide +kernel
theorem dX4_isTakenAs_15 : decode cX4_isTakenAs 15 = .ok (.iload_n 0, 1) := by decide +kernel
theorem dX4_isTakenAs_16 : decode cX4_isTakenAs 16 = .ok (.iconst 3, 1) := by decide +kernel
theorem dX4_isTakenAs_17 : decode cX4_isTakenAs 17 = .ok (.if_icmp .eq 7, 3) := by decide +kernel
theorem dX4_isTakenAs_20 : decode cX4_isTakenAs 20 = .ok (.iconst 1, 1) := by decide +kernel
theorem dX4_isTakenAs_21 : decode cX4_isTakenAs 21 = .ok (.goto 4, 3) := by decide +kernel
theorem dX4_isTakenAs_24 : decode cX4_isTakenAs 24 = .ok (.iconst 0, 1) := by decide +kernel
theorem dX4_isTakenAs_25 : decode cX4_isTakenAs 25 = .ok (.istore_n 3, 1) := by decide +kernel
theorem dX4_isTakenAs_26 : decode cX4_isTakenAs 26 = .ok (.iload_n 2, 1) := by decide +kernel
theorem dX4_isTakenAs_27 : decode cX4_isTakenAs 27 = .ok (.ifCond .ne 14, 3) := by decide +kernel
theorem dX4_isTakenAs_30 : decode cX4_isTakenAs 30 = .ok (.iload_n 3, 1) := by decide +kernel
theorem dX4_isTakenAs_31 : decode cX4_isTakenAs 31 = .ok (.ifCond .ne 10, 3) := by decide +kernel
theorem dX4_isTakenAs_34 : decode cX4_isTakenAs 34 = .ok (.iload_n 1, 1) := by decide +kernel
theorem dX4_isTakenAs_35 : decode cX4_isTakenAs 35 = .ok (.iload_n 0, 1) := by decide +kernel
theorem dX4_isTakenAs_36 : decode cX4_isTakenAs 36 = .ok (.iconst 1, 1) := by decide +kernel
theorem dX4_isTakenAs_37 : decode cX4_isTakenAs 37 = .ok (.iadd, 1) := by decide +kernel
theorem dX4_isTakenAs_38 : decode cX4_isTakenAs 38 = .ok (.if_icmp .ne 7, 3) := by decide +kernel
theorem dX4_isTakenAs_41 : decode cX4_isTakenAs 41 = .ok (.iconst 1, 1) := by decide +kernel
theorem dX4_isTakenAs_42 : decode cX4_isTakenAs 42 = .ok (.goto 4, 3) := by decide +kernel
theorem dX4_isTakenAs_45 : decode cX4_isTakenAs 45 = .ok (.iconst 0, 1) := by decide +kernel
theorem dX4_isTakenAs_46 : decode cX4_isTakenAs 46 = .ok (.ireturn, 1) := by decide +kernel
theorem dX4_preach_0 : decode cX4_preach 0 = .ok (.aload_n 0, 1) := by decide +kernel
theorem dX4_preach_1 : decode cX4_preach 1 = .ok (.iload_n 1, 1) := by decide +kernel
theorem dX4_preach_2 : decode cX4_preach 2 = .ok (.invokevirtual 104, 3) := by decide +kernel
theorem dX4_preach_5 : decode cX4_preach 5 = .ok (.ifCond .ne 6, 3) := by decide +kernel
theorem dX4_preach_8 : decode cX4_preach 8 = .ok (.bipush (-2), 2) := by decide +kernel
theorem dX4_preach_10 : decode cX4_preach 10 = .ok (.ireturn, 1) := by decide +kernel
theorem dX4_preach_11 : decode cX4_preach 11 = .ok (.iload_n 1, 1) := by decide +kernel
theorem dX4_preach_12 : decode cX4_preach 12 = .ok (.aload_n 0, 1) := by decide +kernel
theorem dX4_preach_13 : decode cX4_preach 13 = .ok (.getfield 26, 3) := by decide +kernel
theorem dX4_preach_16 : decode cX4_preach 16 = .ok (.getfield 123, 3) := by decide +kernel
theorem dX4_preach_19 : decode cX4_preach 19 = .ok (.invokestatic 126, 3) := by decide +kernel
theorem dX4_preach_22 : decode cX4_preach 22 = .ok (.ifCond .ne 10, 3) := by decide +kernel
theorem dX4_preach_25 : decode cX4_preach 25 = .ok (.aload_n 0, 1) := by decide +kernel
theorem dX4_preach_26 : decode cX4_preach 26 = .ok (.invokevirtual 139, 3) := by decide +kernel
theorem dX4_preach_29 : decode cX4_preach 29 = .ok (.ifCond .eq 6, 3) := by decide +kernel
theorem dX4_preach_32 : decode cX4_preach 32 = .ok (.bipush (-4), 2) := by decide +kernel
theorem dX4_preach_34 : decode cX4_preach 34 = .ok (.ireturn, 1) := by decide +kernel
theorem dX4_preach_35 : decode cX4_preach 35 = .ok (.aload_n 0, 1) := by decide +kernel
theorem dX4_preach_36 : decode cX4_preach 36 = .ok (.invokevirtual 143, 3) := by decide +kernel
theorem dX4_preach_39 : decode cX4_preach 39 = .ok (.aload_n 0, 1) := by decide +kernel
theorem dX4_preach_40 : decode cX4_preach 40 = .ok (.getfield 26, 3) := by decide +kernel
theorem dX4_preach_43 : decode cX4_preach 43 = .ok (.dup, 1) := by decide +kernel
theorem dX4_preach_44 : decode cX4_preach 44 = .ok (.getfield 123, 3) := by decide +kernel
theorem dX4_preach_47 : decode cX4_preach 47 = .ok (.iconst 1, 1) := by decide +kernel
theorem dX4_preach_48 : decode cX4_preach 48 = .ok (.iload_n 1, 1) := by decide +kernel
theorem dX4_preach_49 : decode cX4_preach 49 = .ok (.ishl, 1) := by decide +kernel
theorem dX4_preach_50 : decode cX4_preach 50 = .ok (.ior, 1) := by decide +kernel
theorem dX4_preach_51 : decode cX4_preach 51 = .ok (.putfield 123, 3) := by decide +kernel
theorem dX4_preach_54 : decode cX4_preach 54 = .ok (.aload_n 0, 1) := by decide +kernel
theorem dX4_preach_55 : decode cX4_preach 55 = .ok (.getfield 26, 3) := by decide +kernel
theorem dX4_preach_58 : decode cX4_preach 58 = .ok (.dup, 1) := by decide +kernel
theorem dX4_preach_59 : decode cX4_preach 59 = .ok (.getfield 146, 3) := by decide +kernel
theorem dX4_preach_62 : decode cX4_preach 62 = .ok (.aload_n 0, 1) := by decide +kernel
theorem dX4_preach_63 : decode cX4_preach 63 = .ok (.getfield 19, 3) := by decide +kernel
theorem dX4_preach_66 : decode cX4_preach 66 = .ok (.getfield 113, 3) := by decide +kernel
theorem dX4_preach_69 : decode cX4_preach 69 = .ok (.iload_n 1, 1) := by decide +kernel
theorem dX4_preach_70 : decode cX4_preach 70 = .ok (.iaload, 1) := by decide +kernel
theorem dX4_preach_71 : decode cX4_preach 71 = .ok (.iadd, 1) := by decide +kernel
theorem dX4_preach_72 : decode cX4_preach 72 = .ok (.putfield 146, 3) := by decide +kernel
theorem dX4_preach_75 : decode cX4_preach 75 = .ok (.aload_n 0, 1) := by decide +kernel
theorem dX4_preach_76 : decode cX4_preach 76 = .ok (.aload_n 0, 1) := by decide +kernel
theorem dX4_preach_77 : decode cX4_preach 77 = .ok (.getfield 26, 3) := by decide +kernel
theorem dX4_preach_80 : decode cX4_preach 80 = .ok (.getfield 123, 3) := by decide +kernel
theorem dX4_preach_83 : decode cX4_preach 83 = .ok (.invokevirtual 148, 3) := by decide +kernel
theorem dX4_preach_86 : decode cX4_preach 86 = .ok (.aload_n 0, 1) := by decide +kernel
theorem dX4_preach_87 : decode cX4_preach 87 = .ok (.invokevirtual 152, 3) := by decide +kernel
theorem dX4_preach_90 : decode cX4_preach 90 = .ok (.isub, 1) := by decide +kernel
theorem dX4_preach_91 : decode cX4_preach 91 = .ok (.sipush 9999, 3) := by decide +kernel
theorem dX4_preach_94 : decode cX4_preach 94 = .ok (.iadd, 1) := by decide +kernel
theorem dX4_preach_95 : decode cX4_preach 95 = .ok (.ireturn, 1) := by decide +kernel
theorem dX4_sin_0 : decode cX4_sin 0 = .ok (.aload_n 0, 1) := by decide +kernel
theorem dX4_sin_1 : decode cX4_sin 1 = .ok (.iload_n 1, 1) := by decide +kernel
theorem dX4_sin_2 : decode cX4_sin 2 = .ok (.invokevirtual 130, 3) := by decide +kernel
theorem dX4_sin_5 : decode cX4_sin 5 = .ok (.ifCond .ne 6, 3) := by decide +kernel
theorem dX4_sin_8 : decode cX4_sin 8 = .ok (.bipush (-2), 2) := by decide +kernel
theorem dX4_sin_10 : decode cX4_sin 10 = .ok (.ireturn, 1) := by decide +kernel
theorem dX4_sin_11 : decode cX4_sin 11 = .ok (.iload_n 2, 1) := by decide +kernel
theorem dX4_sin_12 : decode cX4_sin 12 = .ok (.iconst 1, 1) := by decide +kernel
theorem dX4_sin_13 : decode cX4_sin 13 = .ok (.bipush 20, 2) := by decide +kernel
theorem dX4_sin_15 : decode cX4_sin 15 = .ok (.invokestatic 52, 3) := by decide +kernel
theorem dX4_sin_18 : decode cX4_sin 18 = .ok (.ifCond .ne 6, 3) := by decide +kernel
theorem dX4_sin_21 : decode cX4_sin 21 = .ok (.bipush (-3), 2) := by decide +kernel
theorem dX4_sin_23 : decode cX4_sin 23 = .ok (.ireturn, 1) := by decide +kernel
theorem dX4_sin_24 : decode cX4_sin 24 = .ok (.aload_n 0, 1) := by decide +kernel
theorem dX4_sin_25 : decode cX4_sin 25 = .ok (.invokevirtual 143, 3) := by decide +kernel
theorem dX4_sin_28 : decode cX4_sin 28 = .ok (.aload_n 0, 1) := by decide +kernel
theorem dX4_sin_29 : decode cX4_sin 29 = .ok (.getfield 26, 3) := by decide +kernel
theorem dX4_sin_32 : decode cX4_sin 32 = .ok (.getfield 133, 3) := by decide +kernel
theorem dX4_sin_35 : decode cX4_sin 35 = .ok (.iload_n 1, 1) := by decide +kernel
theorem dX4_sin_36 : decode cX4_sin 36 = .ok (.aload_n 0, 1) := by decide +kernel
theorem dX4_sin_37 : decode cX4_sin 37 = .ok (.getfield 26, 3) := by decide +kernel
theorem dX4_sin_40 : decode cX4_sin 40 = .ok (.getfield 133, 3) := by decide +kernel
theorem dX4_sin_43 : decode cX4_sin 43 = .ok (.iload_n 1, 1) := by decide +kernel
theorem dX4_sin_44 : decode cX4_sin 44 = .ok (.iaload, 1) := by decide +kernel
theorem dX4_sin_45 : decode cX4_sin 45 = .ok (.iload_n 2, 1) := by decide +kernel
theorem dX4_sin_46 : decode cX4_sin 46 = .ok (.iadd, 1) := by decide +kernel
theorem dX4_sin_47 : decode cX4_sin 47 = .ok (.bipush 99, 2) := by decide +kernel
theorem dX4_sin_49 : decode cX4_sin 49 = .ok (.invokestatic 156, 3) := by decide +kernel
theorem dX4_sin_52 : decode cX4_sin 52 = .ok (.iastore, 1) := by decide +kernel
theorem dX4_sin_53 : decode cX4_sin 53 = .ok (.aload_n 0, 1) := by decide +kernel
theorem dX4_sin_54 : decode cX4_sin 54 = .ok (.getfield 26, 3) := by decide +kernel
theorem dX4_sin_57 : decode cX4_sin 57 = .ok (.getfield 133, 3) := by decide +kernel
theorem dX4_sin_60 : decode cX4_sin 60 = .ok (.iload_n 1, 1) := by decide +kernel
theorem dX4_sin_61 : decode cX4_sin 61 = .ok (.iaload, 1) := by decide +kernel
theorem dX4_sin_62 : decode cX4_sin 62 = .ok (.ireturn, 1) := by decide +kernel
theorem dX4_ballast_0 : decode cX4_ballast 0 = .ok (.iload_n 1, 1) := by decide +kernel
theorem dX4_ballast_1 : decode cX4_ballast 1 = .ok (.iconst 1, 1) := by decide +kernel
theorem dX4_ballast_2 : decode cX4_ballast 2 = .ok (.bipush 20, 2) := by decide +kernel
theorem dX4_ballast_4 : decode cX4_ballast 4 = .ok (.invokestatic 52, 3) := by decide +kernel
theorem dX4_ballast_7 : decode cX4_ballast 7 = .ok (.ifCond .ne 6, 3) := by decide +kernel
theorem dX4_ballast_10 : decode cX4_ballast 10 = .ok (.bipush (-3), 2) := by decide +kernel
theorem dX4_ballast_12 : decode cX4_ballast 12 = .ok (.ireturn, 1) := by decide +kernel
theorem dX4_ballast_13 : decode cX4_ballast 13 = .ok (.aload_n 0, 1) := by decide +kernel
theorem dX4_ballast_14 : decode cX4_ballast 14 = .ok (.invokevirtual 143, 3) := by decide +kernel
theorem dX4_ballast_17 : decode cX4_ballast 17 = .ok (.aload_n 0, 1) := by decide +kernel
theorem dX4_ballast_18 : decode cX4_ballast 18 = .ok (.getfield 26, 3) := by decide +kernel
theorem dX4_ballast_21 : decode cX4_ballast 21 = .ok (.aload_n 0, 1) := by decide +kernel
theorem dX4_ballast_22 : decode cX4_ballast 22 = .ok (.getfield 26, 3) := by decide +kernel
theorem dX4_ballast_25 : decode cX4_ballast 25 = .ok (.getfield 161, 3) := by decide +kernel
theorem dX4_ballast_28 : decode cX4_ballast 28 = .ok (.iload_n 1, 1) := by decide +kernel
theorem dX4_ballast_29 : decode cX4_ballast 29 = .ok (.iadd, 1) := by decide +kernel
theorem dX4_ballast_30 : decode cX4_ballast 30 = .ok (.bipush 99, 2) := by decide +kernel
theorem dX4_ballast_32 : decode cX4_ballast 32 = .ok (.invokestatic 156, 3) := by decide +kernel
theorem dX4_ballast_35 : decode cX4_ballast 35 = .ok (.putfield 161, 3) := by decide +kernel
theorem dX4_ballast_38 : decode cX4_ballast 38 = .ok (.aload_n 0, 1) := by decide +kernel
theorem dX4_ballast_39 : decode cX4_ballast 39 = .ok (.getfield 26, 3) := by decide +kernel
theorem dX4_ballast_42 : decode cX4_ballast 42 = .ok (.getfield 161, 3) := by decide +kernel
theorem dX4_ballast_45 : decode cX4_ballast 45 = .ok (.ireturn, 1) := by decide +kernel
theorem dX4_rain_0 : decode cX4_rain 0 = .ok (.iload_n 1, 1) := by decide +kernel
theorem dX4_rain_1 : decode cX4_rain 1 = .ok (.iconst 0, 1) := by decide +kernel
theorem dX4_rain_2 : decode cX4_rain 2 = .ok (.bipush 9, 2) := by decide +kernel
theorem dX4_rain_4 : decode cX4_rain 4 = .ok (.invokestatic 52, 3) := by decide +kernel
theorem dX4_rain_7 : decode cX4_rain 7 = .ok (.ifCond .ne 6, 3) := by decide +kernel
theorem dX4_rain_10 : decode cX4_rain 10 = .ok (.bipush (-3), 2) := by decide +kernel
theorem dX4_rain_12 : decode cX4_rain 12 = .ok (.ireturn, 1) := by decide +kernel
theorem dX4_rain_13 : decode cX4_rain 13 = .ok (.aload_n 0, 1) := by decide +kernel
theorem dX4_rain_14 : decode cX4_rain 14 = .ok (.invokevirtual 143, 3) := by decide +kernel
theorem dX4_rain_17 : decode cX4_rain 17 = .ok (.aload_n 0, 1) := by decide +kernel
theorem dX4_rain_18 : decode cX4_rain 18 = .ok (.getfield 26, 3) := by decide +kernel
theorem dX4_rain_21 : decode cX4_rain 21 = .ok (.getfield 116, 3) := by decide +kernel
theorem dX4_rain_24 : decode cX4_rain 24 = .ok (.istore_n 2, 1) := by decide +kernel
theorem dX4_rain_25 : decode cX4_rain 25 = .ok (.aload_n 0, 1) := by decide +kernel
theorem dX4_rain_26 : decode cX4_rain 26 = .ok (.getfield 26, 3) := by decide +kernel
theorem dX4_rain_29 : decode cX4_rain 29 = .ok (.iload_n 1, 1) := by decide +kernel
theorem dX4_rain_30 : decode cX4_rain 30 = .ok (.putfield 116, 3) := by decide +kernel
theorem dX4_rain_33 : decode cX4_rain 33 = .ok (.iload_n 2, 1) := by decide +kernel
theorem dX4_rain_34 : decode cX4_rain 34 = .ok (.ireturn, 1) := by decide +kernel
theorem dX4_sunday_0 : decode cX4_sunday 0 = .ok (.aload_n 0, 1) := by decide +kernel
theorem dX4_sunday_1 : decode cX4_sunday 1 = .ok (.getfield 26, 3) := by decide +kernel
theorem dX4_sunday_4 : decode cX4_sunday 4 = .ok (.getfield 164, 3) := by decide +kernel
theorem dX4_sunday_7 : decode cX4_sunday 7 = .ok (.sipush 999, 3) := by decide +kernel
theorem dX4_sunday_10 : decode cX4_sunday 10 = .ok (.if_icmp .lt 6, 3) := by decide +kernel
theorem dX4_sunday_13 : decode cX4_sunday 13 = .ok (.bipush (-5), 2) := by decide +kernel
theorem dX4_sunday_15 : decode cX4_sunday 15 = .ok (.ireturn, 1) := by decide +kernel
theorem dX4_sunday_16 : decode cX4_sunday 16 = .ok (.aload_n 0, 1) := by decide +kernel
theorem dX4_sunday_17 : decode cX4_sunday 17 = .ok (.invokevirtual 139, 3) := by decide +kernel
theorem dX4_sunday_20 : decode cX4_sunday 20 = .ok (.istore_n 1, 1) := by decide +kernel
theorem dX4_sunday_21 : decode cX4_sunday 21 = .ok (.aload_n 0, 1) := by decide +kernel
theorem dX4_sunday_22 : decode cX4_sunday 22 = .ok (.invokevirtual 143, 3) := by decide +kernel
theorem dX4_sunday_25 : decode cX4_sunday 25 = .ok (.aload_n 0, 1) := by decide +kernel
theorem dX4_sunday_26 : decode cX4_sunday 26 = .ok (.getfield 26, 3) := by decide +kernel
theorem dX4_sunday_29 : decode cX4_sunday 29 = .ok (.iload_n 1, 1) := by decide +kernel
theorem dX4_sunday_30 : decode cX4_sunday 30 = .ok (.invokevirtual 167, 3) := by decide +kernel
theorem dX4_sunday_33 : decode cX4_sunday 33 = .ok (.iload_n 1, 1) := by decide +kernel
theorem dX4_sunday_34 : decode cX4_sunday 34 = .ok (.ifCond .eq 7, 3) := by decide +kernel
theorem dX4_sunday_37 : decode cX4_sunday 37 = .ok (.iconst 1, 1) := by decide +kernel
theorem dX4_sunday_38 : decode cX4_sunday 38 = .ok (.goto 4, 3) := by decide +kernel
theorem dX4_sunday_41 : decode cX4_sunday 41 = .ok (.iconst 0, 1) := by decide +kernel
theorem dX4_sunday_42 : decode cX4_sunday 42 = .ok (.ireturn, 1) := by decide +kernel
theorem dX4_undo_0 : decode cX4_undo 0 = .ok (.aload_n 0, 1) := by decide +kernel
theorem dX4_undo_1 : decode cX4_undo 1 = .ok (.getfield 101, 3) := by decide +kernel
theorem dX4_undo_4 : decode cX4_undo 4 = .ok (.ifCond .gt 6, 3) := by decide +kernel
theorem dX4_undo_7 : decode cX4_undo 7 = .ok (.bipush (-4), 2) := by decide +kernel
theorem dX4_undo_9 : decode cX4_undo 9 = .ok (.ireturn, 1) := by decide +kernel
theorem dX4_undo_10 : decode cX4_undo 10 = .ok (.aload_n 0, 1) := by decide +kernel
theorem dX4_undo_11 : decode cX4_undo 11 = .ok (.dup, 1) := by decide +kernel
theorem dX4_undo_12 : decode cX4_undo 12 = .ok (.getfield 101, 3) := by decide +kernel
theorem dX4_undo_15 : decode cX4_undo 15 = .ok (.iconst 1, 1) := by decide +kernel
theorem dX4_undo_16 : decode cX4_undo 16 = .ok (.isub, 1) := by decide +kernel
theorem dX4_undo_17 : decode cX4_undo 17 = .ok (.putfield 101, 3) := by decide +kernel
theorem dX4_undo_20 : decode cX4_undo 20 = .ok (.aload_n 0, 1) := by decide +kernel
theorem dX4_undo_21 : decode cX4_undo 21 = .ok (.aload_n 0, 1) := by decide +kernel
theorem dX4_undo_22 : decode cX4_undo 22 = .ok (.getfield 171, 3) := by decide +kernel
theorem dX4_undo_25 : decode cX4_undo 25 = .ok (.bipush 8, 2) := by decide +kernel
theorem dX4_undo_27 : decode cX4_undo 27 = .ok (.iadd, 1) := by decide +kernel
theorem dX4_undo_28 : decode cX4_undo 28 = .ok (.iconst 1, 1) := by decide +kernel
theorem dX4_undo_29 : decode cX4_undo 29 = .ok (.isub, 1) := by decide +kernel
theorem dX4_undo_30 : decode cX4_undo 30 = .ok (.bipush 8, 2) := by decide +kernel
theorem dX4_undo_32 : decode cX4_undo 32 = .ok (.irem, 1) := by decide +kernel
theorem dX4_undo_33 : decode cX4_undo 33 = .ok (.putfield 171, 3) := by decide +kernel
theorem dX4_undo_36 : decode cX4_undo 36 = .ok (.aload_n 0, 1) := by decide +kernel
theorem dX4_undo_37 : decode cX4_undo 37 = .ok (.getfield 26, 3) := by decide +kernel
theorem dX4_undo_40 : decode cX4_undo 40 = .ok (.aload_n 0, 1) := by decide +kernel
theorem dX4_undo_41 : decode cX4_undo 41 = .ok (.getfield 34, 3) := by decide +kernel
theorem dX4_undo_44 : decode cX4_undo 44 = .ok (.aload_n 0, 1) := by decide +kernel
theorem dX4_undo_45 : decode cX4_undo 45 = .ok (.getfield 171, 3) := by decide +kernel
theorem dX4_undo_48 : decode cX4_undo 48 = .ok (.aaload, 1) := by decide +kernel
theorem dX4_undo_49 : decode cX4_undo 49 = .ok (.invokevirtual 174, 3) := by decide +kernel
theorem dX4_undo_52 : decode cX4_undo 52 = .ok (.aload_n 0, 1) := by decide +kernel
theorem dX4_undo_53 : decode cX4_undo 53 = .ok (.getfield 101, 3) := by decide +kernel
theorem dX4_undo_56 : decode cX4_undo 56 = .ok (.ireturn, 1) := by decide +kernel
theorem dX4_rememberWeek_0 : decode cX4_rememberWeek 0 = .ok (.aload_n 0, 1) := by decide +kernel
theorem dX4_rememberWeek_1 : decode cX4_rememberWeek 1 = .ok (.getfield 34, 3) := by decide +kernel
theorem dX4_rememberWeek_4 : decode cX4_rememberWeek 4 = .ok (.aload_n 0, 1) := by decide +kernel
theorem dX4_rememberWeek_5 : decode cX4_rememberWeek 5 = .ok (.getfield 171, 3) := by decide +kernel
theorem dX4_rememberWeek_8 : decode cX4_rememberWeek 8 = .ok (.aaload, 1) := by decide +kernel
theorem dX4_rememberWeek_9 : decode cX4_rememberWeek 9 = .ok (.aload_n 0, 1) := by decide +kernel
theorem dX4_rememberWeek_10 : decode cX4_rememberWeek 10 = .ok (.getfield 26, 3) := by decide +kernel
theorem dX4_rememberWeek_13 : decode cX4_rememberWeek 13 = .ok (.invokevirtual 174, 3) := by decide +kernel
theorem dX4_rememberWeek_16 : decode cX4_rememberWeek 16 = .ok (.aload_n 0, 1) := by decide +kernel
theorem dX4_rememberWeek_17 : decode cX4_rememberWeek 17 = .ok (.aload_n 0, 1) := by decide +kernel
theorem dX4_rememberWeek_18 : decode cX4_rememberWeek 18 = .ok (.getfield 171, 3) := by decide +kernel
theorem dX4_rememberWeek_21 : decode cX4_rememberWeek 21 = .ok (.iconst 1, 1) := by decide +kernel
theorem dX4_rememberWeek_22 : decode cX4_rememberWeek 22 = .ok (.iadd, 1) := by decide +kernel
theorem dX4_rememberWeek_23 : decode cX4_rememberWeek 23 = .ok (.bipush 8, 2) := by decide +kernel
theorem dX4_rememberWeek_25 : decode cX4_rememberWeek 25 = .ok (.irem, 1) := by decide +kernel
theorem dX4_rememberWeek_26 : decode cX4_rememberWeek 26 = .ok (.putfield 171, 3) := by decide +kernel
theorem dX4_rememberWeek_29 : decode cX4_rememberWeek 29 = .ok (.aload_n 0, 1) := by decide +kernel
theorem dX4_rememberWeek_30 : decode cX4_rememberWeek 30 = .ok (.aload_n 0, 1) := by decide +kernel
theorem dX4_rememberWeek_31 : decode cX4_rememberWeek 31 = .ok (.getfield 101, 3) := by decide +kernel
theorem dX4_rememberWeek_34 : decode cX4_rememberWeek 34 = .ok (.iconst 1, 1) := by decide +kernel
theorem dX4_rememberWeek_35 : decode cX4_rememberWeek 35 = .ok (.iadd, 1) := by decide +kernel
theorem dX4_rememberWeek_36 : decode cX4_rememberWeek 36 = .ok (.bipush 8, 2) := by decide +kernel
theorem dX4_rememberWeek_38 : decode cX4_rememberWeek 38 = .ok (.invokestatic 156, 3) := by decide +kernel
theorem dX4_rememberWeek_41 : decode cX4_rememberWeek 41 = .ok (.putfield 101, 3) := by decide +kernel
theorem dX4_rememberWeek_44 : decode cX4_rememberWeek 44 = .ok (.return_, 1) := by decide +kernel
theorem dX4_keep_0 : decode cX4_keep 0 = .ok (.iload_n 1, 1) := by decide +kernel
theorem dX4_keep_1 : decode cX4_keep 1 = .ok (.iconst 0, 1) := by decide +kernel
theorem dX4_keep_2 : decode cX4_keep 2 = .ok (.iconst 1, 1) := by decide +kernel
theorem dX4_keep_3 : decode cX4_keep 3 = .ok (.invokestatic 52, 3) := by decide +kernel
theorem dX4_keep_6 : decode cX4_keep 6 = .ok (.ifCond .ne 6, 3) := by decide +kernel
theorem dX4_keep_9 : decode cX4_keep 9 = .ok (.bipush (-2), 2) := by decide +kernel
theorem dX4_keep_11 : decode cX4_keep 11 = .ok (.ireturn, 1) := by decide +kernel
theorem dX4_keep_12 : decode cX4_keep 12 = .ok (.aload_n 0, 1) := by decide +kernel
theorem dX4_keep_13 : decode cX4_keep 13 = .ok (.getfield 38, 3) := by decide +kernel
theorem dX4_keep_16 : decode cX4_keep 16 = .ok (.iload_n 1, 1) := by decide +kernel
theorem dX4_keep_17 : decode cX4_keep 17 = .ok (.aaload, 1) := by decide +kernel
theorem dX4_keep_18 : decode cX4_keep 18 = .ok (.aload_n 0, 1) := by decide +kernel
theorem dX4_keep_19 : decode cX4_keep 19 = .ok (.getfield 26, 3) := by decide +kernel
theorem dX4_keep_22 : decode cX4_keep 22 = .ok (.invokevirtual 174, 3) := by decide +kernel
theorem dX4_keep_25 : decode cX4_keep 25 = .ok (.aload_n 0, 1) := by decide +kernel
theorem dX4_keep_26 : decode cX4_keep 26 = .ok (.getfield 41, 3) := by decide +kernel
theorem dX4_keep_29 : decode cX4_keep 29 = .ok (.iload_n 1, 1) := by decide +kernel
theorem dX4_keep_30 : decode cX4_keep 30 = .ok (.iconst 1, 1) := by decide +kernel
theorem dX4_keep_31 : decode cX4_keep 31 = .ok (.bastore, 1) := by decide +kernel
theorem dX4_keep_32 : decode cX4_keep 32 = .ok (.aload_n 0, 1) := by decide +kernel
theorem dX4_keep_33 : decode cX4_keep 33 = .ok (.getfield 26, 3) := by decide +kernel
theorem dX4_keep_36 : decode cX4_keep 36 = .ok (.getfield 164, 3) := by decide +kernel
theorem dX4_keep_39 : decode cX4_keep 39 = .ok (.ireturn, 1) := by decide +kernel
theorem dX4_back_0 : decode cX4_back 0 = .ok (.iload_n 1, 1) := by decide +kernel
theorem dX4_back_1 : decode cX4_back 1 = .ok (.iconst 0, 1) := by decide +kernel
theorem dX4_back_2 : decode cX4_back 2 = .ok (.iconst 1, 1) := by decide +kernel
theorem dX4_back_3 : decode cX4_back 3 = .ok (.invokestatic 52, 3) := by decide +kernel
theorem dX4_back_6 : decode cX4_back 6 = .ok (.ifCond .ne 6, 3) := by decide +kernel
theorem dX4_back_9 : decode cX4_back 9 = .ok (.bipush (-2), 2) := by decide +kernel
theorem dX4_back_11 : decode cX4_back 11 = .ok (.ireturn, 1) := by decide +kernel
theorem dX4_back_12 : decode cX4_back 12 = .ok (.aload_n 0, 1) := by decide +kernel
theorem dX4_back_13 : decode cX4_back 13 = .ok (.getfield 41, 3) := by decide +kernel
theorem dX4_back_16 : decode cX4_back 16 = .ok (.iload_n 1, 1) := by decide +kernel
theorem dX4_back_17 : decode cX4_back 17 = .ok (.baload, 1) := by decide +kernel
theorem dX4_back_18 : decode cX4_back 18 = .ok (.ifCond .ne 6, 3) := by decide +kernel
theorem dX4_back_21 : decode cX4_back 21 = .ok (.bipush (-4), 2) := by decide +kernel
theorem dX4_back_23 : decode cX4_back 23 = .ok (.ireturn, 1) := by decide +kernel
theorem dX4_back_24 : decode cX4_back 24 = .ok (.aload_n 0, 1) := by decide +kernel
theorem dX4_back_25 : decode cX4_back 25 = .ok (.getfield 26, 3) := by decide +kernel
theorem dX4_back_28 : decode cX4_back 28 = .ok (.aload_n 0, 1) := by decide +kernel
theorem dX4_back_29 : decode cX4_back 29 = .ok (.getfield 38, 3) := by decide +kernel
theorem dX4_back_32 : decode cX4_back 32 = .ok (.iload_n 1, 1) := by decide +kernel
theorem dX4_back_33 : decode cX4_back 33 = .ok (.aaload, 1) := by decide +kernel
theorem dX4_back_34 : decode cX4_back 34 = .ok (.invokevirtual 174, 3) := by decide +kernel
theorem dX4_back_37 : decode cX4_back 37 = .ok (.aload_n 0, 1) := by decide +kernel
theorem dX4_back_38 : decode cX4_back 38 = .ok (.iconst 0, 1) := by decide +kernel
theorem dX4_back_39 : decode cX4_back 39 = .ok (.putfield 101, 3) := by decide +kernel
theorem dX4_back_42 : decode cX4_back 42 = .ok (.aload_n 0, 1) := by decide +kernel
theorem dX4_back_43 : decode cX4_back 43 = .ok (.getfield 26, 3) := by decide +kernel
theorem dX4_back_46 : decode cX4_back 46 = .ok (.getfield 164, 3) := by decide +kernel
theorem dX4_back_49 : decode cX4_back 49 = .ok (.ireturn, 1) := by decide +kernel
theorem dX4_stops_0 : decode cX4_stops 0 = .ok (.aload_n 0, 1) := by decide +kernel
theorem dX4_stops_1 : decode cX4_stops 1 = .ok (.invokevirtual 152, 3) := by decide +kernel
theorem dX4_stops_4 : decode cX4_stops 4 = .ok (.istore_n 1, 1) := by decide +kernel
theorem dX4_stops_5 : decode cX4_stops 5 = .ok (.aload_n 0, 1) := by decide +kernel
theorem dX4_stops_6 : decode cX4_stops 6 = .ok (.getfield 26, 3) := by decide +kernel
theorem dX4_stops_9 : decode cX4_stops 9 = .ok (.getfield 123, 3) := by decide +kernel
theorem dX4_stops_12 : decode cX4_stops 12 = .ok (.istore_n 2, 1) := by decide +kernel
theorem dX4_stops_13 : decode cX4_stops 13 = .ok (.iconst 0, 1) := by decide +kernel
theorem dX4_stops_14 : decode cX4_stops 14 = .ok (.istore_n 3, 1) := by decide +kernel
theorem dX4_stops_15 : decode cX4_stops 15 = .ok (.aload_n 0, 1) := by decide +kernel
theorem dX4_stops_16 : decode cX4_stops 16 = .ok (.aload_n 0, 1) := by decide +kernel
theorem dX4_stops_17 : decode cX4_stops 17 = .ok (.iload_n 2, 1) := by decide +kernel
theorem dX4_stops_18 : decode cX4_stops 18 = .ok (.invokevirtual 148, 3) := by decide +kernel
theorem dX4_stops_21 : decode cX4_stops 21 = .ok (.iload_n 1, 1) := by decide +kernel
theorem dX4_stops_22 : decode cX4_stops 22 = .ok (.invokevirtual 178, 3) := by decide +kernel
theorem dX4_stops_25 : decode cX4_stops 25 = .ok (.ifCond .eq 5, 3) := by decide +kernel
theorem dX4_stops_28 : decode cX4_stops 28 = .ok (.iload_n 3, 1) := by decide +kernel
theorem dX4_stops_29 : decode cX4_stops 29 = .ok (.ireturn, 1) := by decide +kernel
theorem dX4_stops_30 : decode cX4_stops 30 = .ok (.iconst 0, 1) := by decide +kernel
theorem dX4_stops_31 : decode cX4_stops 31 = .ok (.istore 4, 2) := by decide +kernel
theorem dX4_stops_33 : decode cX4_stops 33 = .ok (.iload 4, 2) := by decide +kernel
theorem dX4_stops_35 : decode cX4_stops 35 = .ok (.aload_n 0, 1) := by decide +kernel
theorem dX4_stops_36 : decode cX4_stops 36 = .ok (.getfield 19, 3) := by decide +kernel
theorem dX4_stops_39 : decode cX4_stops 39 = .ok (.getfield 64, 3) := by decide +kernel
theorem dX4_stops_42 : decode cX4_stops 42 = .ok (.if_icmp .ge 52, 3) := by decide +kernel
theorem dX4_stops_45 : decode cX4_stops 45 = .ok (.iload 4, 2) := by decide +kernel
theorem dX4_stops_47 : decode cX4_stops 47 = .ok (.aload_n 0, 1) := by decide +kernel
theorem dX4_stops_48 : decode cX4_stops 48 = .ok (.getfield 26, 3) := by decide +kernel
theorem dX4_stops_51 : decode cX4_stops 51 = .ok (.getfield 123, 3) := by decide +kernel
theorem dX4_stops_54 : decode cX4_stops 54 = .ok (.invokestatic 126, 3) := by decide +kernel
theorem dX4_stops_57 : decode cX4_stops 57 = .ok (.ifCond .eq 6, 3) := by decide +kernel
theorem dX4_stops_60 : decode cX4_stops 60 = .ok (.goto 28, 3) := by decide +kernel
theorem dX4_stops_63 : decode cX4_stops 63 = .ok (.iload_n 2, 1) := by decide +kernel
theorem dX4_stops_64 : decode cX4_stops 64 = .ok (.iconst 1, 1) := by decide +kernel
theorem dX4_stops_65 : decode cX4_stops 65 = .ok (.iload 4, 2) := by decide +kernel
theorem dX4_stops_67 : decode cX4_stops 67 = .ok (.ishl, 1) := by decide +kernel
theorem dX4_stops_68 : decode cX4_stops 68 = .ok (.ior, 1) := by decide +kernel
theorem dX4_stops_69 : decode cX4_stops 69 = .ok (.istore_n 2, 1) := by decide +kernel
theorem dX4_stops_70 : decode cX4_stops 70 = .ok (.iinc 3 1, 3) := by decide +kernel
theorem dX4_stops_73 : decode cX4_stops 73 = .ok (.aload_n 0, 1) := by decide +kernel
theorem dX4_stops_74 : decode cX4_stops 74 = .ok (.aload_n 0, 1) := by decide +kernel
theorem dX4_stops_75 : decode cX4_stops 75 = .ok (.iload_n 2, 1) := by decide +kernel
theorem dX4_stops_76 : decode cX4_stops 76 = .ok (.invokevirtual 148, 3) := by decide +kernel
theorem dX4_stops_79 : decode cX4_stops 79 = .ok (.iload_n 1, 1) := by decide +kernel
theorem dX4_stops_80 : decode cX4_stops 80 = .ok (.invokevirtual 178, 3) := by decide +kernel
theorem dX4_stops_83 : decode cX4_stops 83 = .ok (.ifCond .eq 5, 3) := by decide +kernel
theorem dX4_stops_86 : decode cX4_stops 86 = .ok (.iload_n 3, 1) := by decide +kernel
theorem dX4_stops_87 : decode cX4_stops 87 = .ok (.ireturn, 1) := by decide +kernel
theorem dX4_stops_88 : decode cX4_stops 88 = .ok (.iinc 4 1, 3) := by decide +kernel
theorem dX4_stops_91 : decode cX4_stops 91 = .ok (.goto (-58), 3) := by decide +kernel
theorem dX4_stops_94 : decode cX4_stops 94 = .ok (.iconst (-1), 1) := by decide +kernel
theorem dX4_stops_95 : decode cX4_stops 95 = .ok (.ireturn, 1) := by decide +kernel
theorem dX4_soonest_0 : decode cX4_soonest 0 = .ok (.iload_n 1, 1) := by decide +kernel
theorem dX4_soonest_1 : decode cX4_soonest 1 = .ok (.iconst 0, 1) := by decide +kernel
theorem dX4_soonest_2 : decode cX4_soonest 2 = .ok (.iconst 1, 1) := by decide +kernel
theorem dX4_soonest_3 : decode cX4_soonest 3 = .ok (.invokestatic 52, 3) := by decide +kernel
theorem dX4_soonest_6 : decode cX4_soonest 6 = .ok (.ifCond .ne 6, 3) := by decide +kernel
theorem dX4_soonest_9 : decode cX4_soonest 9 = .ok (.bipush (-3), 2) := by decide +kernel
theorem dX4_soonest_11 : decode cX4_soonest 11 = .ok (.ireturn, 1) := by decide +kernel
theorem dX4_soonest_12 : decode cX4_soonest 12 = .ok (.aload_n 0, 1) := by decide +kernel
theorem dX4_soonest_13 : decode cX4_soonest 13 = .ok (.invokevirtual 181, 3) := by decide +kernel
theorem dX4_soonest_16 : decode cX4_soonest 16 = .ok (.istore_n 2, 1) := by decide +kernel
theorem dX4_soonest_17 : decode cX4_soonest 17 = .ok (.iload_n 2, 1) := by decide +kernel
theorem dX4_soonest_18 : decode cX4_soonest 18 = .ok (.iconst (-1), 1) := by decide +kernel
theorem dX4_soonest_19 : decode cX4_soonest 19 = .ok (.if_icmp .ne 5, 3) := by decide +kernel
theorem dX4_soonest_22 : decode cX4_soonest 22 = .ok (.iconst (-1), 1) := by decide +kernel
theorem dX4_soonest_23 : decode cX4_soonest 23 = .ok (.ireturn, 1) := by decide +kernel
theorem dX4_soonest_24 : decode cX4_soonest 24 = .ok (.iload_n 1, 1) := by decide +kernel
theorem dX4_soonest_25 : decode cX4_soonest 25 = .ok (.ifCond .ne 7, 3) := by decide +kernel
theorem dX4_soonest_28 : decode cX4_soonest 28 = .ok (.iload_n 2, 1) := by decide +kernel
theorem dX4_soonest_29 : decode cX4_soonest 29 = .ok (.goto 11, 3) := by decide +kernel
theorem dX4_soonest_32 : decode cX4_soonest 32 = .ok (.aload_n 0, 1) := by decide +kernel
theorem dX4_soonest_33 : decode cX4_soonest 33 = .ok (.getfield 19, 3) := by decide +kernel
theorem dX4_soonest_36 : decode cX4_soonest 36 = .ok (.iload_n 2, 1) := by decide +kernel
theorem dX4_soonest_37 : decode cX4_soonest 37 = .ok (.invokevirtual 184, 3) := by decide +kernel
theorem dX4_soonest_40 : decode cX4_soonest 40 = .ok (.ireturn, 1) := by decide +kernel
theorem dX4_soonestSet_0 : decode cX4_soonestSet 0 = .ok (.aload_n 0, 1) := by decide +kernel
theorem dX4_soonestSet_1 : decode cX4_soonestSet 1 = .ok (.invokevirtual 152, 3) := by decide +kernel
theorem dX4_soonestSet_4 : decode cX4_soonestSet 4 = .ok (.istore_n 1, 1) := by decide +kernel
theorem dX4_soonestSet_5 : decode cX4_soonestSet 5 = .ok (.iconst (-1), 1) := by decide +kernel
theorem dX4_soonestSet_6 : decode cX4_soonestSet 6 = .ok (.istore_n 2, 1) := by decide +kernel
theorem dX4_soonestSet_7 : decode cX4_soonestSet 7 = .ok (.iconst 0, 1) := by decide +kernel
theorem dX4_soonestSet_8 : decode cX4_soonestSet 8 = .ok (.istore_n 3, 1) := by decide +kernel
theorem dX4_soonestSet_9 : decode cX4_soonestSet 9 = .ok (.iload_n 3, 1) := by decide +kernel
theorem dX4_soonestSet_10 : decode cX4_soonestSet 10 = .ok (.iconst 1, 1) := by decide +kernel
theorem dX4_soonestSet_11 : decode cX4_soonestSet 11 = .ok (.aload_n 0, 1) := by decide +kernel
theorem dX4_soonestSet_12 : decode cX4_soonestSet 12 = .ok (.getfield 19, 3) := by decide +kernel
theorem dX4_soonestSet_15 : decode cX4_soonestSet 15 = .ok (.getfield 64, 3) := by decide +kernel
theorem dX4_soonestSet_18 : decode cX4_soonestSet 18 = .ok (.ishl, 1) := by decide +kernel
theorem dX4_soonestSet_19 : decode cX4_soonestSet 19 = .ok (.if_icmp .ge 34, 3) := by decide +kernel
theorem dX4_soonestSet_22 : decode cX4_soonestSet 22 = .ok (.aload_n 0, 1) := by decide +kernel
theorem dX4_soonestSet_23 : decode cX4_soonestSet 23 = .ok (.iload_n 3, 1) := by decide +kernel
theorem dX4_soonestSet_24 : decode cX4_soonestSet 24 = .ok (.iload_n 1, 1) := by decide +kernel
theorem dX4_soonestSet_25 : decode cX4_soonestSet 25 = .ok (.invokevirtual 187, 3) := by decide +kernel
theorem dX4_soonestSet_28 : decode cX4_soonestSet 28 = .ok (.ifCond .eq 19, 3) := by decide +kernel
theorem dX4_soonestSet_31 : decode cX4_soonestSet 31 = .ok (.iload_n 2, 1) := by decide +kernel
theorem dX4_soonestSet_32 : decode cX4_soonestSet 32 = .ok (.iconst (-1), 1) := by decide +kernel
theorem dX4_soonestSet_33 : decode cX4_soonestSet 33 = .ok (.if_icmp .eq 12, 3) := by decide +kernel
theorem dX4_soonestSet_36 : decode cX4_soonestSet 36 = .ok (.aload_n 0, 1) := by decide +kernel
theorem dX4_soonestSet_37 : decode cX4_soonestSet 37 = .ok (.iload_n 3, 1) := by decide +kernel
theorem dX4_soonestSet_38 : decode cX4_soonestSet 38 = .ok (.iload_n 2, 1) := by decide +kernel
theorem dX4_soonestSet_39 : decode cX4_soonestSet 39 = .ok (.invokevirtual 190, 3) := by decide +kernel
theorem dX4_soonestSet_42 : decode cX4_soonestSet 42 = .ok (.ifCond .eq 5, 3) := by decide +kernel
theorem dX4_soonestSet_45 : decode cX4_soonestSet 45 = .ok (.iload_n 3, 1) := by decide +kernel
theorem dX4_soonestSet_46 : decode cX4_soonestSet 46 = .ok (.istore_n 2, 1) := by decide +kernel
theorem dX4_soonestSet_47 : decode cX4_soonestSet 47 = .ok (.iinc 3 1, 3) := by decide +kernel
theorem dX4_soonestSet_50 : decode cX4_soonestSet 50 = .ok (.goto (-41), 3) := by decide +kernel
theorem dX4_soonestSet_53 : decode cX4_soonestSet 53 = .ok (.iload_n 2, 1) := by decide +kernel
theorem dX4_soonestSet_54 : decode cX4_soonestSet 54 = .ok (.ireturn, 1) := by decide +kernel
theorem dX4_isSooner_0 : decode cX4_isSooner 0 = .ok (.aload_n 0, 1) := by decide +kernel
theorem dX4_isSooner_1 : decode cX4_isSooner 1 = .ok (.getfield 19, 3) := by decide +kernel
theorem dX4_isSooner_4 : decode cX4_isSooner 4 = .ok (.iload_n 1, 1) := by decide +kernel
theorem dX4_isSooner_5 : decode cX4_isSooner 5 = .ok (.invokevirtual 184, 3) := by decide +kernel
theorem dX4_isSooner_8 : decode cX4_isSooner 8 = .ok (.istore_n 3, 1) := by decide +kernel
theorem dX4_isSooner_9 : decode cX4_isSooner 9 = .ok (.aload_n 0, 1) := by decide +kernel
theorem dX4_isSooner_10 : decode cX4_isSooner 10 = .ok (.getfield 19, 3) := by decide +kernel
theorem dX4_isSooner_13 : decode cX4_isSooner 13 = .ok (.iload_n 2, 1) := by decide +kernel
theorem dX4_isSooner_14 : decode cX4_isSooner 14 = .ok (.invokevirtual 184, 3) := by decide +kernel
theorem dX4_isSooner_17 : decode cX4_isSooner 17 = .ok (.istore 4, 2) := by decide +kernel
theorem dX4_isSooner_19 : decode cX4_isSooner 19 = .ok (.iload_n 3, 1) := by decide +kernel
theorem dX4_isSooner_20 : decode cX4_isSooner 20 = .ok (.iload 4, 2) := by decide +kernel
theorem dX4_isSooner_22 : decode cX4_isSooner 22 = .ok (.if_icmp .eq 15, 3) := by decide +kernel
theorem dX4_isSooner_25 : decode cX4_isSooner 25 = .ok (.iload_n 3, 1) := by decide +kernel
theorem dX4_isSooner_26 : decode cX4_isSooner 26 = .ok (.iload 4, 2) := by decide +kernel
theorem dX4_isSooner_28 : decode cX4_isSooner 28 = .ok (.if_icmp .ge 7, 3) := by decide +kernel
theorem dX4_isSooner_31 : decode cX4_isSooner 31 = .ok (.iconst 1, 1) := by decide +kernel
theorem dX4_isSooner_32 : decode cX4_isSooner 32 = .ok (.goto 4, 3) := by decide +kernel
theorem dX4_isSooner_35 : decode cX4_isSooner 35 = .ok (.iconst 0, 1) := by decide +kernel
theorem dX4_isSooner_36 : decode cX4_isSooner 36 = .ok (.ireturn, 1) := by decide +kernel
theorem dX4_isSooner_37 : decode cX4_isSooner 37 = .ok (.iload_n 1, 1) := by decide +kernel
theorem dX4_isSooner_38 : decode cX4_isSooner 38 = .ok (.invokestatic 193, 3) := by decide +kernel
theorem dX4_isSooner_41 : decode cX4_isSooner 41 = .ok (.iload_n 2, 1) := by decide +kernel
theorem dX4_isSooner_42 : decode cX4_isSooner 42 = .ok (.invokestatic 193, 3) := by decide +kernel
theorem dX4_isSooner_45 : decode cX4_isSooner 45 = .ok (.if_icmp .ge 7, 3) := by decide +kernel
theorem dX4_isSooner_48 : decode cX4_isSooner 48 = .ok (.iconst 1, 1) := by decide +kernel
theorem dX4_isSooner_49 : decode cX4_isSooner 49 = .ok (.goto 4, 3) := by decide +kernel
theorem dX4_isSooner_52 : decode cX4_isSooner 52 = .ok (.iconst 0, 1) := by decide +kernel
theorem dX4_isSooner_53 : decode cX4_isSooner 53 = .ok (.ireturn, 1) := by decide +kernel
theorem dX4_never_0 : decode cX4_never 0 = .ok (.iload_n 1, 1) := by decide +kernel
theorem dX4_never_1 : decode cX4_never 1 = .ok (.iconst 0, 1) := by decide +kernel
theorem dX4_never_2 : decode cX4_never 2 = .ok (.bipush 99, 2) := by decide +kernel
theorem dX4_never_4 : decode cX4_never 4 = .ok (.invokestatic 52, 3) := by decide +kernel
theorem dX4_never_7 : decode cX4_never 7 = .ok (.ifCond .ne 6, 3) := by decide +kernel
theorem dX4_never_10 : decode cX4_never 10 = .ok (.bipush (-3), 2) := by decide +kernel
theorem dX4_never_12 : decode cX4_never 12 = .ok (.ireturn, 1) := by decide +kernel
theorem dX4_never_13 : decode cX4_never 13 = .ok (.iconst 0, 1) := by decide +kernel
theorem dX4_never_14 : decode cX4_never 14 = .ok (.istore_n 2, 1) := by decide +kernel
theorem dX4_never_15 : decode cX4_never 15 = .ok (.iload_n 2, 1) := by decide +kernel
theorem dX4_never_16 : decode cX4_never 16 = .ok (.iconst 1, 1) := by decide +kernel
theorem dX4_never_17 : decode cX4_never 17 = .ok (.aload_n 0, 1) := by decide +kernel
theorem dX4_never_18 : decode cX4_never 18 = .ok (.getfield 19, 3) := by decide +kernel
theorem dX4_never_21 : decode cX4_never 21 = .ok (.getfield 64, 3) := by decide +kernel
theorem dX4_never_24 : decode cX4_never 24 = .ok (.ishl, 1) := by decide +kernel
theorem dX4_never_25 : decode cX4_never 25 = .ok (.if_icmp .ge 20, 3) := by decide +kernel
theorem dX4_never_28 : decode cX4_never 28 = .ok (.aload_n 0, 1) := by decide +kernel
theorem dX4_never_29 : decode cX4_never 29 = .ok (.iload_n 2, 1) := by decide +kernel
theorem dX4_never_30 : decode cX4_never 30 = .ok (.iload_n 1, 1) := by decide +kernel
theorem dX4_never_31 : decode cX4_never 31 = .ok (.invokevirtual 187, 3) := by decide +kernel
theorem dX4_never_34 : decode cX4_never 34 = .ok (.ifCond .eq 5, 3) := by decide +kernel
theorem dX4_never_37 : decode cX4_never 37 = .ok (.iconst 0, 1) := by decide +kernel
theorem dX4_never_38 : decode cX4_never 38 = .ok (.ireturn, 1) := by decide +kernel
theorem dX4_never_39 : decode cX4_never 39 = .ok (.iinc 2 1, 3) := by decide +kernel
theorem dX4_never_42 : decode cX4_never 42 = .ok (.goto (-27), 3) := by decide +kernel
theorem dX4_never_45 : decode cX4_never 45 = .ok (.iconst 1, 1) := by decide +kernel
theorem dX4_never_46 : decode cX4_never 46 = .ok (.ireturn, 1) := by decide +kernel
theorem dX4_levels_0 : decode cX4_levels 0 = .ok (.iload_n 1, 1) := by decide +kernel
theorem dX4_levels_1 : decode cX4_levels 1 = .ok (.aload_n 0, 1) := by decide +kernel
theorem dX4_levels_2 : decode cX4_levels 2 = .ok (.getfield 26, 3) := by decide +kernel
theorem dX4_levels_5 : decode cX4_levels 5 = .ok (.getfield 123, 3) := by decide +kernel
theorem dX4_levels_8 : decode cX4_levels 8 = .ok (.iand, 1) := by decide +kernel
theorem dX4_levels_9 : decode cX4_levels 9 = .ok (.ifCond .ne 28, 3) := by decide +kernel
theorem dX4_levels_12 : decode cX4_levels 12 = .ok (.aload_n 0, 1) := by decide +kernel
theorem dX4_levels_13 : decode cX4_levels 13 = .ok (.aload_n 0, 1) := by decide +kernel
theorem dX4_levels_14 : decode cX4_levels 14 = .ok (.aload_n 0, 1) := by decide +kernel
theorem dX4_levels_15 : decode cX4_levels 15 = .ok (.getfield 26, 3) := by decide +kernel
theorem dX4_levels_18 : decode cX4_levels 18 = .ok (.getfield 123, 3) := by decide +kernel
theorem dX4_levels_21 : decode cX4_levels 21 = .ok (.iload_n 1, 1) := by decide +kernel
theorem dX4_levels_22 : decode cX4_levels 22 = .ok (.ior, 1) := by decide +kernel
theorem dX4_levels_23 : decode cX4_levels 23 = .ok (.invokevirtual 148, 3) := by decide +kernel
theorem dX4_levels_26 : decode cX4_levels 26 = .ok (.iload_n 2, 1) := by decide +kernel
theorem dX4_levels_27 : decode cX4_levels 27 = .ok (.invokevirtual 178, 3) := by decide +kernel
theorem dX4_levels_30 : decode cX4_levels 30 = .ok (.ifCond .eq 7, 3) := by decide +kernel
theorem dX4_levels_33 : decode cX4_levels 33 = .ok (.iconst 1, 1) := by decide +kernel
theorem dX4_levels_34 : decode cX4_levels 34 = .ok (.goto 4, 3) := by decide +kernel
theorem dX4_levels_37 : decode cX4_levels 37 = .ok (.iconst 0, 1) := by decide +kernel
theorem dX4_levels_38 : decode cX4_levels 38 = .ok (.ireturn, 1) := by decide +kernel
theorem dX4_seen_0 : decode cX4_seen 0 = .ok (.aload_n 0, 1) := by decide +kernel
theorem dX4_seen_1 : decode cX4_seen 1 = .ok (.iload_n 1, 1) := by decide +kernel
theorem dX4_seen_2 : decode cX4_seen 2 = .ok (.invokevirtual 198, 3) := by decide +kernel
theorem dX4_seen_5 : decode cX4_seen 5 = .ok (.ifCond .ne 6, 3) := by decide +kernel
theorem dX4_seen_8 : decode cX4_seen 8 = .ok (.bipush (-2), 2) := by decide +kernel
theorem dX4_seen_10 : decode cX4_seen 10 = .ok (.ireturn, 1) := by decide +kernel
theorem dX4_seen_11 : decode cX4_seen 11 = .ok (.iload_n 2, 1) := by decide +kernel
theorem dX4_seen_12 : decode cX4_seen 12 = .ok (.iconst 0, 1) := by decide +kernel
theorem dX4_seen_13 : decode cX4_seen 13 = .ok (.bipush 9, 2) := by decide +kernel
theorem dX4_seen_15 : decode cX4_seen 15 = .ok (.invokestatic 52, 3) := by decide +kernel
theorem dX4_seen_18 : decode cX4_seen 18 = .ok (.ifCond .eq 14, 3) := by decide +kernel
theorem dX4_seen_21 : decode cX4_seen 21 = .ok (.iload_n 3, 1) := by decide +kernel
theorem dX4_seen_22 : decode cX4_seen 22 = .ok (.iconst 0, 1) := by decide +kernel
theorem dX4_seen_23 : decode cX4_seen 23 = .ok (.sipush 255, 3) := by decide +kernel
theorem dX4_seen_26 : decode cX4_seen 26 = .ok (.invokestatic 52, 3) := by decide +kernel
theorem dX4_seen_29 : decode cX4_seen 29 = .ok (.ifCond .ne 6, 3) := by decide +kernel
theorem dX4_seen_32 : decode cX4_seen 32 = .ok (.bipush (-3), 2) := by decide +kernel
theorem dX4_seen_34 : decode cX4_seen 34 = .ok (.ireturn, 1) := by decide +kernel
theorem dX4_seen_35 : decode cX4_seen 35 = .ok (.aload_n 0, 1) := by decide +kernel
theorem dX4_seen_36 : decode cX4_seen 36 = .ok (.getfield 48, 3) := by decide +kernel
theorem dX4_seen_39 : decode cX4_seen 39 = .ok (.iload_n 1, 1) := by decide +kernel
theorem dX4_seen_40 : decode cX4_seen 40 = .ok (.iload_n 2, 1) := by decide +kernel
theorem dX4_seen_41 : decode cX4_seen 41 = .ok (.iload_n 3, 1) := by decide +kernel
theorem dX4_seen_42 : decode cX4_seen 42 = .ok (.invokevirtual 201, 3) := by decide +kernel
theorem dX4_seen_45 : decode cX4_seen 45 = .ok (.ifCond .eq 13, 3) := by decide +kernel
theorem dX4_seen_48 : decode cX4_seen 48 = .ok (.aload_n 0, 1) := by decide +kernel
theorem dX4_seen_49 : decode cX4_seen 49 = .ok (.getfield 48, 3) := by decide +kernel
theorem dX4_seen_52 : decode cX4_seen 52 = .ok (.getfield 204, 3) := by decide +kernel
theorem dX4_seen_55 : decode cX4_seen 55 = .ok (.goto 5, 3) := by decide +kernel
theorem dX4_seen_58 : decode cX4_seen 58 = .ok (.bipush (-5), 2) := by decide +kernel
theorem dX4_seen_60 : decode cX4_seen 60 = .ok (.ireturn, 1) := by decide +kernel
theorem dX4_heard_0 : decode cX4_heard 0 = .ok (.aload_n 0, 1) := by decide +kernel
theorem dX4_heard_1 : decode cX4_heard 1 = .ok (.iload_n 1, 1) := by decide +kernel
theorem dX4_heard_2 : decode cX4_heard 2 = .ok (.invokevirtual 198, 3) := by decide +kernel
theorem dX4_heard_5 : decode cX4_heard 5 = .ok (.ifCond .ne 6, 3) := by decide +kernel
theorem dX4_heard_8 : decode cX4_heard 8 = .ok (.bipush (-2), 2) := by decide +kernel
theorem dX4_heard_10 : decode cX4_heard 10 = .ok (.ireturn, 1) := by decide +kernel
theorem dX4_heard_11 : decode cX4_heard 11 = .ok (.iload_n 2, 1) := by decide +kernel
theorem dX4_heard_12 : decode cX4_heard 12 = .ok (.iconst 0, 1) := by decide +kernel
theorem dX4_heard_13 : decode cX4_heard 13 = .ok (.bipush 99, 2) := by decide +kernel
theorem dX4_heard_15 : decode cX4_heard 15 = .ok (.invokestatic 52, 3) := by decide +kernel
theorem dX4_heard_18 : decode cX4_heard 18 = .ok (.ifCond .eq 12, 3) := by decide +kernel
theorem dX4_heard_21 : decode cX4_heard 21 = .ok (.iload_n 3, 1) := by decide +kernel
theorem dX4_heard_22 : decode cX4_heard 22 = .ok (.iconst 0, 1) := by decide +kernel
theorem dX4_heard_23 : decode cX4_heard 23 = .ok (.iconst 1, 1) := by decide +kernel
theorem dX4_heard_24 : decode cX4_heard 24 = .ok (.invokestatic 52, 3) := by decide +kernel
theorem dX4_heard_27 : decode cX4_heard 27 = .ok (.ifCond .ne 6, 3) := by decide +kernel
theorem dX4_heard_30 : decode cX4_heard 30 = .ok (.bipush (-3), 2) := by decide +kernel
theorem dX4_heard_32 : decode cX4_heard 32 = .ok (.ireturn, 1) := by decide +kernel
theorem dX4_heard_33 : decode cX4_heard 33 = .ok (.aload_n 0, 1) := by decide +kernel
theorem dX4_heard_34 : decode cX4_heard 34 = .ok (.getfield 48, 3) := by decide +kernel
theorem dX4_heard_37 : decode cX4_heard 37 = .ok (.iload_n 1, 1) := by decide +kernel
theorem dX4_heard_38 : decode cX4_heard 38 = .ok (.iload_n 2, 1) := by decide +kernel
theorem dX4_heard_39 : decode cX4_heard 39 = .ok (.iload_n 3, 1) := by decide +kernel
theorem dX4_heard_40 : decode cX4_heard 40 = .ok (.iconst 1, 1) := by decide +kernel
theorem dX4_heard_41 : decode cX4_heard 41 = .ok (.if_icmp .ne 7, 3) := by decide +kernel
theorem dX4_heard_44 : decode cX4_heard 44 = .ok (.iconst 1, 1) := by decide +kernel
theorem dX4_heard_45 : decode cX4_heard 45 = .ok (.goto 4, 3) := by decide +kernel
theorem dX4_heard_48 : decode cX4_heard 48 = .ok (.iconst 0, 1) := by decide +kernel
theorem dX4_heard_49 : decode cX4_heard 49 = .ok (.aload_n 0, 1) := by decide +kernel
theorem dX4_heard_50 : decode cX4_heard 50 = .ok (.getfield 26, 3) := by decide +kernel
theorem dX4_heard_53 : decode cX4_heard 53 = .ok (.getfield 116, 3) := by decide +kernel
theorem dX4_heard_56 : decode cX4_heard 56 = .ok (.invokevirtual 207, 3) := by decide +kernel
theorem dX4_heard_59 : decode cX4_heard 59 = .ok (.ifCond .eq 13, 3) := by decide +kernel
theorem dX4_heard_62 : decode cX4_heard 62 = .ok (.aload_n 0, 1) := by decide +kernel
theorem dX4_heard_63 : decode cX4_heard 63 = .ok (.getfield 48, 3) := by decide +kernel
theorem dX4_heard_66 : decode cX4_heard 66 = .ok (.getfield 211, 3) := by decide +kernel
theorem dX4_heard_69 : decode cX4_heard 69 = .ok (.goto 5, 3) := by decide +kernel
theorem dX4_heard_72 : decode cX4_heard 72 = .ok (.bipush (-5), 2) := by decide +kernel
theorem dX4_heard_74 : decode cX4_heard 74 = .ok (.ireturn, 1) := by decide +kernel
theorem dX4_forget_0 : decode cX4_forget 0 = .ok (.aload_n 0, 1) := by decide +kernel
theorem dX4_forget_1 : decode cX4_forget 1 = .ok (.getfield 48, 3) := by decide +kernel
theorem dX4_forget_4 : decode cX4_forget 4 = .ok (.getfield 204, 3) := by decide +kernel
theorem dX4_forget_7 : decode cX4_forget 7 = .ok (.aload_n 0, 1) := by decide +kernel
theorem dX4_forget_8 : decode cX4_forget 8 = .ok (.getfield 48, 3) := by decide +kernel
theorem dX4_forget_11 : decode cX4_forget 11 = .ok (.getfield 211, 3) := by decide +kernel
theorem dX4_forget_14 : decode cX4_forget 14 = .ok (.iadd, 1) := by decide +kernel
theorem dX4_forget_15 : decode cX4_forget 15 = .ok (.istore_n 1, 1) := by decide +kernel
theorem dX4_forget_16 : decode cX4_forget 16 = .ok (.aload_n 0, 1) := by decide +kernel
theorem dX4_forget_17 : decode cX4_forget 17 = .ok (.getfield 48, 3) := by decide +kernel
theorem dX4_forget_20 : decode cX4_forget 20 = .ok (.invokevirtual 98, 3) := by decide +kernel
theorem dX4_forget_23 : decode cX4_forget 23 = .ok (.iload_n 1, 1) := by decide +kernel
theorem dX4_forget_24 : decode cX4_forget 24 = .ok (.ireturn, 1) := by decide +kernel
theorem dX4_weights_0 : decode cX4_weights 0 = .ok (.aload_n 0, 1) := by decide +kernel
theorem dX4_weights_1 : decode cX4_weights 1 = .ok (.iload_n 1, 1) := by decide +kernel
theorem dX4_weights_2 : decode cX4_weights 2 = .ok (.invokevirtual 104, 3) := by decide +kernel
theorem dX4_weights_5 : decode cX4_weights 5 = .ok (.ifCond .ne 6, 3) := by decide +kernel
theorem dX4_weights_8 : decode cX4_weights 8 = .ok (.bipush (-2), 2) := by decide +kernel
theorem dX4_weights_10 : decode cX4_weights 10 = .ok (.ireturn, 1) := by decide +kernel
theorem dX4_weights_11 : decode cX4_weights 11 = .ok (.iconst 0, 1) := by decide +kernel
theorem dX4_weights_12 : decode cX4_weights 12 = .ok (.istore_n 2, 1) := by decide +kernel
theorem dX4_weights_13 : decode cX4_weights 13 = .ok (.iconst 0, 1) := by decide +kernel
theorem dX4_weights_14 : decode cX4_weights 14 = .ok (.istore_n 3, 1) := by decide +kernel
theorem dX4_weights_15 : decode cX4_weights 15 = .ok (.iload_n 3, 1) := by decide +kernel
theorem dX4_weights_16 : decode cX4_weights 16 = .ok (.bipush 20, 2) := by decide +kernel
theorem dX4_weights_18 : decode cX4_weights 18 = .ok (.if_icmp .gt 24, 3) := by decide +kernel
theorem dX4_weights_21 : decode cX4_weights 21 = .ok (.aload_n 0, 1) := by decide +kernel
theorem dX4_weights_22 : decode cX4_weights 22 = .ok (.iload_n 1, 1) := by decide +kernel
theorem dX4_weights_23 : decode cX4_weights 23 = .ok (.iload_n 3, 1) := by decide +kernel
theorem dX4_weights_24 : decode cX4_weights 24 = .ok (.invokevirtual 214, 3) := by decide +kernel
theorem dX4_weights_27 : decode cX4_weights 27 = .ok (.ifCond .eq 9, 3) := by decide +kernel
theorem dX4_weights_30 : decode cX4_weights 30 = .ok (.iload_n 2, 1) := by decide +kernel
theorem dX4_weights_31 : decode cX4_weights 31 = .ok (.iconst 1, 1) := by decide +kernel
theorem dX4_weights_32 : decode cX4_weights 32 = .ok (.iload_n 3, 1) := by decide +kernel
theorem dX4_weights_33 : decode cX4_weights 33 = .ok (.ishl, 1) := by decide +kernel
theorem dX4_weights_34 : decode cX4_weights 34 = .ok (.ior, 1) := by decide +kernel
theorem dX4_weights_35 : decode cX4_weights 35 = .ok (.istore_n 2, 1) := by decide +kernel
theorem dX4_weights_36 : decode cX4_weights 36 = .ok (.iinc 3 1, 3) := by decide +kernel
theorem dX4_weights_39 : decode cX4_weights 39 = .ok (.goto (-24), 3) := by decide +kernel
theorem dX4_weights_42 : decode cX4_weights 42 = .ok (.iload_n 2, 1) := by decide +kernel
theorem dX4_weights_43 : decode cX4_weights 43 = .ok (.ireturn, 1) := by decide +kernel
theorem dX4_fitsAllSeen_0 : decode cX4_fitsAllSeen 0 = .ok (.iconst 0, 1) := by decide +kernel
theorem dX4_fitsAllSeen_1 : decode cX4_fitsAllSeen 1 = .ok (.istore_n 3, 1) := by decide +kernel
theorem dX4_fitsAllSeen_2 : decode cX4_fitsAllSeen 2 = .ok (.iload_n 3, 1) := by decide +kernel
theorem dX4_fitsAllSeen_3 : decode cX4_fitsAllSeen 3 = .ok (.aload_n 0, 1) := by decide +kernel
theorem dX4_fitsAllSeen_4 : decode cX4_fitsAllSeen 4 = .ok (.getfield 48, 3) := by decide +kernel
theorem dX4_fitsAllSeen_7 : decode cX4_fitsAllSeen 7 = .ok (.getfield 204, 3) := by decide +kernel
theorem dX4_fitsAllSeen_10 : decode cX4_fitsAllSeen 10 = .ok (.if_icmp .ge 95, 3) := by decide +kernel
theorem dX4_fitsAllSeen_13 : decode cX4_fitsAllSeen 13 = .ok (.aload_n 0, 1) := by decide +kernel
theorem dX4_fitsAllSeen_14 : decode cX4_fitsAllSeen 14 = .ok (.getfield 48, 3) := by decide +kernel
theorem dX4_fitsAllSeen_17 : decode cX4_fitsAllSeen 17 = .ok (.getfield 217, 3) := by decide +kernel
theorem dX4_fitsAllSeen_20 : decode cX4_fitsAllSeen 20 = .ok (.iload_n 3, 1) := by decide +kernel
theorem dX4_fitsAllSeen_21 : decode cX4_fitsAllSeen 21 = .ok (.iaload, 1) := by decide +kernel
theorem dX4_fitsAllSeen_22 : decode cX4_fitsAllSeen 22 = .ok (.istore 4, 2) := by decide +kernel
theorem dX4_fitsAllSeen_24 : decode cX4_fitsAllSeen 24 = .ok (.aload_n 0, 1) := by decide +kernel
theorem dX4_fitsAllSeen_25 : decode cX4_fitsAllSeen 25 = .ok (.getfield 48, 3) := by decide +kernel
theorem dX4_fitsAllSeen_28 : decode cX4_fitsAllSeen 28 = .ok (.getfield 220, 3) := by decide +kernel
theorem dX4_fitsAllSeen_31 : decode cX4_fitsAllSeen 31 = .ok (.iload_n 3, 1) := by decide +kernel
theorem dX4_fitsAllSeen_32 : decode cX4_fitsAllSeen 32 = .ok (.iaload, 1) := by decide +kernel
theorem dX4_fitsAllSeen_33 : decode cX4_fitsAllSeen 33 = .ok (.istore 5, 2) := by decide +kernel
theorem dX4_fitsAllSeen_35 : decode cX4_fitsAllSeen 35 = .ok (.aload_n 0, 1) := by decide +kernel
theorem dX4_fitsAllSeen_36 : decode cX4_fitsAllSeen 36 = .ok (.getfield 19, 3) := by decide +kernel
theorem dX4_fitsAllSeen_39 : decode cX4_fitsAllSeen 39 = .ok (.iload 4, 2) := by decide +kernel
theorem dX4_fitsAllSeen_41 : decode cX4_fitsAllSeen 41 = .ok (.iconst 1, 1) := by decide +kernel
theorem dX4_fitsAllSeen_42 : decode cX4_fitsAllSeen 42 = .ok (.iload_n 1, 1) := by decide +kernel
theorem dX4_fitsAllSeen_43 : decode cX4_fitsAllSeen 43 = .ok (.ishl, 1) := by decide +kernel
theorem dX4_fitsAllSeen_44 : decode cX4_fitsAllSeen 44 = .ok (.iconst (-1), 1) := by decide +kernel
theorem dX4_fitsAllSeen_45 : decode cX4_fitsAllSeen 45 = .ok (.ixor, 1) := by decide +kernel
theorem dX4_fitsAllSeen_46 : decode cX4_fitsAllSeen 46 = .ok (.iand, 1) := by decide +kernel
theorem dX4_fitsAllSeen_47 : decode cX4_fitsAllSeen 47 = .ok (.iload 5, 2) := by decide +kernel
theorem dX4_fitsAllSeen_49 : decode cX4_fitsAllSeen 49 = .ok (.invokevirtual 223, 3) := by decide +kernel
theorem dX4_fitsAllSeen_52 : decode cX4_fitsAllSeen 52 = .ok (.istore 6, 2) := by decide +kernel
theorem dX4_fitsAllSeen_54 : decode cX4_fitsAllSeen 54 = .ok (.iload_n 1, 1) := by decide +kernel
theorem dX4_fitsAllSeen_55 : decode cX4_fitsAllSeen 55 = .ok (.iload 4, 2) := by decide +kernel
theorem dX4_fitsAllSeen_57 : decode cX4_fitsAllSeen 57 = .ok (.invokestatic 126, 3) := by decide +kernel
theorem dX4_fitsAllSeen_60 : decode cX4_fitsAllSeen 60 = .ok (.ifCond .eq 23, 3) := by decide +kernel
theorem dX4_fitsAllSeen_63 : decode cX4_fitsAllSeen 63 = .ok (.iload 6, 2) := by decide +kernel
theorem dX4_fitsAllSeen_65 : decode cX4_fitsAllSeen 65 = .ok (.aload_n 0, 1) := by decide +kernel
theorem dX4_fitsAllSeen_66 : decode cX4_fitsAllSeen 66 = .ok (.getfield 19, 3) := by decide +kernel
theorem dX4_fitsAllSeen_69 : decode cX4_fitsAllSeen 69 = .ok (.getfield 107, 3) := by decide +kernel
theorem dX4_fitsAllSeen_72 : decode cX4_fitsAllSeen 72 = .ok (.iload_n 1, 1) := by decide +kernel
theorem dX4_fitsAllSeen_73 : decode cX4_fitsAllSeen 73 = .ok (.iaload, 1) := by decide +kernel
theorem dX4_fitsAllSeen_74 : decode cX4_fitsAllSeen 74 = .ok (.iload_n 2, 1) := by decide +kernel
theorem dX4_fitsAllSeen_75 : decode cX4_fitsAllSeen 75 = .ok (.iload 5, 2) := by decide +kernel
theorem dX4_fitsAllSeen_77 : decode cX4_fitsAllSeen 77 = .ok (.invokestatic 119, 3) := by decide +kernel
theorem dX4_fitsAllSeen_80 : decode cX4_fitsAllSeen 80 = .ok (.iadd, 1) := by decide +kernel
theorem dX4_fitsAllSeen_81 : decode cX4_fitsAllSeen 81 = .ok (.istore 6, 2) := by decide +kernel
theorem dX4_fitsAllSeen_83 : decode cX4_fitsAllSeen 83 = .ok (.iload 6, 2) := by decide +kernel
theorem dX4_fitsAllSeen_85 : decode cX4_fitsAllSeen 85 = .ok (.aload_n 0, 1) := by decide +kernel
theorem dX4_fitsAllSeen_86 : decode cX4_fitsAllSeen 86 = .ok (.getfield 48, 3) := by decide +kernel
theorem dX4_fitsAllSeen_89 : decode cX4_fitsAllSeen 89 = .ok (.getfield 226, 3) := by decide +kernel
theorem dX4_fitsAllSeen_92 : decode cX4_fitsAllSeen 92 = .ok (.iload_n 3, 1) := by decide +kernel
theorem dX4_fitsAllSeen_93 : decode cX4_fitsAllSeen 93 = .ok (.iaload, 1) := by decide +kernel
theorem dX4_fitsAllSeen_94 : decode cX4_fitsAllSeen 94 = .ok (.if_icmp .eq 5, 3) := by decide +kernel
theorem dX4_fitsAllSeen_97 : decode cX4_fitsAllSeen 97 = .ok (.iconst 0, 1) := by decide +kernel
theorem dX4_fitsAllSeen_98 : decode cX4_fitsAllSeen 98 = .ok (.ireturn, 1) := by decide +kernel
theorem dX4_fitsAllSeen_99 : decode cX4_fitsAllSeen 99 = .ok (.iinc 3 1, 3) := by decide +kernel
theorem dX4_fitsAllSeen_102 : decode cX4_fitsAllSeen 102 = .ok (.goto (-100), 3) := by decide +kernel
theorem dX4_fitsAllSeen_105 : decode cX4_fitsAllSeen 105 = .ok (.iconst 1, 1) := by decide +kernel
theorem dX4_fitsAllSeen_106 : decode cX4_fitsAllSeen 106 = .ok (.ireturn, 1) := by decide +kernel
theorem dX4_thumbs_0 : decode cX4_thumbs 0 = .ok (.iconst 0, 1) := by decide +kernel
theorem dX4_thumbs_1 : decode cX4_thumbs 1 = .ok (.istore_n 1, 1) := by decide +kernel
theorem dX4_thumbs_2 : decode cX4_thumbs 2 = .ok (.iconst 0, 1) := by decide +kernel
theorem dX4_thumbs_3 : decode cX4_thumbs 3 = .ok (.istore_n 2, 1) := by decide +kernel
theorem dX4_thumbs_4 : decode cX4_thumbs 4 = .ok (.iload_n 2, 1) := by decide +kernel
theorem dX4_thumbs_5 : decode cX4_thumbs 5 = .ok (.bipush 9, 2) := by decide +kernel
theorem dX4_thumbs_7 : decode cX4_thumbs 7 = .ok (.if_icmp .gt 23, 3) := by decide +kernel
theorem dX4_thumbs_10 : decode cX4_thumbs 10 = .ok (.aload_n 0, 1) := by decide +kernel
theorem dX4_thumbs_11 : decode cX4_thumbs 11 = .ok (.iload_n 2, 1) := by decide +kernel
theorem dX4_thumbs_12 : decode cX4_thumbs 12 = .ok (.invokevirtual 229, 3) := by decide +kernel
theorem dX4_thumbs_15 : decode cX4_thumbs 15 = .ok (.ifCond .eq 9, 3) := by decide +kernel
theorem dX4_thumbs_18 : decode cX4_thumbs 18 = .ok (.iload_n 1, 1) := by decide +kernel
theorem dX4_thumbs_19 : decode cX4_thumbs 19 = .ok (.iconst 1, 1) := by decide +kernel
theorem dX4_thumbs_20 : decode cX4_thumbs 20 = .ok (.iload_n 2, 1) := by decide +kernel
theorem dX4_thumbs_21 : decode cX4_thumbs 21 = .ok (.ishl, 1) := by decide +kernel
theorem dX4_thumbs_22 : decode cX4_thumbs 22 = .ok (.ior, 1) := by decide +kernel
theorem dX4_thumbs_23 : decode cX4_thumbs 23 = .ok (.istore_n 1, 1) := by decide +kernel
theorem dX4_thumbs_24 : decode cX4_thumbs 24 = .ok (.iinc 2 1, 3) := by decide +kernel
theorem dX4_thumbs_27 : decode cX4_thumbs 27 = .ok (.goto (-23), 3) := by decide +kernel
theorem dX4_thumbs_30 : decode cX4_thumbs 30 = .ok (.iload_n 1, 1) := by decide +kernel
theorem dX4_thumbs_31 : decode cX4_thumbs 31 = .ok (.ireturn, 1) := by decide +kernel
theorem dX4_fitsAllHeard_0 : decode cX4_fitsAllHeard 0 = .ok (.iconst 0, 1) := by decide +kernel
theorem dX4_fitsAllHeard_1 : decode cX4_fitsAllHeard 1 = .ok (.istore_n 2, 1) := by decide +kernel
theorem dX4_fitsAllHeard_2 : decode cX4_fitsAllHeard 2 = .ok (.iload_n 2, 1) := by decide +kernel
theorem dX4_fitsAllHeard_3 : decode cX4_fitsAllHeard 3 = .ok (.aload_n 0, 1) := by decide +kernel
theorem dX4_fitsAllHeard_4 : decode cX4_fitsAllHeard 4 = .ok (.getfield 48, 3) := by decide +kernel
theorem dX4_fitsAllHeard_7 : decode cX4_fitsAllHeard 7 = .ok (.getfield 211, 3) := by decide +kernel
theorem dX4_fitsAllHeard_10 : decode cX4_fitsAllHeard 10 = .ok (.if_icmp .ge 65, 3) := by decide +kernel
theorem dX4_fitsAllHeard_13 : decode cX4_fitsAllHeard 13 = .ok (.aload_n 0, 1) := by decide +kernel
theorem dX4_fitsAllHeard_14 : decode cX4_fitsAllHeard 14 = .ok (.getfield 19, 3) := by decide +kernel
theorem dX4_fitsAllHeard_17 : decode cX4_fitsAllHeard 17 = .ok (.aload_n 0, 1) := by decide +kernel
theorem dX4_fitsAllHeard_18 : decode cX4_fitsAllHeard 18 = .ok (.getfield 48, 3) := by decide +kernel
theorem dX4_fitsAllHeard_21 : decode cX4_fitsAllHeard 21 = .ok (.getfield 232, 3) := by decide +kernel
theorem dX4_fitsAllHeard_24 : decode cX4_fitsAllHeard 24 = .ok (.iload_n 2, 1) := by decide +kernel
theorem dX4_fitsAllHeard_25 : decode cX4_fitsAllHeard 25 = .ok (.iaload, 1) := by decide +kernel
theorem dX4_fitsAllHeard_26 : decode cX4_fitsAllHeard 26 = .ok (.aload_n 0, 1) := by decide +kernel
theorem dX4_fitsAllHeard_27 : decode cX4_fitsAllHeard 27 = .ok (.getfield 48, 3) := by decide +kernel
theorem dX4_fitsAllHeard_30 : decode cX4_fitsAllHeard 30 = .ok (.getfield 235, 3) := by decide +kernel
theorem dX4_fitsAllHeard_33 : decode cX4_fitsAllHeard 33 = .ok (.iload_n 2, 1) := by decide +kernel
theorem dX4_fitsAllHeard_34 : decode cX4_fitsAllHeard 34 = .ok (.iaload, 1) := by decide +kernel
theorem dX4_fitsAllHeard_35 : decode cX4_fitsAllHeard 35 = .ok (.invokevirtual 223, 3) := by decide +kernel
theorem dX4_fitsAllHeard_38 : decode cX4_fitsAllHeard 38 = .ok (.iload_n 1, 1) := by decide +kernel
theorem dX4_fitsAllHeard_39 : decode cX4_fitsAllHeard 39 = .ok (.iadd, 1) := by decide +kernel
theorem dX4_fitsAllHeard_40 : decode cX4_fitsAllHeard 40 = .ok (.istore_n 3, 1) := by decide +kernel
theorem dX4_fitsAllHeard_41 : decode cX4_fitsAllHeard 41 = .ok (.aload_n 0, 1) := by decide +kernel
theorem dX4_fitsAllHeard_42 : decode cX4_fitsAllHeard 42 = .ok (.iload_n 3, 1) := by decide +kernel
theorem dX4_fitsAllHeard_43 : decode cX4_fitsAllHeard 43 = .ok (.aload_n 0, 1) := by decide +kernel
theorem dX4_fitsAllHeard_44 : decode cX4_fitsAllHeard 44 = .ok (.getfield 48, 3) := by decide +kernel
theorem dX4_fitsAllHeard_47 : decode cX4_fitsAllHeard 47 = .ok (.getfield 238, 3) := by decide +kernel
theorem dX4_fitsAllHeard_50 : decode cX4_fitsAllHeard 50 = .ok (.iload_n 2, 1) := by decide +kernel
theorem dX4_fitsAllHeard_51 : decode cX4_fitsAllHeard 51 = .ok (.iaload, 1) := by decide +kernel
theorem dX4_fitsAllHeard_52 : decode cX4_fitsAllHeard 52 = .ok (.invokevirtual 178, 3) := by decide +kernel
theorem dX4_fitsAllHeard_55 : decode cX4_fitsAllHeard 55 = .ok (.aload_n 0, 1) := by decide +kernel
theorem dX4_fitsAllHeard_56 : decode cX4_fitsAllHeard 56 = .ok (.getfield 48, 3) := by decide +kernel
theorem dX4_fitsAllHeard_59 : decode cX4_fitsAllHeard 59 = .ok (.getfield 241, 3) := by decide +kernel
theorem dX4_fitsAllHeard_62 : decode cX4_fitsAllHeard 62 = .ok (.iload_n 2, 1) := by decide +kernel
theorem dX4_fitsAllHeard_63 : decode cX4_fitsAllHeard 63 = .ok (.baload, 1) := by decide +kernel
theorem dX4_fitsAllHeard_64 : decode cX4_fitsAllHeard 64 = .ok (.if_icmp .eq 5, 3) := by decide +kernel
theorem dX4_fitsAllHeard_67 : decode cX4_fitsAllHeard 67 = .ok (.iconst 0, 1) := by decide +kernel
theorem dX4_fitsAllHeard_68 : decode cX4_fitsAllHeard 68 = .ok (.ireturn, 1) := by decide +kernel
theorem dX4_fitsAllHeard_69 : decode cX4_fitsAllHeard 69 = .ok (.iinc 2 1, 3) := by decide +kernel
theorem dX4_fitsAllHeard_72 : decode cX4_fitsAllHeard 72 = .ok (.goto (-70), 3) := by decide +kernel
theorem dX4_fitsAllHeard_75 : decode cX4_fitsAllHeard 75 = .ok (.iconst 1, 1) := by decide +kernel
theorem dX4_fitsAllHeard_76 : decode cX4_fitsAllHeard 76 = .ok (.ireturn, 1) := by decide +kernel
theorem dX4_confessed_0 : decode cX4_confessed 0 = .ok (.iload_n 1, 1) := by decide +kernel
theorem dX4_confessed_1 : decode cX4_confessed 1 = .ok (.iconst 0, 1) := by decide +kernel
theorem dX4_confessed_2 : decode cX4_confessed 2 = .ok (.bipush 10, 2) := by decide +kernel
theorem dX4_confessed_4 : decode cX4_confessed 4 = .ok (.invokestatic 52, 3) := by decide +kernel
theorem dX4_confessed_7 : decode cX4_confessed 7 = .ok (.ifCond .eq 12, 3) := by decide +kernel
theorem dX4_confessed_10 : decode cX4_confessed 10 = .ok (.iload_n 2, 1) := by decide +kernel
theorem dX4_confessed_11 : decode cX4_confessed 11 = .ok (.iconst 0, 1) := by decide +kernel
theorem dX4_confessed_12 : decode cX4_confessed 12 = .ok (.iconst 1, 1) := by decide +kernel
theorem dX4_confessed_13 : decode cX4_confessed 13 = .ok (.invokestatic 52, 3) := by decide +kernel
theorem dX4_confessed_16 : decode cX4_confessed 16 = .ok (.ifCond .ne 6, 3) := by decide +kernel
theorem dX4_confessed_19 : decode cX4_confessed 19 = .ok (.bipush (-3), 2) := by decide +kernel
theorem dX4_confessed_21 : decode cX4_confessed 21 = .ok (.ireturn, 1) := by decide +kernel
theorem dX4_confessed_22 : decode cX4_confessed 22 = .ok (.aload_n 0, 1) := by decide +kernel
theorem dX4_confessed_23 : decode cX4_confessed 23 = .ok (.aload_n 0, 1) := by decide +kernel
theorem dX4_confessed_24 : decode cX4_confessed 24 = .ok (.getfield 26, 3) := by decide +kernel
theorem dX4_confessed_27 : decode cX4_confessed 27 = .ok (.getfield 123, 3) := by decide +kernel
theorem dX4_confessed_30 : decode cX4_confessed 30 = .ok (.invokevirtual 148, 3) := by decide +kernel
theorem dX4_confessed_33 : decode cX4_confessed 33 = .ok (.istore_n 3, 1) := by decide +kernel
theorem dX4_confessed_34 : decode cX4_confessed 34 = .ok (.iconst 0, 1) := by decide +kernel
theorem dX4_confessed_35 : decode cX4_confessed 35 = .ok (.istore 4, 2) := by decide +kernel
theorem dX4_confessed_37 : decode cX4_confessed 37 = .ok (.iconst 0, 1) := by decide +kernel
theorem dX4_confessed_38 : decode cX4_confessed 38 = .ok (.istore 5, 2) := by decide +kernel
theorem dX4_confessed_40 : decode cX4_confessed 40 = .ok (.iconst 0, 1) := by decide +kernel
theorem dX4_confessed_41 : decode cX4_confessed 41 = .ok (.istore 6, 2) := by decide +kernel
theorem dX4_confessed_43 : decode cX4_confessed 43 = .ok (.iload 6, 2) := by decide +kernel
theorem dX4_confessed_45 : decode cX4_confessed 45 = .ok (.iconst 1, 1) := by decide +kernel
theorem dX4_confessed_46 : decode cX4_confessed 46 = .ok (.aload_n 0, 1) := by decide +kernel
theorem dX4_confessed_47 : decode cX4_confessed 47 = .ok (.getfield 19, 3) := by decide +kernel
theorem dX4_confessed_50 : decode cX4_confessed 50 = .ok (.getfield 67, 3) := by decide +kernel
theorem dX4_confessed_53 : decode cX4_confessed 53 = .ok (.ishl, 1) := by decide +kernel
theorem dX4_confessed_54 : decode cX4_confessed 54 = .ok (.if_icmp .ge 46, 3) := by decide +kernel
theorem dX4_confessed_57 : decode cX4_confessed 57 = .ok (.aload_n 0, 1) := by decide +kernel
theorem dX4_confessed_58 : decode cX4_confessed 58 = .ok (.iload 6, 2) := by decide +kernel
theorem dX4_confessed_60 : decode cX4_confessed 60 = .ok (.iload_n 1, 1) := by decide +kernel
theorem dX4_confessed_61 : decode cX4_confessed 61 = .ok (.invokevirtual 244, 3) := by decide +kernel
theorem dX4_confessed_64 : decode cX4_confessed 64 = .ok (.istore 7, 2) := by decide +kernel
theorem dX4_confessed_66 : decode cX4_confessed 66 = .ok (.iload 5, 2) := by decide +kernel
theorem dX4_confessed_68 : decode cX4_confessed 68 = .ok (.iload 7, 2) := by decide +kernel
theorem dX4_confessed_70 : decode cX4_confessed 70 = .ok (.iadd, 1) := by decide +kernel
theorem dX4_confessed_71 : decode cX4_confessed 71 = .ok (.istore 5, 2) := by decide +kernel
theorem dX4_confessed_73 : decode cX4_confessed 73 = .ok (.aload_n 0, 1) := by decide +kernel
theorem dX4_confessed_74 : decode cX4_confessed 74 = .ok (.iload_n 3, 1) := by decide +kernel
theorem dX4_confessed_75 : decode cX4_confessed 75 = .ok (.aload_n 0, 1) := by decide +kernel
theorem dX4_confessed_76 : decode cX4_confessed 76 = .ok (.iload 6, 2) := by decide +kernel
theorem dX4_confessed_78 : decode cX4_confessed 78 = .ok (.invokevirtual 247, 3) := by decide +kernel
theorem dX4_confessed_81 : decode cX4_confessed 81 = .ok (.invokevirtual 178, 3) := by decide +kernel
theorem dX4_confessed_84 : decode cX4_confessed 84 = .ok (.ifCond .eq 10, 3) := by decide +kernel
theorem dX4_confessed_87 : decode cX4_confessed 87 = .ok (.iload 4, 2) := by decide +kernel
theorem dX4_confessed_89 : decode cX4_confessed 89 = .ok (.iload 7, 2) := by decide +kernel
theorem dX4_confessed_91 : decode cX4_confessed 91 = .ok (.iadd, 1) := by decide +kernel
theorem dX4_confessed_92 : decode cX4_confessed 92 = .ok (.istore 4, 2) := by decide +kernel
theorem dX4_confessed_94 : decode cX4_confessed 94 = .ok (.iinc 6 1, 3) := by decide +kernel
theorem dX4_confessed_97 : decode cX4_confessed 97 = .ok (.goto (-54), 3) := by decide +kernel
theorem dX4_confessed_100 : decode cX4_confessed 100 = .ok (.iload 4, 2) := by decide +kernel
theorem dX4_confessed_102 : decode cX4_confessed 102 = .ok (.iload 5, 2) := by decide +kernel
theorem dX4_confessed_104 : decode cX4_confessed 104 = .ok (.invokestatic 250, 3) := by decide +kernel
theorem dX4_confessed_107 : decode cX4_confessed 107 = .ok (.iconst 1, 1) := by decide +kernel
theorem dX4_confessed_108 : decode cX4_confessed 108 = .ok (.invokestatic 253, 3) := by decide +kernel
theorem dX4_confessed_111 : decode cX4_confessed 111 = .ok (.istore 6, 2) := by decide +kernel
theorem dX4_confessed_113 : decode cX4_confessed 113 = .ok (.iload_n 2, 1) := by decide +kernel
theorem dX4_confessed_114 : decode cX4_confessed 114 = .ok (.ifCond .ne 8, 3) := by decide +kernel
theorem dX4_confessed_117 : decode cX4_confessed 117 = .ok (.iload 4, 2) := by decide +kernel
theorem dX4_confessed_119 : decode cX4_confessed 119 = .ok (.goto 5, 3) := by decide +kernel
theorem dX4_confessed_122 : decode cX4_confessed 122 = .ok (.iload 5, 2) := by decide +kernel
theorem dX4_confessed_124 : decode cX4_confessed 124 = .ok (.iload 6, 2) := by decide +kernel
theorem dX4_confessed_126 : decode cX4_confessed 126 = .ok (.idiv, 1) := by decide +kernel
theorem dX4_confessed_127 : decode cX4_confessed 127 = .ok (.ireturn, 1) := by decide +kernel
theorem dX4_waysOfConfessing_0 : decode cX4_waysOfConfessing 0 = .ok (.iconst 1, 1) := by decide +kernel
theorem dX4_waysOfConfessing_1 : decode cX4_waysOfConfessing 1 = .ok (.istore_n 3, 1) := by decide +kernel
theorem dX4_waysOfConfessing_2 : decode cX4_waysOfConfessing 2 = .ok (.iconst 0, 1) := by decide +kernel
theorem dX4_waysOfConfessing_3 : decode cX4_waysOfConfessing 3 = .ok (.istore 4, 2) := by decide +kernel
theorem dX4_waysOfConfessing_5 : decode cX4_waysOfConfessing 5 = .ok (.iload 4, 2) := by decide +kernel
theorem dX4_waysOfConfessing_7 : decode cX4_waysOfConfessing 7 = .ok (.aload_n 0, 1) := by decide +kernel
theorem dX4_waysOfConfessing_8 : decode cX4_waysOfConfessing 8 = .ok (.getfield 19, 3) := by decide +kernel
theorem dX4_waysOfConfessing_11 : decode cX4_waysOfConfessing 11 = .ok (.getfield 67, 3) := by decide +kernel
theorem dX4_waysOfConfessing_14 : decode cX4_waysOfConfessing 14 = .ok (.if_icmp .ge 29, 3) := by decide +kernel
theorem dX4_waysOfConfessing_17 : decode cX4_waysOfConfessing 17 = .ok (.iload_n 3, 1) := by decide +kernel
theorem dX4_waysOfConfessing_18 : decode cX4_waysOfConfessing 18 = .ok (.iload 4, 2) := by decide +kernel
theorem dX4_waysOfConfessing_20 : decode cX4_waysOfConfessing 20 = .ok (.iload_n 1, 1) := by decide +kernel
theorem dX4_waysOfConfessing_21 : decode cX4_waysOfConfessing 21 = .ok (.invokestatic 126, 3) := by decide +kernel
theorem dX4_waysOfConfessing_24 : decode cX4_waysOfConfessing 24 = .ok (.ifCond .eq 7, 3) := by decide +kernel
theorem dX4_waysOfConfessing_27 : decode cX4_waysOfConfessing 27 = .ok (.iload_n 2, 1) := by decide +kernel
theorem dX4_waysOfConfessing_28 : decode cX4_waysOfConfessing 28 = .ok (.goto 7, 3) := by decide +kernel
theorem dX4_waysOfConfessing_31 : decode cX4_waysOfConfessing 31 = .ok (.bipush 10, 2) := by decide +kernel
theorem dX4_waysOfConfessing_33 : decode cX4_waysOfConfessing 33 = .ok (.iload_n 2, 1) := by decide +kernel
theorem dX4_waysOfConfessing_34 : decode cX4_waysOfConfessing 34 = .ok (.isub, 1) := by decide +kernel
theorem dX4_waysOfConfessing_35 : decode cX4_waysOfConfessing 35 = .ok (.imul, 1) := by decide +kernel
theorem dX4_waysOfConfessing_36 : decode cX4_waysOfConfessing 36 = .ok (.istore_n 3, 1) := by decide +kernel
theorem dX4_waysOfConfessing_37 : decode cX4_waysOfConfessing 37 = .ok (.iinc 4 1, 3) := by decide +kernel
theorem dX4_waysOfConfessing_40 : decode cX4_waysOfConfessing 40 = .ok (.goto (-35), 3) := by decide +kernel
theorem dX4_waysOfConfessing_43 : decode cX4_waysOfConfessing 43 = .ok (.iload_n 3, 1) := by decide +kernel
theorem dX4_waysOfConfessing_44 : decode cX4_waysOfConfessing 44 = .ok (.ireturn, 1) := by decide +kernel
theorem dX4_greatestDivisor_0 : decode cX4_greatestDivisor 0 = .ok (.iload_n 0, 1) := by decide +kernel
theorem dX4_greatestDivisor_1 : decode cX4_greatestDivisor 1 = .ok (.istore_n 2, 1) := by decide +kernel
theorem dX4_greatestDivisor_2 : decode cX4_greatestDivisor 2 = .ok (.iload_n 1, 1) := by decide +kernel
theorem dX4_greatestDivisor_3 : decode cX4_greatestDivisor 3 = .ok (.istore_n 3, 1) := by decide +kernel
theorem dX4_greatestDivisor_4 : decode cX4_greatestDivisor 4 = .ok (.iconst 0, 1) := by decide +kernel
theorem dX4_greatestDivisor_5 : decode cX4_greatestDivisor 5 = .ok (.istore 4, 2) := by decide +kernel
theorem dX4_greatestDivisor_7 : decode cX4_greatestDivisor 7 = .ok (.iload 4, 2) := by decide +kernel
theorem dX4_greatestDivisor_9 : decode cX4_greatestDivisor 9 = .ok (.bipush 64, 2) := by decide +kernel
theorem dX4_greatestDivisor_11 : decode cX4_greatestDivisor 11 = .ok (.if_icmp .ge 23, 3) := by decide +kernel
theorem dX4_greatestDivisor_14 : decode cX4_greatestDivisor 14 = .ok (.iload_n 3, 1) := by decide +kernel
theorem dX4_greatestDivisor_15 : decode cX4_greatestDivisor 15 = .ok (.ifCond .eq 19, 3) := by decide +kernel
theorem dX4_greatestDivisor_18 : decode cX4_greatestDivisor 18 = .ok (.iload_n 2, 1) := by decide +kernel
theorem dX4_greatestDivisor_19 : decode cX4_greatestDivisor 19 = .ok (.iload_n 3, 1) := by decide +kernel
theorem dX4_greatestDivisor_20 : decode cX4_greatestDivisor 20 = .ok (.irem, 1) := by decide +kernel
theorem dX4_greatestDivisor_21 : decode cX4_greatestDivisor 21 = .ok (.istore 5, 2) := by decide +kernel
theorem dX4_greatestDivisor_23 : decode cX4_greatestDivisor 23 = .ok (.iload_n 3, 1) := by decide +kernel
theorem dX4_greatestDivisor_24 : decode cX4_greatestDivisor 24 = .ok (.istore_n 2, 1) := by decide +kernel
theorem dX4_greatestDivisor_25 : decode cX4_greatestDivisor 25 = .ok (.iload 5, 2) := by decide +kernel
theorem dX4_greatestDivisor_27 : decode cX4_greatestDivisor 27 = .ok (.istore_n 3, 1) := by decide +kernel
theorem dX4_greatestDivisor_28 : decode cX4_greatestDivisor 28 = .ok (.iinc 4 1, 3) := by decide +kernel
theorem dX4_greatestDivisor_31 : decode cX4_greatestDivisor 31 = .ok (.goto (-24), 3) := by decide +kernel
theorem dX4_greatestDivisor_34 : decode cX4_greatestDivisor 34 = .ok (.iload_n 2, 1) := by decide +kernel
theorem dX4_greatestDivisor_35 : decode cX4_greatestDivisor 35 = .ok (.ireturn, 1) := by decide +kernel
theorem dX4_count_0 : decode cX4_count 0 = .ok (.iload_n 1, 1) := by decide +kernel
theorem dX4_count_1 : decode cX4_count 1 = .ok (.tableswitch 198 0 14 #[75, 83, 91, 99, 111, 116, 129, 137, 145, 153, 161, 169, 177, 185, 190], 75) := by decide +kernel
theorem dX4_count_76 : decode cX4_count 76 = .ok (.aload_n 0, 1) := by decide +kernel
theorem dX4_count_77 : decode cX4_count 77 = .ok (.getfield 19, 3) := by decide +kernel
theorem dX4_count_80 : decode cX4_count 80 = .ok (.getfield 64, 3) := by decide +kernel
theorem dX4_count_83 : decode cX4_count 83 = .ok (.ireturn, 1) := by decide +kernel
theorem dX4_count_84 : decode cX4_count 84 = .ok (.aload_n 0, 1) := by decide +kernel
theorem dX4_count_85 : decode cX4_count 85 = .ok (.getfield 19, 3) := by decide +kernel
theorem dX4_count_88 : decode cX4_count 88 = .ok (.getfield 67, 3) := by decide +kernel
theorem dX4_count_91 : decode cX4_count 91 = .ok (.ireturn, 1) := by decide +kernel
theorem dX4_count_92 : decode cX4_count 92 = .ok (.aload_n 0, 1) := by decide +kernel
theorem dX4_count_93 : decode cX4_count 93 = .ok (.getfield 26, 3) := by decide +kernel
theorem dX4_count_96 : decode cX4_count 96 = .ok (.getfield 164, 3) := by decide +kernel
theorem dX4_count_99 : decode cX4_count 99 = .ok (.ireturn, 1) := by decide +kernel
theorem dX4_count_100 : decode cX4_count 100 = .ok (.aload_n 0, 1) := by decide +kernel
theorem dX4_count_101 : decode cX4_count 101 = .ok (.aload_n 0, 1) := by decide +kernel
theorem dX4_count_102 : decode cX4_count 102 = .ok (.getfield 26, 3) := by decide +kernel
theorem dX4_count_105 : decode cX4_count 105 = .ok (.getfield 123, 3) := by decide +kernel
theorem dX4_count_108 : decode cX4_count 108 = .ok (.invokevirtual 148, 3) := by decide +kernel
theorem dX4_count_111 : decode cX4_count 111 = .ok (.ireturn, 1) := by decide +kernel
theorem dX4_count_112 : decode cX4_count 112 = .ok (.aload_n 0, 1) := by decide +kernel
theorem dX4_count_113 : decode cX4_count 113 = .ok (.invokevirtual 152, 3) := by decide +kernel
theorem dX4_count_116 : decode cX4_count 116 = .ok (.ireturn, 1) := by decide +kernel
theorem dX4_count_117 : decode cX4_count 117 = .ok (.aload_n 0, 1) := by decide +kernel
theorem dX4_count_118 : decode cX4_count 118 = .ok (.invokevirtual 139, 3) := by decide +kernel
theorem dX4_count_121 : decode cX4_count 121 = .ok (.ifCond .eq 7, 3) := by decide +kernel
theorem dX4_count_124 : decode cX4_count 124 = .ok (.iconst 1, 1) := by decide +kernel
theorem dX4_count_125 : decode cX4_count 125 = .ok (.goto 4, 3) := by decide +kernel
theorem dX4_count_128 : decode cX4_count 128 = .ok (.iconst 0, 1) := by decide +kernel
theorem dX4_count_129 : decode cX4_count 129 = .ok (.ireturn, 1) := by decide +kernel
theorem dX4_count_130 : decode cX4_count 130 = .ok (.aload_n 0, 1) := by decide +kernel
theorem dX4_count_131 : decode cX4_count 131 = .ok (.getfield 26, 3) := by decide +kernel
theorem dX4_count_134 : decode cX4_count 134 = .ok (.getfield 123, 3) := by decide +kernel
theorem dX4_count_137 : decode cX4_count 137 = .ok (.ireturn, 1) := by decide +kernel
theorem dX4_count_138 : decode cX4_count 138 = .ok (.aload_n 0, 1) := by decide +kernel
theorem dX4_count_139 : decode cX4_count 139 = .ok (.getfield 26, 3) := by decide +kernel
theorem dX4_count_142 : decode cX4_count 142 = .ok (.getfield 146, 3) := by decide +kernel
theorem dX4_count_145 : decode cX4_count 145 = .ok (.ireturn, 1) := by decide +kernel
theorem dX4_count_146 : decode cX4_count 146 = .ok (.aload_n 0, 1) := by decide +kernel
theorem dX4_count_147 : decode cX4_count 147 = .ok (.getfield 26, 3) := by decide +kernel
theorem dX4_count_150 : decode cX4_count 150 = .ok (.getfield 256, 3) := by decide +kernel
theorem dX4_count_153 : decode cX4_count 153 = .ok (.ireturn, 1) := by decide +kernel
theorem dX4_count_154 : decode cX4_count 154 = .ok (.aload_n 0, 1) := by decide +kernel
theorem dX4_count_155 : decode cX4_count 155 = .ok (.getfield 26, 3) := by decide +kernel
theorem dX4_count_158 : decode cX4_count 158 = .ok (.getfield 161, 3) := by decide +kernel
theorem dX4_count_161 : decode cX4_count 161 = .ok (.ireturn, 1) := by decide +kernel
theorem dX4_count_162 : decode cX4_count 162 = .ok (.aload_n 0, 1) := by decide +kernel
theorem dX4_count_163 : decode cX4_count 163 = .ok (.getfield 26, 3) := by decide +kernel
theorem dX4_count_166 : decode cX4_count 166 = .ok (.getfield 116, 3) := by decide +kernel
theorem dX4_count_169 : decode cX4_count 169 = .ok (.ireturn, 1) := by decide +kernel
theorem dX4_count_170 : decode cX4_count 170 = .ok (.aload_n 0, 1) := by decide +kernel
theorem dX4_count_171 : decode cX4_count 171 = .ok (.getfield 48, 3) := by decide +kernel
theorem dX4_count_174 : decode cX4_count 174 = .ok (.getfield 204, 3) := by decide +kernel
theorem dX4_count_177 : decode cX4_count 177 = .ok (.ireturn, 1) := by decide +kernel
theorem dX4_count_178 : decode cX4_count 178 = .ok (.aload_n 0, 1) := by decide +kernel
theorem dX4_count_179 : decode cX4_count 179 = .ok (.getfield 48, 3) := by decide +kernel
theorem dX4_count_182 : decode cX4_count 182 = .ok (.getfield 211, 3) := by decide +kernel
theorem dX4_count_185 : decode cX4_count 185 = .ok (.ireturn, 1) := by decide +kernel
theorem dX4_count_186 : decode cX4_count 186 = .ok (.aload_n 0, 1) := by decide +kernel
theorem dX4_count_187 : decode cX4_count 187 = .ok (.getfield 101, 3) := by decide +kernel
theorem dX4_count_190 : decode cX4_count 190 = .ok (.ireturn, 1) := by decide +kernel
theorem dX4_count_191 : decode cX4_count 191 = .ok (.aload_n 0, 1) := by decide +kernel
theorem dX4_count_192 : decode cX4_count 192 = .ok (.getfield 10, 3) := by decide +kernel
theorem dX4_count_195 : decode cX4_count 195 = .ok (.getfield 60, 3) := by decide +kernel
theorem dX4_count_198 : decode cX4_count 198 = .ok (.ireturn, 1) := by decide +kernel
theorem dX4_count_199 : decode cX4_count 199 = .ok (.bipush (-3), 2) := by decide +kernel
theorem dX4_count_201 : decode cX4_count 201 = .ok (.ireturn, 1) := by decide +kernel
theorem dX4_hangsLevelNow_0 : decode cX4_hangsLevelNow 0 = .ok (.aload_n 0, 1) := by decide +kernel
theorem dX4_hangsLevelNow_1 : decode cX4_hangsLevelNow 1 = .ok (.aload_n 0, 1) := by decide +kernel
theorem dX4_hangsLevelNow_2 : decode cX4_hangsLevelNow 2 = .ok (.aload_n 0, 1) := by decide +kernel
theorem dX4_hangsLevelNow_3 : decode cX4_hangsLevelNow 3 = .ok (.getfield 26, 3) := by decide +kernel
theorem dX4_hangsLevelNow_6 : decode cX4_hangsLevelNow 6 = .ok (.getfield 123, 3) := by decide +kernel
theorem dX4_hangsLevelNow_9 : decode cX4_hangsLevelNow 9 = .ok (.invokevirtual 148, 3) := by decide +kernel
theorem dX4_hangsLevelNow_12 : decode cX4_hangsLevelNow 12 = .ok (.aload_n 0, 1) := by decide +kernel
theorem dX4_hangsLevelNow_13 : decode cX4_hangsLevelNow 13 = .ok (.invokevirtual 152, 3) := by decide +kernel
theorem dX4_hangsLevelNow_16 : decode cX4_hangsLevelNow 16 = .ok (.invokevirtual 178, 3) := by decide +kernel
theorem dX4_hangsLevelNow_19 : decode cX4_hangsLevelNow 19 = .ok (.ireturn, 1) := by decide +kernel
theorem dX4_hangsLevel_0 : decode cX4_hangsLevel 0 = .ok (.iload_n 1, 1) := by decide +kernel
theorem dX4_hangsLevel_1 : decode cX4_hangsLevel 1 = .ok (.iload_n 2, 1) := by decide +kernel
theorem dX4_hangsLevel_2 : decode cX4_hangsLevel 2 = .ok (.isub, 1) := by decide +kernel
theorem dX4_hangsLevel_3 : decode cX4_hangsLevel 3 = .ok (.invokestatic 259, 3) := by decide +kernel
theorem dX4_hangsLevel_6 : decode cX4_hangsLevel 6 = .ok (.aload_n 0, 1) := by decide +kernel
theorem dX4_hangsLevel_7 : decode cX4_hangsLevel 7 = .ok (.getfield 19, 3) := by decide +kernel
theorem dX4_hangsLevel_10 : decode cX4_hangsLevel 10 = .ok (.getfield 262, 3) := by decide +kernel
theorem dX4_hangsLevel_13 : decode cX4_hangsLevel 13 = .ok (.if_icmp .gt 7, 3) := by decide +kernel
theorem dX4_hangsLevel_16 : decode cX4_hangsLevel 16 = .ok (.iconst 1, 1) := by decide +kernel
theorem dX4_hangsLevel_17 : decode cX4_hangsLevel 17 = .ok (.goto 4, 3) := by decide +kernel
theorem dX4_hangsLevel_20 : decode cX4_hangsLevel 20 = .ok (.iconst 0, 1) := by decide +kernel
theorem dX4_hangsLevel_21 : decode cX4_hangsLevel 21 = .ok (.ireturn, 1) := by decide +kernel
theorem dX4_sermonOf_0 : decode cX4_sermonOf 0 = .ok (.aload_n 0, 1) := by decide +kernel
theorem dX4_sermonOf_1 : decode cX4_sermonOf 1 = .ok (.getfield 19, 3) := by decide +kernel
theorem dX4_sermonOf_4 : decode cX4_sermonOf 4 = .ok (.iload_n 1, 1) := by decide +kernel
theorem dX4_sermonOf_5 : decode cX4_sermonOf 5 = .ok (.aload_n 0, 1) := by decide +kernel
theorem dX4_sermonOf_6 : decode cX4_sermonOf 6 = .ok (.getfield 26, 3) := by decide +kernel
theorem dX4_sermonOf_9 : decode cX4_sermonOf 9 = .ok (.getfield 116, 3) := by decide +kernel
theorem dX4_sermonOf_12 : decode cX4_sermonOf 12 = .ok (.invokevirtual 223, 3) := by decide +kernel
theorem dX4_sermonOf_15 : decode cX4_sermonOf 15 = .ok (.aload_n 0, 1) := by decide +kernel
theorem dX4_sermonOf_16 : decode cX4_sermonOf 16 = .ok (.getfield 19, 3) := by decide +kernel
theorem dX4_sermonOf_19 : decode cX4_sermonOf 19 = .ok (.getfield 265, 3) := by decide +kernel
theorem dX4_sermonOf_22 : decode cX4_sermonOf 22 = .ok (.iadd, 1) := by decide +kernel
theorem dX4_sermonOf_23 : decode cX4_sermonOf 23 = .ok (.ireturn, 1) := by decide +kernel
theorem dX4_leadNow_0 : decode cX4_leadNow 0 = .ok (.aload_n 0, 1) := by decide +kernel
theorem dX4_leadNow_1 : decode cX4_leadNow 1 = .ok (.iconst 0, 1) := by decide +kernel
theorem dX4_leadNow_2 : decode cX4_leadNow 2 = .ok (.invokevirtual 247, 3) := by decide +kernel
theorem dX4_leadNow_5 : decode cX4_leadNow 5 = .ok (.ireturn, 1) := by decide +kernel
theorem dX4_leadWithout_0 : decode cX4_leadWithout 0 = .ok (.aload_n 0, 1) := by decide +kernel
theorem dX4_leadWithout_1 : decode cX4_leadWithout 1 = .ok (.getfield 26, 3) := by decide +kernel
theorem dX4_leadWithout_4 : decode cX4_leadWithout 4 = .ok (.getfield 161, 3) := by decide +kernel
theorem dX4_leadWithout_7 : decode cX4_leadWithout 7 = .ok (.ineg, 1) := by decide +kernel
theorem dX4_leadWithout_8 : decode cX4_leadWithout 8 = .ok (.istore_n 2, 1) := by decide +kernel
theorem dX4_leadWithout_9 : decode cX4_leadWithout 9 = .ok (.iconst 0, 1) := by decide +kernel
theorem dX4_leadWithout_10 : decode cX4_leadWithout 10 = .ok (.istore_n 3, 1) := by decide +kernel
theorem dX4_leadWithout_11 : decode cX4_leadWithout 11 = .ok (.iload_n 3, 1) := by decide +kernel
theorem dX4_leadWithout_12 : decode cX4_leadWithout 12 = .ok (.aload_n 0, 1) := by decide +kernel
theorem dX4_leadWithout_13 : decode cX4_leadWithout 13 = .ok (.getfield 19, 3) := by decide +kernel
theorem dX4_leadWithout_16 : decode cX4_leadWithout 16 = .ok (.getfield 67, 3) := by decide +kernel
theorem dX4_leadWithout_19 : decode cX4_leadWithout 19 = .ok (.if_icmp .ge 29, 3) := by decide +kernel
theorem dX4_leadWithout_22 : decode cX4_leadWithout 22 = .ok (.iload_n 3, 1) := by decide +kernel
theorem dX4_leadWithout_23 : decode cX4_leadWithout 23 = .ok (.iload_n 1, 1) := by decide +kernel
theorem dX4_leadWithout_24 : decode cX4_leadWithout 24 = .ok (.invokestatic 126, 3) := by decide +kernel
theorem dX4_leadWithout_27 : decode cX4_leadWithout 27 = .ok (.ifCond .ne 15, 3) := by decide +kernel
theorem dX4_leadWithout_30 : decode cX4_leadWithout 30 = .ok (.iload_n 2, 1) := by decide +kernel
theorem dX4_leadWithout_31 : decode cX4_leadWithout 31 = .ok (.aload_n 0, 1) := by decide +kernel
theorem dX4_leadWithout_32 : decode cX4_leadWithout 32 = .ok (.getfield 26, 3) := by decide +kernel
theorem dX4_leadWithout_35 : decode cX4_leadWithout 35 = .ok (.getfield 133, 3) := by decide +kernel
theorem dX4_leadWithout_38 : decode cX4_leadWithout 38 = .ok (.iload_n 3, 1) := by decide +kernel
theorem dX4_leadWithout_39 : decode cX4_leadWithout 39 = .ok (.iaload, 1) := by decide +kernel
theorem dX4_leadWithout_40 : decode cX4_leadWithout 40 = .ok (.iadd, 1) := by decide +kernel
theorem dX4_leadWithout_41 : decode cX4_leadWithout 41 = .ok (.istore_n 2, 1) := by decide +kernel
theorem dX4_leadWithout_42 : decode cX4_leadWithout 42 = .ok (.iinc 3 1, 3) := by decide +kernel
theorem dX4_leadWithout_45 : decode cX4_leadWithout 45 = .ok (.goto (-34), 3) := by decide +kernel
theorem dX4_leadWithout_48 : decode cX4_leadWithout 48 = .ok (.iload_n 2, 1) := by decide +kernel
theorem dX4_leadWithout_49 : decode cX4_leadWithout 49 = .ok (.iconst 0, 1) := by decide +kernel
theorem dX4_leadWithout_50 : decode cX4_leadWithout 50 = .ok (.invokestatic 253, 3) := by decide +kernel
theorem dX4_leadWithout_53 : decode cX4_leadWithout 53 = .ok (.ireturn, 1) := by decide +kernel
theorem dX4_ouncesOf_0 : decode cX4_ouncesOf 0 = .ok (.iload_n 0, 1) := by decide +kernel
theorem dX4_ouncesOf_1 : decode cX4_ouncesOf 1 = .ok (.tableswitch 37 1 3 #[27, 31, 35], 27) := by decide +kernel
theorem dX4_ouncesOf_28 : decode cX4_ouncesOf 28 = .ok (.iload_n 1, 1) := by decide +kernel
theorem dX4_ouncesOf_29 : decode cX4_ouncesOf 29 = .ok (.iload_n 2, 1) := by decide +kernel
theorem dX4_ouncesOf_30 : decode cX4_ouncesOf 30 = .ok (.iadd, 1) := by decide +kernel
theorem dX4_ouncesOf_31 : decode cX4_ouncesOf 31 = .ok (.ireturn, 1) := by decide +kernel
theorem dX4_ouncesOf_32 : decode cX4_ouncesOf 32 = .ok (.iload_n 1, 1) := by decide +kernel
theorem dX4_ouncesOf_33 : decode cX4_ouncesOf 33 = .ok (.iconst 2, 1) := by decide +kernel
theorem dX4_ouncesOf_34 : decode cX4_ouncesOf 34 = .ok (.idiv, 1) := by decide +kernel
theorem dX4_ouncesOf_35 : decode cX4_ouncesOf 35 = .ok (.ireturn, 1) := by decide +kernel
theorem dX4_ouncesOf_36 : decode cX4_ouncesOf 36 = .ok (.iconst 0, 1) := by decide +kernel
theorem dX4_ouncesOf_37 : decode cX4_ouncesOf 37 = .ok (.ireturn, 1) := by decide +kernel
theorem dX4_ouncesOf_38 : decode cX4_ouncesOf 38 = .ok (.iload_n 1, 1) := by decide +kernel
theorem dX4_ouncesOf_39 : decode cX4_ouncesOf 39 = .ok (.ireturn, 1) := by decide +kernel
theorem dX4_isPart_0 : decode cX4_isPart 0 = .ok (.iload_n 1, 1) := by decide +kernel
theorem dX4_isPart_1 : decode cX4_isPart 1 = .ok (.ifCond .lt 18, 3) := by decide +kernel
theorem dX4_isPart_4 : decode cX4_isPart 4 = .ok (.iload_n 1, 1) := by decide +kernel
theorem dX4_isPart_5 : decode cX4_isPart 5 = .ok (.aload_n 0, 1) := by decide +kernel
theorem dX4_isPart_6 : decode cX4_isPart 6 = .ok (.getfield 19, 3) := by decide +kernel
theorem dX4_isPart_9 : decode cX4_isPart 9 = .ok (.getfield 64, 3) := by decide +kernel
theorem dX4_isPart_12 : decode cX4_isPart 12 = .ok (.if_icmp .ge 7, 3) := by decide +kernel
theorem dX4_isPart_15 : decode cX4_isPart 15 = .ok (.iconst 1, 1) := by decide +kernel
theorem dX4_isPart_16 : decode cX4_isPart 16 = .ok (.goto 4, 3) := by decide +kernel
theorem dX4_isPart_19 : decode cX4_isPart 19 = .ok (.iconst 0, 1) := by decide +kernel
theorem dX4_isPart_20 : decode cX4_isPart 20 = .ok (.ireturn, 1) := by decide +kernel
theorem dX4_isSoul_0 : decode cX4_isSoul 0 = .ok (.iload_n 1, 1) := by decide +kernel
theorem dX4_isSoul_1 : decode cX4_isSoul 1 = .ok (.ifCond .lt 18, 3) := by decide +kernel
theorem dX4_isSoul_4 : decode cX4_isSoul 4 = .ok (.iload_n 1, 1) := by decide +kernel
theorem dX4_isSoul_5 : decode cX4_isSoul 5 = .ok (.aload_n 0, 1) := by decide +kernel
theorem dX4_isSoul_6 : decode cX4_isSoul 6 = .ok (.getfield 19, 3) := by decide +kernel
theorem dX4_isSoul_9 : decode cX4_isSoul 9 = .ok (.getfield 67, 3) := by decide +kernel
theorem dX4_isSoul_12 : decode cX4_isSoul 12 = .ok (.if_icmp .ge 7, 3) := by decide +kernel
theorem dX4_isSoul_15 : decode cX4_isSoul 15 = .ok (.iconst 1, 1) := by decide +kernel
theorem dX4_isSoul_16 : decode cX4_isSoul 16 = .ok (.goto 4, 3) := by decide +kernel
theorem dX4_isSoul_19 : decode cX4_isSoul 19 = .ok (.iconst 0, 1) := by decide +kernel
theorem dX4_isSoul_20 : decode cX4_isSoul 20 = .ok (.ireturn, 1) := by decide +kernel
theorem dX4_isSet_0 : decode cX4_isSet 0 = .ok (.iload_n 1, 1) := by decide +kernel
theorem dX4_isSet_1 : decode cX4_isSet 1 = .ok (.ifCond .lt 20, 3) := by decide +kernel
theorem dX4_isSet_4 : decode cX4_isSet 4 = .ok (.iload_n 1, 1) := by decide +kernel
theorem dX4_isSet_5 : decode cX4_isSet 5 = .ok (.iconst 1, 1) := by decide +kernel
theorem dX4_isSet_6 : decode cX4_isSet 6 = .ok (.aload_n 0, 1) := by decide +kernel
theorem dX4_isSet_7 : decode cX4_isSet 7 = .ok (.getfield 19, 3) := by decide +kernel
theorem dX4_isSet_10 : decode cX4_isSet 10 = .ok (.getfield 64, 3) := by decide +kernel
theorem dX4_isSet_13 : decode cX4_isSet 13 = .ok (.ishl, 1) := by decide +kernel
theorem dX4_isSet_14 : decode cX4_isSet 14 = .ok (.if_icmp .ge 7, 3) := by decide +kernel
theorem dX4_isSet_17 : decode cX4_isSet 17 = .ok (.iconst 1, 1) := by decide +kernel
theorem dX4_isSet_18 : decode cX4_isSet 18 = .ok (.goto 4, 3) := by decide +kernel
theorem dX4_isSet_21 : decode cX4_isSet 21 = .ok (.iconst 0, 1) := by decide +kernel
theorem dX4_isSet_22 : decode cX4_isSet 22 = .ok (.ireturn, 1) := by decide +kernel
theorem dX4_isIn_0 : decode cX4_isIn 0 = .ok (.iload_n 1, 1) := by decide +kernel
theorem dX4_isIn_1 : decode cX4_isIn 1 = .ok (.iload_n 0, 1) := by decide +kernel
theorem dX4_isIn_2 : decode cX4_isIn 2 = .ok (.ishr, 1) := by decide +kernel
theorem dX4_isIn_3 : decode cX4_isIn 3 = .ok (.iconst 1, 1) := by decide +kernel
theorem dX4_isIn_4 : decode cX4_isIn 4 = .ok (.iand, 1) := by decide +kernel
theorem dX4_isIn_5 : decode cX4_isIn 5 = .ok (.iconst 1, 1) := by decide +kernel
theorem dX4_isIn_6 : decode cX4_isIn 6 = .ok (.if_icmp .ne 7, 3) := by decide +kernel
theorem dX4_isIn_9 : decode cX4_isIn 9 = .ok (.iconst 1, 1) := by decide +kernel
theorem dX4_isIn_10 : decode cX4_isIn 10 = .ok (.goto 4, 3) := by decide +kernel
theorem dX4_isIn_13 : decode cX4_isIn 13 = .ok (.iconst 0, 1) := by decide +kernel
theorem dX4_isIn_14 : decode cX4_isIn 14 = .ok (.ireturn, 1) := by decide +kernel
theorem dX4_isWithin_0 : decode cX4_isWithin 0 = .ok (.iload_n 0, 1) := by decide +kernel
theorem dX4_isWithin_1 : decode cX4_isWithin 1 = .ok (.iload_n 1, 1) := by decide +kernel
theorem dX4_isWithin_2 : decode cX4_isWithin 2 = .ok (.if_icmp .lt 12, 3) := by decide +kernel
theorem dX4_isWithin_5 : decode cX4_isWithin 5 = .ok (.iload_n 0, 1) := by decide +kernel
theorem dX4_isWithin_6 : decode cX4_isWithin 6 = .ok (.iload_n 2, 1) := by decide +kernel
theorem dX4_isWithin_7 : decode cX4_isWithin 7 = .ok (.if_icmp .gt 7, 3) := by decide +kernel
theorem dX4_isWithin_10 : decode cX4_isWithin 10 = .ok (.iconst 1, 1) := by decide +kernel
theorem dX4_isWithin_11 : decode cX4_isWithin 11 = .ok (.goto 4, 3) := by decide +kernel
theorem dX4_isWithin_14 : decode cX4_isWithin 14 = .ok (.iconst 0, 1) := by decide +kernel
theorem dX4_isWithin_15 : decode cX4_isWithin 15 = .ok (.ireturn, 1) := by decide +kernel
theorem dX5_init_0 : decode cX5_init 0 = .ok (.aload_n 0, 1) := by decide +kernel
theorem dX5_init_1 : decode cX5_init 1 = .ok (.invokespecial 1, 3) := by decide +kernel
theorem dX5_init_4 : decode cX5_init 4 = .ok (.aload_n 0, 1) := by decide +kernel
theorem dX5_init_5 : decode cX5_init 5 = .ok (.sipush 160, 3) := by decide +kernel
theorem dX5_init_8 : decode cX5_init 8 = .ok (.newarray .int, 2) := by decide +kernel
theorem dX5_init_10 : decode cX5_init 10 = .ok (.putfield 7, 3) := by decide +kernel
theorem dX5_init_13 : decode cX5_init 13 = .ok (.aload_n 0, 1) := by decide +kernel
theorem dX5_init_14 : decode cX5_init 14 = .ok (.bipush 35, 2) := by decide +kernel
theorem dX5_init_16 : decode cX5_init 16 = .ok (.newarray .int, 2) := by decide +kernel
theorem dX5_init_18 : decode cX5_init 18 = .ok (.putfield 13, 3) := by decide +kernel
theorem dX5_init_21 : decode cX5_init 21 = .ok (.aload_n 0, 1) := by decide +kernel
theorem dX5_init_22 : decode cX5_init 22 = .ok (.bipush 35, 2) := by decide +kernel
theorem dX5_init_24 : decode cX5_init 24 = .ok (.newarray .int, 2) := by decide +kernel
theorem dX5_init_26 : decode cX5_init 26 = .ok (.putfield 16, 3) := by decide +kernel
theorem dX5_init_29 : decode cX5_init 29 = .ok (.aload_n 0, 1) := by decide +kernel
theorem dX5_init_30 : decode cX5_init 30 = .ok (.bipush 12, 2) := by decide +kernel
theorem dX5_init_32 : decode cX5_init 32 = .ok (.newarray .int, 2) := by decide +kernel
theorem dX5_init_34 : decode cX5_init 34 = .ok (.putfield 19, 3) := by decide +kernel
theorem dX5_init_37 : decode cX5_init 37 = .ok (.aload_n 0, 1) := by decide +kernel
theorem dX5_init_38 : decode cX5_init 38 = .ok (.bipush 96, 2) := by decide +kernel
theorem dX5_init_40 : decode cX5_init 40 = .ok (.newarray .int, 2) := by decide +kernel
theorem dX5_init_42 : decode cX5_init 42 = .ok (.putfield 22, 3) := by decide +kernel
theorem dX5_init_45 : decode cX5_init 45 = .ok (.aload_n 0, 1) := by decide +kernel
theorem dX5_init_46 : decode cX5_init 46 = .ok (.bipush 24, 2) := by decide +kernel
theorem dX5_init_48 : decode cX5_init 48 = .ok (.newarray .int, 2) := by decide +kernel
theorem dX5_init_50 : decode cX5_init 50 = .ok (.putfield 25, 3) := by decide +kernel
theorem dX5_init_53 : decode cX5_init 53 = .ok (.aload_n 0, 1) := by decide +kernel
theorem dX5_init_54 : decode cX5_init 54 = .ok (.iconst 2, 1) := by decide +kernel
theorem dX5_init_55 : decode cX5_init 55 = .ok (.newarray .boolean, 2) := by decide +kernel
theorem dX5_init_57 : decode cX5_init 57 = .ok (.putfield 28, 3) := by decide +kernel
theorem dX5_init_60 : decode cX5_init 60 = .ok (.aload_n 0, 1) := by decide +kernel
theorem dX5_init_61 : decode cX5_init 61 = .ok (.bipush 18, 2) := by decide +kernel
theorem dX5_init_63 : decode cX5_init 63 = .ok (.newarray .int, 2) := by decide +kernel
theorem dX5_init_65 : decode cX5_init 65 = .ok (.putfield 32, 3) := by decide +kernel
theorem dX5_init_68 : decode cX5_init 68 = .ok (.aload_n 0, 1) := by decide +kernel
theorem dX5_init_69 : decode cX5_init 69 = .ok (.bipush 18, 2) := by decide +kernel
theorem dX5_init_71 : decode cX5_init 71 = .ok (.newarray .int, 2) := by decide +kernel
theorem dX5_init_73 : decode cX5_init 73 = .ok (.putfield 35, 3) := by decide +kernel
theorem dX5_init_76 : decode cX5_init 76 = .ok (.aload_n 0, 1) := by decide +kernel
theorem dX5_init_77 : decode cX5_init 77 = .ok (.invokevirtual 38, 3) := by decide +kernel
theorem dX5_init_80 : decode cX5_init 80 = .ok (.iconst 0, 1) := by decide +kernel
theorem dX5_init_81 : decode cX5_init 81 = .ok (.istore_n 1, 1) := by decide +kernel
theorem dX5_init_82 : decode cX5_init 82 = .ok (.iload_n 1, 1) := by decide +kernel
theorem dX5_init_83 : decode cX5_init 83 = .ok (.bipush 35, 2) := by decide +kernel
theorem dX5_init_85 : decode cX5_init 85 = .ok (.if_icmp .ge 21, 3) := by decide +kernel
theorem dX5_init_88 : decode cX5_init 88 = .ok (.aload_n 0, 1) := by decide +kernel
theorem dX5_init_89 : decode cX5_init 89 = .ok (.getfield 13, 3) := by decide +kernel
theorem dX5_init_92 : decode cX5_init 92 = .ok (.iload_n 1, 1) := by decide +kernel
theorem dX5_init_93 : decode cX5_init 93 = .ok (.aload_n 0, 1) := by decide +kernel
theorem dX5_init_94 : decode cX5_init 94 = .ok (.getfield 16, 3) := by decide +kernel
theorem dX5_init_97 : decode cX5_init 97 = .ok (.iload_n 1, 1) := by decide +kernel
theorem dX5_init_98 : decode cX5_init 98 = .ok (.iaload, 1) := by decide +kernel
theorem dX5_init_99 : decode cX5_init 99 = .ok (.iastore, 1) := by decide +kernel
theorem dX5_init_100 : decode cX5_init 100 = .ok (.iinc 1 1, 3) := by decide +kernel
theorem dX5_init_103 : decode cX5_init 103 = .ok (.goto (-21), 3) := by decide +kernel
theorem dX5_init_106 : decode cX5_init 106 = .ok (.aload_n 0, 1) := by decide +kernel
theorem dX5_init_107 : decode cX5_init 107 = .ok (.invokevirtual 41, 3) := by decide +kernel
theorem dX5_init_110 : decode cX5_init 110 = .ok (.return_, 1) := by decide +kernel
theorem dX5_in_0 : decode cX5_in 0 = .ok (.iload_n 0, 1) := by decide +kernel
theorem dX5_in_1 : decode cX5_in 1 = .ok (.iload_n 1, 1) := by decide +kernel
theorem dX5_in_2 : decode cX5_in 2 = .ok (.if_icmp .lt 12, 3) := by decide +kernel
theorem dX5_in_5 : decode cX5_in 5 = .ok (.iload_n 0, 1) := by decide +kernel
theorem dX5_in_6 : decode cX5_in 6 = .ok (.iload_n 2, 1) := by decide +kernel
theorem dX5_in_7 : decode cX5_in 7 = .ok (.if_icmp .gt 7, 3) := by decide +kernel
theorem dX5_in_10 : decode cX5_in 10 = .ok (.iconst 1, 1) := by decide +kernel
theorem dX5_in_11 : decode cX5_in 11 = .ok (.goto 4, 3) := by decide +kernel
theorem dX5_in_14 : decode cX5_in 14 = .ok (.iconst 0, 1) := by decide +kernel
theorem dX5_in_15 : decode cX5_in 15 = .ok (.ireturn, 1) := by decide +kernel
end
section
theorem dX5_isPart_0 : decode cX5_isPart 0 = .ok (.iload_n 1, 1) := by decide +kernel
theorem dX5_isPart_1 : decode cX5_isPart 1 = .ok (.iconst 0, 1) := by decide +kernel
theorem dX5_isPart_2 : decode cX5_isPart 2 = .ok (.aload_n 0, 1) := by decide +kernel
theorem dX5_isPart_3 : decode cX5_isPart 3 = .ok (.getfield 13, 3) := by decide +kernel
theorem dX5_isPart_6 : decode cX5_isPart 6 = .ok (.iconst 0, 1) := by decide +kernel
theorem dX5_isPart_7 : decode cX5_isPart 7 = .ok (.iaload, 1) := by decide +kernel
theorem dX5_isPart_8 : decode cX5_isPart 8 = .ok (.iconst 1, 1) := by decide +kernel
theorem dX5_isPart_9 : decode cX5_isPart 9 = .ok (.isub, 1) := by decide +kernel
theorem dX5_isPart_10 : decode cX5_isPart 10 = .ok (.invokestatic 44, 3) := by decide +kernel
theorem dX5_isPart_13 : decode cX5_isPart 13 = .ok (.ireturn, 1) := by decide +kernel
theorem dX5_isSet_0 : decode cX5_isSet 0 = .ok (.iload_n 1, 1) := by decide +kernel
theorem dX5_isSet_1 : decode cX5_isSet 1 = .ok (.iconst 0, 1) := by decide +kernel
theorem dX5_isSet_2 : decode cX5_isSet 2 = .ok (.iconst 1, 1) := by decide +kernel
theorem dX5_isSet_3 : decode cX5_isSet 3 = .ok (.aload_n 0, 1) := by decide +kernel
theorem dX5_isSet_4 : decode cX5_isSet 4 = .ok (.getfield 13, 3) := by decide +kernel
theorem dX5_isSet_7 : decode cX5_isSet 7 = .ok (.iconst 0, 1) := by decide +kernel
theorem dX5_isSet_8 : decode cX5_isSet 8 = .ok (.iaload, 1) := by decide +kernel
theorem dX5_isSet_9 : decode cX5_isSet 9 = .ok (.ishl, 1) := by decide +kernel
theorem dX5_isSet_10 : decode cX5_isSet 10 = .ok (.iconst 1, 1) := by decide +kernel
theorem dX5_isSet_11 : decode cX5_isSet 11 = .ok (.isub, 1) := by decide +kernel
theorem dX5_isSet_12 : decode cX5_isSet 12 = .ok (.invokestatic 44, 3) := by decide +kernel
theorem dX5_isSet_15 : decode cX5_isSet 15 = .ok (.ireturn, 1) := by decide +kernel
theorem dX5_write_0 : decode cX5_write 0 = .ok (.iload_n 1, 1) := by decide +kernel
theorem dX5_write_1 : decode cX5_write 1 = .ok (.iconst 0, 1) := by decide +kernel
theorem dX5_write_2 : decode cX5_write 2 = .ok (.sipush 255, 3) := by decide +kernel
theorem dX5_write_5 : decode cX5_write 5 = .ok (.invokestatic 44, 3) := by decide +kernel
theorem dX5_write_8 : decode cX5_write 8 = .ok (.ifCond .ne 6, 3) := by decide +kernel
theorem dX5_write_11 : decode cX5_write 11 = .ok (.bipush (-3), 2) := by decide +kernel
theorem dX5_write_13 : decode cX5_write 13 = .ok (.ireturn, 1) := by decide +kernel
theorem dX5_write_14 : decode cX5_write 14 = .ok (.aload_n 0, 1) := by decide +kernel
theorem dX5_write_15 : decode cX5_write 15 = .ok (.getfield 48, 3) := by decide +kernel
theorem dX5_write_18 : decode cX5_write 18 = .ok (.sipush 160, 3) := by decide +kernel
theorem dX5_write_21 : decode cX5_write 21 = .ok (.if_icmp .ne 6, 3) := by decide +kernel
theorem dX5_write_24 : decode cX5_write 24 = .ok (.bipush (-5), 2) := by decide +kernel
theorem dX5_write_26 : decode cX5_write 26 = .ok (.ireturn, 1) := by decide +kernel
theorem dX5_write_27 : decode cX5_write 27 = .ok (.aload_n 0, 1) := by decide +kernel
theorem dX5_write_28 : decode cX5_write 28 = .ok (.getfield 7, 3) := by decide +kernel
theorem dX5_write_31 : decode cX5_write 31 = .ok (.aload_n 0, 1) := by decide +kernel
theorem dX5_write_32 : decode cX5_write 32 = .ok (.getfield 48, 3) := by decide +kernel
theorem dX5_write_35 : decode cX5_write 35 = .ok (.iload_n 1, 1) := by decide +kernel
theorem dX5_write_36 : decode cX5_write 36 = .ok (.iastore, 1) := by decide +kernel
theorem dX5_write_37 : decode cX5_write 37 = .ok (.aload_n 0, 1) := by decide +kernel
theorem dX5_write_38 : decode cX5_write 38 = .ok (.dup, 1) := by decide +kernel
theorem dX5_write_39 : decode cX5_write 39 = .ok (.getfield 48, 3) := by decide +kernel
theorem dX5_write_42 : decode cX5_write 42 = .ok (.iconst 1, 1) := by decide +kernel
theorem dX5_write_43 : decode cX5_write 43 = .ok (.iadd, 1) := by decide +kernel
theorem dX5_write_44 : decode cX5_write 44 = .ok (.putfield 48, 3) := by decide +kernel
theorem dX5_write_47 : decode cX5_write 47 = .ok (.aload_n 0, 1) := by decide +kernel
theorem dX5_write_48 : decode cX5_write 48 = .ok (.getfield 48, 3) := by decide +kernel
theorem dX5_write_51 : decode cX5_write 51 = .ok (.ireturn, 1) := by decide +kernel
theorem dX5_erase_0 : decode cX5_erase 0 = .ok (.aload_n 0, 1) := by decide +kernel
theorem dX5_erase_1 : decode cX5_erase 1 = .ok (.getfield 48, 3) := by decide +kernel
theorem dX5_erase_4 : decode cX5_erase 4 = .ok (.istore_n 1, 1) := by decide +kernel
theorem dX5_erase_5 : decode cX5_erase 5 = .ok (.aload_n 0, 1) := by decide +kernel
theorem dX5_erase_6 : decode cX5_erase 6 = .ok (.iconst 0, 1) := by decide +kernel
theorem dX5_erase_7 : decode cX5_erase 7 = .ok (.putfield 48, 3) := by decide +kernel
theorem dX5_erase_10 : decode cX5_erase 10 = .ok (.iload_n 1, 1) := by decide +kernel
theorem dX5_erase_11 : decode cX5_erase 11 = .ok (.ireturn, 1) := by decide +kernel
theorem dX5_letterAt_0 : decode cX5_letterAt 0 = .ok (.iload_n 1, 1) := by decide +kernel
theorem dX5_letterAt_1 : decode cX5_letterAt 1 = .ok (.aload_n 0, 1) := by decide +kernel
theorem dX5_letterAt_2 : decode cX5_letterAt 2 = .ok (.getfield 48, 3) := by decide +kernel
theorem dX5_letterAt_5 : decode cX5_letterAt 5 = .ok (.if_icmp .ge 12, 3) := by decide +kernel
theorem dX5_letterAt_8 : decode cX5_letterAt 8 = .ok (.aload_n 0, 1) := by decide +kernel
theorem dX5_letterAt_9 : decode cX5_letterAt 9 = .ok (.getfield 7, 3) := by decide +kernel
theorem dX5_letterAt_12 : decode cX5_letterAt 12 = .ok (.iload_n 1, 1) := by decide +kernel
theorem dX5_letterAt_13 : decode cX5_letterAt 13 = .ok (.iaload, 1) := by decide +kernel
theorem dX5_letterAt_14 : decode cX5_letterAt 14 = .ok (.goto 4, 3) := by decide +kernel
theorem dX5_letterAt_17 : decode cX5_letterAt 17 = .ok (.iconst (-1), 1) := by decide +kernel
theorem dX5_letterAt_18 : decode cX5_letterAt 18 = .ok (.ireturn, 1) := by decide +kernel
theorem dX5_isLetter_0 : decode cX5_isLetter 0 = .ok (.iload_n 0, 1) := by decide +kernel
theorem dX5_isLetter_1 : decode cX5_isLetter 1 = .ok (.bipush 97, 2) := by decide +kernel
theorem dX5_isLetter_3 : decode cX5_isLetter 3 = .ok (.bipush 122, 2) := by decide +kernel
theorem dX5_isLetter_5 : decode cX5_isLetter 5 = .ok (.invokestatic 44, 3) := by decide +kernel
theorem dX5_isLetter_8 : decode cX5_isLetter 8 = .ok (.ireturn, 1) := by decide +kernel
theorem dX5_isDigit_0 : decode cX5_isDigit 0 = .ok (.iload_n 0, 1) := by decide +kernel
theorem dX5_isDigit_1 : decode cX5_isDigit 1 = .ok (.bipush 48, 2) := by decide +kernel
theorem dX5_isDigit_3 : decode cX5_isDigit 3 = .ok (.bipush 57, 2) := by decide +kernel
theorem dX5_isDigit_5 : decode cX5_isDigit 5 = .ok (.invokestatic 44, 3) := by decide +kernel
theorem dX5_isDigit_8 : decode cX5_isDigit 8 = .ok (.ireturn, 1) := by decide +kernel
theorem dX5_token_0 : decode cX5_token 0 = .ok (.aload_n 0, 1) := by decide +kernel
theorem dX5_token_1 : decode cX5_token 1 = .ok (.aload_n 0, 1) := by decide +kernel
theorem dX5_token_2 : decode cX5_token 2 = .ok (.getfield 52, 3) := by decide +kernel
theorem dX5_token_5 : decode cX5_token 5 = .ok (.invokevirtual 55, 3) := by decide +kernel
theorem dX5_token_8 : decode cX5_token 8 = .ok (.bipush 32, 2) := by decide +kernel
theorem dX5_token_10 : decode cX5_token 10 = .ok (.if_icmp .ne 16, 3) := by decide +kernel
theorem dX5_token_13 : decode cX5_token 13 = .ok (.aload_n 0, 1) := by decide +kernel
theorem dX5_token_14 : decode cX5_token 14 = .ok (.dup, 1) := by decide +kernel
theorem dX5_token_15 : decode cX5_token 15 = .ok (.getfield 52, 3) := by decide +kernel
theorem dX5_token_18 : decode cX5_token 18 = .ok (.iconst 1, 1) := by decide +kernel
theorem dX5_token_19 : decode cX5_token 19 = .ok (.iadd, 1) := by decide +kernel
theorem dX5_token_20 : decode cX5_token 20 = .ok (.putfield 52, 3) := by decide +kernel
theorem dX5_token_23 : decode cX5_token 23 = .ok (.goto (-23), 3) := by decide +kernel
theorem dX5_token_26 : decode cX5_token 26 = .ok (.aload_n 0, 1) := by decide +kernel
theorem dX5_token_27 : decode cX5_token 27 = .ok (.aload_n 0, 1) := by decide +kernel
theorem dX5_token_28 : decode cX5_token 28 = .ok (.getfield 52, 3) := by decide +kernel
theorem dX5_token_31 : decode cX5_token 31 = .ok (.putfield 59, 3) := by decide +kernel
theorem dX5_token_34 : decode cX5_token 34 = .ok (.aload_n 0, 1) := by decide +kernel
theorem dX5_token_35 : decode cX5_token 35 = .ok (.aload_n 0, 1) := by decide +kernel
theorem dX5_token_36 : decode cX5_token 36 = .ok (.getfield 52, 3) := by decide +kernel
theorem dX5_token_39 : decode cX5_token 39 = .ok (.invokevirtual 55, 3) := by decide +kernel
theorem dX5_token_42 : decode cX5_token 42 = .ok (.istore_n 1, 1) := by decide +kernel
theorem dX5_token_43 : decode cX5_token 43 = .ok (.aload_n 0, 1) := by decide +kernel
theorem dX5_token_44 : decode cX5_token 44 = .ok (.iload_n 1, 1) := by decide +kernel
theorem dX5_token_45 : decode cX5_token 45 = .ok (.ifCond .ge 7, 3) := by decide +kernel
theorem dX5_token_48 : decode cX5_token 48 = .ok (.iconst 0, 1) := by decide +kernel
theorem dX5_token_49 : decode cX5_token 49 = .ok (.goto 26, 3) := by decide +kernel
theorem dX5_token_52 : decode cX5_token 52 = .ok (.iload_n 1, 1) := by decide +kernel
theorem dX5_token_53 : decode cX5_token 53 = .ok (.invokestatic 62, 3) := by decide +kernel
theorem dX5_token_56 : decode cX5_token 56 = .ok (.ifCond .eq 7, 3) := by decide +kernel
theorem dX5_token_59 : decode cX5_token 59 = .ok (.iconst 1, 1) := by decide +kernel
theorem dX5_token_60 : decode cX5_token 60 = .ok (.goto 15, 3) := by decide +kernel
theorem dX5_token_63 : decode cX5_token 63 = .ok (.iload_n 1, 1) := by decide +kernel
theorem dX5_token_64 : decode cX5_token 64 = .ok (.invokestatic 66, 3) := by decide +kernel
theorem dX5_token_67 : decode cX5_token 67 = .ok (.ifCond .eq 7, 3) := by decide +kernel
theorem dX5_token_70 : decode cX5_token 70 = .ok (.iconst 2, 1) := by decide +kernel
theorem dX5_token_71 : decode cX5_token 71 = .ok (.goto 4, 3) := by decide +kernel
theorem dX5_token_74 : decode cX5_token 74 = .ok (.iconst 3, 1) := by decide +kernel
theorem dX5_token_75 : decode cX5_token 75 = .ok (.putfield 69, 3) := by decide +kernel
theorem dX5_token_78 : decode cX5_token 78 = .ok (.aload_n 0, 1) := by decide +kernel
theorem dX5_token_79 : decode cX5_token 79 = .ok (.iconst 0, 1) := by decide +kernel
theorem dX5_token_80 : decode cX5_token 80 = .ok (.putfield 72, 3) := by decide +kernel
theorem dX5_token_83 : decode cX5_token 83 = .ok (.aload_n 0, 1) := by decide +kernel
theorem dX5_token_84 : decode cX5_token 84 = .ok (.getfield 69, 3) := by decide +kernel
theorem dX5_token_87 : decode cX5_token 87 = .ok (.iconst 1, 1) := by decide +kernel
theorem dX5_token_88 : decode cX5_token 88 = .ok (.if_icmp .ne 30, 3) := by decide +kernel
theorem dX5_token_91 : decode cX5_token 91 = .ok (.aload_n 0, 1) := by decide +kernel
theorem dX5_token_92 : decode cX5_token 92 = .ok (.aload_n 0, 1) := by decide +kernel
theorem dX5_token_93 : decode cX5_token 93 = .ok (.getfield 52, 3) := by decide +kernel
theorem dX5_token_96 : decode cX5_token 96 = .ok (.invokevirtual 55, 3) := by decide +kernel
theorem dX5_token_99 : decode cX5_token 99 = .ok (.invokestatic 62, 3) := by decide +kernel
theorem dX5_token_102 : decode cX5_token 102 = .ok (.ifCond .eq 16, 3) := by decide +kernel
theorem dX5_token_105 : decode cX5_token 105 = .ok (.aload_n 0, 1) := by decide +kernel
theorem dX5_token_106 : decode cX5_token 106 = .ok (.dup, 1) := by decide +kernel
theorem dX5_token_107 : decode cX5_token 107 = .ok (.getfield 52, 3) := by decide +kernel
theorem dX5_token_110 : decode cX5_token 110 = .ok (.iconst 1, 1) := by decide +kernel
theorem dX5_token_111 : decode cX5_token 111 = .ok (.iadd, 1) := by decide +kernel
theorem dX5_token_112 : decode cX5_token 112 = .ok (.putfield 52, 3) := by decide +kernel
theorem dX5_token_115 : decode cX5_token 115 = .ok (.goto (-32), 3) := by decide +kernel
theorem dX5_token_118 : decode cX5_token 118 = .ok (.aload_n 0, 1) := by decide +kernel
theorem dX5_token_119 : decode cX5_token 119 = .ok (.getfield 69, 3) := by decide +kernel
theorem dX5_token_122 : decode cX5_token 122 = .ok (.iconst 2, 1) := by decide +kernel
theorem dX5_token_123 : decode cX5_token 123 = .ok (.if_icmp .ne 72, 3) := by decide +kernel
theorem dX5_token_126 : decode cX5_token 126 = .ok (.aload_n 0, 1) := by decide +kernel
theorem dX5_token_127 : decode cX5_token 127 = .ok (.aload_n 0, 1) := by decide +kernel
theorem dX5_token_128 : decode cX5_token 128 = .ok (.getfield 52, 3) := by decide +kernel
theorem dX5_token_131 : decode cX5_token 131 = .ok (.invokevirtual 55, 3) := by decide +kernel
theorem dX5_token_134 : decode cX5_token 134 = .ok (.invokestatic 66, 3) := by decide +kernel
theorem dX5_token_137 : decode cX5_token 137 = .ok (.ifCond .eq 58, 3) := by decide +kernel
theorem dX5_token_140 : decode cX5_token 140 = .ok (.aload_n 0, 1) := by decide +kernel
theorem dX5_token_141 : decode cX5_token 141 = .ok (.aload_n 0, 1) := by decide +kernel
theorem dX5_token_142 : decode cX5_token 142 = .ok (.getfield 52, 3) := by decide +kernel
theorem dX5_token_145 : decode cX5_token 145 = .ok (.aload_n 0, 1) := by decide +kernel
theorem dX5_token_146 : decode cX5_token 146 = .ok (.getfield 59, 3) := by decide +kernel
theorem dX5_token_149 : decode cX5_token 149 = .ok (.isub, 1) := by decide +kernel
theorem dX5_token_150 : decode cX5_token 150 = .ok (.iconst 2, 1) := by decide +kernel
theorem dX5_token_151 : decode cX5_token 151 = .ok (.if_icmp .ge 26, 3) := by decide +kernel
theorem dX5_token_154 : decode cX5_token 154 = .ok (.bipush 10, 2) := by decide +kernel
theorem dX5_token_156 : decode cX5_token 156 = .ok (.aload_n 0, 1) := by decide +kernel
theorem dX5_token_157 : decode cX5_token 157 = .ok (.getfield 72, 3) := by decide +kernel
theorem dX5_token_160 : decode cX5_token 160 = .ok (.imul, 1) := by decide +kernel
theorem dX5_token_161 : decode cX5_token 161 = .ok (.aload_n 0, 1) := by decide +kernel
theorem dX5_token_162 : decode cX5_token 162 = .ok (.getfield 7, 3) := by decide +kernel
theorem dX5_token_165 : decode cX5_token 165 = .ok (.aload_n 0, 1) := by decide +kernel
theorem dX5_token_166 : decode cX5_token 166 = .ok (.getfield 52, 3) := by decide +kernel
theorem dX5_token_169 : decode cX5_token 169 = .ok (.iaload, 1) := by decide +kernel
theorem dX5_token_170 : decode cX5_token 170 = .ok (.iadd, 1) := by decide +kernel
theorem dX5_token_171 : decode cX5_token 171 = .ok (.bipush 48, 2) := by decide +kernel
theorem dX5_token_173 : decode cX5_token 173 = .ok (.isub, 1) := by decide +kernel
theorem dX5_token_174 : decode cX5_token 174 = .ok (.goto 5, 3) := by decide +kernel
theorem dX5_token_177 : decode cX5_token 177 = .ok (.bipush 100, 2) := by decide +kernel
theorem dX5_token_179 : decode cX5_token 179 = .ok (.putfield 72, 3) := by decide +kernel
theorem dX5_token_182 : decode cX5_token 182 = .ok (.aload_n 0, 1) := by decide +kernel
theorem dX5_token_183 : decode cX5_token 183 = .ok (.dup, 1) := by decide +kernel
theorem dX5_token_184 : decode cX5_token 184 = .ok (.getfield 52, 3) := by decide +kernel
theorem dX5_token_187 : decode cX5_token 187 = .ok (.iconst 1, 1) := by decide +kernel
theorem dX5_token_188 : decode cX5_token 188 = .ok (.iadd, 1) := by decide +kernel
theorem dX5_token_189 : decode cX5_token 189 = .ok (.putfield 52, 3) := by decide +kernel
theorem dX5_token_192 : decode cX5_token 192 = .ok (.goto (-74), 3) := by decide +kernel
theorem dX5_token_195 : decode cX5_token 195 = .ok (.aload_n 0, 1) := by decide +kernel
theorem dX5_token_196 : decode cX5_token 196 = .ok (.dup, 1) := by decide +kernel
theorem dX5_token_197 : decode cX5_token 197 = .ok (.getfield 52, 3) := by decide +kernel
theorem dX5_token_200 : decode cX5_token 200 = .ok (.aload_n 0, 1) := by decide +kernel
theorem dX5_token_201 : decode cX5_token 201 = .ok (.getfield 69, 3) := by decide +kernel
theorem dX5_token_204 : decode cX5_token 204 = .ok (.iconst 3, 1) := by decide +kernel
theorem dX5_token_205 : decode cX5_token 205 = .ok (.if_icmp .ne 7, 3) := by decide +kernel
theorem dX5_token_208 : decode cX5_token 208 = .ok (.iconst 1, 1) := by decide +kernel
theorem dX5_token_209 : decode cX5_token 209 = .ok (.goto 4, 3) := by decide +kernel
theorem dX5_token_212 : decode cX5_token 212 = .ok (.iconst 0, 1) := by decide +kernel
theorem dX5_token_213 : decode cX5_token 213 = .ok (.iadd, 1) := by decide +kernel
theorem dX5_token_214 : decode cX5_token 214 = .ok (.putfield 52, 3) := by decide +kernel
theorem dX5_token_217 : decode cX5_token 217 = .ok (.return_, 1) := by decide +kernel
theorem dX5_isWord_0 : decode cX5_isWord 0 = .ok (.aload_n 0, 1) := by decide +kernel
theorem dX5_isWord_1 : decode cX5_isWord 1 = .ok (.getfield 69, 3) := by decide +kernel
theorem dX5_isWord_4 : decode cX5_isWord 4 = .ok (.iconst 1, 1) := by decide +kernel
theorem dX5_isWord_5 : decode cX5_isWord 5 = .ok (.if_icmp .ne 21, 3) := by decide +kernel
theorem dX5_isWord_8 : decode cX5_isWord 8 = .ok (.aload_n 0, 1) := by decide +kernel
theorem dX5_isWord_9 : decode cX5_isWord 9 = .ok (.getfield 52, 3) := by decide +kernel
theorem dX5_isWord_12 : decode cX5_isWord 12 = .ok (.aload_n 0, 1) := by decide +kernel
theorem dX5_isWord_13 : decode cX5_isWord 13 = .ok (.getfield 59, 3) := by decide +kernel
theorem dX5_isWord_16 : decode cX5_isWord 16 = .ok (.isub, 1) := by decide +kernel
theorem dX5_isWord_17 : decode cX5_isWord 17 = .ok (.bipush 6, 2) := by decide +kernel
theorem dX5_isWord_19 : decode cX5_isWord 19 = .ok (.if_icmp .ge 7, 3) := by decide +kernel
theorem dX5_isWord_22 : decode cX5_isWord 22 = .ok (.iconst 1, 1) := by decide +kernel
theorem dX5_isWord_23 : decode cX5_isWord 23 = .ok (.goto 4, 3) := by decide +kernel
theorem dX5_isWord_26 : decode cX5_isWord 26 = .ok (.iconst 0, 1) := by decide +kernel
theorem dX5_isWord_27 : decode cX5_isWord 27 = .ok (.istore 6, 2) := by decide +kernel
theorem dX5_isWord_29 : decode cX5_isWord 29 = .ok (.iconst 0, 1) := by decide +kernel
theorem dX5_isWord_30 : decode cX5_isWord 30 = .ok (.istore 7, 2) := by decide +kernel
theorem dX5_isWord_32 : decode cX5_isWord 32 = .ok (.iload 7, 2) := by decide +kernel
theorem dX5_isWord_34 : decode cX5_isWord 34 = .ok (.iconst 5, 1) := by decide +kernel
theorem dX5_isWord_35 : decode cX5_isWord 35 = .ok (.if_icmp .ge 109, 3) := by decide +kernel
theorem dX5_isWord_38 : decode cX5_isWord 38 = .ok (.iload 6, 2) := by decide +kernel
theorem dX5_isWord_40 : decode cX5_isWord 40 = .ok (.ifCond .eq 104, 3) := by decide +kernel
theorem dX5_isWord_43 : decode cX5_isWord 43 = .ok (.iload 7, 2) := by decide +kernel
theorem dX5_isWord_45 : decode cX5_isWord 45 = .ok (.ifCond .ne 7, 3) := by decide +kernel
theorem dX5_isWord_48 : decode cX5_isWord 48 = .ok (.iload_n 1, 1) := by decide +kernel
theorem dX5_isWord_49 : decode cX5_isWord 49 = .ok (.goto 36, 3) := by decide +kernel
theorem dX5_isWord_52 : decode cX5_isWord 52 = .ok (.iload 7, 2) := by decide +kernel
theorem dX5_isWord_54 : decode cX5_isWord 54 = .ok (.iconst 1, 1) := by decide +kernel
theorem dX5_isWord_55 : decode cX5_isWord 55 = .ok (.if_icmp .ne 7, 3) := by decide +kernel
theorem dX5_isWord_58 : decode cX5_isWord 58 = .ok (.iload_n 2, 1) := by decide +kernel
theorem dX5_isWord_59 : decode cX5_isWord 59 = .ok (.goto 26, 3) := by decide +kernel
theorem dX5_isWord_62 : decode cX5_isWord 62 = .ok (.iload 7, 2) := by decide +kernel
theorem dX5_isWord_64 : decode cX5_isWord 64 = .ok (.iconst 2, 1) := by decide +kernel
theorem dX5_isWord_65 : decode cX5_isWord 65 = .ok (.if_icmp .ne 7, 3) := by decide +kernel
theorem dX5_isWord_68 : decode cX5_isWord 68 = .ok (.iload_n 3, 1) := by decide +kernel
theorem dX5_isWord_69 : decode cX5_isWord 69 = .ok (.goto 16, 3) := by decide +kernel
theorem dX5_isWord_72 : decode cX5_isWord 72 = .ok (.iload 7, 2) := by decide +kernel
theorem dX5_isWord_74 : decode cX5_isWord 74 = .ok (.iconst 3, 1) := by decide +kernel
theorem dX5_isWord_75 : decode cX5_isWord 75 = .ok (.if_icmp .ne 8, 3) := by decide +kernel
theorem dX5_isWord_78 : decode cX5_isWord 78 = .ok (.iload 4, 2) := by decide +kernel
theorem dX5_isWord_80 : decode cX5_isWord 80 = .ok (.goto 5, 3) := by decide +kernel
theorem dX5_isWord_83 : decode cX5_isWord 83 = .ok (.iload 5, 2) := by decide +kernel
theorem dX5_isWord_85 : decode cX5_isWord 85 = .ok (.istore 8, 2) := by decide +kernel
theorem dX5_isWord_87 : decode cX5_isWord 87 = .ok (.aload_n 0, 1) := by decide +kernel
theorem dX5_isWord_88 : decode cX5_isWord 88 = .ok (.getfield 59, 3) := by decide +kernel
theorem dX5_isWord_91 : decode cX5_isWord 91 = .ok (.iload 7, 2) := by decide +kernel
theorem dX5_isWord_93 : decode cX5_isWord 93 = .ok (.iadd, 1) := by decide +kernel
theorem dX5_isWord_94 : decode cX5_isWord 94 = .ok (.aload_n 0, 1) := by decide +kernel
theorem dX5_isWord_95 : decode cX5_isWord 95 = .ok (.getfield 52, 3) := by decide +kernel
theorem dX5_isWord_98 : decode cX5_isWord 98 = .ok (.if_icmp .ge 28, 3) := by decide +kernel
theorem dX5_isWord_101 : decode cX5_isWord 101 = .ok (.aload_n 0, 1) := by decide +kernel
theorem dX5_isWord_102 : decode cX5_isWord 102 = .ok (.getfield 7, 3) := by decide +kernel
theorem dX5_isWord_105 : decode cX5_isWord 105 = .ok (.aload_n 0, 1) := by decide +kernel
theorem dX5_isWord_106 : decode cX5_isWord 106 = .ok (.getfield 59, 3) := by decide +kernel
theorem dX5_isWord_109 : decode cX5_isWord 109 = .ok (.iload 7, 2) := by decide +kernel
theorem dX5_isWord_111 : decode cX5_isWord 111 = .ok (.iadd, 1) := by decide +kernel
theorem dX5_isWord_112 : decode cX5_isWord 112 = .ok (.iaload, 1) := by decide +kernel
theorem dX5_isWord_113 : decode cX5_isWord 113 = .ok (.iload 8, 2) := by decide +kernel
theorem dX5_isWord_115 : decode cX5_isWord 115 = .ok (.if_icmp .ne 7, 3) := by decide +kernel
theorem dX5_isWord_118 : decode cX5_isWord 118 = .ok (.iconst 1, 1) := by decide +kernel
theorem dX5_isWord_119 : decode cX5_isWord 119 = .ok (.goto 17, 3) := by decide +kernel
theorem dX5_isWord_122 : decode cX5_isWord 122 = .ok (.iconst 0, 1) := by decide +kernel
theorem dX5_isWord_123 : decode cX5_isWord 123 = .ok (.goto 13, 3) := by decide +kernel
theorem dX5_isWord_126 : decode cX5_isWord 126 = .ok (.iload 8, 2) := by decide +kernel
theorem dX5_isWord_128 : decode cX5_isWord 128 = .ok (.ifCond .ne 7, 3) := by decide +kernel
theorem dX5_isWord_131 : decode cX5_isWord 131 = .ok (.iconst 1, 1) := by decide +kernel
theorem dX5_isWord_132 : decode cX5_isWord 132 = .ok (.goto 4, 3) := by decide +kernel
theorem dX5_isWord_135 : decode cX5_isWord 135 = .ok (.iconst 0, 1) := by decide +kernel
theorem dX5_isWord_136 : decode cX5_isWord 136 = .ok (.istore 6, 2) := by decide +kernel
theorem dX5_isWord_138 : decode cX5_isWord 138 = .ok (.iinc 7 1, 3) := by decide +kernel
theorem dX5_isWord_141 : decode cX5_isWord 141 = .ok (.goto (-109), 3) := by decide +kernel
theorem dX5_isWord_144 : decode cX5_isWord 144 = .ok (.iload 6, 2) := by decide +kernel
theorem dX5_isWord_146 : decode cX5_isWord 146 = .ok (.ireturn, 1) := by decide +kernel
theorem dX5_number_0 : decode cX5_number 0 = .ok (.aload_n 0, 1) := by decide +kernel
theorem dX5_number_1 : decode cX5_number 1 = .ok (.invokevirtual 75, 3) := by decide +kernel
theorem dX5_number_4 : decode cX5_number 4 = .ok (.aload_n 0, 1) := by decide +kernel
theorem dX5_number_5 : decode cX5_number 5 = .ok (.getfield 16, 3) := by decide +kernel
theorem dX5_number_8 : decode cX5_number 8 = .ok (.iload_n 1, 1) := by decide +kernel
theorem dX5_number_9 : decode cX5_number 9 = .ok (.aload_n 0, 1) := by decide +kernel
theorem dX5_number_10 : decode cX5_number 10 = .ok (.getfield 72, 3) := by decide +kernel
theorem dX5_number_13 : decode cX5_number 13 = .ok (.iastore, 1) := by decide +kernel
theorem dX5_number_14 : decode cX5_number 14 = .ok (.aload_n 0, 1) := by decide +kernel
theorem dX5_number_15 : decode cX5_number 15 = .ok (.getfield 69, 3) := by decide +kernel
theorem dX5_number_18 : decode cX5_number 18 = .ok (.iconst 2, 1) := by decide +kernel
theorem dX5_number_19 : decode cX5_number 19 = .ok (.if_icmp .ne 19, 3) := by decide +kernel
theorem dX5_number_22 : decode cX5_number 22 = .ok (.aload_n 0, 1) := by decide +kernel
theorem dX5_number_23 : decode cX5_number 23 = .ok (.getfield 72, 3) := by decide +kernel
theorem dX5_number_26 : decode cX5_number 26 = .ok (.iload_n 2, 1) := by decide +kernel
theorem dX5_number_27 : decode cX5_number 27 = .ok (.iload_n 3, 1) := by decide +kernel
theorem dX5_number_28 : decode cX5_number 28 = .ok (.invokestatic 44, 3) := by decide +kernel
theorem dX5_number_31 : decode cX5_number 31 = .ok (.ifCond .eq 7, 3) := by decide +kernel
theorem dX5_number_34 : decode cX5_number 34 = .ok (.iconst 1, 1) := by decide +kernel
theorem dX5_number_35 : decode cX5_number 35 = .ok (.goto 4, 3) := by decide +kernel
theorem dX5_number_38 : decode cX5_number 38 = .ok (.iconst 0, 1) := by decide +kernel
theorem dX5_number_39 : decode cX5_number 39 = .ok (.ireturn, 1) := by decide +kernel
theorem dX5_forgets_0 : decode cX5_forgets 0 = .ok (.iconst 0, 1) := by decide +kernel
theorem dX5_forgets_1 : decode cX5_forgets 1 = .ok (.istore_n 1, 1) := by decide +kernel
theorem dX5_forgets_2 : decode cX5_forgets 2 = .ok (.iload_n 1, 1) := by decide +kernel
theorem dX5_forgets_3 : decode cX5_forgets 3 = .ok (.bipush 35, 2) := by decide +kernel
theorem dX5_forgets_5 : decode cX5_forgets 5 = .ok (.if_icmp .ge 16, 3) := by decide +kernel
theorem dX5_forgets_8 : decode cX5_forgets 8 = .ok (.aload_n 0, 1) := by decide +kernel
theorem dX5_forgets_9 : decode cX5_forgets 9 = .ok (.getfield 16, 3) := by decide +kernel
theorem dX5_forgets_12 : decode cX5_forgets 12 = .ok (.iload_n 1, 1) := by decide +kernel
theorem dX5_forgets_13 : decode cX5_forgets 13 = .ok (.iconst 0, 1) := by decide +kernel
theorem dX5_forgets_14 : decode cX5_forgets 14 = .ok (.iastore, 1) := by decide +kernel
theorem dX5_forgets_15 : decode cX5_forgets 15 = .ok (.iinc 1 1, 3) := by decide +kernel
theorem dX5_forgets_18 : decode cX5_forgets 18 = .ok (.goto (-16), 3) := by decide +kernel
theorem dX5_forgets_21 : decode cX5_forgets 21 = .ok (.aload_n 0, 1) := by decide +kernel
theorem dX5_forgets_22 : decode cX5_forgets 22 = .ok (.getfield 16, 3) := by decide +kernel
theorem dX5_forgets_25 : decode cX5_forgets 25 = .ok (.iconst 3, 1) := by decide +kernel
theorem dX5_forgets_26 : decode cX5_forgets 26 = .ok (.iconst 1, 1) := by decide +kernel
theorem dX5_forgets_27 : decode cX5_forgets 27 = .ok (.iastore, 1) := by decide +kernel
theorem dX5_forgets_28 : decode cX5_forgets 28 = .ok (.return_, 1) := by decide +kernel
theorem dX5_readsPart_0 : decode cX5_readsPart 0 = .ok (.aload_n 0, 1) := by decide +kernel
theorem dX5_readsPart_1 : decode cX5_readsPart 1 = .ok (.getfield 16, 3) := by decide +kernel
theorem dX5_readsPart_4 : decode cX5_readsPart 4 = .ok (.iconst 0, 1) := by decide +kernel
theorem dX5_readsPart_5 : decode cX5_readsPart 5 = .ok (.iaload, 1) := by decide +kernel
theorem dX5_readsPart_6 : decode cX5_readsPart 6 = .ok (.istore_n 2, 1) := by decide +kernel
theorem dX5_readsPart_7 : decode cX5_readsPart 7 = .ok (.iload_n 2, 1) := by decide +kernel
theorem dX5_readsPart_8 : decode cX5_readsPart 8 = .ok (.bipush 8, 2) := by decide +kernel
theorem dX5_readsPart_10 : decode cX5_readsPart 10 = .ok (.if_icmp .eq 31, 3) := by decide +kernel
theorem dX5_readsPart_13 : decode cX5_readsPart 13 = .ok (.aload_n 0, 1) := by decide +kernel
theorem dX5_readsPart_14 : decode cX5_readsPart 14 = .ok (.bipush 13, 2) := by decide +kernel
theorem dX5_readsPart_16 : decode cX5_readsPart 16 = .ok (.iload_n 2, 1) := by decide +kernel
theorem dX5_readsPart_17 : decode cX5_readsPart 17 = .ok (.iadd, 1) := by decide +kernel
theorem dX5_readsPart_18 : decode cX5_readsPart 18 = .ok (.iconst 0, 1) := by decide +kernel
theorem dX5_readsPart_19 : decode cX5_readsPart 19 = .ok (.bipush 20, 2) := by decide +kernel
theorem dX5_readsPart_21 : decode cX5_readsPart 21 = .ok (.invokevirtual 78, 3) := by decide +kernel
theorem dX5_readsPart_24 : decode cX5_readsPart 24 = .ok (.ifCond .eq 17, 3) := by decide +kernel
theorem dX5_readsPart_27 : decode cX5_readsPart 27 = .ok (.aload_n 0, 1) := by decide +kernel
theorem dX5_readsPart_28 : decode cX5_readsPart 28 = .ok (.bipush 21, 2) := by decide +kernel
theorem dX5_readsPart_30 : decode cX5_readsPart 30 = .ok (.iload_n 2, 1) := by decide +kernel
theorem dX5_readsPart_31 : decode cX5_readsPart 31 = .ok (.iadd, 1) := by decide +kernel
theorem dX5_readsPart_32 : decode cX5_readsPart 32 = .ok (.iconst 1, 1) := by decide +kernel
theorem dX5_readsPart_33 : decode cX5_readsPart 33 = .ok (.bipush 30, 2) := by decide +kernel
theorem dX5_readsPart_35 : decode cX5_readsPart 35 = .ok (.invokevirtual 78, 3) := by decide +kernel
theorem dX5_readsPart_38 : decode cX5_readsPart 38 = .ok (.ifCond .ne 5, 3) := by decide +kernel
theorem dX5_readsPart_41 : decode cX5_readsPart 41 = .ok (.iconst 0, 1) := by decide +kernel
theorem dX5_readsPart_42 : decode cX5_readsPart 42 = .ok (.ireturn, 1) := by decide +kernel
theorem dX5_readsPart_43 : decode cX5_readsPart 43 = .ok (.aload_n 0, 1) := by decide +kernel
theorem dX5_readsPart_44 : decode cX5_readsPart 44 = .ok (.getfield 16, 3) := by decide +kernel
theorem dX5_readsPart_47 : decode cX5_readsPart 47 = .ok (.iconst 5, 1) := by decide +kernel
theorem dX5_readsPart_48 : decode cX5_readsPart 48 = .ok (.iload_n 2, 1) := by decide +kernel
theorem dX5_readsPart_49 : decode cX5_readsPart 49 = .ok (.iadd, 1) := by decide +kernel
theorem dX5_readsPart_50 : decode cX5_readsPart 50 = .ok (.iload_n 1, 1) := by decide +kernel
theorem dX5_readsPart_51 : decode cX5_readsPart 51 = .ok (.iastore, 1) := by decide +kernel
theorem dX5_readsPart_52 : decode cX5_readsPart 52 = .ok (.aload_n 0, 1) := by decide +kernel
theorem dX5_readsPart_53 : decode cX5_readsPart 53 = .ok (.getfield 16, 3) := by decide +kernel
theorem dX5_readsPart_56 : decode cX5_readsPart 56 = .ok (.iconst 0, 1) := by decide +kernel
theorem dX5_readsPart_57 : decode cX5_readsPart 57 = .ok (.dup2, 1) := by decide +kernel
theorem dX5_readsPart_58 : decode cX5_readsPart 58 = .ok (.iaload, 1) := by decide +kernel
theorem dX5_readsPart_59 : decode cX5_readsPart 59 = .ok (.iconst 1, 1) := by decide +kernel
theorem dX5_readsPart_60 : decode cX5_readsPart 60 = .ok (.iadd, 1) := by decide +kernel
theorem dX5_readsPart_61 : decode cX5_readsPart 61 = .ok (.iastore, 1) := by decide +kernel
theorem dX5_readsPart_62 : decode cX5_readsPart 62 = .ok (.iconst 1, 1) := by decide +kernel
theorem dX5_readsPart_63 : decode cX5_readsPart 63 = .ok (.ireturn, 1) := by decide +kernel
theorem dX5_readsSoul_0 : decode cX5_readsSoul 0 = .ok (.aload_n 0, 1) := by decide +kernel
theorem dX5_readsSoul_1 : decode cX5_readsSoul 1 = .ok (.getfield 16, 3) := by decide +kernel
theorem dX5_readsSoul_4 : decode cX5_readsSoul 4 = .ok (.iconst 1, 1) := by decide +kernel
theorem dX5_readsSoul_5 : decode cX5_readsSoul 5 = .ok (.iaload, 1) := by decide +kernel
theorem dX5_readsSoul_6 : decode cX5_readsSoul 6 = .ok (.istore_n 1, 1) := by decide +kernel
theorem dX5_readsSoul_7 : decode cX5_readsSoul 7 = .ok (.iload_n 1, 1) := by decide +kernel
theorem dX5_readsSoul_8 : decode cX5_readsSoul 8 = .ok (.bipush 6, 2) := by decide +kernel
theorem dX5_readsSoul_10 : decode cX5_readsSoul 10 = .ok (.if_icmp .eq 17, 3) := by decide +kernel
theorem dX5_readsSoul_13 : decode cX5_readsSoul 13 = .ok (.aload_n 0, 1) := by decide +kernel
theorem dX5_readsSoul_14 : decode cX5_readsSoul 14 = .ok (.bipush 29, 2) := by decide +kernel
theorem dX5_readsSoul_16 : decode cX5_readsSoul 16 = .ok (.iload_n 1, 1) := by decide +kernel
theorem dX5_readsSoul_17 : decode cX5_readsSoul 17 = .ok (.iadd, 1) := by decide +kernel
theorem dX5_readsSoul_18 : decode cX5_readsSoul 18 = .ok (.iconst 0, 1) := by decide +kernel
theorem dX5_readsSoul_19 : decode cX5_readsSoul 19 = .ok (.bipush 40, 2) := by decide +kernel
theorem dX5_readsSoul_21 : decode cX5_readsSoul 21 = .ok (.invokevirtual 78, 3) := by decide +kernel
theorem dX5_readsSoul_24 : decode cX5_readsSoul 24 = .ok (.ifCond .ne 5, 3) := by decide +kernel
theorem dX5_readsSoul_27 : decode cX5_readsSoul 27 = .ok (.iconst 0, 1) := by decide +kernel
theorem dX5_readsSoul_28 : decode cX5_readsSoul 28 = .ok (.ireturn, 1) := by decide +kernel
theorem dX5_readsSoul_29 : decode cX5_readsSoul 29 = .ok (.aload_n 0, 1) := by decide +kernel
theorem dX5_readsSoul_30 : decode cX5_readsSoul 30 = .ok (.getfield 16, 3) := by decide +kernel
theorem dX5_readsSoul_33 : decode cX5_readsSoul 33 = .ok (.iconst 1, 1) := by decide +kernel
theorem dX5_readsSoul_34 : decode cX5_readsSoul 34 = .ok (.dup2, 1) := by decide +kernel
theorem dX5_readsSoul_35 : decode cX5_readsSoul 35 = .ok (.iaload, 1) := by decide +kernel
theorem dX5_readsSoul_36 : decode cX5_readsSoul 36 = .ok (.iconst 1, 1) := by decide +kernel
theorem dX5_readsSoul_37 : decode cX5_readsSoul 37 = .ok (.iadd, 1) := by decide +kernel
theorem dX5_readsSoul_38 : decode cX5_readsSoul 38 = .ok (.iastore, 1) := by decide +kernel
theorem dX5_readsSoul_39 : decode cX5_readsSoul 39 = .ok (.iconst 1, 1) := by decide +kernel
theorem dX5_readsSoul_40 : decode cX5_readsSoul 40 = .ok (.ireturn, 1) := by decide +kernel
theorem dX5_readsClause_0 : decode cX5_readsClause 0 = .ok (.aload_n 0, 1) := by decide +kernel
theorem dX5_readsClause_1 : decode cX5_readsClause 1 = .ok (.bipush 107, 2) := by decide +kernel
theorem dX5_readsClause_3 : decode cX5_readsClause 3 = .ok (.bipush 105, 2) := by decide +kernel
theorem dX5_readsClause_5 : decode cX5_readsClause 5 = .ok (.bipush 114, 2) := by decide +kernel
theorem dX5_readsClause_7 : decode cX5_readsClause 7 = .ok (.bipush 107, 2) := by decide +kernel
theorem dX5_readsClause_9 : decode cX5_readsClause 9 = .ok (.iconst 0, 1) := by decide +kernel
theorem dX5_readsClause_10 : decode cX5_readsClause 10 = .ok (.invokevirtual 81, 3) := by decide +kernel
theorem dX5_readsClause_13 : decode cX5_readsClause 13 = .ok (.ifCond .eq 9, 3) := by decide +kernel
theorem dX5_readsClause_16 : decode cX5_readsClause 16 = .ok (.aload_n 0, 1) := by decide +kernel
theorem dX5_readsClause_17 : decode cX5_readsClause 17 = .ok (.invokevirtual 38, 3) := by decide +kernel
theorem dX5_readsClause_20 : decode cX5_readsClause 20 = .ok (.iconst 1, 1) := by decide +kernel
theorem dX5_readsClause_21 : decode cX5_readsClause 21 = .ok (.ireturn, 1) := by decide +kernel
theorem dX5_readsClause_22 : decode cX5_readsClause 22 = .ok (.aload_n 0, 1) := by decide +kernel
theorem dX5_readsClause_23 : decode cX5_readsClause 23 = .ok (.bipush 119, 2) := by decide +kernel
theorem dX5_readsClause_25 : decode cX5_readsClause 25 = .ok (.bipush 111, 2) := by decide +kernel
theorem dX5_readsClause_27 : decode cX5_readsClause 27 = .ok (.bipush 114, 2) := by decide +kernel
theorem dX5_readsClause_29 : decode cX5_readsClause 29 = .ok (.bipush 100, 2) := by decide +kernel
theorem dX5_readsClause_31 : decode cX5_readsClause 31 = .ok (.iconst 0, 1) := by decide +kernel
theorem dX5_readsClause_32 : decode cX5_readsClause 32 = .ok (.invokevirtual 81, 3) := by decide +kernel
theorem dX5_readsClause_35 : decode cX5_readsClause 35 = .ok (.ifCond .eq 9, 3) := by decide +kernel
theorem dX5_readsClause_38 : decode cX5_readsClause 38 = .ok (.aload_n 0, 1) := by decide +kernel
theorem dX5_readsClause_39 : decode cX5_readsClause 39 = .ok (.iconst 0, 1) := by decide +kernel
theorem dX5_readsClause_40 : decode cX5_readsClause 40 = .ok (.invokevirtual 85, 3) := by decide +kernel
theorem dX5_readsClause_43 : decode cX5_readsClause 43 = .ok (.ireturn, 1) := by decide +kernel
theorem dX5_readsClause_44 : decode cX5_readsClause 44 = .ok (.aload_n 0, 1) := by decide +kernel
theorem dX5_readsClause_45 : decode cX5_readsClause 45 = .ok (.bipush 103, 2) := by decide +kernel
theorem dX5_readsClause_47 : decode cX5_readsClause 47 = .ok (.bipush 114, 2) := by decide +kernel
theorem dX5_readsClause_49 : decode cX5_readsClause 49 = .ok (.bipush 101, 2) := by decide +kernel
theorem dX5_readsClause_51 : decode cX5_readsClause 51 = .ok (.bipush 101, 2) := by decide +kernel
theorem dX5_readsClause_53 : decode cX5_readsClause 53 = .ok (.bipush 107, 2) := by decide +kernel
theorem dX5_readsClause_55 : decode cX5_readsClause 55 = .ok (.invokevirtual 81, 3) := by decide +kernel
theorem dX5_readsClause_58 : decode cX5_readsClause 58 = .ok (.ifCond .eq 9, 3) := by decide +kernel
theorem dX5_readsClause_61 : decode cX5_readsClause 61 = .ok (.aload_n 0, 1) := by decide +kernel
theorem dX5_readsClause_62 : decode cX5_readsClause 62 = .ok (.iconst 1, 1) := by decide +kernel
theorem dX5_readsClause_63 : decode cX5_readsClause 63 = .ok (.invokevirtual 85, 3) := by decide +kernel
theorem dX5_readsClause_66 : decode cX5_readsClause 66 = .ok (.ireturn, 1) := by decide +kernel
theorem dX5_readsClause_67 : decode cX5_readsClause 67 = .ok (.aload_n 0, 1) := by decide +kernel
theorem dX5_readsClause_68 : decode cX5_readsClause 68 = .ok (.bipush 113, 2) := by decide +kernel
theorem dX5_readsClause_70 : decode cX5_readsClause 70 = .ok (.bipush 117, 2) := by decide +kernel
theorem dX5_readsClause_72 : decode cX5_readsClause 72 = .ok (.bipush 111, 2) := by decide +kernel
theorem dX5_readsClause_74 : decode cX5_readsClause 74 = .ok (.bipush 116, 2) := by decide +kernel
theorem dX5_readsClause_76 : decode cX5_readsClause 76 = .ok (.bipush 101, 2) := by decide +kernel
theorem dX5_readsClause_78 : decode cX5_readsClause 78 = .ok (.invokevirtual 81, 3) := by decide +kernel
theorem dX5_readsClause_81 : decode cX5_readsClause 81 = .ok (.ifCond .eq 9, 3) := by decide +kernel
theorem dX5_readsClause_84 : decode cX5_readsClause 84 = .ok (.aload_n 0, 1) := by decide +kernel
theorem dX5_readsClause_85 : decode cX5_readsClause 85 = .ok (.iconst 2, 1) := by decide +kernel
theorem dX5_readsClause_86 : decode cX5_readsClause 86 = .ok (.invokevirtual 85, 3) := by decide +kernel
theorem dX5_readsClause_89 : decode cX5_readsClause 89 = .ok (.ireturn, 1) := by decide +kernel
theorem dX5_readsClause_90 : decode cX5_readsClause 90 = .ok (.aload_n 0, 1) := by decide +kernel
theorem dX5_readsClause_91 : decode cX5_readsClause 91 = .ok (.bipush 112, 2) := by decide +kernel
theorem dX5_readsClause_93 : decode cX5_readsClause 93 = .ok (.bipush 115, 2) := by decide +kernel
theorem dX5_readsClause_95 : decode cX5_readsClause 95 = .ok (.bipush 97, 2) := by decide +kernel
theorem dX5_readsClause_97 : decode cX5_readsClause 97 = .ok (.bipush 108, 2) := by decide +kernel
theorem dX5_readsClause_99 : decode cX5_readsClause 99 = .ok (.bipush 109, 2) := by decide +kernel
theorem dX5_readsClause_101 : decode cX5_readsClause 101 = .ok (.invokevirtual 81, 3) := by decide +kernel
theorem dX5_readsClause_104 : decode cX5_readsClause 104 = .ok (.ifCond .eq 9, 3) := by decide +kernel
theorem dX5_readsClause_107 : decode cX5_readsClause 107 = .ok (.aload_n 0, 1) := by decide +kernel
theorem dX5_readsClause_108 : decode cX5_readsClause 108 = .ok (.iconst 3, 1) := by decide +kernel
theorem dX5_readsClause_109 : decode cX5_readsClause 109 = .ok (.invokevirtual 85, 3) := by decide +kernel
theorem dX5_readsClause_112 : decode cX5_readsClause 112 = .ok (.ireturn, 1) := by decide +kernel
theorem dX5_readsClause_113 : decode cX5_readsClause 113 = .ok (.aload_n 0, 1) := by decide +kernel
theorem dX5_readsClause_114 : decode cX5_readsClause 114 = .ok (.bipush 115, 2) := by decide +kernel
theorem dX5_readsClause_116 : decode cX5_readsClause 116 = .ok (.bipush 111, 2) := by decide +kernel
theorem dX5_readsClause_118 : decode cX5_readsClause 118 = .ok (.bipush 117, 2) := by decide +kernel
theorem dX5_readsClause_120 : decode cX5_readsClause 120 = .ok (.bipush 108, 2) := by decide +kernel
theorem dX5_readsClause_122 : decode cX5_readsClause 122 = .ok (.iconst 0, 1) := by decide +kernel
theorem dX5_readsClause_123 : decode cX5_readsClause 123 = .ok (.invokevirtual 81, 3) := by decide +kernel
theorem dX5_readsClause_126 : decode cX5_readsClause 126 = .ok (.ifCond .eq 8, 3) := by decide +kernel
theorem dX5_readsClause_129 : decode cX5_readsClause 129 = .ok (.aload_n 0, 1) := by decide +kernel
theorem dX5_readsClause_130 : decode cX5_readsClause 130 = .ok (.invokevirtual 88, 3) := by decide +kernel
theorem dX5_readsClause_133 : decode cX5_readsClause 133 = .ok (.ireturn, 1) := by decide +kernel
theorem dX5_readsClause_134 : decode cX5_readsClause 134 = .ok (.aload_n 0, 1) := by decide +kernel
theorem dX5_readsClause_135 : decode cX5_readsClause 135 = .ok (.bipush 116, 2) := by decide +kernel
theorem dX5_readsClause_137 : decode cX5_readsClause 137 = .ok (.bipush 104, 2) := by decide +kernel
theorem dX5_readsClause_139 : decode cX5_readsClause 139 = .ok (.bipush 117, 2) := by decide +kernel
theorem dX5_readsClause_141 : decode cX5_readsClause 141 = .ok (.bipush 109, 2) := by decide +kernel
theorem dX5_readsClause_143 : decode cX5_readsClause 143 = .ok (.bipush 98, 2) := by decide +kernel
theorem dX5_readsClause_145 : decode cX5_readsClause 145 = .ok (.invokevirtual 81, 3) := by decide +kernel
theorem dX5_readsClause_148 : decode cX5_readsClause 148 = .ok (.ifCond .eq 12, 3) := by decide +kernel
theorem dX5_readsClause_151 : decode cX5_readsClause 151 = .ok (.aload_n 0, 1) := by decide +kernel
theorem dX5_readsClause_152 : decode cX5_readsClause 152 = .ok (.iconst 2, 1) := by decide +kernel
theorem dX5_readsClause_153 : decode cX5_readsClause 153 = .ok (.iconst 0, 1) := by decide +kernel
theorem dX5_readsClause_154 : decode cX5_readsClause 154 = .ok (.bipush 9, 2) := by decide +kernel
theorem dX5_readsClause_156 : decode cX5_readsClause 156 = .ok (.invokevirtual 78, 3) := by decide +kernel
theorem dX5_readsClause_159 : decode cX5_readsClause 159 = .ok (.ireturn, 1) := by decide +kernel
theorem dX5_readsClause_160 : decode cX5_readsClause 160 = .ok (.aload_n 0, 1) := by decide +kernel
theorem dX5_readsClause_161 : decode cX5_readsClause 161 = .ok (.bipush 98, 2) := by decide +kernel
theorem dX5_readsClause_163 : decode cX5_readsClause 163 = .ok (.bipush 101, 2) := by decide +kernel
theorem dX5_readsClause_165 : decode cX5_readsClause 165 = .ok (.bipush 97, 2) := by decide +kernel
theorem dX5_readsClause_167 : decode cX5_readsClause 167 = .ok (.bipush 109, 2) := by decide +kernel
theorem dX5_readsClause_169 : decode cX5_readsClause 169 = .ok (.iconst 0, 1) := by decide +kernel
theorem dX5_readsClause_170 : decode cX5_readsClause 170 = .ok (.invokevirtual 81, 3) := by decide +kernel
theorem dX5_readsClause_173 : decode cX5_readsClause 173 = .ok (.ifCond .eq 11, 3) := by decide +kernel
theorem dX5_readsClause_176 : decode cX5_readsClause 176 = .ok (.aload_n 0, 1) := by decide +kernel
theorem dX5_readsClause_177 : decode cX5_readsClause 177 = .ok (.iconst 3, 1) := by decide +kernel
theorem dX5_readsClause_178 : decode cX5_readsClause 178 = .ok (.iconst 0, 1) := by decide +kernel
theorem dX5_readsClause_179 : decode cX5_readsClause 179 = .ok (.iconst 5, 1) := by decide +kernel
theorem dX5_readsClause_180 : decode cX5_readsClause 180 = .ok (.invokevirtual 78, 3) := by decide +kernel
theorem dX5_readsClause_183 : decode cX5_readsClause 183 = .ok (.ireturn, 1) := by decide +kernel
theorem dX5_readsClause_184 : decode cX5_readsClause 184 = .ok (.aload_n 0, 1) := by decide +kernel
theorem dX5_readsClause_185 : decode cX5_readsClause 185 = .ok (.bipush 119, 2) := by decide +kernel
theorem dX5_readsClause_187 : decode cX5_readsClause 187 = .ok (.bipush 101, 2) := by decide +kernel
theorem dX5_readsClause_189 : decode cX5_readsClause 189 = .ok (.bipush 116, 2) := by decide +kernel
theorem dX5_readsClause_191 : decode cX5_readsClause 191 = .ok (.iconst 0, 1) := by decide +kernel
theorem dX5_readsClause_192 : decode cX5_readsClause 192 = .ok (.iconst 0, 1) := by decide +kernel
theorem dX5_readsClause_193 : decode cX5_readsClause 193 = .ok (.invokevirtual 81, 3) := by decide +kernel
theorem dX5_readsClause_196 : decode cX5_readsClause 196 = .ok (.ifCond .eq 18, 3) := by decide +kernel
theorem dX5_readsClause_199 : decode cX5_readsClause 199 = .ok (.aload_n 0, 1) := by decide +kernel
theorem dX5_readsClause_200 : decode cX5_readsClause 200 = .ok (.iconst 4, 1) := by decide +kernel
theorem dX5_readsClause_201 : decode cX5_readsClause 201 = .ok (.iconst 0, 1) := by decide +kernel
theorem dX5_readsClause_202 : decode cX5_readsClause 202 = .ok (.bipush 9, 2) := by decide +kernel
theorem dX5_readsClause_204 : decode cX5_readsClause 204 = .ok (.invokevirtual 78, 3) := by decide +kernel
theorem dX5_readsClause_207 : decode cX5_readsClause 207 = .ok (.ifCond .eq 7, 3) := by decide +kernel
theorem dX5_readsClause_210 : decode cX5_readsClause 210 = .ok (.iconst 1, 1) := by decide +kernel
theorem dX5_readsClause_211 : decode cX5_readsClause 211 = .ok (.goto 4, 3) := by decide +kernel
theorem dX5_readsClause_214 : decode cX5_readsClause 214 = .ok (.iconst 0, 1) := by decide +kernel
theorem dX5_readsClause_215 : decode cX5_readsClause 215 = .ok (.ireturn, 1) := by decide +kernel
theorem dX5_reads_0 : decode cX5_reads 0 = .ok (.iconst 0, 1) := by decide +kernel
theorem dX5_reads_1 : decode cX5_reads 1 = .ok (.istore_n 1, 1) := by decide +kernel
theorem dX5_reads_2 : decode cX5_reads 2 = .ok (.iload_n 1, 1) := by decide +kernel
theorem dX5_reads_3 : decode cX5_reads 3 = .ok (.bipush 35, 2) := by decide +kernel
theorem dX5_reads_5 : decode cX5_reads 5 = .ok (.if_icmp .ge 21, 3) := by decide +kernel
theorem dX5_reads_8 : decode cX5_reads 8 = .ok (.aload_n 0, 1) := by decide +kernel
theorem dX5_reads_9 : decode cX5_reads 9 = .ok (.getfield 16, 3) := by decide +kernel
theorem dX5_reads_12 : decode cX5_reads 12 = .ok (.iload_n 1, 1) := by decide +kernel
theorem dX5_reads_13 : decode cX5_reads 13 = .ok (.aload_n 0, 1) := by decide +kernel
theorem dX5_reads_14 : decode cX5_reads 14 = .ok (.getfield 13, 3) := by decide +kernel
theorem dX5_reads_17 : decode cX5_reads 17 = .ok (.iload_n 1, 1) := by decide +kernel
theorem dX5_reads_18 : decode cX5_reads 18 = .ok (.iaload, 1) := by decide +kernel
theorem dX5_reads_19 : decode cX5_reads 19 = .ok (.iastore, 1) := by decide +kernel
theorem dX5_reads_20 : decode cX5_reads 20 = .ok (.iinc 1 1, 3) := by decide +kernel
theorem dX5_reads_23 : decode cX5_reads 23 = .ok (.goto (-21), 3) := by decide +kernel
theorem dX5_reads_26 : decode cX5_reads 26 = .ok (.aload_n 0, 1) := by decide +kernel
theorem dX5_reads_27 : decode cX5_reads 27 = .ok (.iconst 0, 1) := by decide +kernel
theorem dX5_reads_28 : decode cX5_reads 28 = .ok (.putfield 52, 3) := by decide +kernel
theorem dX5_reads_31 : decode cX5_reads 31 = .ok (.iconst 0, 1) := by decide +kernel
theorem dX5_reads_32 : decode cX5_reads 32 = .ok (.istore_n 1, 1) := by decide +kernel
theorem dX5_reads_33 : decode cX5_reads 33 = .ok (.iconst 1, 1) := by decide +kernel
theorem dX5_reads_34 : decode cX5_reads 34 = .ok (.istore_n 2, 1) := by decide +kernel
theorem dX5_reads_35 : decode cX5_reads 35 = .ok (.iload_n 2, 1) := by decide +kernel
theorem dX5_reads_36 : decode cX5_reads 36 = .ok (.ifCond .eq 70, 3) := by decide +kernel
theorem dX5_reads_39 : decode cX5_reads 39 = .ok (.aload_n 0, 1) := by decide +kernel
theorem dX5_reads_40 : decode cX5_reads 40 = .ok (.invokevirtual 75, 3) := by decide +kernel
theorem dX5_reads_43 : decode cX5_reads 43 = .ok (.aload_n 0, 1) := by decide +kernel
theorem dX5_reads_44 : decode cX5_reads 44 = .ok (.invokevirtual 92, 3) := by decide +kernel
theorem dX5_reads_47 : decode cX5_reads 47 = .ok (.ifCond .ne 5, 3) := by decide +kernel
theorem dX5_reads_50 : decode cX5_reads 50 = .ok (.iconst (-1), 1) := by decide +kernel
theorem dX5_reads_51 : decode cX5_reads 51 = .ok (.ireturn, 1) := by decide +kernel
theorem dX5_reads_52 : decode cX5_reads 52 = .ok (.iinc 1 1, 3) := by decide +kernel
theorem dX5_reads_55 : decode cX5_reads 55 = .ok (.aload_n 0, 1) := by decide +kernel
theorem dX5_reads_56 : decode cX5_reads 56 = .ok (.invokevirtual 75, 3) := by decide +kernel
theorem dX5_reads_59 : decode cX5_reads 59 = .ok (.aload_n 0, 1) := by decide +kernel
theorem dX5_reads_60 : decode cX5_reads 60 = .ok (.getfield 69, 3) := by decide +kernel
theorem dX5_reads_63 : decode cX5_reads 63 = .ok (.ifCond .eq 7, 3) := by decide +kernel
theorem dX5_reads_66 : decode cX5_reads 66 = .ok (.iconst 1, 1) := by decide +kernel
theorem dX5_reads_67 : decode cX5_reads 67 = .ok (.goto 4, 3) := by decide +kernel
theorem dX5_reads_70 : decode cX5_reads 70 = .ok (.iconst 0, 1) := by decide +kernel
theorem dX5_reads_71 : decode cX5_reads 71 = .ok (.istore_n 2, 1) := by decide +kernel
theorem dX5_reads_72 : decode cX5_reads 72 = .ok (.iload_n 2, 1) := by decide +kernel
theorem dX5_reads_73 : decode cX5_reads 73 = .ok (.ifCond .eq (-38), 3) := by decide +kernel
theorem dX5_reads_76 : decode cX5_reads 76 = .ok (.aload_n 0, 1) := by decide +kernel
theorem dX5_reads_77 : decode cX5_reads 77 = .ok (.getfield 69, 3) := by decide +kernel
theorem dX5_reads_80 : decode cX5_reads 80 = .ok (.iconst 3, 1) := by decide +kernel
theorem dX5_reads_81 : decode cX5_reads 81 = .ok (.if_icmp .ne 23, 3) := by decide +kernel
theorem dX5_reads_84 : decode cX5_reads 84 = .ok (.aload_n 0, 1) := by decide +kernel
theorem dX5_reads_85 : decode cX5_reads 85 = .ok (.getfield 7, 3) := by decide +kernel
theorem dX5_reads_88 : decode cX5_reads 88 = .ok (.aload_n 0, 1) := by decide +kernel
theorem dX5_reads_89 : decode cX5_reads 89 = .ok (.getfield 59, 3) := by decide +kernel
theorem dX5_reads_92 : decode cX5_reads 92 = .ok (.iaload, 1) := by decide +kernel
theorem dX5_reads_93 : decode cX5_reads 93 = .ok (.bipush 59, 2) := by decide +kernel
theorem dX5_reads_95 : decode cX5_reads 95 = .ok (.if_icmp .ne 9, 3) := by decide +kernel
theorem dX5_reads_98 : decode cX5_reads 98 = .ok (.iload_n 1, 1) := by decide +kernel
theorem dX5_reads_99 : decode cX5_reads 99 = .ok (.bipush 14, 2) := by decide +kernel
theorem dX5_reads_101 : decode cX5_reads 101 = .ok (.if_icmp .ne (-66), 3) := by decide +kernel
theorem dX5_reads_104 : decode cX5_reads 104 = .ok (.iconst (-1), 1) := by decide +kernel
theorem dX5_reads_105 : decode cX5_reads 105 = .ok (.ireturn, 1) := by decide +kernel
theorem dX5_reads_106 : decode cX5_reads 106 = .ok (.iload_n 1, 1) := by decide +kernel
theorem dX5_reads_107 : decode cX5_reads 107 = .ok (.ireturn, 1) := by decide +kernel
theorem dX5_lays_0 : decode cX5_lays 0 = .ok (.iconst 0, 1) := by decide +kernel
theorem dX5_lays_1 : decode cX5_lays 1 = .ok (.istore_n 1, 1) := by decide +kernel
theorem dX5_lays_2 : decode cX5_lays 2 = .ok (.iload_n 1, 1) := by decide +kernel
theorem dX5_lays_3 : decode cX5_lays 3 = .ok (.bipush 12, 2) := by decide +kernel
theorem dX5_lays_5 : decode cX5_lays 5 = .ok (.if_icmp .ge 34, 3) := by decide +kernel
theorem dX5_lays_8 : decode cX5_lays 8 = .ok (.aload_n 0, 1) := by decide +kernel
theorem dX5_lays_9 : decode cX5_lays 9 = .ok (.getfield 19, 3) := by decide +kernel
theorem dX5_lays_12 : decode cX5_lays 12 = .ok (.iload_n 1, 1) := by decide +kernel
theorem dX5_lays_13 : decode cX5_lays 13 = .ok (.iload_n 1, 1) := by decide +kernel
theorem dX5_lays_14 : decode cX5_lays 14 = .ok (.bipush 6, 2) := by decide +kernel
theorem dX5_lays_16 : decode cX5_lays 16 = .ok (.if_icmp .ge 15, 3) := by decide +kernel
theorem dX5_lays_19 : decode cX5_lays 19 = .ok (.aload_n 0, 1) := by decide +kernel
theorem dX5_lays_20 : decode cX5_lays 20 = .ok (.getfield 13, 3) := by decide +kernel
theorem dX5_lays_23 : decode cX5_lays 23 = .ok (.bipush 29, 2) := by decide +kernel
theorem dX5_lays_25 : decode cX5_lays 25 = .ok (.iload_n 1, 1) := by decide +kernel
theorem dX5_lays_26 : decode cX5_lays 26 = .ok (.iadd, 1) := by decide +kernel
theorem dX5_lays_27 : decode cX5_lays 27 = .ok (.iaload, 1) := by decide +kernel
theorem dX5_lays_28 : decode cX5_lays 28 = .ok (.goto 4, 3) := by decide +kernel
theorem dX5_lays_31 : decode cX5_lays 31 = .ok (.iconst 0, 1) := by decide +kernel
theorem dX5_lays_32 : decode cX5_lays 32 = .ok (.iastore, 1) := by decide +kernel
theorem dX5_lays_33 : decode cX5_lays 33 = .ok (.iinc 1 1, 3) := by decide +kernel
theorem dX5_lays_36 : decode cX5_lays 36 = .ok (.goto (-34), 3) := by decide +kernel
theorem dX5_lays_39 : decode cX5_lays 39 = .ok (.aload_n 0, 1) := by decide +kernel
theorem dX5_lays_40 : decode cX5_lays 40 = .ok (.getfield 19, 3) := by decide +kernel
theorem dX5_lays_43 : decode cX5_lays 43 = .ok (.bipush 6, 2) := by decide +kernel
theorem dX5_lays_45 : decode cX5_lays 45 = .ok (.aload_n 0, 1) := by decide +kernel
theorem dX5_lays_46 : decode cX5_lays 46 = .ok (.getfield 13, 3) := by decide +kernel
theorem dX5_lays_49 : decode cX5_lays 49 = .ok (.iconst 4, 1) := by decide +kernel
theorem dX5_lays_50 : decode cX5_lays 50 = .ok (.iaload, 1) := by decide +kernel
theorem dX5_lays_51 : decode cX5_lays 51 = .ok (.iastore, 1) := by decide +kernel
theorem dX5_lays_52 : decode cX5_lays 52 = .ok (.aload_n 0, 1) := by decide +kernel
theorem dX5_lays_53 : decode cX5_lays 53 = .ok (.iconst 0, 1) := by decide +kernel
theorem dX5_lays_54 : decode cX5_lays 54 = .ok (.putfield 95, 3) := by decide +kernel
theorem dX5_lays_57 : decode cX5_lays 57 = .ok (.aload_n 0, 1) := by decide +kernel
theorem dX5_lays_58 : decode cX5_lays 58 = .ok (.iconst 0, 1) := by decide +kernel
theorem dX5_lays_59 : decode cX5_lays 59 = .ok (.putfield 98, 3) := by decide +kernel
theorem dX5_lays_62 : decode cX5_lays 62 = .ok (.aload_n 0, 1) := by decide +kernel
theorem dX5_lays_63 : decode cX5_lays 63 = .ok (.iconst 0, 1) := by decide +kernel
theorem dX5_lays_64 : decode cX5_lays 64 = .ok (.putfield 101, 3) := by decide +kernel
theorem dX5_lays_67 : decode cX5_lays 67 = .ok (.aload_n 0, 1) := by decide +kernel
theorem dX5_lays_68 : decode cX5_lays 68 = .ok (.getfield 28, 3) := by decide +kernel
theorem dX5_lays_71 : decode cX5_lays 71 = .ok (.iconst 0, 1) := by decide +kernel
theorem dX5_lays_72 : decode cX5_lays 72 = .ok (.iconst 0, 1) := by decide +kernel
theorem dX5_lays_73 : decode cX5_lays 73 = .ok (.bastore, 1) := by decide +kernel
theorem dX5_lays_74 : decode cX5_lays 74 = .ok (.aload_n 0, 1) := by decide +kernel
theorem dX5_lays_75 : decode cX5_lays 75 = .ok (.getfield 28, 3) := by decide +kernel
theorem dX5_lays_78 : decode cX5_lays 78 = .ok (.iconst 1, 1) := by decide +kernel
theorem dX5_lays_79 : decode cX5_lays 79 = .ok (.iconst 0, 1) := by decide +kernel
theorem dX5_lays_80 : decode cX5_lays 80 = .ok (.bastore, 1) := by decide +kernel
theorem dX5_lays_81 : decode cX5_lays 81 = .ok (.return_, 1) := by decide +kernel
theorem dX5_fault_0 : decode cX5_fault 0 = .ok (.aload_n 0, 1) := by decide +kernel
theorem dX5_fault_1 : decode cX5_fault 1 = .ok (.invokevirtual 104, 3) := by decide +kernel
theorem dX5_fault_4 : decode cX5_fault 4 = .ok (.iconst (-1), 1) := by decide +kernel
theorem dX5_fault_5 : decode cX5_fault 5 = .ok (.if_icmp .ne 10, 3) := by decide +kernel
theorem dX5_fault_8 : decode cX5_fault 8 = .ok (.aload_n 0, 1) := by decide +kernel
theorem dX5_fault_9 : decode cX5_fault 9 = .ok (.getfield 59, 3) := by decide +kernel
theorem dX5_fault_12 : decode cX5_fault 12 = .ok (.goto 4, 3) := by decide +kernel
theorem dX5_fault_15 : decode cX5_fault 15 = .ok (.iconst (-1), 1) := by decide +kernel
theorem dX5_fault_16 : decode cX5_fault 16 = .ok (.ireturn, 1) := by decide +kernel
theorem dX5_kirk_0 : decode cX5_kirk 0 = .ok (.aload_n 0, 1) := by decide +kernel
theorem dX5_kirk_1 : decode cX5_kirk 1 = .ok (.invokevirtual 104, 3) := by decide +kernel
theorem dX5_kirk_4 : decode cX5_kirk 4 = .ok (.istore_n 1, 1) := by decide +kernel
theorem dX5_kirk_5 : decode cX5_kirk 5 = .ok (.iload_n 1, 1) := by decide +kernel
theorem dX5_kirk_6 : decode cX5_kirk 6 = .ok (.iconst (-1), 1) := by decide +kernel
theorem dX5_kirk_7 : decode cX5_kirk 7 = .ok (.if_icmp .ne 6, 3) := by decide +kernel
theorem dX5_kirk_10 : decode cX5_kirk 10 = .ok (.bipush (-4), 2) := by decide +kernel
theorem dX5_kirk_12 : decode cX5_kirk 12 = .ok (.ireturn, 1) := by decide +kernel
theorem dX5_kirk_13 : decode cX5_kirk 13 = .ok (.iconst 0, 1) := by decide +kernel
theorem dX5_kirk_14 : decode cX5_kirk 14 = .ok (.istore_n 2, 1) := by decide +kernel
theorem dX5_kirk_15 : decode cX5_kirk 15 = .ok (.iload_n 2, 1) := by decide +kernel
theorem dX5_kirk_16 : decode cX5_kirk 16 = .ok (.bipush 35, 2) := by decide +kernel
theorem dX5_kirk_18 : decode cX5_kirk 18 = .ok (.if_icmp .ge 21, 3) := by decide +kernel
theorem dX5_kirk_21 : decode cX5_kirk 21 = .ok (.aload_n 0, 1) := by decide +kernel
theorem dX5_kirk_22 : decode cX5_kirk 22 = .ok (.getfield 13, 3) := by decide +kernel
theorem dX5_kirk_25 : decode cX5_kirk 25 = .ok (.iload_n 2, 1) := by decide +kernel
theorem dX5_kirk_26 : decode cX5_kirk 26 = .ok (.aload_n 0, 1) := by decide +kernel
theorem dX5_kirk_27 : decode cX5_kirk 27 = .ok (.getfield 16, 3) := by decide +kernel
theorem dX5_kirk_30 : decode cX5_kirk 30 = .ok (.iload_n 2, 1) := by decide +kernel
theorem dX5_kirk_31 : decode cX5_kirk 31 = .ok (.iaload, 1) := by decide +kernel
theorem dX5_kirk_32 : decode cX5_kirk 32 = .ok (.iastore, 1) := by decide +kernel
theorem dX5_kirk_33 : decode cX5_kirk 33 = .ok (.iinc 2 1, 3) := by decide +kernel
theorem dX5_kirk_36 : decode cX5_kirk 36 = .ok (.goto (-21), 3) := by decide +kernel
theorem dX5_kirk_39 : decode cX5_kirk 39 = .ok (.aload_n 0, 1) := by decide +kernel
theorem dX5_kirk_40 : decode cX5_kirk 40 = .ok (.invokevirtual 41, 3) := by decide +kernel
theorem dX5_kirk_43 : decode cX5_kirk 43 = .ok (.aload_n 0, 1) := by decide +kernel
theorem dX5_kirk_44 : decode cX5_kirk 44 = .ok (.iconst 0, 1) := by decide +kernel
theorem dX5_kirk_45 : decode cX5_kirk 45 = .ok (.putfield 48, 3) := by decide +kernel
theorem dX5_kirk_48 : decode cX5_kirk 48 = .ok (.iload_n 1, 1) := by decide +kernel
theorem dX5_kirk_49 : decode cX5_kirk 49 = .ok (.ireturn, 1) := by decide +kernel
theorem dX5_weighs_0 : decode cX5_weighs 0 = .ok (.iload_n 0, 1) := by decide +kernel
theorem dX5_weighs_1 : decode cX5_weighs 1 = .ok (.iconst 3, 1) := by decide +kernel
theorem dX5_weighs_2 : decode cX5_weighs 2 = .ok (.if_icmp .ne 7, 3) := by decide +kernel
theorem dX5_weighs_5 : decode cX5_weighs 5 = .ok (.iconst 0, 1) := by decide +kernel
theorem dX5_weighs_6 : decode cX5_weighs 6 = .ok (.goto 26, 3) := by decide +kernel
theorem dX5_weighs_9 : decode cX5_weighs 9 = .ok (.iload_n 0, 1) := by decide +kernel
theorem dX5_weighs_10 : decode cX5_weighs 10 = .ok (.iconst 2, 1) := by decide +kernel
theorem dX5_weighs_11 : decode cX5_weighs 11 = .ok (.if_icmp .ne 9, 3) := by decide +kernel
theorem dX5_weighs_14 : decode cX5_weighs 14 = .ok (.iload_n 1, 1) := by decide +kernel
theorem dX5_weighs_15 : decode cX5_weighs 15 = .ok (.iconst 2, 1) := by decide +kernel
theorem dX5_weighs_16 : decode cX5_weighs 16 = .ok (.idiv, 1) := by decide +kernel
theorem dX5_weighs_17 : decode cX5_weighs 17 = .ok (.goto 15, 3) := by decide +kernel
theorem dX5_weighs_20 : decode cX5_weighs 20 = .ok (.iload_n 0, 1) := by decide +kernel
theorem dX5_weighs_21 : decode cX5_weighs 21 = .ok (.iconst 1, 1) := by decide +kernel
theorem dX5_weighs_22 : decode cX5_weighs 22 = .ok (.if_icmp .ne 9, 3) := by decide +kernel
theorem dX5_weighs_25 : decode cX5_weighs 25 = .ok (.iload_n 1, 1) := by decide +kernel
theorem dX5_weighs_26 : decode cX5_weighs 26 = .ok (.iload_n 2, 1) := by decide +kernel
theorem dX5_weighs_27 : decode cX5_weighs 27 = .ok (.iadd, 1) := by decide +kernel
theorem dX5_weighs_28 : decode cX5_weighs 28 = .ok (.goto 4, 3) := by decide +kernel
theorem dX5_weighs_31 : decode cX5_weighs 31 = .ok (.iload_n 1, 1) := by decide +kernel
theorem dX5_weighs_32 : decode cX5_weighs 32 = .ok (.ireturn, 1) := by decide +kernel
theorem dX5_ounces_0 : decode cX5_ounces 0 = .ok (.aload_n 0, 1) := by decide +kernel
theorem dX5_ounces_1 : decode cX5_ounces 1 = .ok (.getfield 13, 3) := by decide +kernel
theorem dX5_ounces_4 : decode cX5_ounces 4 = .ok (.iconst 5, 1) := by decide +kernel
theorem dX5_ounces_5 : decode cX5_ounces 5 = .ok (.iload_n 1, 1) := by decide +kernel
theorem dX5_ounces_6 : decode cX5_ounces 6 = .ok (.iadd, 1) := by decide +kernel
theorem dX5_ounces_7 : decode cX5_ounces 7 = .ok (.iaload, 1) := by decide +kernel
theorem dX5_ounces_8 : decode cX5_ounces 8 = .ok (.aload_n 0, 1) := by decide +kernel
theorem dX5_ounces_9 : decode cX5_ounces 9 = .ok (.getfield 13, 3) := by decide +kernel
theorem dX5_ounces_12 : decode cX5_ounces 12 = .ok (.bipush 13, 2) := by decide +kernel
theorem dX5_ounces_14 : decode cX5_ounces 14 = .ok (.iload_n 1, 1) := by decide +kernel
theorem dX5_ounces_15 : decode cX5_ounces 15 = .ok (.iadd, 1) := by decide +kernel
theorem dX5_ounces_16 : decode cX5_ounces 16 = .ok (.iaload, 1) := by decide +kernel
theorem dX5_ounces_17 : decode cX5_ounces 17 = .ok (.iload_n 2, 1) := by decide +kernel
theorem dX5_ounces_18 : decode cX5_ounces 18 = .ok (.invokestatic 108, 3) := by decide +kernel
theorem dX5_ounces_21 : decode cX5_ounces 21 = .ok (.ireturn, 1) := by decide +kernel
theorem dX5_ouncesOf_0 : decode cX5_ouncesOf 0 = .ok (.iconst 0, 1) := by decide +kernel
theorem dX5_ouncesOf_1 : decode cX5_ouncesOf 1 = .ok (.istore_n 3, 1) := by decide +kernel
theorem dX5_ouncesOf_2 : decode cX5_ouncesOf 2 = .ok (.iconst 0, 1) := by decide +kernel
theorem dX5_ouncesOf_3 : decode cX5_ouncesOf 3 = .ok (.istore 4, 2) := by decide +kernel
theorem dX5_ouncesOf_5 : decode cX5_ouncesOf 5 = .ok (.iload 4, 2) := by decide +kernel
theorem dX5_ouncesOf_7 : decode cX5_ouncesOf 7 = .ok (.aload_n 0, 1) := by decide +kernel
theorem dX5_ouncesOf_8 : decode cX5_ouncesOf 8 = .ok (.getfield 13, 3) := by decide +kernel
theorem dX5_ouncesOf_11 : decode cX5_ouncesOf 11 = .ok (.iconst 0, 1) := by decide +kernel
theorem dX5_ouncesOf_12 : decode cX5_ouncesOf 12 = .ok (.iaload, 1) := by decide +kernel
theorem dX5_ouncesOf_13 : decode cX5_ouncesOf 13 = .ok (.if_icmp .ge 33, 3) := by decide +kernel
theorem dX5_ouncesOf_16 : decode cX5_ouncesOf 16 = .ok (.iload_n 3, 1) := by decide +kernel
theorem dX5_ouncesOf_17 : decode cX5_ouncesOf 17 = .ok (.iload_n 1, 1) := by decide +kernel
theorem dX5_ouncesOf_18 : decode cX5_ouncesOf 18 = .ok (.iload 4, 2) := by decide +kernel
theorem dX5_ouncesOf_20 : decode cX5_ouncesOf 20 = .ok (.ishr, 1) := by decide +kernel
theorem dX5_ouncesOf_21 : decode cX5_ouncesOf 21 = .ok (.iconst 1, 1) := by decide +kernel
theorem dX5_ouncesOf_22 : decode cX5_ouncesOf 22 = .ok (.iand, 1) := by decide +kernel
theorem dX5_ouncesOf_23 : decode cX5_ouncesOf 23 = .ok (.iconst 1, 1) := by decide +kernel
theorem dX5_ouncesOf_24 : decode cX5_ouncesOf 24 = .ok (.if_icmp .ne 13, 3) := by decide +kernel
theorem dX5_ouncesOf_27 : decode cX5_ouncesOf 27 = .ok (.aload_n 0, 1) := by decide +kernel
theorem dX5_ouncesOf_28 : decode cX5_ouncesOf 28 = .ok (.iload 4, 2) := by decide +kernel
theorem dX5_ouncesOf_30 : decode cX5_ouncesOf 30 = .ok (.iload_n 2, 1) := by decide +kernel
theorem dX5_ouncesOf_31 : decode cX5_ouncesOf 31 = .ok (.invokevirtual 112, 3) := by decide +kernel
theorem dX5_ouncesOf_34 : decode cX5_ouncesOf 34 = .ok (.goto 4, 3) := by decide +kernel
theorem dX5_ouncesOf_37 : decode cX5_ouncesOf 37 = .ok (.iconst 0, 1) := by decide +kernel
theorem dX5_ouncesOf_38 : decode cX5_ouncesOf 38 = .ok (.iadd, 1) := by decide +kernel
theorem dX5_ouncesOf_39 : decode cX5_ouncesOf 39 = .ok (.istore_n 3, 1) := by decide +kernel
theorem dX5_ouncesOf_40 : decode cX5_ouncesOf 40 = .ok (.iinc 4 1, 3) := by decide +kernel
theorem dX5_ouncesOf_43 : decode cX5_ouncesOf 43 = .ok (.goto (-38), 3) := by decide +kernel
theorem dX5_ouncesOf_46 : decode cX5_ouncesOf 46 = .ok (.iload_n 3, 1) := by decide +kernel
theorem dX5_ouncesOf_47 : decode cX5_ouncesOf 47 = .ok (.ireturn, 1) := by decide +kernel
theorem dX5_sermon_0 : decode cX5_sermon 0 = .ok (.aload_n 0, 1) := by decide +kernel
theorem dX5_sermon_1 : decode cX5_sermon 1 = .ok (.getfield 13, 3) := by decide +kernel
theorem dX5_sermon_4 : decode cX5_sermon 4 = .ok (.iconst 2, 1) := by decide +kernel
theorem dX5_sermon_5 : decode cX5_sermon 5 = .ok (.iaload, 1) := by decide +kernel
theorem dX5_sermon_6 : decode cX5_sermon 6 = .ok (.aload_n 0, 1) := by decide +kernel
theorem dX5_sermon_7 : decode cX5_sermon 7 = .ok (.aload_n 0, 1) := by decide +kernel
theorem dX5_sermon_8 : decode cX5_sermon 8 = .ok (.getfield 19, 3) := by decide +kernel
theorem dX5_sermon_11 : decode cX5_sermon 11 = .ok (.bipush 7, 2) := by decide +kernel
theorem dX5_sermon_13 : decode cX5_sermon 13 = .ok (.iaload, 1) := by decide +kernel
theorem dX5_sermon_14 : decode cX5_sermon 14 = .ok (.aload_n 0, 1) := by decide +kernel
theorem dX5_sermon_15 : decode cX5_sermon 15 = .ok (.getfield 19, 3) := by decide +kernel
theorem dX5_sermon_18 : decode cX5_sermon 18 = .ok (.bipush 6, 2) := by decide +kernel
theorem dX5_sermon_20 : decode cX5_sermon 20 = .ok (.iaload, 1) := by decide +kernel
theorem dX5_sermon_21 : decode cX5_sermon 21 = .ok (.invokevirtual 116, 3) := by decide +kernel
theorem dX5_sermon_24 : decode cX5_sermon 24 = .ok (.iadd, 1) := by decide +kernel
theorem dX5_sermon_25 : decode cX5_sermon 25 = .ok (.ireturn, 1) := by decide +kernel
theorem dX5_lead_0 : decode cX5_lead 0 = .ok (.iconst 0, 1) := by decide +kernel
theorem dX5_lead_1 : decode cX5_lead 1 = .ok (.istore_n 1, 1) := by decide +kernel
theorem dX5_lead_2 : decode cX5_lead 2 = .ok (.iconst 0, 1) := by decide +kernel
theorem dX5_lead_3 : decode cX5_lead 3 = .ok (.istore_n 2, 1) := by decide +kernel
theorem dX5_lead_4 : decode cX5_lead 4 = .ok (.iload_n 2, 1) := by decide +kernel
theorem dX5_lead_5 : decode cX5_lead 5 = .ok (.aload_n 0, 1) := by decide +kernel
theorem dX5_lead_6 : decode cX5_lead 6 = .ok (.getfield 13, 3) := by decide +kernel
theorem dX5_lead_9 : decode cX5_lead 9 = .ok (.iconst 1, 1) := by decide +kernel
theorem dX5_lead_10 : decode cX5_lead 10 = .ok (.iaload, 1) := by decide +kernel
theorem dX5_lead_11 : decode cX5_lead 11 = .ok (.if_icmp .ge 18, 3) := by decide +kernel
theorem dX5_lead_14 : decode cX5_lead 14 = .ok (.iload_n 1, 1) := by decide +kernel
theorem dX5_lead_15 : decode cX5_lead 15 = .ok (.aload_n 0, 1) := by decide +kernel
theorem dX5_lead_16 : decode cX5_lead 16 = .ok (.getfield 19, 3) := by decide +kernel
theorem dX5_lead_19 : decode cX5_lead 19 = .ok (.iload_n 2, 1) := by decide +kernel
theorem dX5_lead_20 : decode cX5_lead 20 = .ok (.iaload, 1) := by decide +kernel
theorem dX5_lead_21 : decode cX5_lead 21 = .ok (.iadd, 1) := by decide +kernel
theorem dX5_lead_22 : decode cX5_lead 22 = .ok (.istore_n 1, 1) := by decide +kernel
theorem dX5_lead_23 : decode cX5_lead 23 = .ok (.iinc 2 1, 3) := by decide +kernel
theorem dX5_lead_26 : decode cX5_lead 26 = .ok (.goto (-22), 3) := by decide +kernel
theorem dX5_lead_29 : decode cX5_lead 29 = .ok (.iload_n 1, 1) := by decide +kernel
theorem dX5_lead_30 : decode cX5_lead 30 = .ok (.aload_n 0, 1) := by decide +kernel
theorem dX5_lead_31 : decode cX5_lead 31 = .ok (.getfield 19, 3) := by decide +kernel
theorem dX5_lead_34 : decode cX5_lead 34 = .ok (.bipush 8, 2) := by decide +kernel
theorem dX5_lead_36 : decode cX5_lead 36 = .ok (.iaload, 1) := by decide +kernel
theorem dX5_lead_37 : decode cX5_lead 37 = .ok (.if_icmp .le 15, 3) := by decide +kernel
theorem dX5_lead_40 : decode cX5_lead 40 = .ok (.iload_n 1, 1) := by decide +kernel
theorem dX5_lead_41 : decode cX5_lead 41 = .ok (.aload_n 0, 1) := by decide +kernel
theorem dX5_lead_42 : decode cX5_lead 42 = .ok (.getfield 19, 3) := by decide +kernel
theorem dX5_lead_45 : decode cX5_lead 45 = .ok (.bipush 8, 2) := by decide +kernel
theorem dX5_lead_47 : decode cX5_lead 47 = .ok (.iaload, 1) := by decide +kernel
theorem dX5_lead_48 : decode cX5_lead 48 = .ok (.isub, 1) := by decide +kernel
theorem dX5_lead_49 : decode cX5_lead 49 = .ok (.goto 4, 3) := by decide +kernel
theorem dX5_lead_52 : decode cX5_lead 52 = .ok (.iconst 0, 1) := by decide +kernel
theorem dX5_lead_53 : decode cX5_lead 53 = .ok (.ireturn, 1) := by decide +kernel
theorem dX5_hangs_0 : decode cX5_hangs 0 = .ok (.iload_n 1, 1) := by decide +kernel
theorem dX5_hangs_1 : decode cX5_hangs 1 = .ok (.iload_n 2, 1) := by decide +kernel
theorem dX5_hangs_2 : decode cX5_hangs 2 = .ok (.isub, 1) := by decide +kernel
theorem dX5_hangs_3 : decode cX5_hangs 3 = .ok (.aload_n 0, 1) := by decide +kernel
theorem dX5_hangs_4 : decode cX5_hangs 4 = .ok (.getfield 13, 3) := by decide +kernel
theorem dX5_hangs_7 : decode cX5_hangs 7 = .ok (.iconst 3, 1) := by decide +kernel
theorem dX5_hangs_8 : decode cX5_hangs 8 = .ok (.iaload, 1) := by decide +kernel
theorem dX5_hangs_9 : decode cX5_hangs 9 = .ok (.ineg, 1) := by decide +kernel
theorem dX5_hangs_10 : decode cX5_hangs 10 = .ok (.aload_n 0, 1) := by decide +kernel
theorem dX5_hangs_11 : decode cX5_hangs 11 = .ok (.getfield 13, 3) := by decide +kernel
theorem dX5_hangs_14 : decode cX5_hangs 14 = .ok (.iconst 3, 1) := by decide +kernel
theorem dX5_hangs_15 : decode cX5_hangs 15 = .ok (.iaload, 1) := by decide +kernel
theorem dX5_hangs_16 : decode cX5_hangs 16 = .ok (.invokestatic 44, 3) := by decide +kernel
theorem dX5_hangs_19 : decode cX5_hangs 19 = .ok (.ireturn, 1) := by decide +kernel
theorem dX5_isLevel_0 : decode cX5_isLevel 0 = .ok (.aload_n 0, 1) := by decide +kernel
theorem dX5_isLevel_1 : decode cX5_isLevel 1 = .ok (.aload_n 0, 1) := by decide +kernel
theorem dX5_isLevel_2 : decode cX5_isLevel 2 = .ok (.invokevirtual 119, 3) := by decide +kernel
theorem dX5_isLevel_5 : decode cX5_isLevel 5 = .ok (.aload_n 0, 1) := by decide +kernel
theorem dX5_isLevel_6 : decode cX5_isLevel 6 = .ok (.invokevirtual 122, 3) := by decide +kernel
theorem dX5_isLevel_9 : decode cX5_isLevel 9 = .ok (.invokevirtual 125, 3) := by decide +kernel
theorem dX5_isLevel_12 : decode cX5_isLevel 12 = .ok (.ireturn, 1) := by decide +kernel
theorem dX5_part_0 : decode cX5_part 0 = .ok (.aload_n 0, 1) := by decide +kernel
theorem dX5_part_1 : decode cX5_part 1 = .ok (.iload_n 1, 1) := by decide +kernel
theorem dX5_part_2 : decode cX5_part 2 = .ok (.invokevirtual 129, 3) := by decide +kernel
theorem dX5_part_5 : decode cX5_part 5 = .ok (.ifCond .ne 6, 3) := by decide +kernel
theorem dX5_part_8 : decode cX5_part 8 = .ok (.bipush (-2), 2) := by decide +kernel
theorem dX5_part_10 : decode cX5_part 10 = .ok (.ireturn, 1) := by decide +kernel
theorem dX5_part_11 : decode cX5_part 11 = .ok (.iload_n 2, 1) := by decide +kernel
theorem dX5_part_12 : decode cX5_part 12 = .ok (.tableswitch 90 0 4 #[36, 45, 55, 65, 78], 36) := by decide +kernel
theorem dX5_part_48 : decode cX5_part 48 = .ok (.aload_n 0, 1) := by decide +kernel
theorem dX5_part_49 : decode cX5_part 49 = .ok (.getfield 13, 3) := by decide +kernel
theorem dX5_part_52 : decode cX5_part 52 = .ok (.iconst 5, 1) := by decide +kernel
theorem dX5_part_53 : decode cX5_part 53 = .ok (.iload_n 1, 1) := by decide +kernel
theorem dX5_part_54 : decode cX5_part 54 = .ok (.iadd, 1) := by decide +kernel
theorem dX5_part_55 : decode cX5_part 55 = .ok (.iaload, 1) := by decide +kernel
theorem dX5_part_56 : decode cX5_part 56 = .ok (.ireturn, 1) := by decide +kernel
theorem dX5_part_57 : decode cX5_part 57 = .ok (.aload_n 0, 1) := by decide +kernel
theorem dX5_part_58 : decode cX5_part 58 = .ok (.getfield 13, 3) := by decide +kernel
theorem dX5_part_61 : decode cX5_part 61 = .ok (.bipush 13, 2) := by decide +kernel
theorem dX5_part_63 : decode cX5_part 63 = .ok (.iload_n 1, 1) := by decide +kernel
theorem dX5_part_64 : decode cX5_part 64 = .ok (.iadd, 1) := by decide +kernel
theorem dX5_part_65 : decode cX5_part 65 = .ok (.iaload, 1) := by decide +kernel
theorem dX5_part_66 : decode cX5_part 66 = .ok (.ireturn, 1) := by decide +kernel
theorem dX5_part_67 : decode cX5_part 67 = .ok (.aload_n 0, 1) := by decide +kernel
theorem dX5_part_68 : decode cX5_part 68 = .ok (.getfield 13, 3) := by decide +kernel
theorem dX5_part_71 : decode cX5_part 71 = .ok (.bipush 21, 2) := by decide +kernel
theorem dX5_part_73 : decode cX5_part 73 = .ok (.iload_n 1, 1) := by decide +kernel
theorem dX5_part_74 : decode cX5_part 74 = .ok (.iadd, 1) := by decide +kernel
theorem dX5_part_75 : decode cX5_part 75 = .ok (.iaload, 1) := by decide +kernel
theorem dX5_part_76 : decode cX5_part 76 = .ok (.ireturn, 1) := by decide +kernel
theorem dX5_part_77 : decode cX5_part 77 = .ok (.aload_n 0, 1) := by decide +kernel
theorem dX5_part_78 : decode cX5_part 78 = .ok (.iload_n 1, 1) := by decide +kernel
theorem dX5_part_79 : decode cX5_part 79 = .ok (.aload_n 0, 1) := by decide +kernel
theorem dX5_part_80 : decode cX5_part 80 = .ok (.getfield 19, 3) := by decide +kernel
theorem dX5_part_83 : decode cX5_part 83 = .ok (.bipush 6, 2) := by decide +kernel
theorem dX5_part_85 : decode cX5_part 85 = .ok (.iaload, 1) := by decide +kernel
theorem dX5_part_86 : decode cX5_part 86 = .ok (.invokevirtual 112, 3) := by decide +kernel
theorem dX5_part_89 : decode cX5_part 89 = .ok (.ireturn, 1) := by decide +kernel
theorem dX5_part_90 : decode cX5_part 90 = .ok (.aload_n 0, 1) := by decide +kernel
theorem dX5_part_91 : decode cX5_part 91 = .ok (.getfield 19, 3) := by decide +kernel
theorem dX5_part_94 : decode cX5_part 94 = .ok (.bipush 7, 2) := by decide +kernel
theorem dX5_part_96 : decode cX5_part 96 = .ok (.iaload, 1) := by decide +kernel
theorem dX5_part_97 : decode cX5_part 97 = .ok (.iload_n 1, 1) := by decide +kernel
theorem dX5_part_98 : decode cX5_part 98 = .ok (.ishr, 1) := by decide +kernel
theorem dX5_part_99 : decode cX5_part 99 = .ok (.iconst 1, 1) := by decide +kernel
theorem dX5_part_100 : decode cX5_part 100 = .ok (.iand, 1) := by decide +kernel
theorem dX5_part_101 : decode cX5_part 101 = .ok (.ireturn, 1) := by decide +kernel
theorem dX5_part_102 : decode cX5_part 102 = .ok (.bipush (-3), 2) := by decide +kernel
theorem dX5_part_104 : decode cX5_part 104 = .ok (.ireturn, 1) := by decide +kernel
theorem dX5_sins_0 : decode cX5_sins 0 = .ok (.iload_n 1, 1) := by decide +kernel
theorem dX5_sins_1 : decode cX5_sins 1 = .ok (.iconst 0, 1) := by decide +kernel
theorem dX5_sins_2 : decode cX5_sins 2 = .ok (.aload_n 0, 1) := by decide +kernel
theorem dX5_sins_3 : decode cX5_sins 3 = .ok (.getfield 13, 3) := by decide +kernel
theorem dX5_sins_6 : decode cX5_sins 6 = .ok (.iconst 1, 1) := by decide +kernel
theorem dX5_sins_7 : decode cX5_sins 7 = .ok (.iaload, 1) := by decide +kernel
theorem dX5_sins_8 : decode cX5_sins 8 = .ok (.iconst 1, 1) := by decide +kernel
theorem dX5_sins_9 : decode cX5_sins 9 = .ok (.isub, 1) := by decide +kernel
theorem dX5_sins_10 : decode cX5_sins 10 = .ok (.invokestatic 44, 3) := by decide +kernel
theorem dX5_sins_13 : decode cX5_sins 13 = .ok (.ifCond .eq 12, 3) := by decide +kernel
theorem dX5_sins_16 : decode cX5_sins 16 = .ok (.aload_n 0, 1) := by decide +kernel
theorem dX5_sins_17 : decode cX5_sins 17 = .ok (.getfield 19, 3) := by decide +kernel
theorem dX5_sins_20 : decode cX5_sins 20 = .ok (.iload_n 1, 1) := by decide +kernel
theorem dX5_sins_21 : decode cX5_sins 21 = .ok (.iaload, 1) := by decide +kernel
theorem dX5_sins_22 : decode cX5_sins 22 = .ok (.goto 5, 3) := by decide +kernel
theorem dX5_sins_25 : decode cX5_sins 25 = .ok (.bipush (-2), 2) := by decide +kernel
theorem dX5_sins_27 : decode cX5_sins 27 = .ok (.ireturn, 1) := by decide +kernel
theorem dX5_as_0 : decode cX5_as 0 = .ok (.aload_n 0, 1) := by decide +kernel
theorem dX5_as_1 : decode cX5_as 1 = .ok (.iload_n 1, 1) := by decide +kernel
theorem dX5_as_2 : decode cX5_as 2 = .ok (.invokevirtual 129, 3) := by decide +kernel
theorem dX5_as_5 : decode cX5_as 5 = .ok (.ifCond .ne 6, 3) := by decide +kernel
theorem dX5_as_8 : decode cX5_as 8 = .ok (.bipush (-2), 2) := by decide +kernel
theorem dX5_as_10 : decode cX5_as 10 = .ok (.ireturn, 1) := by decide +kernel
theorem dX5_as_11 : decode cX5_as 11 = .ok (.iload_n 2, 1) := by decide +kernel
theorem dX5_as_12 : decode cX5_as 12 = .ok (.iconst 0, 1) := by decide +kernel
theorem dX5_as_13 : decode cX5_as 13 = .ok (.iconst 4, 1) := by decide +kernel
theorem dX5_as_14 : decode cX5_as 14 = .ok (.invokestatic 44, 3) := by decide +kernel
theorem dX5_as_17 : decode cX5_as 17 = .ok (.ifCond .ne 6, 3) := by decide +kernel
theorem dX5_as_20 : decode cX5_as 20 = .ok (.bipush (-3), 2) := by decide +kernel
theorem dX5_as_22 : decode cX5_as 22 = .ok (.ireturn, 1) := by decide +kernel
theorem dX5_as_23 : decode cX5_as 23 = .ok (.aload_n 0, 1) := by decide +kernel
theorem dX5_as_24 : decode cX5_as 24 = .ok (.getfield 13, 3) := by decide +kernel
theorem dX5_as_27 : decode cX5_as 27 = .ok (.iconst 5, 1) := by decide +kernel
theorem dX5_as_28 : decode cX5_as 28 = .ok (.iload_n 1, 1) := by decide +kernel
theorem dX5_as_29 : decode cX5_as 29 = .ok (.iadd, 1) := by decide +kernel
theorem dX5_as_30 : decode cX5_as 30 = .ok (.iaload, 1) := by decide +kernel
theorem dX5_as_31 : decode cX5_as 31 = .ok (.istore_n 3, 1) := by decide +kernel
theorem dX5_as_32 : decode cX5_as 32 = .ok (.iload_n 2, 1) := by decide +kernel
theorem dX5_as_33 : decode cX5_as 33 = .ok (.ifCond .eq 20, 3) := by decide +kernel
theorem dX5_as_36 : decode cX5_as 36 = .ok (.iload_n 2, 1) := by decide +kernel
theorem dX5_as_37 : decode cX5_as 37 = .ok (.iload_n 3, 1) := by decide +kernel
theorem dX5_as_38 : decode cX5_as 38 = .ok (.iconst 1, 1) := by decide +kernel
theorem dX5_as_39 : decode cX5_as 39 = .ok (.iadd, 1) := by decide +kernel
theorem dX5_as_40 : decode cX5_as 40 = .ok (.if_icmp .eq 13, 3) := by decide +kernel
theorem dX5_as_43 : decode cX5_as 43 = .ok (.iload_n 2, 1) := by decide +kernel
theorem dX5_as_44 : decode cX5_as 44 = .ok (.iconst 1, 1) := by decide +kernel
theorem dX5_as_45 : decode cX5_as 45 = .ok (.if_icmp .ne 12, 3) := by decide +kernel
theorem dX5_as_48 : decode cX5_as 48 = .ok (.iload_n 3, 1) := by decide +kernel
theorem dX5_as_49 : decode cX5_as 49 = .ok (.iconst 3, 1) := by decide +kernel
theorem dX5_as_50 : decode cX5_as 50 = .ok (.if_icmp .ge 7, 3) := by decide +kernel
theorem dX5_as_53 : decode cX5_as 53 = .ok (.iconst 1, 1) := by decide +kernel
theorem dX5_as_54 : decode cX5_as 54 = .ok (.goto 4, 3) := by decide +kernel
theorem dX5_as_57 : decode cX5_as 57 = .ok (.iconst 0, 1) := by decide +kernel
theorem dX5_as_58 : decode cX5_as 58 = .ok (.istore 4, 2) := by decide +kernel
theorem dX5_as_60 : decode cX5_as 60 = .ok (.iload 4, 2) := by decide +kernel
theorem dX5_as_62 : decode cX5_as 62 = .ok (.ifCond .eq 13, 3) := by decide +kernel
theorem dX5_as_65 : decode cX5_as 65 = .ok (.aload_n 0, 1) := by decide +kernel
theorem dX5_as_66 : decode cX5_as 66 = .ok (.iload_n 1, 1) := by decide +kernel
theorem dX5_as_67 : decode cX5_as 67 = .ok (.bipush 9, 2) := by decide +kernel
theorem dX5_as_69 : decode cX5_as 69 = .ok (.invokevirtual 112, 3) := by decide +kernel
theorem dX5_as_72 : decode cX5_as 72 = .ok (.goto 5, 3) := by decide +kernel
theorem dX5_as_75 : decode cX5_as 75 = .ok (.bipush (-4), 2) := by decide +kernel
theorem dX5_as_77 : decode cX5_as 77 = .ok (.ireturn, 1) := by decide +kernel
theorem dX5_keeps_0 : decode cX5_keeps 0 = .ok (.aload_n 0, 1) := by decide +kernel
theorem dX5_keeps_1 : decode cX5_keeps 1 = .ok (.getfield 95, 3) := by decide +kernel
theorem dX5_keeps_4 : decode cX5_keeps 4 = .ok (.bipush 8, 2) := by decide +kernel
theorem dX5_keeps_6 : decode cX5_keeps 6 = .ok (.if_icmp .ne 42, 3) := by decide +kernel
theorem dX5_keeps_9 : decode cX5_keeps 9 = .ok (.iconst 0, 1) := by decide +kernel
theorem dX5_keeps_10 : decode cX5_keeps 10 = .ok (.istore_n 1, 1) := by decide +kernel
theorem dX5_keeps_11 : decode cX5_keeps 11 = .ok (.iload_n 1, 1) := by decide +kernel
theorem dX5_keeps_12 : decode cX5_keeps 12 = .ok (.bipush 84, 2) := by decide +kernel
theorem dX5_keeps_14 : decode cX5_keeps 14 = .ok (.if_icmp .ge 24, 3) := by decide +kernel
theorem dX5_keeps_17 : decode cX5_keeps 17 = .ok (.aload_n 0, 1) := by decide +kernel
theorem dX5_keeps_18 : decode cX5_keeps 18 = .ok (.getfield 22, 3) := by decide +kernel
theorem dX5_keeps_21 : decode cX5_keeps 21 = .ok (.iload_n 1, 1) := by decide +kernel
theorem dX5_keeps_22 : decode cX5_keeps 22 = .ok (.aload_n 0, 1) := by decide +kernel
theorem dX5_keeps_23 : decode cX5_keeps 23 = .ok (.getfield 22, 3) := by decide +kernel
theorem dX5_keeps_26 : decode cX5_keeps 26 = .ok (.iload_n 1, 1) := by decide +kernel
theorem dX5_keeps_27 : decode cX5_keeps 27 = .ok (.bipush 12, 2) := by decide +kernel
theorem dX5_keeps_29 : decode cX5_keeps 29 = .ok (.iadd, 1) := by decide +kernel
theorem dX5_keeps_30 : decode cX5_keeps 30 = .ok (.iaload, 1) := by decide +kernel
theorem dX5_keeps_31 : decode cX5_keeps 31 = .ok (.iastore, 1) := by decide +kernel
theorem dX5_keeps_32 : decode cX5_keeps 32 = .ok (.iinc 1 1, 3) := by decide +kernel
theorem dX5_keeps_35 : decode cX5_keeps 35 = .ok (.goto (-24), 3) := by decide +kernel
theorem dX5_keeps_38 : decode cX5_keeps 38 = .ok (.aload_n 0, 1) := by decide +kernel
theorem dX5_keeps_39 : decode cX5_keeps 39 = .ok (.dup, 1) := by decide +kernel
theorem dX5_keeps_40 : decode cX5_keeps 40 = .ok (.getfield 95, 3) := by decide +kernel
theorem dX5_keeps_43 : decode cX5_keeps 43 = .ok (.iconst 1, 1) := by decide +kernel
theorem dX5_keeps_44 : decode cX5_keeps 44 = .ok (.isub, 1) := by decide +kernel
theorem dX5_keeps_45 : decode cX5_keeps 45 = .ok (.putfield 95, 3) := by decide +kernel
theorem dX5_keeps_48 : decode cX5_keeps 48 = .ok (.iconst 0, 1) := by decide +kernel
theorem dX5_keeps_49 : decode cX5_keeps 49 = .ok (.istore_n 1, 1) := by decide +kernel
theorem dX5_keeps_50 : decode cX5_keeps 50 = .ok (.iload_n 1, 1) := by decide +kernel
theorem dX5_keeps_51 : decode cX5_keeps 51 = .ok (.bipush 12, 2) := by decide +kernel
theorem dX5_keeps_53 : decode cX5_keeps 53 = .ok (.if_icmp .ge 29, 3) := by decide +kernel
theorem dX5_keeps_56 : decode cX5_keeps 56 = .ok (.aload_n 0, 1) := by decide +kernel
theorem dX5_keeps_57 : decode cX5_keeps 57 = .ok (.getfield 22, 3) := by decide +kernel
theorem dX5_keeps_60 : decode cX5_keeps 60 = .ok (.bipush 12, 2) := by decide +kernel
theorem dX5_keeps_62 : decode cX5_keeps 62 = .ok (.aload_n 0, 1) := by decide +kernel
theorem dX5_keeps_63 : decode cX5_keeps 63 = .ok (.getfield 95, 3) := by decide +kernel
theorem dX5_keeps_66 : decode cX5_keeps 66 = .ok (.imul, 1) := by decide +kernel
theorem dX5_keeps_67 : decode cX5_keeps 67 = .ok (.iload_n 1, 1) := by decide +kernel
theorem dX5_keeps_68 : decode cX5_keeps 68 = .ok (.iadd, 1) := by decide +kernel
theorem dX5_keeps_69 : decode cX5_keeps 69 = .ok (.aload_n 0, 1) := by decide +kernel
theorem dX5_keeps_70 : decode cX5_keeps 70 = .ok (.getfield 19, 3) := by decide +kernel
theorem dX5_keeps_73 : decode cX5_keeps 73 = .ok (.iload_n 1, 1) := by decide +kernel
theorem dX5_keeps_74 : decode cX5_keeps 74 = .ok (.iaload, 1) := by decide +kernel
theorem dX5_keeps_75 : decode cX5_keeps 75 = .ok (.iastore, 1) := by decide +kernel
theorem dX5_keeps_76 : decode cX5_keeps 76 = .ok (.iinc 1 1, 3) := by decide +kernel
theorem dX5_keeps_79 : decode cX5_keeps 79 = .ok (.goto (-29), 3) := by decide +kernel
theorem dX5_keeps_82 : decode cX5_keeps 82 = .ok (.aload_n 0, 1) := by decide +kernel
theorem dX5_keeps_83 : decode cX5_keeps 83 = .ok (.dup, 1) := by decide +kernel
theorem dX5_keeps_84 : decode cX5_keeps 84 = .ok (.getfield 95, 3) := by decide +kernel
theorem dX5_keeps_87 : decode cX5_keeps 87 = .ok (.iconst 1, 1) := by decide +kernel
theorem dX5_keeps_88 : decode cX5_keeps 88 = .ok (.iadd, 1) := by decide +kernel
theorem dX5_keeps_89 : decode cX5_keeps 89 = .ok (.putfield 95, 3) := by decide +kernel
theorem dX5_keeps_92 : decode cX5_keeps 92 = .ok (.return_, 1) := by decide +kernel
theorem dX5_preach_0 : decode cX5_preach 0 = .ok (.aload_n 0, 1) := by decide +kernel
theorem dX5_preach_1 : decode cX5_preach 1 = .ok (.iload_n 1, 1) := by decide +kernel
theorem dX5_preach_2 : decode cX5_preach 2 = .ok (.invokevirtual 129, 3) := by decide +kernel
theorem dX5_preach_5 : decode cX5_preach 5 = .ok (.ifCond .ne 6, 3) := by decide +kernel
theorem dX5_preach_8 : decode cX5_preach 8 = .ok (.bipush (-2), 2) := by decide +kernel
theorem dX5_preach_10 : decode cX5_preach 10 = .ok (.ireturn, 1) := by decide +kernel
theorem dX5_preach_11 : decode cX5_preach 11 = .ok (.aload_n 0, 1) := by decide +kernel
theorem dX5_preach_12 : decode cX5_preach 12 = .ok (.getfield 19, 3) := by decide +kernel
theorem dX5_preach_15 : decode cX5_preach 15 = .ok (.bipush 7, 2) := by decide +kernel
theorem dX5_preach_17 : decode cX5_preach 17 = .ok (.iaload, 1) := by decide +kernel
theorem dX5_preach_18 : decode cX5_preach 18 = .ok (.iload_n 1, 1) := by decide +kernel
theorem dX5_preach_19 : decode cX5_preach 19 = .ok (.ishr, 1) := by decide +kernel
theorem dX5_preach_20 : decode cX5_preach 20 = .ok (.iconst 1, 1) := by decide +kernel
theorem dX5_preach_21 : decode cX5_preach 21 = .ok (.iand, 1) := by decide +kernel
theorem dX5_preach_22 : decode cX5_preach 22 = .ok (.iconst 1, 1) := by decide +kernel
theorem dX5_preach_23 : decode cX5_preach 23 = .ok (.if_icmp .eq 10, 3) := by decide +kernel
theorem dX5_preach_26 : decode cX5_preach 26 = .ok (.aload_n 0, 1) := by decide +kernel
theorem dX5_preach_27 : decode cX5_preach 27 = .ok (.invokevirtual 132, 3) := by decide +kernel
theorem dX5_preach_30 : decode cX5_preach 30 = .ok (.ifCond .eq 6, 3) := by decide +kernel
theorem dX5_preach_33 : decode cX5_preach 33 = .ok (.bipush (-4), 2) := by decide +kernel
theorem dX5_preach_35 : decode cX5_preach 35 = .ok (.ireturn, 1) := by decide +kernel
theorem dX5_preach_36 : decode cX5_preach 36 = .ok (.aload_n 0, 1) := by decide +kernel
theorem dX5_preach_37 : decode cX5_preach 37 = .ok (.invokevirtual 135, 3) := by decide +kernel
theorem dX5_preach_40 : decode cX5_preach 40 = .ok (.aload_n 0, 1) := by decide +kernel
theorem dX5_preach_41 : decode cX5_preach 41 = .ok (.getfield 19, 3) := by decide +kernel
theorem dX5_preach_44 : decode cX5_preach 44 = .ok (.bipush 7, 2) := by decide +kernel
theorem dX5_preach_46 : decode cX5_preach 46 = .ok (.dup2, 1) := by decide +kernel
theorem dX5_preach_47 : decode cX5_preach 47 = .ok (.iaload, 1) := by decide +kernel
theorem dX5_preach_48 : decode cX5_preach 48 = .ok (.iconst 1, 1) := by decide +kernel
theorem dX5_preach_49 : decode cX5_preach 49 = .ok (.iload_n 1, 1) := by decide +kernel
theorem dX5_preach_50 : decode cX5_preach 50 = .ok (.ishl, 1) := by decide +kernel
theorem dX5_preach_51 : decode cX5_preach 51 = .ok (.ior, 1) := by decide +kernel
theorem dX5_preach_52 : decode cX5_preach 52 = .ok (.iastore, 1) := by decide +kernel
theorem dX5_preach_53 : decode cX5_preach 53 = .ok (.aload_n 0, 1) := by decide +kernel
theorem dX5_preach_54 : decode cX5_preach 54 = .ok (.getfield 19, 3) := by decide +kernel
theorem dX5_preach_57 : decode cX5_preach 57 = .ok (.bipush 10, 2) := by decide +kernel
theorem dX5_preach_59 : decode cX5_preach 59 = .ok (.dup2, 1) := by decide +kernel
theorem dX5_preach_60 : decode cX5_preach 60 = .ok (.iaload, 1) := by decide +kernel
theorem dX5_preach_61 : decode cX5_preach 61 = .ok (.aload_n 0, 1) := by decide +kernel
theorem dX5_preach_62 : decode cX5_preach 62 = .ok (.getfield 13, 3) := by decide +kernel
theorem dX5_preach_65 : decode cX5_preach 65 = .ok (.bipush 21, 2) := by decide +kernel
theorem dX5_preach_67 : decode cX5_preach 67 = .ok (.iload_n 1, 1) := by decide +kernel
theorem dX5_preach_68 : decode cX5_preach 68 = .ok (.iadd, 1) := by decide +kernel
theorem dX5_preach_69 : decode cX5_preach 69 = .ok (.iaload, 1) := by decide +kernel
theorem dX5_preach_70 : decode cX5_preach 70 = .ok (.iadd, 1) := by decide +kernel
theorem dX5_preach_71 : decode cX5_preach 71 = .ok (.iastore, 1) := by decide +kernel
theorem dX5_preach_72 : decode cX5_preach 72 = .ok (.sipush 9999, 3) := by decide +kernel
theorem dX5_preach_75 : decode cX5_preach 75 = .ok (.aload_n 0, 1) := by decide +kernel
theorem dX5_preach_76 : decode cX5_preach 76 = .ok (.invokevirtual 119, 3) := by decide +kernel
theorem dX5_preach_79 : decode cX5_preach 79 = .ok (.iadd, 1) := by decide +kernel
theorem dX5_preach_80 : decode cX5_preach 80 = .ok (.aload_n 0, 1) := by decide +kernel
theorem dX5_preach_81 : decode cX5_preach 81 = .ok (.invokevirtual 122, 3) := by decide +kernel
theorem dX5_preach_84 : decode cX5_preach 84 = .ok (.isub, 1) := by decide +kernel
theorem dX5_preach_85 : decode cX5_preach 85 = .ok (.ireturn, 1) := by decide +kernel
theorem dX5_sin_0 : decode cX5_sin 0 = .ok (.iload_n 1, 1) := by decide +kernel
theorem dX5_sin_1 : decode cX5_sin 1 = .ok (.iconst 0, 1) := by decide +kernel
theorem dX5_sin_2 : decode cX5_sin 2 = .ok (.aload_n 0, 1) := by decide +kernel
theorem dX5_sin_3 : decode cX5_sin 3 = .ok (.getfield 13, 3) := by decide +kernel
theorem dX5_sin_6 : decode cX5_sin 6 = .ok (.iconst 1, 1) := by decide +kernel
theorem dX5_sin_7 : decode cX5_sin 7 = .ok (.iaload, 1) := by decide +kernel
theorem dX5_sin_8 : decode cX5_sin 8 = .ok (.iconst 1, 1) := by decide +kernel
theorem dX5_sin_9 : decode cX5_sin 9 = .ok (.isub, 1) := by decide +kernel
theorem dX5_sin_10 : decode cX5_sin 10 = .ok (.invokestatic 44, 3) := by decide +kernel
theorem dX5_sin_13 : decode cX5_sin 13 = .ok (.ifCond .ne 6, 3) := by decide +kernel
theorem dX5_sin_16 : decode cX5_sin 16 = .ok (.bipush (-2), 2) := by decide +kernel
theorem dX5_sin_18 : decode cX5_sin 18 = .ok (.ireturn, 1) := by decide +kernel
theorem dX5_sin_19 : decode cX5_sin 19 = .ok (.iload_n 2, 1) := by decide +kernel
theorem dX5_sin_20 : decode cX5_sin 20 = .ok (.iconst 1, 1) := by decide +kernel
theorem dX5_sin_21 : decode cX5_sin 21 = .ok (.bipush 20, 2) := by decide +kernel
theorem dX5_sin_23 : decode cX5_sin 23 = .ok (.invokestatic 44, 3) := by decide +kernel
theorem dX5_sin_26 : decode cX5_sin 26 = .ok (.ifCond .ne 6, 3) := by decide +kernel
theorem dX5_sin_29 : decode cX5_sin 29 = .ok (.bipush (-3), 2) := by decide +kernel
theorem dX5_sin_31 : decode cX5_sin 31 = .ok (.ireturn, 1) := by decide +kernel
theorem dX5_sin_32 : decode cX5_sin 32 = .ok (.aload_n 0, 1) := by decide +kernel
theorem dX5_sin_33 : decode cX5_sin 33 = .ok (.invokevirtual 135, 3) := by decide +kernel
theorem dX5_sin_36 : decode cX5_sin 36 = .ok (.aload_n 0, 1) := by decide +kernel
theorem dX5_sin_37 : decode cX5_sin 37 = .ok (.getfield 19, 3) := by decide +kernel
theorem dX5_sin_40 : decode cX5_sin 40 = .ok (.iload_n 1, 1) := by decide +kernel
theorem dX5_sin_41 : decode cX5_sin 41 = .ok (.aload_n 0, 1) := by decide +kernel
theorem dX5_sin_42 : decode cX5_sin 42 = .ok (.getfield 19, 3) := by decide +kernel
theorem dX5_sin_45 : decode cX5_sin 45 = .ok (.iload_n 1, 1) := by decide +kernel
theorem dX5_sin_46 : decode cX5_sin 46 = .ok (.iaload, 1) := by decide +kernel
theorem dX5_sin_47 : decode cX5_sin 47 = .ok (.iload_n 2, 1) := by decide +kernel
theorem dX5_sin_48 : decode cX5_sin 48 = .ok (.iadd, 1) := by decide +kernel
theorem dX5_sin_49 : decode cX5_sin 49 = .ok (.bipush 99, 2) := by decide +kernel
theorem dX5_sin_51 : decode cX5_sin 51 = .ok (.if_icmp .le 8, 3) := by decide +kernel
theorem dX5_sin_54 : decode cX5_sin 54 = .ok (.bipush 99, 2) := by decide +kernel
theorem dX5_sin_56 : decode cX5_sin 56 = .ok (.goto 11, 3) := by decide +kernel
theorem dX5_sin_59 : decode cX5_sin 59 = .ok (.aload_n 0, 1) := by decide +kernel
theorem dX5_sin_60 : decode cX5_sin 60 = .ok (.getfield 19, 3) := by decide +kernel
theorem dX5_sin_63 : decode cX5_sin 63 = .ok (.iload_n 1, 1) := by decide +kernel
theorem dX5_sin_64 : decode cX5_sin 64 = .ok (.iaload, 1) := by decide +kernel
theorem dX5_sin_65 : decode cX5_sin 65 = .ok (.iload_n 2, 1) := by decide +kernel
theorem dX5_sin_66 : decode cX5_sin 66 = .ok (.iadd, 1) := by decide +kernel
theorem dX5_sin_67 : decode cX5_sin 67 = .ok (.iastore, 1) := by decide +kernel
theorem dX5_sin_68 : decode cX5_sin 68 = .ok (.aload_n 0, 1) := by decide +kernel
theorem dX5_sin_69 : decode cX5_sin 69 = .ok (.getfield 19, 3) := by decide +kernel
theorem dX5_sin_72 : decode cX5_sin 72 = .ok (.iload_n 1, 1) := by decide +kernel
theorem dX5_sin_73 : decode cX5_sin 73 = .ok (.iaload, 1) := by decide +kernel
theorem dX5_sin_74 : decode cX5_sin 74 = .ok (.ireturn, 1) := by decide +kernel
theorem dX5_ballast_0 : decode cX5_ballast 0 = .ok (.iload_n 1, 1) := by decide +kernel
theorem dX5_ballast_1 : decode cX5_ballast 1 = .ok (.iconst 1, 1) := by decide +kernel
theorem dX5_ballast_2 : decode cX5_ballast 2 = .ok (.bipush 20, 2) := by decide +kernel
theorem dX5_ballast_4 : decode cX5_ballast 4 = .ok (.invokestatic 44, 3) := by decide +kernel
theorem dX5_ballast_7 : decode cX5_ballast 7 = .ok (.ifCond .ne 6, 3) := by decide +kernel
theorem dX5_ballast_10 : decode cX5_ballast 10 = .ok (.bipush (-3), 2) := by decide +kernel
theorem dX5_ballast_12 : decode cX5_ballast 12 = .ok (.ireturn, 1) := by decide +kernel
theorem dX5_ballast_13 : decode cX5_ballast 13 = .ok (.aload_n 0, 1) := by decide +kernel
theorem dX5_ballast_14 : decode cX5_ballast 14 = .ok (.invokevirtual 135, 3) := by decide +kernel
theorem dX5_ballast_17 : decode cX5_ballast 17 = .ok (.aload_n 0, 1) := by decide +kernel
theorem dX5_ballast_18 : decode cX5_ballast 18 = .ok (.getfield 19, 3) := by decide +kernel
theorem dX5_ballast_21 : decode cX5_ballast 21 = .ok (.bipush 8, 2) := by decide +kernel
theorem dX5_ballast_23 : decode cX5_ballast 23 = .ok (.aload_n 0, 1) := by decide +kernel
theorem dX5_ballast_24 : decode cX5_ballast 24 = .ok (.getfield 19, 3) := by decide +kernel
theorem dX5_ballast_27 : decode cX5_ballast 27 = .ok (.bipush 8, 2) := by decide +kernel
theorem dX5_ballast_29 : decode cX5_ballast 29 = .ok (.iaload, 1) := by decide +kernel
theorem dX5_ballast_30 : decode cX5_ballast 30 = .ok (.iload_n 1, 1) := by decide +kernel
theorem dX5_ballast_31 : decode cX5_ballast 31 = .ok (.iadd, 1) := by decide +kernel
theorem dX5_ballast_32 : decode cX5_ballast 32 = .ok (.bipush 99, 2) := by decide +kernel
theorem dX5_ballast_34 : decode cX5_ballast 34 = .ok (.if_icmp .le 8, 3) := by decide +kernel
theorem dX5_ballast_37 : decode cX5_ballast 37 = .ok (.bipush 99, 2) := by decide +kernel
theorem dX5_ballast_39 : decode cX5_ballast 39 = .ok (.goto 12, 3) := by decide +kernel
theorem dX5_ballast_42 : decode cX5_ballast 42 = .ok (.aload_n 0, 1) := by decide +kernel
theorem dX5_ballast_43 : decode cX5_ballast 43 = .ok (.getfield 19, 3) := by decide +kernel
theorem dX5_ballast_46 : decode cX5_ballast 46 = .ok (.bipush 8, 2) := by decide +kernel
theorem dX5_ballast_48 : decode cX5_ballast 48 = .ok (.iaload, 1) := by decide +kernel
theorem dX5_ballast_49 : decode cX5_ballast 49 = .ok (.iload_n 1, 1) := by decide +kernel
theorem dX5_ballast_50 : decode cX5_ballast 50 = .ok (.iadd, 1) := by decide +kernel
theorem dX5_ballast_51 : decode cX5_ballast 51 = .ok (.iastore, 1) := by decide +kernel
theorem dX5_ballast_52 : decode cX5_ballast 52 = .ok (.aload_n 0, 1) := by decide +kernel
theorem dX5_ballast_53 : decode cX5_ballast 53 = .ok (.getfield 19, 3) := by decide +kernel
theorem dX5_ballast_56 : decode cX5_ballast 56 = .ok (.bipush 8, 2) := by decide +kernel
theorem dX5_ballast_58 : decode cX5_ballast 58 = .ok (.iaload, 1) := by decide +kernel
theorem dX5_ballast_59 : decode cX5_ballast 59 = .ok (.ireturn, 1) := by decide +kernel
theorem dX5_rain_0 : decode cX5_rain 0 = .ok (.iload_n 1, 1) := by decide +kernel
theorem dX5_rain_1 : decode cX5_rain 1 = .ok (.iconst 0, 1) := by decide +kernel
theorem dX5_rain_2 : decode cX5_rain 2 = .ok (.bipush 9, 2) := by decide +kernel
theorem dX5_rain_4 : decode cX5_rain 4 = .ok (.invokestatic 44, 3) := by decide +kernel
theorem dX5_rain_7 : decode cX5_rain 7 = .ok (.ifCond .ne 6, 3) := by decide +kernel
theorem dX5_rain_10 : decode cX5_rain 10 = .ok (.bipush (-3), 2) := by decide +kernel
theorem dX5_rain_12 : decode cX5_rain 12 = .ok (.ireturn, 1) := by decide +kernel
theorem dX5_rain_13 : decode cX5_rain 13 = .ok (.aload_n 0, 1) := by decide +kernel
theorem dX5_rain_14 : decode cX5_rain 14 = .ok (.invokevirtual 135, 3) := by decide +kernel
theorem dX5_rain_17 : decode cX5_rain 17 = .ok (.aload_n 0, 1) := by decide +kernel
theorem dX5_rain_18 : decode cX5_rain 18 = .ok (.getfield 19, 3) := by decide +kernel
theorem dX5_rain_21 : decode cX5_rain 21 = .ok (.bipush 6, 2) := by decide +kernel
theorem dX5_rain_23 : decode cX5_rain 23 = .ok (.iaload, 1) := by decide +kernel
theorem dX5_rain_24 : decode cX5_rain 24 = .ok (.istore_n 2, 1) := by decide +kernel
theorem dX5_rain_25 : decode cX5_rain 25 = .ok (.aload_n 0, 1) := by decide +kernel
theorem dX5_rain_26 : decode cX5_rain 26 = .ok (.getfield 19, 3) := by decide +kernel
theorem dX5_rain_29 : decode cX5_rain 29 = .ok (.bipush 6, 2) := by decide +kernel
theorem dX5_rain_31 : decode cX5_rain 31 = .ok (.iload_n 1, 1) := by decide +kernel
theorem dX5_rain_32 : decode cX5_rain 32 = .ok (.iastore, 1) := by decide +kernel
theorem dX5_rain_33 : decode cX5_rain 33 = .ok (.iload_n 2, 1) := by decide +kernel
theorem dX5_rain_34 : decode cX5_rain 34 = .ok (.ireturn, 1) := by decide +kernel
theorem dX5_sunday_0 : decode cX5_sunday 0 = .ok (.aload_n 0, 1) := by decide +kernel
theorem dX5_sunday_1 : decode cX5_sunday 1 = .ok (.getfield 19, 3) := by decide +kernel
theorem dX5_sunday_4 : decode cX5_sunday 4 = .ok (.bipush 9, 2) := by decide +kernel
theorem dX5_sunday_6 : decode cX5_sunday 6 = .ok (.iaload, 1) := by decide +kernel
theorem dX5_sunday_7 : decode cX5_sunday 7 = .ok (.sipush 999, 3) := by decide +kernel
theorem dX5_sunday_10 : decode cX5_sunday 10 = .ok (.if_icmp .ne 6, 3) := by decide +kernel
theorem dX5_sunday_13 : decode cX5_sunday 13 = .ok (.bipush (-5), 2) := by decide +kernel
theorem dX5_sunday_15 : decode cX5_sunday 15 = .ok (.ireturn, 1) := by decide +kernel
theorem dX5_sunday_16 : decode cX5_sunday 16 = .ok (.aload_n 0, 1) := by decide +kernel
theorem dX5_sunday_17 : decode cX5_sunday 17 = .ok (.invokevirtual 135, 3) := by decide +kernel
theorem dX5_sunday_20 : decode cX5_sunday 20 = .ok (.aload_n 0, 1) := by decide +kernel
theorem dX5_sunday_21 : decode cX5_sunday 21 = .ok (.invokevirtual 132, 3) := by decide +kernel
theorem dX5_sunday_24 : decode cX5_sunday 24 = .ok (.istore_n 1, 1) := by decide +kernel
theorem dX5_sunday_25 : decode cX5_sunday 25 = .ok (.iconst 0, 1) := by decide +kernel
theorem dX5_sunday_26 : decode cX5_sunday 26 = .ok (.istore_n 2, 1) := by decide +kernel
theorem dX5_sunday_27 : decode cX5_sunday 27 = .ok (.iload_n 2, 1) := by decide +kernel
theorem dX5_sunday_28 : decode cX5_sunday 28 = .ok (.bipush 6, 2) := by decide +kernel
theorem dX5_sunday_30 : decode cX5_sunday 30 = .ok (.if_icmp .ge 31, 3) := by decide +kernel
theorem dX5_sunday_33 : decode cX5_sunday 33 = .ok (.aload_n 0, 1) := by decide +kernel
theorem dX5_sunday_34 : decode cX5_sunday 34 = .ok (.getfield 19, 3) := by decide +kernel
theorem dX5_sunday_37 : decode cX5_sunday 37 = .ok (.iload_n 2, 1) := by decide +kernel
theorem dX5_sunday_38 : decode cX5_sunday 38 = .ok (.iload_n 1, 1) := by decide +kernel
theorem dX5_sunday_39 : decode cX5_sunday 39 = .ok (.ifCond .eq 7, 3) := by decide +kernel
theorem dX5_sunday_42 : decode cX5_sunday 42 = .ok (.iconst 0, 1) := by decide +kernel
theorem dX5_sunday_43 : decode cX5_sunday 43 = .ok (.goto 11, 3) := by decide +kernel
theorem dX5_sunday_46 : decode cX5_sunday 46 = .ok (.aload_n 0, 1) := by decide +kernel
theorem dX5_sunday_47 : decode cX5_sunday 47 = .ok (.getfield 19, 3) := by decide +kernel
theorem dX5_sunday_50 : decode cX5_sunday 50 = .ok (.iload_n 2, 1) := by decide +kernel
theorem dX5_sunday_51 : decode cX5_sunday 51 = .ok (.iaload, 1) := by decide +kernel
theorem dX5_sunday_52 : decode cX5_sunday 52 = .ok (.iconst 2, 1) := by decide +kernel
theorem dX5_sunday_53 : decode cX5_sunday 53 = .ok (.idiv, 1) := by decide +kernel
theorem dX5_sunday_54 : decode cX5_sunday 54 = .ok (.iastore, 1) := by decide +kernel
theorem dX5_sunday_55 : decode cX5_sunday 55 = .ok (.iinc 2 1, 3) := by decide +kernel
theorem dX5_sunday_58 : decode cX5_sunday 58 = .ok (.goto (-31), 3) := by decide +kernel
theorem dX5_sunday_61 : decode cX5_sunday 61 = .ok (.aload_n 0, 1) := by decide +kernel
theorem dX5_sunday_62 : decode cX5_sunday 62 = .ok (.getfield 19, 3) := by decide +kernel
theorem dX5_sunday_65 : decode cX5_sunday 65 = .ok (.bipush 8, 2) := by decide +kernel
theorem dX5_sunday_67 : decode cX5_sunday 67 = .ok (.iconst 0, 1) := by decide +kernel
theorem dX5_sunday_68 : decode cX5_sunday 68 = .ok (.iastore, 1) := by decide +kernel
theorem dX5_sunday_69 : decode cX5_sunday 69 = .ok (.aload_n 0, 1) := by decide +kernel
theorem dX5_sunday_70 : decode cX5_sunday 70 = .ok (.getfield 19, 3) := by decide +kernel
theorem dX5_sunday_73 : decode cX5_sunday 73 = .ok (.bipush 7, 2) := by decide +kernel
theorem dX5_sunday_75 : decode cX5_sunday 75 = .ok (.iconst 0, 1) := by decide +kernel
theorem dX5_sunday_76 : decode cX5_sunday 76 = .ok (.iastore, 1) := by decide +kernel
theorem dX5_sunday_77 : decode cX5_sunday 77 = .ok (.aload_n 0, 1) := by decide +kernel
theorem dX5_sunday_78 : decode cX5_sunday 78 = .ok (.getfield 19, 3) := by decide +kernel
theorem dX5_sunday_81 : decode cX5_sunday 81 = .ok (.bipush 9, 2) := by decide +kernel
theorem dX5_sunday_83 : decode cX5_sunday 83 = .ok (.dup2, 1) := by decide +kernel
theorem dX5_sunday_84 : decode cX5_sunday 84 = .ok (.iaload, 1) := by decide +kernel
theorem dX5_sunday_85 : decode cX5_sunday 85 = .ok (.iconst 1, 1) := by decide +kernel
theorem dX5_sunday_86 : decode cX5_sunday 86 = .ok (.iadd, 1) := by decide +kernel
theorem dX5_sunday_87 : decode cX5_sunday 87 = .ok (.iastore, 1) := by decide +kernel
theorem dX5_sunday_88 : decode cX5_sunday 88 = .ok (.aload_n 0, 1) := by decide +kernel
theorem dX5_sunday_89 : decode cX5_sunday 89 = .ok (.getfield 19, 3) := by decide +kernel
theorem dX5_sunday_92 : decode cX5_sunday 92 = .ok (.bipush 11, 2) := by decide +kernel
theorem dX5_sunday_94 : decode cX5_sunday 94 = .ok (.dup2, 1) := by decide +kernel
theorem dX5_sunday_95 : decode cX5_sunday 95 = .ok (.iaload, 1) := by decide +kernel
theorem dX5_sunday_96 : decode cX5_sunday 96 = .ok (.iload_n 1, 1) := by decide +kernel
theorem dX5_sunday_97 : decode cX5_sunday 97 = .ok (.ifCond .eq 7, 3) := by decide +kernel
theorem dX5_sunday_100 : decode cX5_sunday 100 = .ok (.iconst 1, 1) := by decide +kernel
theorem dX5_sunday_101 : decode cX5_sunday 101 = .ok (.goto 4, 3) := by decide +kernel
theorem dX5_sunday_104 : decode cX5_sunday 104 = .ok (.iconst 0, 1) := by decide +kernel
theorem dX5_sunday_105 : decode cX5_sunday 105 = .ok (.iadd, 1) := by decide +kernel
theorem dX5_sunday_106 : decode cX5_sunday 106 = .ok (.iastore, 1) := by decide +kernel
theorem dX5_sunday_107 : decode cX5_sunday 107 = .ok (.iload_n 1, 1) := by decide +kernel
theorem dX5_sunday_108 : decode cX5_sunday 108 = .ok (.ifCond .eq 7, 3) := by decide +kernel
theorem dX5_sunday_111 : decode cX5_sunday 111 = .ok (.iconst 1, 1) := by decide +kernel
theorem dX5_sunday_112 : decode cX5_sunday 112 = .ok (.goto 4, 3) := by decide +kernel
theorem dX5_sunday_115 : decode cX5_sunday 115 = .ok (.iconst 0, 1) := by decide +kernel
theorem dX5_sunday_116 : decode cX5_sunday 116 = .ok (.ireturn, 1) := by decide +kernel
theorem dX5_undo_0 : decode cX5_undo 0 = .ok (.aload_n 0, 1) := by decide +kernel
theorem dX5_undo_1 : decode cX5_undo 1 = .ok (.getfield 95, 3) := by decide +kernel
theorem dX5_undo_4 : decode cX5_undo 4 = .ok (.ifCond .ne 6, 3) := by decide +kernel
theorem dX5_undo_7 : decode cX5_undo 7 = .ok (.bipush (-4), 2) := by decide +kernel
theorem dX5_undo_9 : decode cX5_undo 9 = .ok (.ireturn, 1) := by decide +kernel
theorem dX5_undo_10 : decode cX5_undo 10 = .ok (.aload_n 0, 1) := by decide +kernel
theorem dX5_undo_11 : decode cX5_undo 11 = .ok (.dup, 1) := by decide +kernel
theorem dX5_undo_12 : decode cX5_undo 12 = .ok (.getfield 95, 3) := by decide +kernel
theorem dX5_undo_15 : decode cX5_undo 15 = .ok (.iconst 1, 1) := by decide +kernel
theorem dX5_undo_16 : decode cX5_undo 16 = .ok (.isub, 1) := by decide +kernel
theorem dX5_undo_17 : decode cX5_undo 17 = .ok (.putfield 95, 3) := by decide +kernel
theorem dX5_undo_20 : decode cX5_undo 20 = .ok (.iconst 0, 1) := by decide +kernel
theorem dX5_undo_21 : decode cX5_undo 21 = .ok (.istore_n 1, 1) := by decide +kernel
theorem dX5_undo_22 : decode cX5_undo 22 = .ok (.iload_n 1, 1) := by decide +kernel
theorem dX5_undo_23 : decode cX5_undo 23 = .ok (.bipush 12, 2) := by decide +kernel
theorem dX5_undo_25 : decode cX5_undo 25 = .ok (.if_icmp .ge 29, 3) := by decide +kernel
theorem dX5_undo_28 : decode cX5_undo 28 = .ok (.aload_n 0, 1) := by decide +kernel
theorem dX5_undo_29 : decode cX5_undo 29 = .ok (.getfield 19, 3) := by decide +kernel
theorem dX5_undo_32 : decode cX5_undo 32 = .ok (.iload_n 1, 1) := by decide +kernel
theorem dX5_undo_33 : decode cX5_undo 33 = .ok (.aload_n 0, 1) := by decide +kernel
theorem dX5_undo_34 : decode cX5_undo 34 = .ok (.getfield 22, 3) := by decide +kernel
theorem dX5_undo_37 : decode cX5_undo 37 = .ok (.bipush 12, 2) := by decide +kernel
theorem dX5_undo_39 : decode cX5_undo 39 = .ok (.aload_n 0, 1) := by decide +kernel
theorem dX5_undo_40 : decode cX5_undo 40 = .ok (.getfield 95, 3) := by decide +kernel
theorem dX5_undo_43 : decode cX5_undo 43 = .ok (.imul, 1) := by decide +kernel
theorem dX5_undo_44 : decode cX5_undo 44 = .ok (.iload_n 1, 1) := by decide +kernel
theorem dX5_undo_45 : decode cX5_undo 45 = .ok (.iadd, 1) := by decide +kernel
theorem dX5_undo_46 : decode cX5_undo 46 = .ok (.iaload, 1) := by decide +kernel
theorem dX5_undo_47 : decode cX5_undo 47 = .ok (.iastore, 1) := by decide +kernel
theorem dX5_undo_48 : decode cX5_undo 48 = .ok (.iinc 1 1, 3) := by decide +kernel
theorem dX5_undo_51 : decode cX5_undo 51 = .ok (.goto (-29), 3) := by decide +kernel
theorem dX5_undo_54 : decode cX5_undo 54 = .ok (.aload_n 0, 1) := by decide +kernel
theorem dX5_undo_55 : decode cX5_undo 55 = .ok (.getfield 95, 3) := by decide +kernel
theorem dX5_undo_58 : decode cX5_undo 58 = .ok (.ireturn, 1) := by decide +kernel
theorem dX5_keep_0 : decode cX5_keep 0 = .ok (.iload_n 1, 1) := by decide +kernel
theorem dX5_keep_1 : decode cX5_keep 1 = .ok (.iconst 0, 1) := by decide +kernel
theorem dX5_keep_2 : decode cX5_keep 2 = .ok (.iconst 1, 1) := by decide +kernel
theorem dX5_keep_3 : decode cX5_keep 3 = .ok (.invokestatic 44, 3) := by decide +kernel
theorem dX5_keep_6 : decode cX5_keep 6 = .ok (.ifCond .ne 6, 3) := by decide +kernel
theorem dX5_keep_9 : decode cX5_keep 9 = .ok (.bipush (-2), 2) := by decide +kernel
theorem dX5_keep_11 : decode cX5_keep 11 = .ok (.ireturn, 1) := by decide +kernel
theorem dX5_keep_12 : decode cX5_keep 12 = .ok (.iconst 0, 1) := by decide +kernel
theorem dX5_keep_13 : decode cX5_keep 13 = .ok (.istore_n 2, 1) := by decide +kernel
theorem dX5_keep_14 : decode cX5_keep 14 = .ok (.iload_n 2, 1) := by decide +kernel
theorem dX5_keep_15 : decode cX5_keep 15 = .ok (.bipush 12, 2) := by decide +kernel
theorem dX5_keep_17 : decode cX5_keep 17 = .ok (.if_icmp .ge 26, 3) := by decide +kernel
theorem dX5_keep_20 : decode cX5_keep 20 = .ok (.aload_n 0, 1) := by decide +kernel
theorem dX5_keep_21 : decode cX5_keep 21 = .ok (.getfield 25, 3) := by decide +kernel
theorem dX5_keep_24 : decode cX5_keep 24 = .ok (.bipush 12, 2) := by decide +kernel
theorem dX5_keep_26 : decode cX5_keep 26 = .ok (.iload_n 1, 1) := by decide +kernel
theorem dX5_keep_27 : decode cX5_keep 27 = .ok (.imul, 1) := by decide +kernel
theorem dX5_keep_28 : decode cX5_keep 28 = .ok (.iload_n 2, 1) := by decide +kernel
theorem dX5_keep_29 : decode cX5_keep 29 = .ok (.iadd, 1) := by decide +kernel
theorem dX5_keep_30 : decode cX5_keep 30 = .ok (.aload_n 0, 1) := by decide +kernel
theorem dX5_keep_31 : decode cX5_keep 31 = .ok (.getfield 19, 3) := by decide +kernel
theorem dX5_keep_34 : decode cX5_keep 34 = .ok (.iload_n 2, 1) := by decide +kernel
theorem dX5_keep_35 : decode cX5_keep 35 = .ok (.iaload, 1) := by decide +kernel
theorem dX5_keep_36 : decode cX5_keep 36 = .ok (.iastore, 1) := by decide +kernel
theorem dX5_keep_37 : decode cX5_keep 37 = .ok (.iinc 2 1, 3) := by decide +kernel
theorem dX5_keep_40 : decode cX5_keep 40 = .ok (.goto (-26), 3) := by decide +kernel
theorem dX5_keep_43 : decode cX5_keep 43 = .ok (.aload_n 0, 1) := by decide +kernel
theorem dX5_keep_44 : decode cX5_keep 44 = .ok (.getfield 28, 3) := by decide +kernel
theorem dX5_keep_47 : decode cX5_keep 47 = .ok (.iload_n 1, 1) := by decide +kernel
theorem dX5_keep_48 : decode cX5_keep 48 = .ok (.iconst 1, 1) := by decide +kernel
theorem dX5_keep_49 : decode cX5_keep 49 = .ok (.bastore, 1) := by decide +kernel
theorem dX5_keep_50 : decode cX5_keep 50 = .ok (.aload_n 0, 1) := by decide +kernel
theorem dX5_keep_51 : decode cX5_keep 51 = .ok (.getfield 19, 3) := by decide +kernel
theorem dX5_keep_54 : decode cX5_keep 54 = .ok (.bipush 9, 2) := by decide +kernel
theorem dX5_keep_56 : decode cX5_keep 56 = .ok (.iaload, 1) := by decide +kernel
theorem dX5_keep_57 : decode cX5_keep 57 = .ok (.ireturn, 1) := by decide +kernel
theorem dX5_back_0 : decode cX5_back 0 = .ok (.iload_n 1, 1) := by decide +kernel
theorem dX5_back_1 : decode cX5_back 1 = .ok (.iconst 0, 1) := by decide +kernel
theorem dX5_back_2 : decode cX5_back 2 = .ok (.iconst 1, 1) := by decide +kernel
theorem dX5_back_3 : decode cX5_back 3 = .ok (.invokestatic 44, 3) := by decide +kernel
theorem dX5_back_6 : decode cX5_back 6 = .ok (.ifCond .ne 6, 3) := by decide +kernel
theorem dX5_back_9 : decode cX5_back 9 = .ok (.bipush (-2), 2) := by decide +kernel
theorem dX5_back_11 : decode cX5_back 11 = .ok (.ireturn, 1) := by decide +kernel
theorem dX5_back_12 : decode cX5_back 12 = .ok (.aload_n 0, 1) := by decide +kernel
theorem dX5_back_13 : decode cX5_back 13 = .ok (.getfield 28, 3) := by decide +kernel
theorem dX5_back_16 : decode cX5_back 16 = .ok (.iload_n 1, 1) := by decide +kernel
theorem dX5_back_17 : decode cX5_back 17 = .ok (.baload, 1) := by decide +kernel
theorem dX5_back_18 : decode cX5_back 18 = .ok (.ifCond .ne 6, 3) := by decide +kernel
theorem dX5_back_21 : decode cX5_back 21 = .ok (.bipush (-4), 2) := by decide +kernel
theorem dX5_back_23 : decode cX5_back 23 = .ok (.ireturn, 1) := by decide +kernel
theorem dX5_back_24 : decode cX5_back 24 = .ok (.iconst 0, 1) := by decide +kernel
theorem dX5_back_25 : decode cX5_back 25 = .ok (.istore_n 2, 1) := by decide +kernel
theorem dX5_back_26 : decode cX5_back 26 = .ok (.iload_n 2, 1) := by decide +kernel
theorem dX5_back_27 : decode cX5_back 27 = .ok (.bipush 12, 2) := by decide +kernel
theorem dX5_back_29 : decode cX5_back 29 = .ok (.if_icmp .ge 26, 3) := by decide +kernel
theorem dX5_back_32 : decode cX5_back 32 = .ok (.aload_n 0, 1) := by decide +kernel
theorem dX5_back_33 : decode cX5_back 33 = .ok (.getfield 19, 3) := by decide +kernel
theorem dX5_back_36 : decode cX5_back 36 = .ok (.iload_n 2, 1) := by decide +kernel
theorem dX5_back_37 : decode cX5_back 37 = .ok (.aload_n 0, 1) := by decide +kernel
theorem dX5_back_38 : decode cX5_back 38 = .ok (.getfield 25, 3) := by decide +kernel
theorem dX5_back_41 : decode cX5_back 41 = .ok (.bipush 12, 2) := by decide +kernel
theorem dX5_back_43 : decode cX5_back 43 = .ok (.iload_n 1, 1) := by decide +kernel
theorem dX5_back_44 : decode cX5_back 44 = .ok (.imul, 1) := by decide +kernel
theorem dX5_back_45 : decode cX5_back 45 = .ok (.iload_n 2, 1) := by decide +kernel
theorem dX5_back_46 : decode cX5_back 46 = .ok (.iadd, 1) := by decide +kernel
theorem dX5_back_47 : decode cX5_back 47 = .ok (.iaload, 1) := by decide +kernel
theorem dX5_back_48 : decode cX5_back 48 = .ok (.iastore, 1) := by decide +kernel
theorem dX5_back_49 : decode cX5_back 49 = .ok (.iinc 2 1, 3) := by decide +kernel
theorem dX5_back_52 : decode cX5_back 52 = .ok (.goto (-26), 3) := by decide +kernel
theorem dX5_back_55 : decode cX5_back 55 = .ok (.aload_n 0, 1) := by decide +kernel
theorem dX5_back_56 : decode cX5_back 56 = .ok (.iconst 0, 1) := by decide +kernel
theorem dX5_back_57 : decode cX5_back 57 = .ok (.putfield 95, 3) := by decide +kernel
theorem dX5_back_60 : decode cX5_back 60 = .ok (.aload_n 0, 1) := by decide +kernel
theorem dX5_back_61 : decode cX5_back 61 = .ok (.getfield 19, 3) := by decide +kernel
theorem dX5_back_64 : decode cX5_back 64 = .ok (.bipush 9, 2) := by decide +kernel
theorem dX5_back_66 : decode cX5_back 66 = .ok (.iaload, 1) := by decide +kernel
theorem dX5_back_67 : decode cX5_back 67 = .ok (.ireturn, 1) := by decide +kernel
theorem dX5_stops_0 : decode cX5_stops 0 = .ok (.aload_n 0, 1) := by decide +kernel
theorem dX5_stops_1 : decode cX5_stops 1 = .ok (.invokevirtual 119, 3) := by decide +kernel
theorem dX5_stops_4 : decode cX5_stops 4 = .ok (.istore_n 1, 1) := by decide +kernel
theorem dX5_stops_5 : decode cX5_stops 5 = .ok (.iconst 0, 1) := by decide +kernel
theorem dX5_stops_6 : decode cX5_stops 6 = .ok (.istore_n 2, 1) := by decide +kernel
theorem dX5_stops_7 : decode cX5_stops 7 = .ok (.iconst 0, 1) := by decide +kernel
theorem dX5_stops_8 : decode cX5_stops 8 = .ok (.istore_n 3, 1) := by decide +kernel
theorem dX5_stops_9 : decode cX5_stops 9 = .ok (.iload_n 3, 1) := by decide +kernel
theorem dX5_stops_10 : decode cX5_stops 10 = .ok (.aload_n 0, 1) := by decide +kernel
theorem dX5_stops_11 : decode cX5_stops 11 = .ok (.getfield 13, 3) := by decide +kernel
theorem dX5_stops_14 : decode cX5_stops 14 = .ok (.iconst 0, 1) := by decide +kernel
theorem dX5_stops_15 : decode cX5_stops 15 = .ok (.iaload, 1) := by decide +kernel
theorem dX5_stops_16 : decode cX5_stops 16 = .ok (.if_icmp .ge 55, 3) := by decide +kernel
theorem dX5_stops_19 : decode cX5_stops 19 = .ok (.aload_n 0, 1) := by decide +kernel
theorem dX5_stops_20 : decode cX5_stops 20 = .ok (.iload_n 1, 1) := by decide +kernel
theorem dX5_stops_21 : decode cX5_stops 21 = .ok (.aload_n 0, 1) := by decide +kernel
theorem dX5_stops_22 : decode cX5_stops 22 = .ok (.invokevirtual 122, 3) := by decide +kernel
theorem dX5_stops_25 : decode cX5_stops 25 = .ok (.invokevirtual 125, 3) := by decide +kernel
theorem dX5_stops_28 : decode cX5_stops 28 = .ok (.ifCond .eq 5, 3) := by decide +kernel
theorem dX5_stops_31 : decode cX5_stops 31 = .ok (.iload_n 2, 1) := by decide +kernel
theorem dX5_stops_32 : decode cX5_stops 32 = .ok (.ireturn, 1) := by decide +kernel
theorem dX5_stops_33 : decode cX5_stops 33 = .ok (.aload_n 0, 1) := by decide +kernel
theorem dX5_stops_34 : decode cX5_stops 34 = .ok (.getfield 19, 3) := by decide +kernel
theorem dX5_stops_37 : decode cX5_stops 37 = .ok (.bipush 7, 2) := by decide +kernel
theorem dX5_stops_39 : decode cX5_stops 39 = .ok (.iaload, 1) := by decide +kernel
theorem dX5_stops_40 : decode cX5_stops 40 = .ok (.iload_n 3, 1) := by decide +kernel
theorem dX5_stops_41 : decode cX5_stops 41 = .ok (.ishr, 1) := by decide +kernel
theorem dX5_stops_42 : decode cX5_stops 42 = .ok (.iconst 1, 1) := by decide +kernel
theorem dX5_stops_43 : decode cX5_stops 43 = .ok (.iand, 1) := by decide +kernel
theorem dX5_stops_44 : decode cX5_stops 44 = .ok (.ifCond .ne 21, 3) := by decide +kernel
theorem dX5_stops_47 : decode cX5_stops 47 = .ok (.iload_n 1, 1) := by decide +kernel
theorem dX5_stops_48 : decode cX5_stops 48 = .ok (.aload_n 0, 1) := by decide +kernel
theorem dX5_stops_49 : decode cX5_stops 49 = .ok (.iload_n 3, 1) := by decide +kernel
theorem dX5_stops_50 : decode cX5_stops 50 = .ok (.aload_n 0, 1) := by decide +kernel
theorem dX5_stops_51 : decode cX5_stops 51 = .ok (.getfield 19, 3) := by decide +kernel
theorem dX5_stops_54 : decode cX5_stops 54 = .ok (.bipush 6, 2) := by decide +kernel
theorem dX5_stops_56 : decode cX5_stops 56 = .ok (.iaload, 1) := by decide +kernel
theorem dX5_stops_57 : decode cX5_stops 57 = .ok (.invokevirtual 112, 3) := by decide +kernel
theorem dX5_stops_60 : decode cX5_stops 60 = .ok (.iadd, 1) := by decide +kernel
theorem dX5_stops_61 : decode cX5_stops 61 = .ok (.istore_n 1, 1) := by decide +kernel
theorem dX5_stops_62 : decode cX5_stops 62 = .ok (.iinc 2 1, 3) := by decide +kernel
theorem dX5_stops_65 : decode cX5_stops 65 = .ok (.iinc 3 1, 3) := by decide +kernel
theorem dX5_stops_68 : decode cX5_stops 68 = .ok (.goto (-59), 3) := by decide +kernel
theorem dX5_stops_71 : decode cX5_stops 71 = .ok (.aload_n 0, 1) := by decide +kernel
theorem dX5_stops_72 : decode cX5_stops 72 = .ok (.iload_n 1, 1) := by decide +kernel
theorem dX5_stops_73 : decode cX5_stops 73 = .ok (.aload_n 0, 1) := by decide +kernel
theorem dX5_stops_74 : decode cX5_stops 74 = .ok (.invokevirtual 122, 3) := by decide +kernel
theorem dX5_stops_77 : decode cX5_stops 77 = .ok (.invokevirtual 125, 3) := by decide +kernel
theorem dX5_stops_80 : decode cX5_stops 80 = .ok (.ifCond .eq 7, 3) := by decide +kernel
theorem dX5_stops_83 : decode cX5_stops 83 = .ok (.iload_n 2, 1) := by decide +kernel
theorem dX5_stops_84 : decode cX5_stops 84 = .ok (.goto 4, 3) := by decide +kernel
theorem dX5_stops_87 : decode cX5_stops 87 = .ok (.iconst (-1), 1) := by decide +kernel
theorem dX5_stops_88 : decode cX5_stops 88 = .ok (.ireturn, 1) := by decide +kernel
theorem dX5_minutesOf_0 : decode cX5_minutesOf 0 = .ok (.iconst 0, 1) := by decide +kernel
theorem dX5_minutesOf_1 : decode cX5_minutesOf 1 = .ok (.istore_n 2, 1) := by decide +kernel
theorem dX5_minutesOf_2 : decode cX5_minutesOf 2 = .ok (.iconst 0, 1) := by decide +kernel
theorem dX5_minutesOf_3 : decode cX5_minutesOf 3 = .ok (.istore_n 3, 1) := by decide +kernel
theorem dX5_minutesOf_4 : decode cX5_minutesOf 4 = .ok (.iload_n 3, 1) := by decide +kernel
theorem dX5_minutesOf_5 : decode cX5_minutesOf 5 = .ok (.aload_n 0, 1) := by decide +kernel
theorem dX5_minutesOf_6 : decode cX5_minutesOf 6 = .ok (.getfield 13, 3) := by decide +kernel
theorem dX5_minutesOf_9 : decode cX5_minutesOf 9 = .ok (.iconst 0, 1) := by decide +kernel
theorem dX5_minutesOf_10 : decode cX5_minutesOf 10 = .ok (.iaload, 1) := by decide +kernel
theorem dX5_minutesOf_11 : decode cX5_minutesOf 11 = .ok (.if_icmp .ge 34, 3) := by decide +kernel
theorem dX5_minutesOf_14 : decode cX5_minutesOf 14 = .ok (.iload_n 2, 1) := by decide +kernel
theorem dX5_minutesOf_15 : decode cX5_minutesOf 15 = .ok (.iload_n 1, 1) := by decide +kernel
theorem dX5_minutesOf_16 : decode cX5_minutesOf 16 = .ok (.iload_n 3, 1) := by decide +kernel
theorem dX5_minutesOf_17 : decode cX5_minutesOf 17 = .ok (.ishr, 1) := by decide +kernel
theorem dX5_minutesOf_18 : decode cX5_minutesOf 18 = .ok (.iconst 1, 1) := by decide +kernel
theorem dX5_minutesOf_19 : decode cX5_minutesOf 19 = .ok (.iand, 1) := by decide +kernel
theorem dX5_minutesOf_20 : decode cX5_minutesOf 20 = .ok (.iconst 1, 1) := by decide +kernel
theorem dX5_minutesOf_21 : decode cX5_minutesOf 21 = .ok (.if_icmp .ne 15, 3) := by decide +kernel
theorem dX5_minutesOf_24 : decode cX5_minutesOf 24 = .ok (.aload_n 0, 1) := by decide +kernel
theorem dX5_minutesOf_25 : decode cX5_minutesOf 25 = .ok (.getfield 13, 3) := by decide +kernel
theorem dX5_minutesOf_28 : decode cX5_minutesOf 28 = .ok (.bipush 21, 2) := by decide +kernel
theorem dX5_minutesOf_30 : decode cX5_minutesOf 30 = .ok (.iload_n 3, 1) := by decide +kernel
theorem dX5_minutesOf_31 : decode cX5_minutesOf 31 = .ok (.iadd, 1) := by decide +kernel
theorem dX5_minutesOf_32 : decode cX5_minutesOf 32 = .ok (.iaload, 1) := by decide +kernel
theorem dX5_minutesOf_33 : decode cX5_minutesOf 33 = .ok (.goto 4, 3) := by decide +kernel
theorem dX5_minutesOf_36 : decode cX5_minutesOf 36 = .ok (.iconst 0, 1) := by decide +kernel
theorem dX5_minutesOf_37 : decode cX5_minutesOf 37 = .ok (.iadd, 1) := by decide +kernel
theorem dX5_minutesOf_38 : decode cX5_minutesOf 38 = .ok (.istore_n 2, 1) := by decide +kernel
theorem dX5_minutesOf_39 : decode cX5_minutesOf 39 = .ok (.iinc 3 1, 3) := by decide +kernel
theorem dX5_minutesOf_42 : decode cX5_minutesOf 42 = .ok (.goto (-38), 3) := by decide +kernel
theorem dX5_minutesOf_45 : decode cX5_minutesOf 45 = .ok (.iload_n 2, 1) := by decide +kernel
theorem dX5_minutesOf_46 : decode cX5_minutesOf 46 = .ok (.ireturn, 1) := by decide +kernel
theorem dX5_ones_0 : decode cX5_ones 0 = .ok (.iconst 0, 1) := by decide +kernel
theorem dX5_ones_1 : decode cX5_ones 1 = .ok (.istore_n 1, 1) := by decide +kernel
theorem dX5_ones_2 : decode cX5_ones 2 = .ok (.iconst 0, 1) := by decide +kernel
theorem dX5_ones_3 : decode cX5_ones 3 = .ok (.istore_n 2, 1) := by decide +kernel
theorem dX5_ones_4 : decode cX5_ones 4 = .ok (.iload_n 2, 1) := by decide +kernel
theorem dX5_ones_5 : decode cX5_ones 5 = .ok (.bipush 8, 2) := by decide +kernel
theorem dX5_ones_7 : decode cX5_ones 7 = .ok (.if_icmp .ge 17, 3) := by decide +kernel
theorem dX5_ones_10 : decode cX5_ones 10 = .ok (.iload_n 1, 1) := by decide +kernel
theorem dX5_ones_11 : decode cX5_ones 11 = .ok (.iload_n 0, 1) := by decide +kernel
theorem dX5_ones_12 : decode cX5_ones 12 = .ok (.iload_n 2, 1) := by decide +kernel
theorem dX5_ones_13 : decode cX5_ones 13 = .ok (.ishr, 1) := by decide +kernel
theorem dX5_ones_14 : decode cX5_ones 14 = .ok (.iconst 1, 1) := by decide +kernel
theorem dX5_ones_15 : decode cX5_ones 15 = .ok (.iand, 1) := by decide +kernel
theorem dX5_ones_16 : decode cX5_ones 16 = .ok (.iadd, 1) := by decide +kernel
theorem dX5_ones_17 : decode cX5_ones 17 = .ok (.istore_n 1, 1) := by decide +kernel
theorem dX5_ones_18 : decode cX5_ones 18 = .ok (.iinc 2 1, 3) := by decide +kernel
theorem dX5_ones_21 : decode cX5_ones 21 = .ok (.goto (-17), 3) := by decide +kernel
theorem dX5_ones_24 : decode cX5_ones 24 = .ok (.iload_n 1, 1) := by decide +kernel
theorem dX5_ones_25 : decode cX5_ones 25 = .ok (.ireturn, 1) := by decide +kernel
theorem dX5_would_0 : decode cX5_would 0 = .ok (.iload_n 1, 1) := by decide +kernel
theorem dX5_would_1 : decode cX5_would 1 = .ok (.aload_n 0, 1) := by decide +kernel
theorem dX5_would_2 : decode cX5_would 2 = .ok (.getfield 19, 3) := by decide +kernel
theorem dX5_would_5 : decode cX5_would 5 = .ok (.bipush 7, 2) := by decide +kernel
theorem dX5_would_7 : decode cX5_would 7 = .ok (.iaload, 1) := by decide +kernel
theorem dX5_would_8 : decode cX5_would 8 = .ok (.iand, 1) := by decide +kernel
theorem dX5_would_9 : decode cX5_would 9 = .ok (.ifCond .ne 32, 3) := by decide +kernel
theorem dX5_would_12 : decode cX5_would 12 = .ok (.aload_n 0, 1) := by decide +kernel
theorem dX5_would_13 : decode cX5_would 13 = .ok (.aload_n 0, 1) := by decide +kernel
theorem dX5_would_14 : decode cX5_would 14 = .ok (.invokevirtual 119, 3) := by decide +kernel
theorem dX5_would_17 : decode cX5_would 17 = .ok (.aload_n 0, 1) := by decide +kernel
theorem dX5_would_18 : decode cX5_would 18 = .ok (.iload_n 1, 1) := by decide +kernel
theorem dX5_would_19 : decode cX5_would 19 = .ok (.aload_n 0, 1) := by decide +kernel
theorem dX5_would_20 : decode cX5_would 20 = .ok (.getfield 19, 3) := by decide +kernel
theorem dX5_would_23 : decode cX5_would 23 = .ok (.bipush 6, 2) := by decide +kernel
theorem dX5_would_25 : decode cX5_would 25 = .ok (.iaload, 1) := by decide +kernel
theorem dX5_would_26 : decode cX5_would 26 = .ok (.invokevirtual 116, 3) := by decide +kernel
theorem dX5_would_29 : decode cX5_would 29 = .ok (.iadd, 1) := by decide +kernel
theorem dX5_would_30 : decode cX5_would 30 = .ok (.iload_n 2, 1) := by decide +kernel
theorem dX5_would_31 : decode cX5_would 31 = .ok (.invokevirtual 125, 3) := by decide +kernel
theorem dX5_would_34 : decode cX5_would 34 = .ok (.ifCond .eq 7, 3) := by decide +kernel
theorem dX5_would_37 : decode cX5_would 37 = .ok (.iconst 1, 1) := by decide +kernel
theorem dX5_would_38 : decode cX5_would 38 = .ok (.goto 4, 3) := by decide +kernel
theorem dX5_would_41 : decode cX5_would 41 = .ok (.iconst 0, 1) := by decide +kernel
theorem dX5_would_42 : decode cX5_would 42 = .ok (.ireturn, 1) := by decide +kernel
theorem dX5_soonest_0 : decode cX5_soonest 0 = .ok (.iload_n 1, 1) := by decide +kernel
theorem dX5_soonest_1 : decode cX5_soonest 1 = .ok (.iconst 0, 1) := by decide +kernel
theorem dX5_soonest_2 : decode cX5_soonest 2 = .ok (.iconst 1, 1) := by decide +kernel
theorem dX5_soonest_3 : decode cX5_soonest 3 = .ok (.invokestatic 44, 3) := by decide +kernel
theorem dX5_soonest_6 : decode cX5_soonest 6 = .ok (.ifCond .ne 6, 3) := by decide +kernel
theorem dX5_soonest_9 : decode cX5_soonest 9 = .ok (.bipush (-3), 2) := by decide +kernel
theorem dX5_soonest_11 : decode cX5_soonest 11 = .ok (.ireturn, 1) := by decide +kernel
theorem dX5_soonest_12 : decode cX5_soonest 12 = .ok (.iconst (-1), 1) := by decide +kernel
theorem dX5_soonest_13 : decode cX5_soonest 13 = .ok (.istore_n 2, 1) := by decide +kernel
theorem dX5_soonest_14 : decode cX5_soonest 14 = .ok (.aload_n 0, 1) := by decide +kernel
theorem dX5_soonest_15 : decode cX5_soonest 15 = .ok (.invokevirtual 122, 3) := by decide +kernel
theorem dX5_soonest_18 : decode cX5_soonest 18 = .ok (.istore_n 3, 1) := by decide +kernel
theorem dX5_soonest_19 : decode cX5_soonest 19 = .ok (.iconst 0, 1) := by decide +kernel
theorem dX5_soonest_20 : decode cX5_soonest 20 = .ok (.istore 4, 2) := by decide +kernel
theorem dX5_soonest_22 : decode cX5_soonest 22 = .ok (.iload 4, 2) := by decide +kernel
theorem dX5_soonest_24 : decode cX5_soonest 24 = .ok (.iconst 1, 1) := by decide +kernel
theorem dX5_soonest_25 : decode cX5_soonest 25 = .ok (.aload_n 0, 1) := by decide +kernel
theorem dX5_soonest_26 : decode cX5_soonest 26 = .ok (.getfield 13, 3) := by decide +kernel
theorem dX5_soonest_29 : decode cX5_soonest 29 = .ok (.iconst 0, 1) := by decide +kernel
theorem dX5_soonest_30 : decode cX5_soonest 30 = .ok (.iaload, 1) := by decide +kernel
theorem dX5_soonest_31 : decode cX5_soonest 31 = .ok (.ishl, 1) := by decide +kernel
theorem dX5_soonest_32 : decode cX5_soonest 32 = .ok (.if_icmp .ge 71, 3) := by decide +kernel
theorem dX5_soonest_35 : decode cX5_soonest 35 = .ok (.aload_n 0, 1) := by decide +kernel
theorem dX5_soonest_36 : decode cX5_soonest 36 = .ok (.iload 4, 2) := by decide +kernel
theorem dX5_soonest_38 : decode cX5_soonest 38 = .ok (.iload_n 3, 1) := by decide +kernel
theorem dX5_soonest_39 : decode cX5_soonest 39 = .ok (.invokevirtual 138, 3) := by decide +kernel
theorem dX5_soonest_42 : decode cX5_soonest 42 = .ok (.ifCond .eq 55, 3) := by decide +kernel
theorem dX5_soonest_45 : decode cX5_soonest 45 = .ok (.iload_n 2, 1) := by decide +kernel
theorem dX5_soonest_46 : decode cX5_soonest 46 = .ok (.iconst (-1), 1) := by decide +kernel
theorem dX5_soonest_47 : decode cX5_soonest 47 = .ok (.if_icmp .ne 7, 3) := by decide +kernel
theorem dX5_soonest_50 : decode cX5_soonest 50 = .ok (.iconst (-1), 1) := by decide +kernel
theorem dX5_soonest_51 : decode cX5_soonest 51 = .ok (.goto 15, 3) := by decide +kernel
theorem dX5_soonest_54 : decode cX5_soonest 54 = .ok (.aload_n 0, 1) := by decide +kernel
theorem dX5_soonest_55 : decode cX5_soonest 55 = .ok (.iload 4, 2) := by decide +kernel
theorem dX5_soonest_57 : decode cX5_soonest 57 = .ok (.invokevirtual 141, 3) := by decide +kernel
theorem dX5_soonest_60 : decode cX5_soonest 60 = .ok (.aload_n 0, 1) := by decide +kernel
theorem dX5_soonest_61 : decode cX5_soonest 61 = .ok (.iload_n 2, 1) := by decide +kernel
theorem dX5_soonest_62 : decode cX5_soonest 62 = .ok (.invokevirtual 141, 3) := by decide +kernel
theorem dX5_soonest_65 : decode cX5_soonest 65 = .ok (.isub, 1) := by decide +kernel
theorem dX5_soonest_66 : decode cX5_soonest 66 = .ok (.istore 5, 2) := by decide +kernel
theorem dX5_soonest_68 : decode cX5_soonest 68 = .ok (.iload 5, 2) := by decide +kernel
theorem dX5_soonest_70 : decode cX5_soonest 70 = .ok (.ifCond .lt 20, 3) := by decide +kernel
theorem dX5_soonest_73 : decode cX5_soonest 73 = .ok (.iload 5, 2) := by decide +kernel
theorem dX5_soonest_75 : decode cX5_soonest 75 = .ok (.ifCond .ne 20, 3) := by decide +kernel
theorem dX5_soonest_78 : decode cX5_soonest 78 = .ok (.iload 4, 2) := by decide +kernel
theorem dX5_soonest_80 : decode cX5_soonest 80 = .ok (.invokestatic 144, 3) := by decide +kernel
theorem dX5_soonest_83 : decode cX5_soonest 83 = .ok (.iload_n 2, 1) := by decide +kernel
theorem dX5_soonest_84 : decode cX5_soonest 84 = .ok (.invokestatic 144, 3) := by decide +kernel
theorem dX5_soonest_87 : decode cX5_soonest 87 = .ok (.if_icmp .ge 8, 3) := by decide +kernel
theorem dX5_soonest_90 : decode cX5_soonest 90 = .ok (.iload 4, 2) := by decide +kernel
theorem dX5_soonest_92 : decode cX5_soonest 92 = .ok (.goto 4, 3) := by decide +kernel
theorem dX5_soonest_95 : decode cX5_soonest 95 = .ok (.iload_n 2, 1) := by decide +kernel
theorem dX5_soonest_96 : decode cX5_soonest 96 = .ok (.istore_n 2, 1) := by decide +kernel
theorem dX5_soonest_97 : decode cX5_soonest 97 = .ok (.iinc 4 1, 3) := by decide +kernel
theorem dX5_soonest_100 : decode cX5_soonest 100 = .ok (.goto (-78), 3) := by decide +kernel
theorem dX5_soonest_103 : decode cX5_soonest 103 = .ok (.iload_n 1, 1) := by decide +kernel
theorem dX5_soonest_104 : decode cX5_soonest 104 = .ok (.ifCond .eq 8, 3) := by decide +kernel
theorem dX5_soonest_107 : decode cX5_soonest 107 = .ok (.iload_n 2, 1) := by decide +kernel
theorem dX5_soonest_108 : decode cX5_soonest 108 = .ok (.iconst (-1), 1) := by decide +kernel
theorem dX5_soonest_109 : decode cX5_soonest 109 = .ok (.if_icmp .ne 7, 3) := by decide +kernel
theorem dX5_soonest_112 : decode cX5_soonest 112 = .ok (.iload_n 2, 1) := by decide +kernel
theorem dX5_soonest_113 : decode cX5_soonest 113 = .ok (.goto 8, 3) := by decide +kernel
theorem dX5_soonest_116 : decode cX5_soonest 116 = .ok (.aload_n 0, 1) := by decide +kernel
theorem dX5_soonest_117 : decode cX5_soonest 117 = .ok (.iload_n 2, 1) := by decide +kernel
theorem dX5_soonest_118 : decode cX5_soonest 118 = .ok (.invokevirtual 141, 3) := by decide +kernel
theorem dX5_soonest_121 : decode cX5_soonest 121 = .ok (.ireturn, 1) := by decide +kernel
theorem dX5_never_0 : decode cX5_never 0 = .ok (.iload_n 1, 1) := by decide +kernel
theorem dX5_never_1 : decode cX5_never 1 = .ok (.iconst 0, 1) := by decide +kernel
theorem dX5_never_2 : decode cX5_never 2 = .ok (.bipush 99, 2) := by decide +kernel
theorem dX5_never_4 : decode cX5_never 4 = .ok (.invokestatic 44, 3) := by decide +kernel
theorem dX5_never_7 : decode cX5_never 7 = .ok (.ifCond .ne 6, 3) := by decide +kernel
theorem dX5_never_10 : decode cX5_never 10 = .ok (.bipush (-3), 2) := by decide +kernel
theorem dX5_never_12 : decode cX5_never 12 = .ok (.ireturn, 1) := by decide +kernel
theorem dX5_never_13 : decode cX5_never 13 = .ok (.iconst 0, 1) := by decide +kernel
theorem dX5_never_14 : decode cX5_never 14 = .ok (.istore_n 2, 1) := by decide +kernel
theorem dX5_never_15 : decode cX5_never 15 = .ok (.iconst 0, 1) := by decide +kernel
theorem dX5_never_16 : decode cX5_never 16 = .ok (.istore_n 3, 1) := by decide +kernel
theorem dX5_never_17 : decode cX5_never 17 = .ok (.iload_n 3, 1) := by decide +kernel
theorem dX5_never_18 : decode cX5_never 18 = .ok (.iconst 1, 1) := by decide +kernel
theorem dX5_never_19 : decode cX5_never 19 = .ok (.aload_n 0, 1) := by decide +kernel
theorem dX5_never_20 : decode cX5_never 20 = .ok (.getfield 13, 3) := by decide +kernel
theorem dX5_never_23 : decode cX5_never 23 = .ok (.iconst 0, 1) := by decide +kernel
theorem dX5_never_24 : decode cX5_never 24 = .ok (.iaload, 1) := by decide +kernel
theorem dX5_never_25 : decode cX5_never 25 = .ok (.ishl, 1) := by decide +kernel
theorem dX5_never_26 : decode cX5_never 26 = .ok (.if_icmp .ge 28, 3) := by decide +kernel
theorem dX5_never_29 : decode cX5_never 29 = .ok (.iload_n 2, 1) := by decide +kernel
theorem dX5_never_30 : decode cX5_never 30 = .ok (.ifCond .ne 12, 3) := by decide +kernel
theorem dX5_never_33 : decode cX5_never 33 = .ok (.aload_n 0, 1) := by decide +kernel
theorem dX5_never_34 : decode cX5_never 34 = .ok (.iload_n 3, 1) := by decide +kernel
theorem dX5_never_35 : decode cX5_never 35 = .ok (.iload_n 1, 1) := by decide +kernel
theorem dX5_never_36 : decode cX5_never 36 = .ok (.invokevirtual 138, 3) := by decide +kernel
theorem dX5_never_39 : decode cX5_never 39 = .ok (.ifCond .eq 7, 3) := by decide +kernel
theorem dX5_never_42 : decode cX5_never 42 = .ok (.iconst 1, 1) := by decide +kernel
theorem dX5_never_43 : decode cX5_never 43 = .ok (.goto 4, 3) := by decide +kernel
theorem dX5_never_46 : decode cX5_never 46 = .ok (.iconst 0, 1) := by decide +kernel
theorem dX5_never_47 : decode cX5_never 47 = .ok (.istore_n 2, 1) := by decide +kernel
theorem dX5_never_48 : decode cX5_never 48 = .ok (.iinc 3 1, 3) := by decide +kernel
theorem dX5_never_51 : decode cX5_never 51 = .ok (.goto (-34), 3) := by decide +kernel
theorem dX5_never_54 : decode cX5_never 54 = .ok (.iload_n 2, 1) := by decide +kernel
theorem dX5_never_55 : decode cX5_never 55 = .ok (.ifCond .eq 7, 3) := by decide +kernel
theorem dX5_never_58 : decode cX5_never 58 = .ok (.iconst 0, 1) := by decide +kernel
theorem dX5_never_59 : decode cX5_never 59 = .ok (.goto 4, 3) := by decide +kernel
theorem dX5_never_62 : decode cX5_never 62 = .ok (.iconst 1, 1) := by decide +kernel
theorem dX5_never_63 : decode cX5_never 63 = .ok (.ireturn, 1) := by decide +kernel
theorem dX5_seen_0 : decode cX5_seen 0 = .ok (.aload_n 0, 1) := by decide +kernel
theorem dX5_seen_1 : decode cX5_seen 1 = .ok (.iload_n 1, 1) := by decide +kernel
theorem dX5_seen_2 : decode cX5_seen 2 = .ok (.invokevirtual 147, 3) := by decide +kernel
theorem dX5_seen_5 : decode cX5_seen 5 = .ok (.ifCond .ne 6, 3) := by decide +kernel
theorem dX5_seen_8 : decode cX5_seen 8 = .ok (.bipush (-2), 2) := by decide +kernel
theorem dX5_seen_10 : decode cX5_seen 10 = .ok (.ireturn, 1) := by decide +kernel
theorem dX5_seen_11 : decode cX5_seen 11 = .ok (.iload_n 2, 1) := by decide +kernel
theorem dX5_seen_12 : decode cX5_seen 12 = .ok (.iconst 0, 1) := by decide +kernel
theorem dX5_seen_13 : decode cX5_seen 13 = .ok (.bipush 9, 2) := by decide +kernel
theorem dX5_seen_15 : decode cX5_seen 15 = .ok (.invokestatic 44, 3) := by decide +kernel
theorem dX5_seen_18 : decode cX5_seen 18 = .ok (.ifCond .eq 14, 3) := by decide +kernel
theorem dX5_seen_21 : decode cX5_seen 21 = .ok (.iload_n 3, 1) := by decide +kernel
theorem dX5_seen_22 : decode cX5_seen 22 = .ok (.iconst 0, 1) := by decide +kernel
theorem dX5_seen_23 : decode cX5_seen 23 = .ok (.sipush 255, 3) := by decide +kernel
theorem dX5_seen_26 : decode cX5_seen 26 = .ok (.invokestatic 44, 3) := by decide +kernel
theorem dX5_seen_29 : decode cX5_seen 29 = .ok (.ifCond .ne 6, 3) := by decide +kernel
theorem dX5_seen_32 : decode cX5_seen 32 = .ok (.bipush (-3), 2) := by decide +kernel
theorem dX5_seen_34 : decode cX5_seen 34 = .ok (.ireturn, 1) := by decide +kernel
theorem dX5_seen_35 : decode cX5_seen 35 = .ok (.aload_n 0, 1) := by decide +kernel
theorem dX5_seen_36 : decode cX5_seen 36 = .ok (.getfield 98, 3) := by decide +kernel
theorem dX5_seen_39 : decode cX5_seen 39 = .ok (.bipush 6, 2) := by decide +kernel
theorem dX5_seen_41 : decode cX5_seen 41 = .ok (.if_icmp .ne 6, 3) := by decide +kernel
theorem dX5_seen_44 : decode cX5_seen 44 = .ok (.bipush (-5), 2) := by decide +kernel
theorem dX5_seen_46 : decode cX5_seen 46 = .ok (.ireturn, 1) := by decide +kernel
theorem dX5_seen_47 : decode cX5_seen 47 = .ok (.aload_n 0, 1) := by decide +kernel
theorem dX5_seen_48 : decode cX5_seen 48 = .ok (.getfield 32, 3) := by decide +kernel
theorem dX5_seen_51 : decode cX5_seen 51 = .ok (.iconst 3, 1) := by decide +kernel
theorem dX5_seen_52 : decode cX5_seen 52 = .ok (.aload_n 0, 1) := by decide +kernel
theorem dX5_seen_53 : decode cX5_seen 53 = .ok (.getfield 98, 3) := by decide +kernel
theorem dX5_seen_56 : decode cX5_seen 56 = .ok (.imul, 1) := by decide +kernel
theorem dX5_seen_57 : decode cX5_seen 57 = .ok (.iload_n 1, 1) := by decide +kernel
theorem dX5_seen_58 : decode cX5_seen 58 = .ok (.iastore, 1) := by decide +kernel
theorem dX5_seen_59 : decode cX5_seen 59 = .ok (.aload_n 0, 1) := by decide +kernel
theorem dX5_seen_60 : decode cX5_seen 60 = .ok (.getfield 32, 3) := by decide +kernel
theorem dX5_seen_63 : decode cX5_seen 63 = .ok (.iconst 3, 1) := by decide +kernel
theorem dX5_seen_64 : decode cX5_seen 64 = .ok (.aload_n 0, 1) := by decide +kernel
theorem dX5_seen_65 : decode cX5_seen 65 = .ok (.getfield 98, 3) := by decide +kernel
theorem dX5_seen_68 : decode cX5_seen 68 = .ok (.imul, 1) := by decide +kernel
theorem dX5_seen_69 : decode cX5_seen 69 = .ok (.iconst 1, 1) := by decide +kernel
theorem dX5_seen_70 : decode cX5_seen 70 = .ok (.iadd, 1) := by decide +kernel
theorem dX5_seen_71 : decode cX5_seen 71 = .ok (.iload_n 2, 1) := by decide +kernel
theorem dX5_seen_72 : decode cX5_seen 72 = .ok (.iastore, 1) := by decide +kernel
theorem dX5_seen_73 : decode cX5_seen 73 = .ok (.aload_n 0, 1) := by decide +kernel
theorem dX5_seen_74 : decode cX5_seen 74 = .ok (.getfield 32, 3) := by decide +kernel
theorem dX5_seen_77 : decode cX5_seen 77 = .ok (.iconst 3, 1) := by decide +kernel
theorem dX5_seen_78 : decode cX5_seen 78 = .ok (.aload_n 0, 1) := by decide +kernel
theorem dX5_seen_79 : decode cX5_seen 79 = .ok (.getfield 98, 3) := by decide +kernel
theorem dX5_seen_82 : decode cX5_seen 82 = .ok (.imul, 1) := by decide +kernel
theorem dX5_seen_83 : decode cX5_seen 83 = .ok (.iconst 2, 1) := by decide +kernel
theorem dX5_seen_84 : decode cX5_seen 84 = .ok (.iadd, 1) := by decide +kernel
theorem dX5_seen_85 : decode cX5_seen 85 = .ok (.iload_n 3, 1) := by decide +kernel
theorem dX5_seen_86 : decode cX5_seen 86 = .ok (.iastore, 1) := by decide +kernel
theorem dX5_seen_87 : decode cX5_seen 87 = .ok (.aload_n 0, 1) := by decide +kernel
theorem dX5_seen_88 : decode cX5_seen 88 = .ok (.dup, 1) := by decide +kernel
theorem dX5_seen_89 : decode cX5_seen 89 = .ok (.getfield 98, 3) := by decide +kernel
theorem dX5_seen_92 : decode cX5_seen 92 = .ok (.iconst 1, 1) := by decide +kernel
theorem dX5_seen_93 : decode cX5_seen 93 = .ok (.iadd, 1) := by decide +kernel
theorem dX5_seen_94 : decode cX5_seen 94 = .ok (.putfield 98, 3) := by decide +kernel
theorem dX5_seen_97 : decode cX5_seen 97 = .ok (.aload_n 0, 1) := by decide +kernel
theorem dX5_seen_98 : decode cX5_seen 98 = .ok (.getfield 98, 3) := by decide +kernel
theorem dX5_seen_101 : decode cX5_seen 101 = .ok (.ireturn, 1) := by decide +kernel
theorem dX5_heard_0 : decode cX5_heard 0 = .ok (.aload_n 0, 1) := by decide +kernel
theorem dX5_heard_1 : decode cX5_heard 1 = .ok (.iload_n 1, 1) := by decide +kernel
theorem dX5_heard_2 : decode cX5_heard 2 = .ok (.invokevirtual 147, 3) := by decide +kernel
theorem dX5_heard_5 : decode cX5_heard 5 = .ok (.ifCond .ne 6, 3) := by decide +kernel
theorem dX5_heard_8 : decode cX5_heard 8 = .ok (.bipush (-2), 2) := by decide +kernel
theorem dX5_heard_10 : decode cX5_heard 10 = .ok (.ireturn, 1) := by decide +kernel
theorem dX5_heard_11 : decode cX5_heard 11 = .ok (.iload_n 2, 1) := by decide +kernel
theorem dX5_heard_12 : decode cX5_heard 12 = .ok (.iconst 0, 1) := by decide +kernel
theorem dX5_heard_13 : decode cX5_heard 13 = .ok (.bipush 99, 2) := by decide +kernel
theorem dX5_heard_15 : decode cX5_heard 15 = .ok (.invokestatic 44, 3) := by decide +kernel
theorem dX5_heard_18 : decode cX5_heard 18 = .ok (.ifCond .eq 12, 3) := by decide +kernel
theorem dX5_heard_21 : decode cX5_heard 21 = .ok (.iload_n 3, 1) := by decide +kernel
theorem dX5_heard_22 : decode cX5_heard 22 = .ok (.iconst 0, 1) := by decide +kernel
theorem dX5_heard_23 : decode cX5_heard 23 = .ok (.iconst 1, 1) := by decide +kernel
theorem dX5_heard_24 : decode cX5_heard 24 = .ok (.invokestatic 44, 3) := by decide +kernel
theorem dX5_heard_27 : decode cX5_heard 27 = .ok (.ifCond .ne 6, 3) := by decide +kernel
theorem dX5_heard_30 : decode cX5_heard 30 = .ok (.bipush (-3), 2) := by decide +kernel
theorem dX5_heard_32 : decode cX5_heard 32 = .ok (.ireturn, 1) := by decide +kernel
theorem dX5_heard_33 : decode cX5_heard 33 = .ok (.aload_n 0, 1) := by decide +kernel
theorem dX5_heard_34 : decode cX5_heard 34 = .ok (.getfield 101, 3) := by decide +kernel
theorem dX5_heard_37 : decode cX5_heard 37 = .ok (.bipush 6, 2) := by decide +kernel
theorem dX5_heard_39 : decode cX5_heard 39 = .ok (.if_icmp .ne 6, 3) := by decide +kernel
theorem dX5_heard_42 : decode cX5_heard 42 = .ok (.bipush (-5), 2) := by decide +kernel
theorem dX5_heard_44 : decode cX5_heard 44 = .ok (.ireturn, 1) := by decide +kernel
theorem dX5_heard_45 : decode cX5_heard 45 = .ok (.aload_n 0, 1) := by decide +kernel
theorem dX5_heard_46 : decode cX5_heard 46 = .ok (.getfield 35, 3) := by decide +kernel
theorem dX5_heard_49 : decode cX5_heard 49 = .ok (.iconst 3, 1) := by decide +kernel
theorem dX5_heard_50 : decode cX5_heard 50 = .ok (.aload_n 0, 1) := by decide +kernel
theorem dX5_heard_51 : decode cX5_heard 51 = .ok (.getfield 101, 3) := by decide +kernel
theorem dX5_heard_54 : decode cX5_heard 54 = .ok (.imul, 1) := by decide +kernel
theorem dX5_heard_55 : decode cX5_heard 55 = .ok (.iload_n 1, 1) := by decide +kernel
theorem dX5_heard_56 : decode cX5_heard 56 = .ok (.iastore, 1) := by decide +kernel
theorem dX5_heard_57 : decode cX5_heard 57 = .ok (.aload_n 0, 1) := by decide +kernel
theorem dX5_heard_58 : decode cX5_heard 58 = .ok (.getfield 35, 3) := by decide +kernel
theorem dX5_heard_61 : decode cX5_heard 61 = .ok (.iconst 3, 1) := by decide +kernel
theorem dX5_heard_62 : decode cX5_heard 62 = .ok (.aload_n 0, 1) := by decide +kernel
theorem dX5_heard_63 : decode cX5_heard 63 = .ok (.getfield 101, 3) := by decide +kernel
theorem dX5_heard_66 : decode cX5_heard 66 = .ok (.imul, 1) := by decide +kernel
theorem dX5_heard_67 : decode cX5_heard 67 = .ok (.iconst 1, 1) := by decide +kernel
theorem dX5_heard_68 : decode cX5_heard 68 = .ok (.iadd, 1) := by decide +kernel
theorem dX5_heard_69 : decode cX5_heard 69 = .ok (.iload_n 2, 1) := by decide +kernel
theorem dX5_heard_70 : decode cX5_heard 70 = .ok (.iastore, 1) := by decide +kernel
theorem dX5_heard_71 : decode cX5_heard 71 = .ok (.aload_n 0, 1) := by decide +kernel
theorem dX5_heard_72 : decode cX5_heard 72 = .ok (.getfield 35, 3) := by decide +kernel
theorem dX5_heard_75 : decode cX5_heard 75 = .ok (.iconst 3, 1) := by decide +kernel
theorem dX5_heard_76 : decode cX5_heard 76 = .ok (.aload_n 0, 1) := by decide +kernel
theorem dX5_heard_77 : decode cX5_heard 77 = .ok (.getfield 101, 3) := by decide +kernel
theorem dX5_heard_80 : decode cX5_heard 80 = .ok (.imul, 1) := by decide +kernel
theorem dX5_heard_81 : decode cX5_heard 81 = .ok (.iconst 2, 1) := by decide +kernel
theorem dX5_heard_82 : decode cX5_heard 82 = .ok (.iadd, 1) := by decide +kernel
theorem dX5_heard_83 : decode cX5_heard 83 = .ok (.iload_n 3, 1) := by decide +kernel
theorem dX5_heard_84 : decode cX5_heard 84 = .ok (.iastore, 1) := by decide +kernel
theorem dX5_heard_85 : decode cX5_heard 85 = .ok (.aload_n 0, 1) := by decide +kernel
theorem dX5_heard_86 : decode cX5_heard 86 = .ok (.dup, 1) := by decide +kernel
theorem dX5_heard_87 : decode cX5_heard 87 = .ok (.getfield 101, 3) := by decide +kernel
theorem dX5_heard_90 : decode cX5_heard 90 = .ok (.iconst 1, 1) := by decide +kernel
theorem dX5_heard_91 : decode cX5_heard 91 = .ok (.iadd, 1) := by decide +kernel
theorem dX5_heard_92 : decode cX5_heard 92 = .ok (.putfield 101, 3) := by decide +kernel
theorem dX5_heard_95 : decode cX5_heard 95 = .ok (.aload_n 0, 1) := by decide +kernel
theorem dX5_heard_96 : decode cX5_heard 96 = .ok (.getfield 101, 3) := by decide +kernel
theorem dX5_heard_99 : decode cX5_heard 99 = .ok (.ireturn, 1) := by decide +kernel
theorem dX5_forget_0 : decode cX5_forget 0 = .ok (.aload_n 0, 1) := by decide +kernel
theorem dX5_forget_1 : decode cX5_forget 1 = .ok (.getfield 98, 3) := by decide +kernel
theorem dX5_forget_4 : decode cX5_forget 4 = .ok (.aload_n 0, 1) := by decide +kernel
theorem dX5_forget_5 : decode cX5_forget 5 = .ok (.getfield 101, 3) := by decide +kernel
theorem dX5_forget_8 : decode cX5_forget 8 = .ok (.iadd, 1) := by decide +kernel
theorem dX5_forget_9 : decode cX5_forget 9 = .ok (.istore_n 1, 1) := by decide +kernel
theorem dX5_forget_10 : decode cX5_forget 10 = .ok (.aload_n 0, 1) := by decide +kernel
theorem dX5_forget_11 : decode cX5_forget 11 = .ok (.iconst 0, 1) := by decide +kernel
theorem dX5_forget_12 : decode cX5_forget 12 = .ok (.putfield 98, 3) := by decide +kernel
theorem dX5_forget_15 : decode cX5_forget 15 = .ok (.aload_n 0, 1) := by decide +kernel
theorem dX5_forget_16 : decode cX5_forget 16 = .ok (.iconst 0, 1) := by decide +kernel
theorem dX5_forget_17 : decode cX5_forget 17 = .ok (.putfield 101, 3) := by decide +kernel
theorem dX5_forget_20 : decode cX5_forget 20 = .ok (.iload_n 1, 1) := by decide +kernel
theorem dX5_forget_21 : decode cX5_forget 21 = .ok (.ireturn, 1) := by decide +kernel
theorem dX5_weights_0 : decode cX5_weights 0 = .ok (.aload_n 0, 1) := by decide +kernel
theorem dX5_weights_1 : decode cX5_weights 1 = .ok (.iload_n 1, 1) := by decide +kernel
theorem dX5_weights_2 : decode cX5_weights 2 = .ok (.invokevirtual 129, 3) := by decide +kernel
theorem dX5_weights_5 : decode cX5_weights 5 = .ok (.ifCond .ne 6, 3) := by decide +kernel
theorem dX5_weights_8 : decode cX5_weights 8 = .ok (.bipush (-2), 2) := by decide +kernel
theorem dX5_weights_10 : decode cX5_weights 10 = .ok (.ireturn, 1) := by decide +kernel
theorem dX5_weights_11 : decode cX5_weights 11 = .ok (.iconst 0, 1) := by decide +kernel
theorem dX5_weights_12 : decode cX5_weights 12 = .ok (.istore_n 2, 1) := by decide +kernel
theorem dX5_weights_13 : decode cX5_weights 13 = .ok (.iconst 0, 1) := by decide +kernel
theorem dX5_weights_14 : decode cX5_weights 14 = .ok (.istore_n 3, 1) := by decide +kernel
theorem dX5_weights_15 : decode cX5_weights 15 = .ok (.iload_n 3, 1) := by decide +kernel
theorem dX5_weights_16 : decode cX5_weights 16 = .ok (.bipush 21, 2) := by decide +kernel
theorem dX5_weights_18 : decode cX5_weights 18 = .ok (.if_icmp .ge 146, 3) := by decide +kernel
theorem dX5_weights_21 : decode cX5_weights 21 = .ok (.iconst 1, 1) := by decide +kernel
theorem dX5_weights_22 : decode cX5_weights 22 = .ok (.istore 4, 2) := by decide +kernel
theorem dX5_weights_24 : decode cX5_weights 24 = .ok (.iconst 0, 1) := by decide +kernel
theorem dX5_weights_25 : decode cX5_weights 25 = .ok (.istore 5, 2) := by decide +kernel
theorem dX5_weights_27 : decode cX5_weights 27 = .ok (.iload 5, 2) := by decide +kernel
theorem dX5_weights_29 : decode cX5_weights 29 = .ok (.aload_n 0, 1) := by decide +kernel
theorem dX5_weights_30 : decode cX5_weights 30 = .ok (.getfield 98, 3) := by decide +kernel
theorem dX5_weights_33 : decode cX5_weights 33 = .ok (.if_icmp .ge 110, 3) := by decide +kernel
theorem dX5_weights_36 : decode cX5_weights 36 = .ok (.aload_n 0, 1) := by decide +kernel
theorem dX5_weights_37 : decode cX5_weights 37 = .ok (.getfield 32, 3) := by decide +kernel
theorem dX5_weights_40 : decode cX5_weights 40 = .ok (.iconst 3, 1) := by decide +kernel
theorem dX5_weights_41 : decode cX5_weights 41 = .ok (.iload 5, 2) := by decide +kernel
theorem dX5_weights_43 : decode cX5_weights 43 = .ok (.imul, 1) := by decide +kernel
theorem dX5_weights_44 : decode cX5_weights 44 = .ok (.iaload, 1) := by decide +kernel
theorem dX5_weights_45 : decode cX5_weights 45 = .ok (.istore 6, 2) := by decide +kernel
theorem dX5_weights_47 : decode cX5_weights 47 = .ok (.aload_n 0, 1) := by decide +kernel
theorem dX5_weights_48 : decode cX5_weights 48 = .ok (.getfield 32, 3) := by decide +kernel
theorem dX5_weights_51 : decode cX5_weights 51 = .ok (.iconst 3, 1) := by decide +kernel
theorem dX5_weights_52 : decode cX5_weights 52 = .ok (.iload 5, 2) := by decide +kernel
theorem dX5_weights_54 : decode cX5_weights 54 = .ok (.imul, 1) := by decide +kernel
theorem dX5_weights_55 : decode cX5_weights 55 = .ok (.iconst 1, 1) := by decide +kernel
theorem dX5_weights_56 : decode cX5_weights 56 = .ok (.iadd, 1) := by decide +kernel
theorem dX5_weights_57 : decode cX5_weights 57 = .ok (.iaload, 1) := by decide +kernel
theorem dX5_weights_58 : decode cX5_weights 58 = .ok (.istore 7, 2) := by decide +kernel
theorem dX5_weights_60 : decode cX5_weights 60 = .ok (.aload_n 0, 1) := by decide +kernel
theorem dX5_weights_61 : decode cX5_weights 61 = .ok (.iload 6, 2) := by decide +kernel
theorem dX5_weights_63 : decode cX5_weights 63 = .ok (.iconst 1, 1) := by decide +kernel
theorem dX5_weights_64 : decode cX5_weights 64 = .ok (.iload_n 1, 1) := by decide +kernel
theorem dX5_weights_65 : decode cX5_weights 65 = .ok (.ishl, 1) := by decide +kernel
theorem dX5_weights_66 : decode cX5_weights 66 = .ok (.iconst (-1), 1) := by decide +kernel
theorem dX5_weights_67 : decode cX5_weights 67 = .ok (.ixor, 1) := by decide +kernel
theorem dX5_weights_68 : decode cX5_weights 68 = .ok (.iand, 1) := by decide +kernel
theorem dX5_weights_69 : decode cX5_weights 69 = .ok (.iload 7, 2) := by decide +kernel
theorem dX5_weights_71 : decode cX5_weights 71 = .ok (.invokevirtual 116, 3) := by decide +kernel
theorem dX5_weights_74 : decode cX5_weights 74 = .ok (.istore 8, 2) := by decide +kernel
theorem dX5_weights_76 : decode cX5_weights 76 = .ok (.iload 8, 2) := by decide +kernel
theorem dX5_weights_78 : decode cX5_weights 78 = .ok (.iload 6, 2) := by decide +kernel
theorem dX5_weights_80 : decode cX5_weights 80 = .ok (.iload_n 1, 1) := by decide +kernel
theorem dX5_weights_81 : decode cX5_weights 81 = .ok (.ishr, 1) := by decide +kernel
theorem dX5_weights_82 : decode cX5_weights 82 = .ok (.iconst 1, 1) := by decide +kernel
theorem dX5_weights_83 : decode cX5_weights 83 = .ok (.iand, 1) := by decide +kernel
theorem dX5_weights_84 : decode cX5_weights 84 = .ok (.iconst 1, 1) := by decide +kernel
theorem dX5_weights_85 : decode cX5_weights 85 = .ok (.if_icmp .ne 20, 3) := by decide +kernel
theorem dX5_weights_88 : decode cX5_weights 88 = .ok (.aload_n 0, 1) := by decide +kernel
theorem dX5_weights_89 : decode cX5_weights 89 = .ok (.getfield 13, 3) := by decide +kernel
theorem dX5_weights_92 : decode cX5_weights 92 = .ok (.iconst 5, 1) := by decide +kernel
theorem dX5_weights_93 : decode cX5_weights 93 = .ok (.iload_n 1, 1) := by decide +kernel
theorem dX5_weights_94 : decode cX5_weights 94 = .ok (.iadd, 1) := by decide +kernel
theorem dX5_weights_95 : decode cX5_weights 95 = .ok (.iaload, 1) := by decide +kernel
theorem dX5_weights_96 : decode cX5_weights 96 = .ok (.iload_n 3, 1) := by decide +kernel
theorem dX5_weights_97 : decode cX5_weights 97 = .ok (.iload 7, 2) := by decide +kernel
theorem dX5_weights_99 : decode cX5_weights 99 = .ok (.invokestatic 108, 3) := by decide +kernel
theorem dX5_weights_102 : decode cX5_weights 102 = .ok (.goto 4, 3) := by decide +kernel
theorem dX5_weights_105 : decode cX5_weights 105 = .ok (.iconst 0, 1) := by decide +kernel
theorem dX5_weights_106 : decode cX5_weights 106 = .ok (.iadd, 1) := by decide +kernel
theorem dX5_weights_107 : decode cX5_weights 107 = .ok (.istore 8, 2) := by decide +kernel
theorem dX5_weights_109 : decode cX5_weights 109 = .ok (.iload 4, 2) := by decide +kernel
theorem dX5_weights_111 : decode cX5_weights 111 = .ok (.ifCond .eq 23, 3) := by decide +kernel
theorem dX5_weights_114 : decode cX5_weights 114 = .ok (.iload 8, 2) := by decide +kernel
theorem dX5_weights_116 : decode cX5_weights 116 = .ok (.aload_n 0, 1) := by decide +kernel
theorem dX5_weights_117 : decode cX5_weights 117 = .ok (.getfield 32, 3) := by decide +kernel
theorem dX5_weights_120 : decode cX5_weights 120 = .ok (.iconst 3, 1) := by decide +kernel
theorem dX5_weights_121 : decode cX5_weights 121 = .ok (.iload 5, 2) := by decide +kernel
theorem dX5_weights_123 : decode cX5_weights 123 = .ok (.imul, 1) := by decide +kernel
theorem dX5_weights_124 : decode cX5_weights 124 = .ok (.iconst 2, 1) := by decide +kernel
theorem dX5_weights_125 : decode cX5_weights 125 = .ok (.iadd, 1) := by decide +kernel
theorem dX5_weights_126 : decode cX5_weights 126 = .ok (.iaload, 1) := by decide +kernel
theorem dX5_weights_127 : decode cX5_weights 127 = .ok (.if_icmp .ne 7, 3) := by decide +kernel
theorem dX5_weights_130 : decode cX5_weights 130 = .ok (.iconst 1, 1) := by decide +kernel
theorem dX5_weights_131 : decode cX5_weights 131 = .ok (.goto 4, 3) := by decide +kernel
theorem dX5_weights_134 : decode cX5_weights 134 = .ok (.iconst 0, 1) := by decide +kernel
theorem dX5_weights_135 : decode cX5_weights 135 = .ok (.istore 4, 2) := by decide +kernel
theorem dX5_weights_137 : decode cX5_weights 137 = .ok (.iinc 5 1, 3) := by decide +kernel
theorem dX5_weights_140 : decode cX5_weights 140 = .ok (.goto (-113), 3) := by decide +kernel
theorem dX5_weights_143 : decode cX5_weights 143 = .ok (.iload_n 2, 1) := by decide +kernel
theorem dX5_weights_144 : decode cX5_weights 144 = .ok (.iload 4, 2) := by decide +kernel
theorem dX5_weights_146 : decode cX5_weights 146 = .ok (.ifCond .eq 9, 3) := by decide +kernel
theorem dX5_weights_149 : decode cX5_weights 149 = .ok (.iconst 1, 1) := by decide +kernel
theorem dX5_weights_150 : decode cX5_weights 150 = .ok (.iload_n 3, 1) := by decide +kernel
theorem dX5_weights_151 : decode cX5_weights 151 = .ok (.ishl, 1) := by decide +kernel
theorem dX5_weights_152 : decode cX5_weights 152 = .ok (.goto 4, 3) := by decide +kernel
theorem dX5_weights_155 : decode cX5_weights 155 = .ok (.iconst 0, 1) := by decide +kernel
theorem dX5_weights_156 : decode cX5_weights 156 = .ok (.ior, 1) := by decide +kernel
theorem dX5_weights_157 : decode cX5_weights 157 = .ok (.istore_n 2, 1) := by decide +kernel
theorem dX5_weights_158 : decode cX5_weights 158 = .ok (.iinc 3 1, 3) := by decide +kernel
theorem dX5_weights_161 : decode cX5_weights 161 = .ok (.goto (-146), 3) := by decide +kernel
theorem dX5_weights_164 : decode cX5_weights 164 = .ok (.iload_n 2, 1) := by decide +kernel
theorem dX5_weights_165 : decode cX5_weights 165 = .ok (.ireturn, 1) := by decide +kernel
theorem dX5_thumbs_0 : decode cX5_thumbs 0 = .ok (.iconst 0, 1) := by decide +kernel
theorem dX5_thumbs_1 : decode cX5_thumbs 1 = .ok (.istore_n 1, 1) := by decide +kernel
theorem dX5_thumbs_2 : decode cX5_thumbs 2 = .ok (.iconst 0, 1) := by decide +kernel
theorem dX5_thumbs_3 : decode cX5_thumbs 3 = .ok (.istore_n 2, 1) := by decide +kernel
theorem dX5_thumbs_4 : decode cX5_thumbs 4 = .ok (.iload_n 2, 1) := by decide +kernel
theorem dX5_thumbs_5 : decode cX5_thumbs 5 = .ok (.bipush 10, 2) := by decide +kernel
theorem dX5_thumbs_7 : decode cX5_thumbs 7 = .ok (.if_icmp .ge 117, 3) := by decide +kernel
theorem dX5_thumbs_10 : decode cX5_thumbs 10 = .ok (.iconst 1, 1) := by decide +kernel
theorem dX5_thumbs_11 : decode cX5_thumbs 11 = .ok (.istore_n 3, 1) := by decide +kernel
theorem dX5_thumbs_12 : decode cX5_thumbs 12 = .ok (.iconst 0, 1) := by decide +kernel
theorem dX5_thumbs_13 : decode cX5_thumbs 13 = .ok (.istore 4, 2) := by decide +kernel
theorem dX5_thumbs_15 : decode cX5_thumbs 15 = .ok (.iload 4, 2) := by decide +kernel
theorem dX5_thumbs_17 : decode cX5_thumbs 17 = .ok (.aload_n 0, 1) := by decide +kernel
theorem dX5_thumbs_18 : decode cX5_thumbs 18 = .ok (.getfield 101, 3) := by decide +kernel
theorem dX5_thumbs_21 : decode cX5_thumbs 21 = .ok (.if_icmp .ge 83, 3) := by decide +kernel
theorem dX5_thumbs_24 : decode cX5_thumbs 24 = .ok (.iload_n 2, 1) := by decide +kernel
theorem dX5_thumbs_25 : decode cX5_thumbs 25 = .ok (.aload_n 0, 1) := by decide +kernel
theorem dX5_thumbs_26 : decode cX5_thumbs 26 = .ok (.aload_n 0, 1) := by decide +kernel
theorem dX5_thumbs_27 : decode cX5_thumbs 27 = .ok (.getfield 35, 3) := by decide +kernel
theorem dX5_thumbs_30 : decode cX5_thumbs 30 = .ok (.iconst 3, 1) := by decide +kernel
theorem dX5_thumbs_31 : decode cX5_thumbs 31 = .ok (.iload 4, 2) := by decide +kernel
theorem dX5_thumbs_33 : decode cX5_thumbs 33 = .ok (.imul, 1) := by decide +kernel
theorem dX5_thumbs_34 : decode cX5_thumbs 34 = .ok (.iaload, 1) := by decide +kernel
theorem dX5_thumbs_35 : decode cX5_thumbs 35 = .ok (.aload_n 0, 1) := by decide +kernel
theorem dX5_thumbs_36 : decode cX5_thumbs 36 = .ok (.getfield 19, 3) := by decide +kernel
theorem dX5_thumbs_39 : decode cX5_thumbs 39 = .ok (.bipush 6, 2) := by decide +kernel
theorem dX5_thumbs_41 : decode cX5_thumbs 41 = .ok (.iaload, 1) := by decide +kernel
theorem dX5_thumbs_42 : decode cX5_thumbs 42 = .ok (.invokevirtual 116, 3) := by decide +kernel
theorem dX5_thumbs_45 : decode cX5_thumbs 45 = .ok (.iadd, 1) := by decide +kernel
theorem dX5_thumbs_46 : decode cX5_thumbs 46 = .ok (.istore 5, 2) := by decide +kernel
theorem dX5_thumbs_48 : decode cX5_thumbs 48 = .ok (.iload_n 3, 1) := by decide +kernel
theorem dX5_thumbs_49 : decode cX5_thumbs 49 = .ok (.ifCond .eq 47, 3) := by decide +kernel
theorem dX5_thumbs_52 : decode cX5_thumbs 52 = .ok (.aload_n 0, 1) := by decide +kernel
theorem dX5_thumbs_53 : decode cX5_thumbs 53 = .ok (.iload 5, 2) := by decide +kernel
theorem dX5_thumbs_55 : decode cX5_thumbs 55 = .ok (.aload_n 0, 1) := by decide +kernel
theorem dX5_thumbs_56 : decode cX5_thumbs 56 = .ok (.getfield 35, 3) := by decide +kernel
theorem dX5_thumbs_59 : decode cX5_thumbs 59 = .ok (.iconst 3, 1) := by decide +kernel
theorem dX5_thumbs_60 : decode cX5_thumbs 60 = .ok (.iload 4, 2) := by decide +kernel
theorem dX5_thumbs_62 : decode cX5_thumbs 62 = .ok (.imul, 1) := by decide +kernel
theorem dX5_thumbs_63 : decode cX5_thumbs 63 = .ok (.iconst 1, 1) := by decide +kernel
theorem dX5_thumbs_64 : decode cX5_thumbs 64 = .ok (.iadd, 1) := by decide +kernel
theorem dX5_thumbs_65 : decode cX5_thumbs 65 = .ok (.iaload, 1) := by decide +kernel
theorem dX5_thumbs_66 : decode cX5_thumbs 66 = .ok (.invokevirtual 125, 3) := by decide +kernel
theorem dX5_thumbs_69 : decode cX5_thumbs 69 = .ok (.aload_n 0, 1) := by decide +kernel
theorem dX5_thumbs_70 : decode cX5_thumbs 70 = .ok (.getfield 35, 3) := by decide +kernel
theorem dX5_thumbs_73 : decode cX5_thumbs 73 = .ok (.iconst 3, 1) := by decide +kernel
theorem dX5_thumbs_74 : decode cX5_thumbs 74 = .ok (.iload 4, 2) := by decide +kernel
theorem dX5_thumbs_76 : decode cX5_thumbs 76 = .ok (.imul, 1) := by decide +kernel
theorem dX5_thumbs_77 : decode cX5_thumbs 77 = .ok (.iconst 2, 1) := by decide +kernel
theorem dX5_thumbs_78 : decode cX5_thumbs 78 = .ok (.iadd, 1) := by decide +kernel
theorem dX5_thumbs_79 : decode cX5_thumbs 79 = .ok (.iaload, 1) := by decide +kernel
theorem dX5_thumbs_80 : decode cX5_thumbs 80 = .ok (.iconst 1, 1) := by decide +kernel
theorem dX5_thumbs_81 : decode cX5_thumbs 81 = .ok (.if_icmp .ne 7, 3) := by decide +kernel
theorem dX5_thumbs_84 : decode cX5_thumbs 84 = .ok (.iconst 1, 1) := by decide +kernel
theorem dX5_thumbs_85 : decode cX5_thumbs 85 = .ok (.goto 4, 3) := by decide +kernel
theorem dX5_thumbs_88 : decode cX5_thumbs 88 = .ok (.iconst 0, 1) := by decide +kernel
theorem dX5_thumbs_89 : decode cX5_thumbs 89 = .ok (.if_icmp .ne 7, 3) := by decide +kernel
theorem dX5_thumbs_92 : decode cX5_thumbs 92 = .ok (.iconst 1, 1) := by decide +kernel
theorem dX5_thumbs_93 : decode cX5_thumbs 93 = .ok (.goto 4, 3) := by decide +kernel
theorem dX5_thumbs_96 : decode cX5_thumbs 96 = .ok (.iconst 0, 1) := by decide +kernel
theorem dX5_thumbs_97 : decode cX5_thumbs 97 = .ok (.istore_n 3, 1) := by decide +kernel
theorem dX5_thumbs_98 : decode cX5_thumbs 98 = .ok (.iinc 4 1, 3) := by decide +kernel
theorem dX5_thumbs_101 : decode cX5_thumbs 101 = .ok (.goto (-86), 3) := by decide +kernel
theorem dX5_thumbs_104 : decode cX5_thumbs 104 = .ok (.iload_n 1, 1) := by decide +kernel
theorem dX5_thumbs_105 : decode cX5_thumbs 105 = .ok (.iload_n 3, 1) := by decide +kernel
theorem dX5_thumbs_106 : decode cX5_thumbs 106 = .ok (.ifCond .eq 9, 3) := by decide +kernel
theorem dX5_thumbs_109 : decode cX5_thumbs 109 = .ok (.iconst 1, 1) := by decide +kernel
theorem dX5_thumbs_110 : decode cX5_thumbs 110 = .ok (.iload_n 2, 1) := by decide +kernel
theorem dX5_thumbs_111 : decode cX5_thumbs 111 = .ok (.ishl, 1) := by decide +kernel
theorem dX5_thumbs_112 : decode cX5_thumbs 112 = .ok (.goto 4, 3) := by decide +kernel
theorem dX5_thumbs_115 : decode cX5_thumbs 115 = .ok (.iconst 0, 1) := by decide +kernel
theorem dX5_thumbs_116 : decode cX5_thumbs 116 = .ok (.ior, 1) := by decide +kernel
theorem dX5_thumbs_117 : decode cX5_thumbs 117 = .ok (.istore_n 1, 1) := by decide +kernel
theorem dX5_thumbs_118 : decode cX5_thumbs 118 = .ok (.iinc 2 1, 3) := by decide +kernel
theorem dX5_thumbs_121 : decode cX5_thumbs 121 = .ok (.goto (-117), 3) := by decide +kernel
theorem dX5_thumbs_124 : decode cX5_thumbs 124 = .ok (.iload_n 1, 1) := by decide +kernel
theorem dX5_thumbs_125 : decode cX5_thumbs 125 = .ok (.ireturn, 1) := by decide +kernel
theorem dX5_confessed_0 : decode cX5_confessed 0 = .ok (.iload_n 1, 1) := by decide +kernel
theorem dX5_confessed_1 : decode cX5_confessed 1 = .ok (.iconst 0, 1) := by decide +kernel
theorem dX5_confessed_2 : decode cX5_confessed 2 = .ok (.bipush 10, 2) := by decide +kernel
theorem dX5_confessed_4 : decode cX5_confessed 4 = .ok (.invokestatic 44, 3) := by decide +kernel
theorem dX5_confessed_7 : decode cX5_confessed 7 = .ok (.ifCond .eq 12, 3) := by decide +kernel
theorem dX5_confessed_10 : decode cX5_confessed 10 = .ok (.iload_n 2, 1) := by decide +kernel
theorem dX5_confessed_11 : decode cX5_confessed 11 = .ok (.iconst 0, 1) := by decide +kernel
theorem dX5_confessed_12 : decode cX5_confessed 12 = .ok (.iconst 1, 1) := by decide +kernel
theorem dX5_confessed_13 : decode cX5_confessed 13 = .ok (.invokestatic 44, 3) := by decide +kernel
theorem dX5_confessed_16 : decode cX5_confessed 16 = .ok (.ifCond .ne 6, 3) := by decide +kernel
theorem dX5_confessed_19 : decode cX5_confessed 19 = .ok (.bipush (-3), 2) := by decide +kernel
theorem dX5_confessed_21 : decode cX5_confessed 21 = .ok (.ireturn, 1) := by decide +kernel
theorem dX5_confessed_22 : decode cX5_confessed 22 = .ok (.iconst 0, 1) := by decide +kernel
theorem dX5_confessed_23 : decode cX5_confessed 23 = .ok (.istore_n 3, 1) := by decide +kernel
theorem dX5_confessed_24 : decode cX5_confessed 24 = .ok (.iconst 1, 1) := by decide +kernel
theorem dX5_confessed_25 : decode cX5_confessed 25 = .ok (.istore 4, 2) := by decide +kernel
theorem dX5_confessed_27 : decode cX5_confessed 27 = .ok (.iconst 0, 1) := by decide +kernel
theorem dX5_confessed_28 : decode cX5_confessed 28 = .ok (.istore 5, 2) := by decide +kernel
theorem dX5_confessed_30 : decode cX5_confessed 30 = .ok (.iload 5, 2) := by decide +kernel
theorem dX5_confessed_32 : decode cX5_confessed 32 = .ok (.aload_n 0, 1) := by decide +kernel
theorem dX5_confessed_33 : decode cX5_confessed 33 = .ok (.getfield 13, 3) := by decide +kernel
theorem dX5_confessed_36 : decode cX5_confessed 36 = .ok (.iconst 1, 1) := by decide +kernel
theorem dX5_confessed_37 : decode cX5_confessed 37 = .ok (.iaload, 1) := by decide +kernel
theorem dX5_confessed_38 : decode cX5_confessed 38 = .ok (.if_icmp .ge 16, 3) := by decide +kernel
theorem dX5_confessed_41 : decode cX5_confessed 41 = .ok (.iload 4, 2) := by decide +kernel
theorem dX5_confessed_43 : decode cX5_confessed 43 = .ok (.bipush 10, 2) := by decide +kernel
theorem dX5_confessed_45 : decode cX5_confessed 45 = .ok (.imul, 1) := by decide +kernel
theorem dX5_confessed_46 : decode cX5_confessed 46 = .ok (.istore 4, 2) := by decide +kernel
theorem dX5_confessed_48 : decode cX5_confessed 48 = .ok (.iinc 5 1, 3) := by decide +kernel
theorem dX5_confessed_51 : decode cX5_confessed 51 = .ok (.goto (-21), 3) := by decide +kernel
theorem dX5_confessed_54 : decode cX5_confessed 54 = .ok (.iconst 0, 1) := by decide +kernel
theorem dX5_confessed_55 : decode cX5_confessed 55 = .ok (.istore 5, 2) := by decide +kernel
theorem dX5_confessed_57 : decode cX5_confessed 57 = .ok (.iload 5, 2) := by decide +kernel
theorem dX5_confessed_59 : decode cX5_confessed 59 = .ok (.iconst 1, 1) := by decide +kernel
theorem dX5_confessed_60 : decode cX5_confessed 60 = .ok (.aload_n 0, 1) := by decide +kernel
theorem dX5_confessed_61 : decode cX5_confessed 61 = .ok (.getfield 13, 3) := by decide +kernel
theorem dX5_confessed_64 : decode cX5_confessed 64 = .ok (.iconst 1, 1) := by decide +kernel
theorem dX5_confessed_65 : decode cX5_confessed 65 = .ok (.iaload, 1) := by decide +kernel
theorem dX5_confessed_66 : decode cX5_confessed 66 = .ok (.ishl, 1) := by decide +kernel
theorem dX5_confessed_67 : decode cX5_confessed 67 = .ok (.if_icmp .ge 138, 3) := by decide +kernel
theorem dX5_confessed_70 : decode cX5_confessed 70 = .ok (.iconst 1, 1) := by decide +kernel
theorem dX5_confessed_71 : decode cX5_confessed 71 = .ok (.istore 6, 2) := by decide +kernel
theorem dX5_confessed_73 : decode cX5_confessed 73 = .ok (.iconst 0, 1) := by decide +kernel
theorem dX5_confessed_74 : decode cX5_confessed 74 = .ok (.istore 7, 2) := by decide +kernel
theorem dX5_confessed_76 : decode cX5_confessed 76 = .ok (.iconst 0, 1) := by decide +kernel
theorem dX5_confessed_77 : decode cX5_confessed 77 = .ok (.istore 8, 2) := by decide +kernel
theorem dX5_confessed_79 : decode cX5_confessed 79 = .ok (.iload 8, 2) := by decide +kernel
theorem dX5_confessed_81 : decode cX5_confessed 81 = .ok (.aload_n 0, 1) := by decide +kernel
theorem dX5_confessed_82 : decode cX5_confessed 82 = .ok (.getfield 13, 3) := by decide +kernel
theorem dX5_confessed_85 : decode cX5_confessed 85 = .ok (.iconst 1, 1) := by decide +kernel
theorem dX5_confessed_86 : decode cX5_confessed 86 = .ok (.iaload, 1) := by decide +kernel
theorem dX5_confessed_87 : decode cX5_confessed 87 = .ok (.if_icmp .ge 66, 3) := by decide +kernel
theorem dX5_confessed_90 : decode cX5_confessed 90 = .ok (.iload 5, 2) := by decide +kernel
theorem dX5_confessed_92 : decode cX5_confessed 92 = .ok (.iload 8, 2) := by decide +kernel
theorem dX5_confessed_94 : decode cX5_confessed 94 = .ok (.ishr, 1) := by decide +kernel
theorem dX5_confessed_95 : decode cX5_confessed 95 = .ok (.iconst 1, 1) := by decide +kernel
theorem dX5_confessed_96 : decode cX5_confessed 96 = .ok (.iand, 1) := by decide +kernel
theorem dX5_confessed_97 : decode cX5_confessed 97 = .ok (.iconst 1, 1) := by decide +kernel
theorem dX5_confessed_98 : decode cX5_confessed 98 = .ok (.if_icmp .ne 7, 3) := by decide +kernel
theorem dX5_confessed_101 : decode cX5_confessed 101 = .ok (.iconst 1, 1) := by decide +kernel
theorem dX5_confessed_102 : decode cX5_confessed 102 = .ok (.goto 4, 3) := by decide +kernel
theorem dX5_confessed_105 : decode cX5_confessed 105 = .ok (.iconst 0, 1) := by decide +kernel
theorem dX5_confessed_106 : decode cX5_confessed 106 = .ok (.istore 9, 2) := by decide +kernel
theorem dX5_confessed_108 : decode cX5_confessed 108 = .ok (.iload 6, 2) := by decide +kernel
theorem dX5_confessed_110 : decode cX5_confessed 110 = .ok (.iload 9, 2) := by decide +kernel
theorem dX5_confessed_112 : decode cX5_confessed 112 = .ok (.ifCond .eq 7, 3) := by decide +kernel
theorem dX5_confessed_115 : decode cX5_confessed 115 = .ok (.iload_n 1, 1) := by decide +kernel
theorem dX5_confessed_116 : decode cX5_confessed 116 = .ok (.goto 7, 3) := by decide +kernel
theorem dX5_confessed_119 : decode cX5_confessed 119 = .ok (.bipush 10, 2) := by decide +kernel
theorem dX5_confessed_121 : decode cX5_confessed 121 = .ok (.iload_n 1, 1) := by decide +kernel
theorem dX5_confessed_122 : decode cX5_confessed 122 = .ok (.isub, 1) := by decide +kernel
theorem dX5_confessed_123 : decode cX5_confessed 123 = .ok (.imul, 1) := by decide +kernel
theorem dX5_confessed_124 : decode cX5_confessed 124 = .ok (.istore 6, 2) := by decide +kernel
theorem dX5_confessed_126 : decode cX5_confessed 126 = .ok (.iload 7, 2) := by decide +kernel
theorem dX5_confessed_128 : decode cX5_confessed 128 = .ok (.iload 9, 2) := by decide +kernel
theorem dX5_confessed_130 : decode cX5_confessed 130 = .ok (.ifCond .eq 7, 3) := by decide +kernel
theorem dX5_confessed_133 : decode cX5_confessed 133 = .ok (.iconst 0, 1) := by decide +kernel
theorem dX5_confessed_134 : decode cX5_confessed 134 = .ok (.goto 10, 3) := by decide +kernel
theorem dX5_confessed_137 : decode cX5_confessed 137 = .ok (.aload_n 0, 1) := by decide +kernel
theorem dX5_confessed_138 : decode cX5_confessed 138 = .ok (.getfield 19, 3) := by decide +kernel
theorem dX5_confessed_141 : decode cX5_confessed 141 = .ok (.iload 8, 2) := by decide +kernel
theorem dX5_confessed_143 : decode cX5_confessed 143 = .ok (.iaload, 1) := by decide +kernel
theorem dX5_confessed_144 : decode cX5_confessed 144 = .ok (.iadd, 1) := by decide +kernel
theorem dX5_confessed_145 : decode cX5_confessed 145 = .ok (.istore 7, 2) := by decide +kernel
theorem dX5_confessed_147 : decode cX5_confessed 147 = .ok (.iinc 8 1, 3) := by decide +kernel
theorem dX5_confessed_150 : decode cX5_confessed 150 = .ok (.goto (-71), 3) := by decide +kernel
theorem dX5_confessed_153 : decode cX5_confessed 153 = .ok (.iload_n 3, 1) := by decide +kernel
theorem dX5_confessed_154 : decode cX5_confessed 154 = .ok (.aload_n 0, 1) := by decide +kernel
theorem dX5_confessed_155 : decode cX5_confessed 155 = .ok (.aload_n 0, 1) := by decide +kernel
theorem dX5_confessed_156 : decode cX5_confessed 156 = .ok (.invokevirtual 119, 3) := by decide +kernel
theorem dX5_confessed_159 : decode cX5_confessed 159 = .ok (.iload 7, 2) := by decide +kernel
theorem dX5_confessed_161 : decode cX5_confessed 161 = .ok (.aload_n 0, 1) := by decide +kernel
theorem dX5_confessed_162 : decode cX5_confessed 162 = .ok (.getfield 19, 3) := by decide +kernel
theorem dX5_confessed_165 : decode cX5_confessed 165 = .ok (.bipush 8, 2) := by decide +kernel
theorem dX5_confessed_167 : decode cX5_confessed 167 = .ok (.iaload, 1) := by decide +kernel
theorem dX5_confessed_168 : decode cX5_confessed 168 = .ok (.if_icmp .le 16, 3) := by decide +kernel
theorem dX5_confessed_171 : decode cX5_confessed 171 = .ok (.iload 7, 2) := by decide +kernel
theorem dX5_confessed_173 : decode cX5_confessed 173 = .ok (.aload_n 0, 1) := by decide +kernel
theorem dX5_confessed_174 : decode cX5_confessed 174 = .ok (.getfield 19, 3) := by decide +kernel
theorem dX5_confessed_177 : decode cX5_confessed 177 = .ok (.bipush 8, 2) := by decide +kernel
theorem dX5_confessed_179 : decode cX5_confessed 179 = .ok (.iaload, 1) := by decide +kernel
theorem dX5_confessed_180 : decode cX5_confessed 180 = .ok (.isub, 1) := by decide +kernel
theorem dX5_confessed_181 : decode cX5_confessed 181 = .ok (.goto 4, 3) := by decide +kernel
theorem dX5_confessed_184 : decode cX5_confessed 184 = .ok (.iconst 0, 1) := by decide +kernel
theorem dX5_confessed_185 : decode cX5_confessed 185 = .ok (.invokevirtual 125, 3) := by decide +kernel
theorem dX5_confessed_188 : decode cX5_confessed 188 = .ok (.ifCond .eq 8, 3) := by decide +kernel
theorem dX5_confessed_191 : decode cX5_confessed 191 = .ok (.iload 6, 2) := by decide +kernel
theorem dX5_confessed_193 : decode cX5_confessed 193 = .ok (.goto 4, 3) := by decide +kernel
theorem dX5_confessed_196 : decode cX5_confessed 196 = .ok (.iconst 0, 1) := by decide +kernel
theorem dX5_confessed_197 : decode cX5_confessed 197 = .ok (.iadd, 1) := by decide +kernel
theorem dX5_confessed_198 : decode cX5_confessed 198 = .ok (.istore_n 3, 1) := by decide +kernel
theorem dX5_confessed_199 : decode cX5_confessed 199 = .ok (.iinc 5 1, 3) := by decide +kernel
theorem dX5_confessed_202 : decode cX5_confessed 202 = .ok (.goto (-145), 3) := by decide +kernel
theorem dX5_confessed_205 : decode cX5_confessed 205 = .ok (.iload_n 3, 1) := by decide +kernel
theorem dX5_confessed_206 : decode cX5_confessed 206 = .ok (.istore 5, 2) := by decide +kernel
theorem dX5_confessed_208 : decode cX5_confessed 208 = .ok (.iload 4, 2) := by decide +kernel
theorem dX5_confessed_210 : decode cX5_confessed 210 = .ok (.istore 6, 2) := by decide +kernel
theorem dX5_confessed_212 : decode cX5_confessed 212 = .ok (.iload 6, 2) := by decide +kernel
theorem dX5_confessed_214 : decode cX5_confessed 214 = .ok (.ifCond .le 21, 3) := by decide +kernel
theorem dX5_confessed_217 : decode cX5_confessed 217 = .ok (.iload 5, 2) := by decide +kernel
theorem dX5_confessed_219 : decode cX5_confessed 219 = .ok (.iload 6, 2) := by decide +kernel
theorem dX5_confessed_221 : decode cX5_confessed 221 = .ok (.irem, 1) := by decide +kernel
theorem dX5_confessed_222 : decode cX5_confessed 222 = .ok (.istore 7, 2) := by decide +kernel
theorem dX5_confessed_224 : decode cX5_confessed 224 = .ok (.iload 6, 2) := by decide +kernel
theorem dX5_confessed_226 : decode cX5_confessed 226 = .ok (.istore 5, 2) := by decide +kernel
theorem dX5_confessed_228 : decode cX5_confessed 228 = .ok (.iload 7, 2) := by decide +kernel
theorem dX5_confessed_230 : decode cX5_confessed 230 = .ok (.istore 6, 2) := by decide +kernel
theorem dX5_confessed_232 : decode cX5_confessed 232 = .ok (.goto (-20), 3) := by decide +kernel
theorem dX5_confessed_235 : decode cX5_confessed 235 = .ok (.iload_n 2, 1) := by decide +kernel
theorem dX5_confessed_236 : decode cX5_confessed 236 = .ok (.ifCond .ne 10, 3) := by decide +kernel
theorem dX5_confessed_239 : decode cX5_confessed 239 = .ok (.iload_n 3, 1) := by decide +kernel
theorem dX5_confessed_240 : decode cX5_confessed 240 = .ok (.iload 5, 2) := by decide +kernel
theorem dX5_confessed_242 : decode cX5_confessed 242 = .ok (.idiv, 1) := by decide +kernel
theorem dX5_confessed_243 : decode cX5_confessed 243 = .ok (.goto 8, 3) := by decide +kernel
theorem dX5_confessed_246 : decode cX5_confessed 246 = .ok (.iload 4, 2) := by decide +kernel
theorem dX5_confessed_248 : decode cX5_confessed 248 = .ok (.iload 5, 2) := by decide +kernel
theorem dX5_confessed_250 : decode cX5_confessed 250 = .ok (.idiv, 1) := by decide +kernel
theorem dX5_confessed_251 : decode cX5_confessed 251 = .ok (.ireturn, 1) := by decide +kernel
theorem dX5_count_0 : decode cX5_count 0 = .ok (.iload_n 1, 1) := by decide +kernel
theorem dX5_count_1 : decode cX5_count 1 = .ok (.tableswitch 180 0 14 #[75, 82, 89, 97, 102, 107, 120, 128, 136, 144, 152, 160, 165, 170, 175], 75) := by decide +kernel
theorem dX5_count_76 : decode cX5_count 76 = .ok (.aload_n 0, 1) := by decide +kernel
theorem dX5_count_77 : decode cX5_count 77 = .ok (.getfield 13, 3) := by decide +kernel
theorem dX5_count_80 : decode cX5_count 80 = .ok (.iconst 0, 1) := by decide +kernel
theorem dX5_count_81 : decode cX5_count 81 = .ok (.iaload, 1) := by decide +kernel
theorem dX5_count_82 : decode cX5_count 82 = .ok (.ireturn, 1) := by decide +kernel
theorem dX5_count_83 : decode cX5_count 83 = .ok (.aload_n 0, 1) := by decide +kernel
theorem dX5_count_84 : decode cX5_count 84 = .ok (.getfield 13, 3) := by decide +kernel
theorem dX5_count_87 : decode cX5_count 87 = .ok (.iconst 1, 1) := by decide +kernel
theorem dX5_count_88 : decode cX5_count 88 = .ok (.iaload, 1) := by decide +kernel
theorem dX5_count_89 : decode cX5_count 89 = .ok (.ireturn, 1) := by decide +kernel
theorem dX5_count_90 : decode cX5_count 90 = .ok (.aload_n 0, 1) := by decide +kernel
theorem dX5_count_91 : decode cX5_count 91 = .ok (.getfield 19, 3) := by decide +kernel
theorem dX5_count_94 : decode cX5_count 94 = .ok (.bipush 9, 2) := by decide +kernel
theorem dX5_count_96 : decode cX5_count 96 = .ok (.iaload, 1) := by decide +kernel
theorem dX5_count_97 : decode cX5_count 97 = .ok (.ireturn, 1) := by decide +kernel
theorem dX5_count_98 : decode cX5_count 98 = .ok (.aload_n 0, 1) := by decide +kernel
theorem dX5_count_99 : decode cX5_count 99 = .ok (.invokevirtual 119, 3) := by decide +kernel
theorem dX5_count_102 : decode cX5_count 102 = .ok (.ireturn, 1) := by decide +kernel
theorem dX5_count_103 : decode cX5_count 103 = .ok (.aload_n 0, 1) := by decide +kernel
theorem dX5_count_104 : decode cX5_count 104 = .ok (.invokevirtual 122, 3) := by decide +kernel
theorem dX5_count_107 : decode cX5_count 107 = .ok (.ireturn, 1) := by decide +kernel
theorem dX5_count_108 : decode cX5_count 108 = .ok (.aload_n 0, 1) := by decide +kernel
theorem dX5_count_109 : decode cX5_count 109 = .ok (.invokevirtual 132, 3) := by decide +kernel
theorem dX5_count_112 : decode cX5_count 112 = .ok (.ifCond .eq 7, 3) := by decide +kernel
theorem dX5_count_115 : decode cX5_count 115 = .ok (.iconst 1, 1) := by decide +kernel
theorem dX5_count_116 : decode cX5_count 116 = .ok (.goto 4, 3) := by decide +kernel
theorem dX5_count_119 : decode cX5_count 119 = .ok (.iconst 0, 1) := by decide +kernel
theorem dX5_count_120 : decode cX5_count 120 = .ok (.ireturn, 1) := by decide +kernel
theorem dX5_count_121 : decode cX5_count 121 = .ok (.aload_n 0, 1) := by decide +kernel
theorem dX5_count_122 : decode cX5_count 122 = .ok (.getfield 19, 3) := by decide +kernel
theorem dX5_count_125 : decode cX5_count 125 = .ok (.bipush 7, 2) := by decide +kernel
theorem dX5_count_127 : decode cX5_count 127 = .ok (.iaload, 1) := by decide +kernel
theorem dX5_count_128 : decode cX5_count 128 = .ok (.ireturn, 1) := by decide +kernel
theorem dX5_count_129 : decode cX5_count 129 = .ok (.aload_n 0, 1) := by decide +kernel
theorem dX5_count_130 : decode cX5_count 130 = .ok (.getfield 19, 3) := by decide +kernel
theorem dX5_count_133 : decode cX5_count 133 = .ok (.bipush 10, 2) := by decide +kernel
theorem dX5_count_135 : decode cX5_count 135 = .ok (.iaload, 1) := by decide +kernel
theorem dX5_count_136 : decode cX5_count 136 = .ok (.ireturn, 1) := by decide +kernel
theorem dX5_count_137 : decode cX5_count 137 = .ok (.aload_n 0, 1) := by decide +kernel
theorem dX5_count_138 : decode cX5_count 138 = .ok (.getfield 19, 3) := by decide +kernel
theorem dX5_count_141 : decode cX5_count 141 = .ok (.bipush 11, 2) := by decide +kernel
theorem dX5_count_143 : decode cX5_count 143 = .ok (.iaload, 1) := by decide +kernel
theorem dX5_count_144 : decode cX5_count 144 = .ok (.ireturn, 1) := by decide +kernel
theorem dX5_count_145 : decode cX5_count 145 = .ok (.aload_n 0, 1) := by decide +kernel
theorem dX5_count_146 : decode cX5_count 146 = .ok (.getfield 19, 3) := by decide +kernel
theorem dX5_count_149 : decode cX5_count 149 = .ok (.bipush 8, 2) := by decide +kernel
theorem dX5_count_151 : decode cX5_count 151 = .ok (.iaload, 1) := by decide +kernel
theorem dX5_count_152 : decode cX5_count 152 = .ok (.ireturn, 1) := by decide +kernel
theorem dX5_count_153 : decode cX5_count 153 = .ok (.aload_n 0, 1) := by decide +kernel
theorem dX5_count_154 : decode cX5_count 154 = .ok (.getfield 19, 3) := by decide +kernel
theorem dX5_count_157 : decode cX5_count 157 = .ok (.bipush 6, 2) := by decide +kernel
theorem dX5_count_159 : decode cX5_count 159 = .ok (.iaload, 1) := by decide +kernel
theorem dX5_count_160 : decode cX5_count 160 = .ok (.ireturn, 1) := by decide +kernel
theorem dX5_count_161 : decode cX5_count 161 = .ok (.aload_n 0, 1) := by decide +kernel
theorem dX5_count_162 : decode cX5_count 162 = .ok (.getfield 98, 3) := by decide +kernel
theorem dX5_count_165 : decode cX5_count 165 = .ok (.ireturn, 1) := by decide +kernel
theorem dX5_count_166 : decode cX5_count 166 = .ok (.aload_n 0, 1) := by decide +kernel
theorem dX5_count_167 : decode cX5_count 167 = .ok (.getfield 101, 3) := by decide +kernel
theorem dX5_count_170 : decode cX5_count 170 = .ok (.ireturn, 1) := by decide +kernel
theorem dX5_count_171 : decode cX5_count 171 = .ok (.aload_n 0, 1) := by decide +kernel
theorem dX5_count_172 : decode cX5_count 172 = .ok (.getfield 95, 3) := by decide +kernel
theorem dX5_count_175 : decode cX5_count 175 = .ok (.ireturn, 1) := by decide +kernel
theorem dX5_count_176 : decode cX5_count 176 = .ok (.aload_n 0, 1) := by decide +kernel
theorem dX5_count_177 : decode cX5_count 177 = .ok (.getfield 48, 3) := by decide +kernel
theorem dX5_count_180 : decode cX5_count 180 = .ok (.ireturn, 1) := by decide +kernel
theorem dX5_count_181 : decode cX5_count 181 = .ok (.bipush (-3), 2) := by decide +kernel
theorem dX5_count_183 : decode cX5_count 183 = .ok (.ireturn, 1) := by decide +kernel
theorem dJ6_bitCount_0f7a4_0 : decode cJ6_bitCount_0f7a4 0 = .ok (.iload_n 0, 1) := by decide +kernel
theorem dJ6_bitCount_0f7a4_1 : decode cJ6_bitCount_0f7a4 1 = .ok (.iload_n 0, 1) := by decide +kernel
theorem dJ6_bitCount_0f7a4_2 : decode cJ6_bitCount_0f7a4 2 = .ok (.iconst 1, 1) := by decide +kernel
theorem dJ6_bitCount_0f7a4_3 : decode cJ6_bitCount_0f7a4 3 = .ok (.iushr, 1) := by decide +kernel
theorem dJ6_bitCount_0f7a4_4 : decode cJ6_bitCount_0f7a4 4 = .ok (.ldc_w 265, 3) := by decide +kernel
theorem dJ6_bitCount_0f7a4_7 : decode cJ6_bitCount_0f7a4 7 = .ok (.iand, 1) := by decide +kernel
theorem dJ6_bitCount_0f7a4_8 : decode cJ6_bitCount_0f7a4 8 = .ok (.isub, 1) := by decide +kernel
theorem dJ6_bitCount_0f7a4_9 : decode cJ6_bitCount_0f7a4 9 = .ok (.istore_n 0, 1) := by decide +kernel
theorem dJ6_bitCount_0f7a4_10 : decode cJ6_bitCount_0f7a4 10 = .ok (.iload_n 0, 1) := by decide +kernel
theorem dJ6_bitCount_0f7a4_11 : decode cJ6_bitCount_0f7a4 11 = .ok (.ldc_w 266, 3) := by decide +kernel
theorem dJ6_bitCount_0f7a4_14 : decode cJ6_bitCount_0f7a4 14 = .ok (.iand, 1) := by decide +kernel
theorem dJ6_bitCount_0f7a4_15 : decode cJ6_bitCount_0f7a4 15 = .ok (.iload_n 0, 1) := by decide +kernel
theorem dJ6_bitCount_0f7a4_16 : decode cJ6_bitCount_0f7a4 16 = .ok (.iconst 2, 1) := by decide +kernel
theorem dJ6_bitCount_0f7a4_17 : decode cJ6_bitCount_0f7a4 17 = .ok (.iushr, 1) := by decide +kernel
theorem dJ6_bitCount_0f7a4_18 : decode cJ6_bitCount_0f7a4 18 = .ok (.ldc_w 266, 3) := by decide +kernel
theorem dJ6_bitCount_0f7a4_21 : decode cJ6_bitCount_0f7a4 21 = .ok (.iand, 1) := by decide +kernel
theorem dJ6_bitCount_0f7a4_22 : decode cJ6_bitCount_0f7a4 22 = .ok (.iadd, 1) := by decide +kernel
theorem dJ6_bitCount_0f7a4_23 : decode cJ6_bitCount_0f7a4 23 = .ok (.istore_n 0, 1) := by decide +kernel
theorem dJ6_bitCount_0f7a4_24 : decode cJ6_bitCount_0f7a4 24 = .ok (.iload_n 0, 1) := by decide +kernel
theorem dJ6_bitCount_0f7a4_25 : decode cJ6_bitCount_0f7a4 25 = .ok (.iload_n 0, 1) := by decide +kernel
theorem dJ6_bitCount_0f7a4_26 : decode cJ6_bitCount_0f7a4 26 = .ok (.iconst 4, 1) := by decide +kernel
theorem dJ6_bitCount_0f7a4_27 : decode cJ6_bitCount_0f7a4 27 = .ok (.iushr, 1) := by decide +kernel
theorem dJ6_bitCount_0f7a4_28 : decode cJ6_bitCount_0f7a4 28 = .ok (.iadd, 1) := by decide +kernel
theorem dJ6_bitCount_0f7a4_29 : decode cJ6_bitCount_0f7a4 29 = .ok (.ldc_w 267, 3) := by decide +kernel
theorem dJ6_bitCount_0f7a4_32 : decode cJ6_bitCount_0f7a4 32 = .ok (.iand, 1) := by decide +kernel
theorem dJ6_bitCount_0f7a4_33 : decode cJ6_bitCount_0f7a4 33 = .ok (.istore_n 0, 1) := by decide +kernel
theorem dJ6_bitCount_0f7a4_34 : decode cJ6_bitCount_0f7a4 34 = .ok (.iload_n 0, 1) := by decide +kernel
theorem dJ6_bitCount_0f7a4_35 : decode cJ6_bitCount_0f7a4 35 = .ok (.iload_n 0, 1) := by decide +kernel
theorem dJ6_bitCount_0f7a4_36 : decode cJ6_bitCount_0f7a4 36 = .ok (.bipush 8, 2) := by decide +kernel
theorem dJ6_bitCount_0f7a4_38 : decode cJ6_bitCount_0f7a4 38 = .ok (.iushr, 1) := by decide +kernel
theorem dJ6_bitCount_0f7a4_39 : decode cJ6_bitCount_0f7a4 39 = .ok (.iadd, 1) := by decide +kernel
theorem dJ6_bitCount_0f7a4_40 : decode cJ6_bitCount_0f7a4 40 = .ok (.istore_n 0, 1) := by decide +kernel
theorem dJ6_bitCount_0f7a4_41 : decode cJ6_bitCount_0f7a4 41 = .ok (.iload_n 0, 1) := by decide +kernel
theorem dJ6_bitCount_0f7a4_42 : decode cJ6_bitCount_0f7a4 42 = .ok (.iload_n 0, 1) := by decide +kernel
theorem dJ6_bitCount_0f7a4_43 : decode cJ6_bitCount_0f7a4 43 = .ok (.bipush 16, 2) := by decide +kernel
theorem dJ6_bitCount_0f7a4_45 : decode cJ6_bitCount_0f7a4 45 = .ok (.iushr, 1) := by decide +kernel
theorem dJ6_bitCount_0f7a4_46 : decode cJ6_bitCount_0f7a4 46 = .ok (.iadd, 1) := by decide +kernel
theorem dJ6_bitCount_0f7a4_47 : decode cJ6_bitCount_0f7a4 47 = .ok (.istore_n 0, 1) := by decide +kernel
theorem dJ6_bitCount_0f7a4_48 : decode cJ6_bitCount_0f7a4 48 = .ok (.iload_n 0, 1) := by decide +kernel
theorem dJ6_bitCount_0f7a4_49 : decode cJ6_bitCount_0f7a4 49 = .ok (.bipush 63, 2) := by decide +kernel
theorem dJ6_bitCount_0f7a4_51 : decode cJ6_bitCount_0f7a4 51 = .ok (.iand, 1) := by decide +kernel
theorem dJ6_bitCount_0f7a4_52 : decode cJ6_bitCount_0f7a4 52 = .ok (.ireturn, 1) := by decide +kernel
theorem dJ9_abs_0f7a4_0 : decode cJ9_abs_0f7a4 0 = .ok (.iload_n 0, 1) := by decide +kernel
theorem dJ9_abs_0f7a4_1 : decode cJ9_abs_0f7a4 1 = .ok (.ifCond .ge 8, 3) := by decide +kernel
theorem dJ9_abs_0f7a4_4 : decode cJ9_abs_0f7a4 4 = .ok (.iload_n 0, 1) := by decide +kernel
theorem dJ9_abs_0f7a4_5 : decode cJ9_abs_0f7a4 5 = .ok (.ineg, 1) := by decide +kernel
theorem dJ9_abs_0f7a4_6 : decode cJ9_abs_0f7a4 6 = .ok (.goto 4, 3) := by decide +kernel
theorem dJ9_abs_0f7a4_9 : decode cJ9_abs_0f7a4 9 = .ok (.iload_n 0, 1) := by decide +kernel
theorem dJ9_abs_0f7a4_10 : decode cJ9_abs_0f7a4 10 = .ok (.ireturn, 1) := by decide +kernel
theorem dJ9_max_7cf53_0 : decode cJ9_max_7cf53 0 = .ok (.iload_n 0, 1) := by decide +kernel
theorem dJ9_max_7cf53_1 : decode cJ9_max_7cf53 1 = .ok (.iload_n 1, 1) := by decide +kernel
theorem dJ9_max_7cf53_2 : decode cJ9_max_7cf53 2 = .ok (.if_icmp .lt 7, 3) := by decide +kernel
theorem dJ9_max_7cf53_5 : decode cJ9_max_7cf53 5 = .ok (.iload_n 0, 1) := by decide +kernel
theorem dJ9_max_7cf53_6 : decode cJ9_max_7cf53 6 = .ok (.goto 4, 3) := by decide +kernel
theorem dJ9_max_7cf53_9 : decode cJ9_max_7cf53 9 = .ok (.iload_n 1, 1) := by decide +kernel
theorem dJ9_max_7cf53_10 : decode cJ9_max_7cf53 10 = .ok (.ireturn, 1) := by decide +kernel
theorem dJ9_min_7cf53_0 : decode cJ9_min_7cf53 0 = .ok (.iload_n 0, 1) := by decide +kernel
theorem dJ9_min_7cf53_1 : decode cJ9_min_7cf53 1 = .ok (.iload_n 1, 1) := by decide +kernel
theorem dJ9_min_7cf53_2 : decode cJ9_min_7cf53 2 = .ok (.if_icmp .gt 7, 3) := by decide +kernel
theorem dJ9_min_7cf53_5 : decode cJ9_min_7cf53 5 = .ok (.iload_n 0, 1) := by decide +kernel
theorem dJ9_min_7cf53_6 : decode cJ9_min_7cf53 6 = .ok (.goto 4, 3) := by decide +kernel
theorem dJ9_min_7cf53_9 : decode cJ9_min_7cf53 9 = .ok (.iload_n 1, 1) := by decide +kernel
theorem dJ9_min_7cf53_10 : decode cJ9_min_7cf53 10 = .ok (.ireturn, 1) := by decide +kernel
theorem dJ0_length_8abf5_0 : decode cJ0_length_8abf5 0 = .ok (.aload_n 0, 1) := by decide +kernel
theorem dJ0_length_8abf5_1 : decode cJ0_length_8abf5 1 = .ok (.getfield 9, 3) := by decide +kernel
theorem dJ0_length_8abf5_4 : decode cJ0_length_8abf5 4 = .ok (.arraylength, 1) := by decide +kernel
theorem dJ0_length_8abf5_5 : decode cJ0_length_8abf5 5 = .ok (.aload_n 0, 1) := by decide +kernel
theorem dJ0_length_8abf5_6 : decode cJ0_length_8abf5 6 = .ok (.invokevirtual 335, 3) := by decide +kernel
theorem dJ0_length_8abf5_9 : decode cJ0_length_8abf5 9 = .ok (.ishr, 1) := by decide +kernel
theorem dJ0_length_8abf5_10 : decode cJ0_length_8abf5 10 = .ok (.ireturn, 1) := by decide +kernel
theorem dJ0_charAt_5068e_0 : decode cJ0_charAt_5068e 0 = .ok (.aload_n 0, 1) := by decide +kernel
theorem dJ0_charAt_5068e_1 : decode cJ0_charAt_5068e 1 = .ok (.invokevirtual 492, 3) := by decide +kernel
theorem dJ0_charAt_5068e_4 : decode cJ0_charAt_5068e 4 = .ok (.ifCond .eq 12, 3) := by decide +kernel
theorem dJ0_charAt_5068e_7 : decode cJ0_charAt_5068e 7 = .ok (.aload_n 0, 1) := by decide +kernel
theorem dJ0_charAt_5068e_8 : decode cJ0_charAt_5068e 8 = .ok (.getfield 9, 3) := by decide +kernel
theorem dJ0_charAt_5068e_11 : decode cJ0_charAt_5068e 11 = .ok (.iload_n 1, 1) := by decide +kernel
theorem dJ0_charAt_5068e_12 : decode cJ0_charAt_5068e 12 = .ok (.invokestatic 495, 3) := by decide +kernel
theorem dJ0_charAt_5068e_15 : decode cJ0_charAt_5068e 15 = .ok (.ireturn, 1) := by decide +kernel
theorem dJ0_charAt_5068e_16 : decode cJ0_charAt_5068e 16 = .ok (.aload_n 0, 1) := by decide +kernel
theorem dJ0_charAt_5068e_17 : decode cJ0_charAt_5068e 17 = .ok (.getfield 9, 3) := by decide +kernel
theorem dJ0_charAt_5068e_20 : decode cJ0_charAt_5068e 20 = .ok (.iload_n 1, 1) := by decide +kernel
theorem dJ0_charAt_5068e_21 : decode cJ0_charAt_5068e 21 = .ok (.invokestatic 498, 3) := by decide +kernel
theorem dJ0_charAt_5068e_24 : decode cJ0_charAt_5068e 24 = .ok (.ireturn, 1) := by decide +kernel
theorem dJ0_coder_7d493_0 : decode cJ0_coder_7d493 0 = .ok (.getstatic 38, 3) := by decide +kernel
theorem dJ0_coder_7d493_3 : decode cJ0_coder_7d493 3 = .ok (.ifCond .eq 10, 3) := by decide +kernel
theorem dJ0_coder_7d493_6 : decode cJ0_coder_7d493 6 = .ok (.aload_n 0, 1) := by decide +kernel
theorem dJ0_coder_7d493_7 : decode cJ0_coder_7d493 7 = .ok (.getfield 15, 3) := by decide +kernel
theorem dJ0_coder_7d493_10 : decode cJ0_coder_7d493 10 = .ok (.goto 4, 3) := by decide +kernel
theorem dJ0_coder_7d493_13 : decode cJ0_coder_7d493 13 = .ok (.iconst 1, 1) := by decide +kernel
theorem dJ0_coder_7d493_14 : decode cJ0_coder_7d493 14 = .ok (.ireturn, 1) := by decide +kernel
theorem dJ0_isLatin1_aae02_0 : decode cJ0_isLatin1_aae02 0 = .ok (.getstatic 38, 3) := by decide +kernel
theorem dJ0_isLatin1_aae02_3 : decode cJ0_isLatin1_aae02 3 = .ok (.ifCond .eq 14, 3) := by decide +kernel
theorem dJ0_isLatin1_aae02_6 : decode cJ0_isLatin1_aae02 6 = .ok (.aload_n 0, 1) := by decide +kernel
theorem dJ0_isLatin1_aae02_7 : decode cJ0_isLatin1_aae02 7 = .ok (.getfield 15, 3) := by decide +kernel
theorem dJ0_isLatin1_aae02_10 : decode cJ0_isLatin1_aae02 10 = .ok (.ifCond .ne 7, 3) := by decide +kernel
theorem dJ0_isLatin1_aae02_13 : decode cJ0_isLatin1_aae02 13 = .ok (.iconst 1, 1) := by decide +kernel
theorem dJ0_isLatin1_aae02_14 : decode cJ0_isLatin1_aae02 14 = .ok (.goto 4, 3) := by decide +kernel
theorem dJ0_isLatin1_aae02_17 : decode cJ0_isLatin1_aae02 17 = .ok (.iconst 0, 1) := by decide +kernel
theorem dJ0_isLatin1_aae02_18 : decode cJ0_isLatin1_aae02 18 = .ok (.ireturn, 1) := by decide +kernel
theorem dJ0_checkIndex_df160_0 : decode cJ0_checkIndex_df160 0 = .ok (.iload_n 0, 1) := by decide +kernel
theorem dJ0_checkIndex_df160_1 : decode cJ0_checkIndex_df160 1 = .ok (.iload_n 1, 1) := by decide +kernel
theorem dJ0_checkIndex_df160_2 : decode cJ0_checkIndex_df160 2 = .ok (.getstatic 1053, 3) := by decide +kernel
theorem dJ0_checkIndex_df160_5 : decode cJ0_checkIndex_df160 5 = .ok (.invokestatic 1059, 3) := by decide +kernel
theorem dJ0_checkIndex_df160_8 : decode cJ0_checkIndex_df160 8 = .ok (.pop, 1) := by decide +kernel
theorem dJ0_checkIndex_df160_9 : decode cJ0_checkIndex_df160 9 = .ok (.return_, 1) := by decide +kernel
theorem dJ1_charAt_3b067_0 : decode cJ1_charAt_3b067 0 = .ok (.iload_n 1, 1) := by decide +kernel
theorem dJ1_charAt_3b067_1 : decode cJ1_charAt_3b067 1 = .ok (.aload_n 0, 1) := by decide +kernel
theorem dJ1_charAt_3b067_2 : decode cJ1_charAt_3b067 2 = .ok (.arraylength, 1) := by decide +kernel
theorem dJ1_charAt_3b067_3 : decode cJ1_charAt_3b067 3 = .ok (.invokestatic 9, 3) := by decide +kernel
theorem dJ1_charAt_3b067_6 : decode cJ1_charAt_3b067 6 = .ok (.aload_n 0, 1) := by decide +kernel
theorem dJ1_charAt_3b067_7 : decode cJ1_charAt_3b067 7 = .ok (.iload_n 1, 1) := by decide +kernel
theorem dJ1_charAt_3b067_8 : decode cJ1_charAt_3b067 8 = .ok (.baload, 1) := by decide +kernel
theorem dJ1_charAt_3b067_9 : decode cJ1_charAt_3b067 9 = .ok (.sipush 255, 3) := by decide +kernel
theorem dJ1_charAt_3b067_12 : decode cJ1_charAt_3b067 12 = .ok (.iand, 1) := by decide +kernel
theorem dJ1_charAt_3b067_13 : decode cJ1_charAt_3b067 13 = .ok (.i2c, 1) := by decide +kernel
theorem dJ1_charAt_3b067_14 : decode cJ1_charAt_3b067 14 = .ok (.ireturn, 1) := by decide +kernel
theorem dJ3_checkIndex_8e157_0 : decode cJ3_checkIndex_8e157 0 = .ok (.iload_n 0, 1) := by decide +kernel
theorem dJ3_checkIndex_8e157_1 : decode cJ3_checkIndex_8e157 1 = .ok (.ifCond .lt 8, 3) := by decide +kernel
theorem dJ3_checkIndex_8e157_4 : decode cJ3_checkIndex_8e157 4 = .ok (.iload_n 0, 1) := by decide +kernel
theorem dJ3_checkIndex_8e157_5 : decode cJ3_checkIndex_8e157 5 = .ok (.iload_n 1, 1) := by decide +kernel
theorem dJ3_checkIndex_8e157_6 : decode cJ3_checkIndex_8e157 6 = .ok (.if_icmp .lt 10, 3) := by decide +kernel
theorem dJ3_checkIndex_8e157_9 : decode cJ3_checkIndex_8e157 9 = .ok (.aload_n 2, 1) := by decide +kernel
theorem dJ3_checkIndex_8e157_10 : decode cJ3_checkIndex_8e157 10 = .ok (.iload_n 0, 1) := by decide +kernel
theorem dJ3_checkIndex_8e157_11 : decode cJ3_checkIndex_8e157 11 = .ok (.iload_n 1, 1) := by decide +kernel
theorem dJ3_checkIndex_8e157_12 : decode cJ3_checkIndex_8e157 12 = .ok (.invokestatic 95, 3) := by decide +kernel
theorem dJ3_checkIndex_8e157_15 : decode cJ3_checkIndex_8e157 15 = .ok (.athrow, 1) := by decide +kernel
theorem dJ3_checkIndex_8e157_16 : decode cJ3_checkIndex_8e157 16 = .ok (.iload_n 0, 1) := by decide +kernel
theorem dJ3_checkIndex_8e157_17 : decode cJ3_checkIndex_8e157 17 = .ok (.ireturn, 1) := by decide +kernel
end
section
def zT : List Cond := lw_tbl.filter goodWord
theorem zT_in {w : Cond} (i : Nat) (h : lw_tbl[i]? = some w) (hg : goodWord w = true) : w ∈ zT := List.mem_filter.mpr ⟨List.mem_of_getElem? h, hg⟩
/-! THE FRAME OF THE PROOF: one memory of 54 cells (44 of the class, 10 of the reference), rows of it, read and written by the methods; every method is walked against a function that a program wrote out of its bytecode. -/
abbrev zMem : Type := Nat → Nat → Int32
def wr (mem : zMem) (c i : Nat) (v : Int32) : zMem := fun k => if k = c then upd (mem c) i v else mem k
def cpy6 (mem : zMem) (a b : Nat) : zMem := fun k => if k = b then va_cpy (mem a) (mem b) 0 0 6 else mem k
/-- what the tables and the cells' addresses are: fields' places, the three array classes, addresses of the cells, of the String constants, of their bytes -/
abbrev zG : Type := va_G × (ClassId × ClassId × ClassId) × (Nat → Nat) × (Nat → Nat) × (Nat → Nat)
def zr (G : zG) (k : Nat) : Nat := G.2.2.1 k
def zk (G : zG) (k : Nat) : Nat := G.2.2.2.1 k
def zv (G : zG) (k : Nat) : Nat := G.2.2.2.2 k
def zcf (G : zG) (k : Nat) (f : Nat → Int32) : va_E := match k with
  | 0 => .inr (4, [.ref (zr G 1), .ref (zr G 6), .ref (zr G 11), .ref (zr G 13), .ref (zr G 30), .ref (zr G 35), .ref (zr G 36), .int (f 7), .int (f 8)])
  | 1 => .inr (2, [.ref (zr G 2), .ref (zr G 3), .ref (zr G 4), .ref (zr G 5), .int (f 4), .int (f 5), .int (f 6), .int (f 7), .int (f 8), .int (f 9)])
  | 2 => .inl (G.2.1.1, 160, .inl f)
  | 3 => .inl (G.2.1.1, 14, .inl f)
  | 4 => .inl (G.2.1.1, 14, .inl f)
  | 5 => .inl (G.2.1.1, 14, .inl f)
  | 6 => .inr (1, [.ref (zr G 7), .ref (zr G 8), .ref (zr G 9), .ref (zr G 10), .int (f 4), .int (f 5), .int (f 6), .int (f 7), .int (f 8)])
  | 7 => .inl (G.2.1.1, 8, .inl f)
  | 8 => .inl (G.2.1.1, 8, .inl f)
  | 9 => .inl (G.2.1.1, 8, .inl f)
  | 10 => .inl (G.2.1.1, 6, .inl f)
  | 11 => .inr (3, [.ref (zr G 12), .int (f 1), .int (f 2), .int (f 3), .int (f 4), .int (f 5), .int (f 6)])
  | 12 => .inl (G.2.1.1, 6, .inl f)
  | 13 => .inl (G.2.1.2.2, 8, .inr (.inr (.inr (.inr (fun j => some (zr G (14 + 2 * j)))))))
  | 14 => .inr (3, [.ref (zr G 15), .int (f 1), .int (f 2), .int (f 3), .int (f 4), .int (f 5), .int (f 6)])
  | 15 => .inl (G.2.1.1, 6, .inl f)
  | 16 => .inr (3, [.ref (zr G 17), .int (f 1), .int (f 2), .int (f 3), .int (f 4), .int (f 5), .int (f 6)])
  | 17 => .inl (G.2.1.1, 6, .inl f)
  | 18 => .inr (3, [.ref (zr G 19), .int (f 1), .int (f 2), .int (f 3), .int (f 4), .int (f 5), .int (f 6)])
  | 19 => .inl (G.2.1.1, 6, .inl f)
  | 20 => .inr (3, [.ref (zr G 21), .int (f 1), .int (f 2), .int (f 3), .int (f 4), .int (f 5), .int (f 6)])
  | 21 => .inl (G.2.1.1, 6, .inl f)
  | 22 => .inr (3, [.ref (zr G 23), .int (f 1), .int (f 2), .int (f 3), .int (f 4), .int (f 5), .int (f 6)])
  | 23 => .inl (G.2.1.1, 6, .inl f)
  | 24 => .inr (3, [.ref (zr G 25), .int (f 1), .int (f 2), .int (f 3), .int (f 4), .int (f 5), .int (f 6)])
  | 25 => .inl (G.2.1.1, 6, .inl f)
  | 26 => .inr (3, [.ref (zr G 27), .int (f 1), .int (f 2), .int (f 3), .int (f 4), .int (f 5), .int (f 6)])
  | 27 => .inl (G.2.1.1, 6, .inl f)
  | 28 => .inr (3, [.ref (zr G 29), .int (f 1), .int (f 2), .int (f 3), .int (f 4), .int (f 5), .int (f 6)])
  | 29 => .inl (G.2.1.1, 6, .inl f)
  | 30 => .inl (G.2.1.2.2, 2, .inr (.inr (.inr (.inr (fun j => some (zr G (31 + 2 * j)))))))
  | 31 => .inr (3, [.ref (zr G 32), .int (f 1), .int (f 2), .int (f 3), .int (f 4), .int (f 5), .int (f 6)])
  | 32 => .inl (G.2.1.1, 6, .inl f)
  | 33 => .inr (3, [.ref (zr G 34), .int (f 1), .int (f 2), .int (f 3), .int (f 4), .int (f 5), .int (f 6)])
  | 34 => .inl (G.2.1.1, 6, .inl f)
  | 35 => .inl (G.2.1.2.1, 2, .inl f)
  | 36 => .inr (0, [.ref (zr G 37), .ref (zr G 38), .ref (zr G 39), .ref (zr G 40), .ref (zr G 41), .ref (zr G 42), .ref (zr G 43), .int (f 7), .int (f 8)])
  | 37 => .inl (G.2.1.1, 6, .inl f)
  | 38 => .inl (G.2.1.1, 6, .inl f)
  | 39 => .inl (G.2.1.1, 6, .inl f)
  | 40 => .inl (G.2.1.1, 6, .inl f)
  | 41 => .inl (G.2.1.1, 6, .inl f)
  | 42 => .inl (G.2.1.1, 6, .inl f)
  | 43 => .inl (G.2.1.2.1, 6, .inl f)
  | 44 => .inr (5, [.ref (zr G 45), .int (f 1), .ref (zr G 46), .ref (zr G 47), .ref (zr G 48), .ref (zr G 49), .int (f 6), .ref (zr G 50), .ref (zr G 51), .ref (zr G 52), .int (f 10), .ref (zr G 53), .int (f 12), .int (f 13), .int (f 14), .int (f 15), .int (f 16)])
  | 45 => .inl (G.2.1.1, 160, .inl f)
  | 46 => .inl (G.2.1.1, 35, .inl f)
  | 47 => .inl (G.2.1.1, 35, .inl f)
  | 48 => .inl (G.2.1.1, 12, .inl f)
  | 49 => .inl (G.2.1.1, 96, .inl f)
  | 50 => .inl (G.2.1.1, 24, .inl f)
  | 51 => .inl (G.2.1.2.1, 2, .inl f)
  | 52 => .inl (G.2.1.1, 18, .inl f)
  | _ => .inl (G.2.1.1, 18, .inl f)
def WS (G : zG) (mem : zMem) : va_W := (List.range 54).map (fun k => (zr G k, zcf G k (mem k)))
theorem WS_get {G : zG} {mem : zMem} {k : Nat} {e : va_E} (hk : k < 54) (he : zcf G k (mem k) = e) : (WS G mem)[k]? = some (zr G k, e) := by
  subst he
  simp [WS, hk]
theorem WS_inv {G : zG} {mem : zMem} {k : Nat} {q : Nat × va_E} (h : (WS G mem)[k]? = some q) : k < 54 ∧ q.1 = zr G k := by
  by_cases hk : k < 54
  · rw [WS_get hk rfl] at h
    cases h
    exact ⟨hk, rfl⟩
  · rw [List.getElem?_eq_none (by simp [WS]; omega)] at h
    cases h
theorem WS_set {G : zG} {mem mem' : zMem} {k : Nat} {e : va_E} (hk : k < 54) (he : zcf G k (mem' k) = e) (ho : ∀ j, j ≠ k → mem' j = mem j) : (WS G mem).set k (zr G k, e) = WS G mem' := by
  subst he
  apply List.ext_getElem?
  intro j
  by_cases hj : j < 54
  · by_cases hjk : j = k
    · subst hjk
      rw [List.getElem?_set_self (by simp [WS, hj])]
      exact (WS_get hj rfl).symm
    · rw [List.getElem?_set_ne (Ne.symm hjk), WS_get hj rfl, WS_get (mem := mem') hj rfl, ho j hjk]
  · rw [List.getElem?_eq_none (by simp [WS]; omega), List.getElem?_eq_none (by simp [WS]; omega)]
def zAd (G : zG) : Nat → Prop := fun q => ∃ k : Nat, k < 54 ∧ q = zr G k
def zOK (G : zG) : Prop := ∀ i j : Nat, i < 54 → j < 54 → zr G i = zr G j → i = j
theorem zD {G : zG} (hG : zOK G) {A : Nat → Prop} (hA : ∀ q, zAd G q → A q) (mem : zMem) : va_D A (WS G mem) := by
  refine ⟨fun i j p q hi hj hpq => ?_, fun k q hk => ?_⟩
  · obtain ⟨h1, h2⟩ := WS_inv hi
    obtain ⟨h3, h4⟩ := WS_inv hj
    exact hG i j h1 h3 (by rw [← h2, ← h4, hpq])
  · obtain ⟨h1, h2⟩ := WS_inv hk
    exact hA _ ⟨k, h1, h2⟩
def zNw (U : State) : Prop := va_Nw (.methodLinkNest RX4 9 yX2_init RX4) U ∧ va_Nw (.methodLinkNest RX4 25 yX3_init RX4) U ∧ va_Nw (.methodLinkNest RX4 47 yX0_init RX4) U ∧ va_Nw (.methodLinkNest RX2 65 yX4_isWithin RX4) U ∧ va_Nw (.methodLinkNest RX1 51 yX4_isIn RX4) U ∧ va_Nw (.methodLinkNest RX1 55 yX4_ouncesOf RX4) U
def jsLen : List Nat := [4, 4, 5, 5, 5, 4, 5, 4, 3]
def jsByt : List (List Int32) := [[107, 105, 114, 107], [119, 111, 114, 100], [103, 114, 101, 101, 107], [113, 117, 111, 116, 101], [112, 115, 97, 108, 109], [115, 111, 117, 108], [116, 104, 117, 109, 98], [98, 101, 97, 109], [119, 101, 116]]
def jsIx (i : Nat) : Nat := [92, 94, 95, 97, 99, 101, 103, 105, 107].getD i 0
def jsTx (i : Nat) : String := ["kirk", "word", "greek", "quote", "psalm", "soul", "thumb", "beam", "wet"].getD i ""
abbrev zTy (G : zG) : List (ClassId × FieldType) := [(G.2.1.1, .int), (G.2.1.2.1, .boolean), (G.2.1.2.2, .object RX3)]
def zSt (G : zG) (U : State) (H : Heap) : Prop := va_K G.1 vwCl (zTy G) U ∧ vk_S 9 jsLen jsByt (zk G) (zv G) (zAd G) U H ∧ (∀ i : Nat, i < 9 → vk_R RX2 (jsIx i) (jsTx i) (zk G i) U) ∧ va_Z "java/lang/String" "COMPACT_STRINGS" "Z" (.int 1) (zAd G) U H ∧ va_Zq "jdk/internal/util/Preconditions" "SIOOBE_FORMATTER" "Ljava/util/function/BiFunction;" (zAd G) U H ∧ zNw U
theorem zNw.warm {s U : State} (hW : s.WarmedH U.vm) (h : zNw s) : zNw U := ⟨va_Nw.warmM hW h.1, va_Nw.warmM hW h.2.1, va_Nw.warmM hW h.2.2.1, va_Nw.warmM hW h.2.2.2.1, va_Nw.warmM hW h.2.2.2.2.1, va_Nw.warmM hW h.2.2.2.2.2⟩
theorem zNw.same {s U : State} (hv : s.vm = U.vm) (h : zNw s) : zNw U := ⟨va_Nw.same rfl hv h.1, va_Nw.same rfl hv h.2.1, va_Nw.same rfl hv h.2.2.1, va_Nw.same rfl hv h.2.2.2.1, va_Nw.same rfl hv h.2.2.2.2.1, va_Nw.same rfl hv h.2.2.2.2.2⟩
theorem zSt.go {G : zG} {s U : State} {H : Heap} (h : zSt G s s.heap) (hq : ∀ a : Nat, a < s.heap.size → ¬ zAd G a → H[a]? = s.heap[a]?) (hW : s.WarmedH U.vm) : zSt G U H :=
  ⟨va_K.moved hW.alike h.1, (vk_S.moved hW.alike h.2.1).kept hq, fun i hi => (h.2.2.1 i hi).warm hW, (va_Z.moved hW.alike h.2.2.2.1).kept hq, (va_Zq.moved hW.alike h.2.2.2.2.1).kept hq, h.2.2.2.2.2.warm hW⟩
theorem zSt.same {G : zG} {s U : State} {H : Heap} (hv : s.vm = U.vm) (h : zSt G s H) : zSt G U H := by
  have ha : s.vm.Alike U.vm := by rw [hv]; exact Vm.Alike.refl _
  exact ⟨va_K.moved ha h.1, vk_S.moved ha h.2.1, fun i hi => (h.2.2.1 i hi).same hv.symm, va_Z.moved ha h.2.2.2.1, va_Zq.moved ha h.2.2.2.2.1, h.2.2.2.2.2.same hv⟩
def zPre (G : zG) (mem : zMem) (U : State) : Prop := va_P G.1 vwCl (WS G mem) U.heap ∧ zSt G U U.heap
def zPost (G : zG) (mem : zMem) (t : State) : Prop := va_P G.1 vwCl (WS G mem) t.heap
theorem zBlind {G : zG} {mem : zMem} {As : List Value} : FrameBlind (va_Pc As (zPre G mem)) := fun a U g mk q => ⟨q.1, q.2.1, zSt.same (U := U.calling g mk a) rfl q.2.2⟩
def zQi (G : zG) (r : Int32) (mem : zMem) : Array Value → State → Outcome → State → Prop := va_Qi (fun (r' : Int32) (_ : Unit) => r' = r) (fun _ t => zPost G mem t) (zAd G)
def zQv (G : zG) (mem : zMem) : Array Value → State → Outcome → State → Prop := va_Qv (fun (_ : Unit) => True) (fun _ t => zPost G mem t) (zAd G)
def zQs (G : zG) (i : Nat) (mem : zMem) : Array Value → State → Outcome → State → Prop := va_Qr (fun (_ : Unit) => True) (fun _ a t => a = zk G i ∧ zPost G mem t) (zAd G)
def zM (l : Launch) (G : zG) (y : MethodName) (cc : ByteArray) (nL : Nat) (ret : Option FieldType) (fr lo : Nat) (As : List Value) (mem : zMem) (Qc : Array Value → State → Outcome → State → Prop) : Prop :=
  Met l y (Cond.code y cc nL ret :: zT) ({ frames := fr, cells := 0, slots := 0, locals := lo } : Room) (va_Pc As (zPre G mem)) Qc 0 0 (zAd G)
/-- what stands while a method is walked -/
def zC (A : Nat → Prop) (G : zG) (p : Program) (s : State) (m : MethodId) (args : Array Value) (c : Code) (cc : ByteArray) (nL : Nat) (own : String) : Prop :=
  CallFix p m c cc nL s args zT own ∧ zOK G ∧ ((∀ q, zAd G q → A q) ∧ ∀ q, q < s.heap.size → A q → zAd G q) ∧ zSt G s s.heap
def zH (A : Nat → Prop) (G : zG) (s : State) (mem : zMem) (H : Heap) (locs : List Loc) : Prop := va_P G.1 vwCl (WS G mem) H ∧ va_S A s.heap H locs
theorem zC.now {A : Nat → Prop} {G : zG} {p : Program} {s : State} {m : MethodId} {args : Array Value} {c : Code} {cc : ByteArray} {nL : Nat} {own : String} (C : zC A G p s m args c cc nL own) {mem : zMem} {H : Heap} {locs : List Loc} (Z : zH A G s mem H locs) {U : State} (hW : s.WarmedH U.vm) : zSt G U H :=
  C.2.2.2.go (fun a h1 h2 => Z.2.2.1 a h1 (fun h => h2 (C.2.2.1.2 a h1 h))) hW
theorem zStart {l : Launch} {G : zG} {y : MethodName} {cc : ByteArray} {nL : Nat} {ret : Option FieldType} {fr lo : Nat} {As : List Value} {mem : zMem} {Qc : Array Value → State → Outcome → State → Prop} (hG : zOK G) (hy : plainName y.cls = true) (hlen : (lg_sl As).length ≤ nL)
    (body : ∀ (p : Program) (e : Env) (s : State) (m : MethodId) (below : List Frame) (meth : Method) (c : Code), zC (zAd G) G p s m As.toArray c cc nL y.cls → meth.sig.returnType = ret → meth.locks = false → ∀ ls : Array Slot, lv_has ls nL (lv_args 0 As) → zH (zAd G) G s mem s.heap [] → W p l e ({ frames := fr, cells := 0, slots := 0, locals := lo } : Room) s m As.toArray below meth c s.heap [] 0 0 (MQ below Qc As.toArray s 0 0 (zAd G)) (F0 m 0 ls [])) :
    zM l G y cc nL ret fr lo As mem Qc := by
  refine Met.ofW (cc := cc) (maxL := nL) (ret := ret) hy rfl ?_
  intro p e s m args below meth c s₁ B hml hv
  obtain ⟨rfl, hP, hS⟩ := hv
  have hts := atoms_spec (ws := Cond.code y cc nL ret :: zT) B.pre
  have hown : s.vm.findClass y.cls = some m.cls := findClass_of_methodNamed B.named
  rw [lg_entry_eq]
  exact body p e s m below meth c ⟨⟨B.exec, B.bytes, hml, hown, fun w hw => hts w (List.mem_cons_of_mem _ hw)⟩, hG, ⟨fun _ h => h, fun _ _ h => h⟩, hS⟩ B.returns B.notSynchronized _ (lv_entry As hlen) ⟨hP, va_S.rf⟩
def zin (i : Int32) (n : Nat) : Bool := decide (0 ≤ i.toInt ∧ i.toInt < n)
theorem zin_in {i : Int32} {n : Nat} (h : zin i n = true) : vp_in i n := vp_in_iff.mpr (of_decide_eq_true h)
def znz (x : Int32) : Bool := !decide (x = 0)
theorem znz_ne {x : Int32} (h : znz x = true) : ¬ x = 0 := by
  intro e
  subst e
  exact absurd h (by decide)
def zbo (x : Int32) : Bool := decide (x = 0) || decide (x = 1)
theorem zbo_nar {x : Int32} (h : zbo x = true) : narrow .boolean (.int x) = .int x := by
  unfold zbo at h
  rw [Bool.or_eq_true, decide_eq_true_eq, decide_eq_true_eq] at h
  rcases h with rfl | rfl <;> rfl
def zgd {α : Type} (b : Bool) (x : Option α) : Option α := match b with
  | true => x
  | false => none
theorem zgd_some {α : Type} {b : Bool} {x : Option α} {y : α} (h : zgd b x = some y) : b = true ∧ x = some y := by
  cases b
  · cases h
  · exact ⟨rfl, h⟩
def zb {α β : Type} (x : Option (α × zMem)) (k : α → zMem → Option β) : Option β := match x with
  | none => none
  | some z => k z.1 z.2
theorem zb_some {α β : Type} {x : Option (α × zMem)} {k : α → zMem → Option β} {y : β} (h : zb x k = some y) : ∃ (r : α) (mem : zMem), x = some (r, mem) ∧ k r mem = some y := by
  cases x with
  | none => cases h
  | some z => exact ⟨z.1, z.2, rfl, h⟩
theorem zGood {y : MethodName} {cc : ByteArray} {n : Nat} {r : Option FieldType} (h : Cond.code y cc n r ∈ zT) : GoodIn zT (Cond.code y cc n r :: zT) := by
  intro w hw
  rcases List.mem_cons.mp hw with rfl | hw
  · exact ⟨h, good_of_word (List.mem_filter.mp h).2⟩
  · exact ⟨hw, good_of_word (List.mem_filter.mp hw).2⟩
theorem zGoodL {y : MethodName} {cc : ByteArray} {n : Nat} {r : Option FieldType} (h : Cond.code y cc n r ∈ zT) : GoodIn lw_tbl (Cond.code y cc n r :: zT) := fun w hw => ⟨(List.mem_filter.mp (zGood h w hw).1).1, (zGood h w hw).2⟩
theorem zGood1 {w : Cond} {ws : List Cond} (h : w ∈ zT) (hw : GoodIn zT ws) : GoodIn zT (w :: ws) := by
  intro v hv
  rcases List.mem_cons.mp hv with rfl | hv
  · exact ⟨h, good_of_word (List.mem_filter.mp h).2⟩
  · exact hw v hv
theorem zGoodV {own C : String} {idx : Nat} {y : MethodName} {cc : ByteArray} {n : Nat} {r : Option FieldType} (h1 : Cond.methodLink own idx y ∈ zT) (h2 : Cond.instanceMethod y ∈ zT) (h3 : Cond.selects C y y ∈ zT) (h4 : Cond.initialized C ∈ zT) (h5 : Cond.code y cc n r ∈ zT) : GoodIn zT (wsV own idx C y (Cond.code y cc n r :: zT)) := zGood1 h1 (zGood1 h2 (zGood1 h3 (zGood1 h4 (zGood h5))))
theorem zGoodS {own : String} {idx : Nat} {y : MethodName} {cc : ByteArray} {n : Nat} {r : Option FieldType} (h1 : Cond.methodLink own idx y ∈ zT) (h2 : Cond.static y ∈ zT) (h4 : Cond.initialized y.cls ∈ zT) (h5 : Cond.code y cc n r ∈ zT) : GoodIn zT (va_wsS own idx y (Cond.code y cc n r :: zT)) := zGood1 h1 (zGood1 h2 (zGood1 h4 (zGood h5)))
def zW (k : Nat) : Bool := [11, 14, 16, 18, 20, 22, 24, 26, 28, 31, 33].contains k
theorem zW_or {k : Nat} (h : zW k = true) : k = 11 ∨ k = 14 ∨ k = 16 ∨ k = 18 ∨ k = 20 ∨ k = 22 ∨ k = 24 ∨ k = 26 ∨ k = 28 ∨ k = 31 ∨ k = 33 := by
  simpa [zW] using h
theorem zW_lt {k : Nat} (h : zW k = true) : k < 54 ∧ k + 1 < 54 := by
  rcases zW_or h with rfl | rfl | rfl | rfl | rfl | rfl | rfl | rfl | rfl | rfl | rfl <;> decide
theorem zcf_W {k : Nat} (h : zW k = true) (G : zG) (f : Nat → Int32) : zcf G k f = .inr (3, [.ref (zr G (k + 1)), .int (f 1), .int (f 2), .int (f 3), .int (f 4), .int (f 5), .int (f 6)]) := by
  rcases zW_or h with rfl | rfl | rfl | rfl | rfl | rfl | rfl | rfl | rfl | rfl | rfl <;> rfl
theorem zcf_Ws {k : Nat} (h : zW k = true) (G : zG) (f : Nat → Int32) : zcf G (k + 1) f = .inl (G.2.1.1, 6, .inl f) := by
  rcases zW_or h with rfl | rfl | rfl | rfl | rfl | rfl | rfl | rfl | rfl | rfl | rfl <;> rfl
theorem zin_lt {i : Int32} {n : Nat} (h : zin i n = true) : i.toNatClampNeg < n := Nat.not_le.mp fun q => zin_in h (Or.inr q)
theorem zW_past {i : Int32} (h : zin i 8 = true) : zW (14 + 2 * i.toNatClampNeg) = true := by
  have h1 := zin_lt h
  generalize i.toNatClampNeg = j at h1
  match j, h1 with
  | 0, _ => rfl
  | 1, _ => rfl
  | 2, _ => rfl
  | 3, _ => rfl
  | 4, _ => rfl
  | 5, _ => rfl
  | 6, _ => rfl
  | 7, _ => rfl
theorem zW_kept {i : Int32} (h : zin i 2 = true) : zW (31 + 2 * i.toNatClampNeg) = true := by
  have h1 := zin_lt h
  generalize i.toNatClampNeg = j at h1
  match j, h1 with
  | 0, _ => rfl
  | 1, _ => rfl
section ZR
variable {A : Nat → Prop} {G : zG} {p : Program} {l : Launch} {e : Env} {R : Room} {s : State} {m : MethodId} {args : Array Value} {below : List Frame} {meth : Method} {c : Code} {H : Heap} {locs : List Loc} {cells slots : Nat} {Q : State → Prop}
variable {cc : ByteArray} {nL : Nat} {own : String} {pc : Nat} {ls : Array Slot} {rest st : List Value} {mem : zMem}
theorem z_get (C : zC A G p s m args c cc nL own) (Z : zH A G s mem H locs) {k ci : Nat} {fs : List Value} (hk : k < 54) (he : zcf G k (mem k) = .inr (ci, fs)) {Cn : String} {T : u_T} {N : Nat} (hc : vwCl[ci]? = some (Cn, T, N)) (hin : ∀ w ∈ u_ws Cn T N, w ∈ zT) (j : Nat) (hj : j < N) {index : Nat} (hl : Cond.fieldLink own index Cn (T j).2.1 (T j).2.2.1 ∈ zT) (h0 : (T j).1 = Cn) {v : Value} (hv : fs[j]? = some v) (hdg : decode cc pc = .ok (.getfield index, 3))
    (kk : W p l e R s m args below meth c H locs cells slots Q (F0 m (pc + 3) ls (v :: rest))) : W p l e R s m args below meth c H locs cells slots Q (F0 m pc ls (.ref (zr G k) :: rest)) :=
  va_get C.1.1 C.1.2.1 C.1.2.2.2.2 hin C.1.2.2.2.1 C.2.2.2.1 Z.1 k (WS_get hk he) hc j hj (C.1.2.2.2.2 _ hl) (fun x hx => by rw [h0] at hx; exact hx) hv hdg kk
theorem z_put (C : zC A G p s m args c cc nL own) (Z : zH A G s mem H locs) {k ci : Nat} {fs : List Value} (hk : k < 54) (he : zcf G k (mem k) = .inr (ci, fs)) {Cn : String} {T : u_T} {N : Nat} (hc : vwCl[ci]? = some (Cn, T, N)) (hin : ∀ w ∈ u_ws Cn T N, w ∈ zT) (ty0 : Nat → FieldType) (hty : ∀ k, k < N → parseFieldDescriptor (T k).2.2.1 = some (ty0 k)) (hnm : ∀ a, a < N → ∀ b, b < N → a ≠ b → (T a).2.1 ≠ (T b).2.1) (j : Nat) (hj : j < N) {index : Nat} (hl : Cond.fieldLink own index Cn (T j).2.1 (T j).2.2.1 ∈ zT) (h0 : (T j).1 = Cn) (hfin : (T j).2.2.2 = false) (hd : parseFieldDescriptor (T j).2.2.1 = some .int) {x : Int32} (hlen : j < fs.length) (hset : zcf G k (upd (mem k) j x) = .inr (ci, fs.set j (.int x))) (hdg : decode cc pc = .ok (.putfield index, 3))
    (kk : ∀ (H1 : Heap) (locs1 : List Loc), zH A G s (wr mem k j x) H1 locs1 → W p l e R s m args below meth c H1 locs1 cells slots Q (F0 m (pc + 3) ls rest)) : W p l e R s m args below meth c H locs cells slots Q (F0 m pc ls (.int x :: .ref (zr G k) :: rest)) := by
  refine va_put C.1.1 C.1.2.1 C.1.2.2.2.2 hin ty0 hty hnm C.1.2.2.2.1 C.2.2.2.1 Z.1 (zD C.2.1 C.2.2.1.1 mem) Z.2 k (WS_get hk he) hc j hj (C.1.2.2.2.2 _ hl) (fun x hx => by rw [h0] at hx; exact hx) hfin hd rfl rfl hlen hdg (fun H1 locs1 hP hD hS => ?_)
  refine kk H1 locs1 ⟨?_, hS⟩
  rw [← WS_set (mem := mem) (mem' := wr mem k j x) hk (e := .inr (ci, fs.set j (.int x))) (by simp only [wr, if_true]; exact hset) (fun i hi => by simp only [wr, if_neg hi])]
  exact hP
theorem z_iald (C : zC A G p s m args c cc nL own) (Z : zH A G s mem H locs) {k n : Nat} (hk : k < 54) (he : zcf G k (mem k) = .inl (G.2.1.1, n, .inl (mem k))) {i : Int32} (hi : zin i n = true) (hdg : decode cc pc = .ok (.iaload, 1))
    (kk : W p l e R s m args below meth c H locs cells slots Q (F0 m (pc + 1) ls (.int (mem k i.toNatClampNeg) :: rest))) : W p l e R s m args below meth c H locs cells slots Q (F0 m pc ls (.int i :: .ref (zr G k) :: rest)) :=
  va_iald C.1.1 C.1.2.1 C.2.2.2.1 Z.1 k 0 (WS_get hk he) rfl (zin_in hi) hdg kk
theorem z_bald (C : zC A G p s m args c cc nL own) (Z : zH A G s mem H locs) {k n : Nat} (hk : k < 54) (he : zcf G k (mem k) = .inl (G.2.1.2.1, n, .inl (mem k))) {i : Int32} (hi : zin i n = true) (hdg : decode cc pc = .ok (.baload, 1))
    (kk : W p l e R s m args below meth c H locs cells slots Q (F0 m (pc + 1) ls (.int (mem k i.toNatClampNeg) :: rest))) : W p l e R s m args below meth c H locs cells slots Q (F0 m pc ls (.int i :: .ref (zr G k) :: rest)) :=
  va_zald C.1.1 C.1.2.1 C.2.2.2.1 Z.1 k 1 (WS_get hk he) rfl (zin_in hi) hdg kk
theorem z_iast (C : zC A G p s m args c cc nL own) (Z : zH A G s mem H locs) {k n : Nat} (hk : k < 54) (he : ∀ f : Nat → Int32, zcf G k f = .inl (G.2.1.1, n, .inl f)) {i x : Int32} (hi : zin i n = true) (hdg : decode cc pc = .ok (.iastore, 1))
    (kk : ∀ (H1 : Heap) (locs1 : List Loc), zH A G s (wr mem k i.toNatClampNeg x) H1 locs1 → W p l e R s m args below meth c H1 locs1 cells slots Q (F0 m (pc + 1) ls rest)) : W p l e R s m args below meth c H locs cells slots Q (F0 m pc ls (.int x :: .int i :: .ref (zr G k) :: rest)) := by
  refine va_iast C.1.1 C.1.2.1 C.2.2.2.1 Z.1 (zD C.2.1 C.2.2.1.1 mem) Z.2 k 0 (WS_get hk (he _)) rfl (zin_in hi) hdg (fun H1 locs1 hP hD hS => ?_)
  refine kk H1 locs1 ⟨?_, hS⟩
  rw [← WS_set (mem := mem) (mem' := wr mem k i.toNatClampNeg x) hk (e := .inl (G.2.1.1, n, .inl (upd (mem k) i.toNatClampNeg x))) (by simp only [wr, if_true]; exact he _) (fun i hi => by simp only [wr, if_neg hi])]
  exact hP
theorem z_bast (C : zC A G p s m args c cc nL own) (Z : zH A G s mem H locs) {k n : Nat} (hk : k < 54) (he : ∀ f : Nat → Int32, zcf G k f = .inl (G.2.1.2.1, n, .inl f)) {i x : Int32} (hi : zin i n = true) (hdg : decode cc pc = .ok (.bastore, 1))
    (kk : ∀ (H1 : Heap) (locs1 : List Loc), zH A G s (wr mem k i.toNatClampNeg (vp_nar .boolean x)) H1 locs1 → W p l e R s m args below meth c H1 locs1 cells slots Q (F0 m (pc + 1) ls rest)) : W p l e R s m args below meth c H locs cells slots Q (F0 m pc ls (.int x :: .int i :: .ref (zr G k) :: rest)) := by
  refine va_zast C.1.1 C.1.2.1 C.2.2.2.1 Z.1 (zD C.2.1 C.2.2.1.1 mem) Z.2 k 1 (WS_get hk (he _)) rfl (zin_in hi) hdg (fun H1 locs1 hP hD hS => ?_)
  refine kk H1 locs1 ⟨?_, hS⟩
  rw [← WS_set (mem := mem) (mem' := wr mem k i.toNatClampNeg (vp_nar .boolean x)) hk (e := .inl (G.2.1.2.1, n, .inl (upd (mem k) i.toNatClampNeg (vp_nar .boolean x)))) (by simp only [wr, if_true]; exact he _) (fun i hi => by simp only [wr, if_neg hi])]
  exact hP
theorem z_past (C : zC A G p s m args c cc nL own) (Z : zH A G s mem H locs) {i : Int32} (hi : zin i 8 = true) (hdg : decode cc pc = .ok (.aaload, 1))
    (kk : W p l e R s m args below meth c H locs cells slots Q (F0 m (pc + 1) ls (.ref (zr G (14 + 2 * i.toNatClampNeg)) :: rest))) : W p l e R s m args below meth c H locs cells slots Q (F0 m pc ls (.int i :: .ref (zr G 13) :: rest)) :=
  va_aldq C.1.1 C.1.2.1 C.2.2.2.1 Z.1 13 2 (WS_get (by decide) rfl) rfl (zin_in hi) hdg kk
theorem z_kept (C : zC A G p s m args c cc nL own) (Z : zH A G s mem H locs) {i : Int32} (hi : zin i 2 = true) (hdg : decode cc pc = .ok (.aaload, 1))
    (kk : W p l e R s m args below meth c H locs cells slots Q (F0 m (pc + 1) ls (.ref (zr G (31 + 2 * i.toNatClampNeg)) :: rest))) : W p l e R s m args below meth c H locs cells slots Q (F0 m pc ls (.int i :: .ref (zr G 30) :: rest)) :=
  va_aldq C.1.1 C.1.2.1 C.2.2.2.1 Z.1 30 2 (WS_get (by decide) rfl) rfl (zin_in hi) hdg kk
theorem z_iret {v : Int32} (C : zC (zAd G) G p s m args c cc nL own) (Z : zH (zAd G) G s mem H locs) (hr : meth.sig.returnType = some .int) (hlk : meth.locks = false) (hdg : decode cc pc = .ok (.ireturn, 1)) : W p l e R s m args below meth c H locs 0 0 (MQ below (zQi G v mem) args s 0 0 (zAd G)) (F0 m pc ls [.int v]) :=
  W.iret C.1.1 C.1.2.1 hr (fun t ht hW => ⟨⟨v, (), rfl, rfl, by show va_P _ _ _ _; rw [ht]; exact Z.1⟩, Z.2.F ht⟩) Z.2.2.2 hdg hlk
theorem z_zret {v : Int32} (C : zC (zAd G) G p s m args c cc nL own) (Z : zH (zAd G) G s mem H locs) (hr : meth.sig.returnType = some .boolean) (hlk : meth.locks = false) (hv : zbo v = true) (hdg : decode cc pc = .ok (.ireturn, 1)) : W p l e R s m args below meth c H locs 0 0 (MQ below (zQi G v mem) args s 0 0 (zAd G)) (F0 m pc ls [.int v]) :=
  W.zret C.1.1 C.1.2.1 hr (zbo_nar hv) (fun t ht hW => ⟨⟨v, (), rfl, rfl, by show va_P _ _ _ _; rw [ht]; exact Z.1⟩, Z.2.F ht⟩) Z.2.2.2 hdg hlk
theorem z_vret (C : zC (zAd G) G p s m args c cc nL own) (Z : zH (zAd G) G s mem H locs) (hr : meth.sig.returnType = none) (hlk : meth.locks = false) (hdg : decode cc pc = .ok (.return_, 1)) : W p l e R s m args below meth c H locs 0 0 (MQ below (zQv G mem) args s 0 0 (zAd G)) (F0 m pc ls []) :=
  W.vret C.1.1 C.1.2.1 hr (fun t ht hW => ⟨⟨(), rfl, trivial, by show va_P _ _ _ _; rw [ht]; exact Z.1⟩, Z.2.F ht⟩) Z.2.2.2 hdg hlk
theorem z_sret {i : Nat} {rt : String} (C : zC (zAd G) G p s m args c cc nL own) (Z : zH (zAd G) G s mem H locs) (hr : meth.sig.returnType = some (.object rt)) (hlk : meth.locks = false) (hdg : decode cc pc = .ok (.areturn, 1)) : W p l e R s m args below meth c H locs 0 0 (MQ below (zQs G i mem) args s 0 0 (zAd G)) (F0 m pc ls [.ref (zk G i)]) :=
  W.aret C.1.1 C.1.2.1 hr (Or.inl ⟨_, rfl⟩) (Or.inr ⟨_, rfl⟩) (fun t ht hW => ⟨⟨(), zk G i, rfl, trivial, rfl, by show va_P _ _ _ _; rw [ht]; exact Z.1⟩, Z.2.F ht⟩) Z.2.2.2 hdg hlk
section ZCALL
variable {y : MethodName} {bytes : ByteArray} {maxL : Nat} {ret : Option FieldType} {fr lo index : Nat} {k ci : Nat} {fs : List Value} {Cn : String} {T : u_T} {N n : Nat} {As : List Value} {r : Int32} {mem' : zMem}
theorem zCall_pre (C : zC A G p s m args c cc nL own) (Z : zH A G s mem H locs) (b : Value) : ∀ U : State, U.heap = H → s.WarmedH U.vm → va_Pc (b :: As) (zPre G mem) (b :: As).toArray U := fun U hU hW => ⟨rfl, by rw [hU]; exact Z.1, by rw [hU]; exact C.now Z hW⟩
theorem zCall_preS (C : zC A G p s m args c cc nL own) (Z : zH A G s mem H locs) : ∀ U : State, U.heap = H → s.WarmedH U.vm → va_Pc As (zPre G mem) As.toArray U := fun U hU hW => ⟨rfl, by rw [hU]; exact Z.1, by rw [hU]; exact C.now Z hW⟩
theorem zAft {t : State} {H1 : Heap} {locs1 : List Loc} (hB : zPost G mem' t) (ht : t.heap = H1) (hS : va_S A s.heap H1 locs1) : zH A G s mem' H1 locs1 := by
  have h : va_P G.1 vwCl (WS G mem') t.heap := hB
  rw [ht] at h
  exact ⟨h, hS⟩
theorem z_callVi (C : zC A G p s m args c cc nL own) (Z : zH A G s mem H locs) (hM : zM l G y bytes maxL ret fr lo (.ref (zr G k) :: As) mem (zQi G r mem')) (cw : CallW R s args own Cn index y bytes maxL ret (Cond.code y bytes maxL ret :: zT) ({ frames := fr, cells := 0, slots := 0, locals := lo } : Room) 0 0 n) (hk : k < 54) (he : zcf G k (mem k) = .inr (ci, fs)) (hc : vwCl[ci]? = some (Cn, T, N)) (hn : As.length = n) (hls : ls.size = nL) (hst : st = As.reverse ++ .ref (zr G k) :: rest) (hroom : (rest.map fun v => v.category).sum ≤ 8) (hf : cells ≤ R.cells ∧ slots ≤ R.slots) (hdg : decode cc pc = .ok (.invokevirtual index, 3))
    (kk : ∀ (H1 : Heap) (locs1 : List Loc), zH A G s mem' H1 locs1 → W p l e R s m args below meth c H1 locs1 cells slots Q (F0 m (pc + 3) ls (.int r :: rest))) : W p l e R s m args below meth c H locs cells slots Q (F0 m pc ls st) := by
  refine va_calli (va_runV (As := As) (rest := rest) C.1 hM cw ⟨zBlind, va_recv C.2.2.2.1 Z.1 hc (WS_get hk he), zCall_pre C Z _⟩ rfl hn hls hst (lv_room hroom) hdg ⟨hf.1, hf.2⟩) Z.2 (fun q _ h => C.2.2.1.1 q h) C.2.2.1.1 (fun r' u t H1 locs1 ht hvm hw hB hz1 hk1 hS => ?_)
  subst hw
  exact kk H1 locs1 (zAft hB ht hS)
theorem z_callVv (C : zC A G p s m args c cc nL own) (Z : zH A G s mem H locs) (hM : zM l G y bytes maxL ret fr lo (.ref (zr G k) :: As) mem (zQv G mem')) (cw : CallW R s args own Cn index y bytes maxL ret (Cond.code y bytes maxL ret :: zT) ({ frames := fr, cells := 0, slots := 0, locals := lo } : Room) 0 0 n) (hk : k < 54) (he : zcf G k (mem k) = .inr (ci, fs)) (hc : vwCl[ci]? = some (Cn, T, N)) (hn : As.length = n) (hls : ls.size = nL) (hst : st = As.reverse ++ .ref (zr G k) :: rest) (hroom : (rest.map fun v => v.category).sum ≤ 8) (hf : cells ≤ R.cells ∧ slots ≤ R.slots) (hdg : decode cc pc = .ok (.invokevirtual index, 3))
    (kk : ∀ (H1 : Heap) (locs1 : List Loc), zH A G s mem' H1 locs1 → W p l e R s m args below meth c H1 locs1 cells slots Q (F0 m (pc + 3) ls rest)) : W p l e R s m args below meth c H locs cells slots Q (F0 m pc ls st) := by
  refine va_callv (va_runV (As := As) (rest := rest) C.1 hM cw ⟨zBlind, va_recv C.2.2.2.1 Z.1 hc (WS_get hk he), zCall_pre C Z _⟩ rfl hn hls hst (lv_room hroom) hdg ⟨hf.1, hf.2⟩) Z.2 (fun q _ h => C.2.2.1.1 q h) C.2.2.1.1 (fun u t H1 locs1 ht hvm hw hB hz1 hk1 hS => ?_)
  exact kk H1 locs1 (zAft hB ht hS)
theorem z_callSi (C : zC A G p s m args c cc nL own) (Z : zH A G s mem H locs) (hM : zM l G y bytes maxL ret fr lo As mem (zQi G r mem')) (cw : CallB R s args own index y bytes maxL ret (Cond.code y bytes maxL ret :: zT) ({ frames := fr, cells := 0, slots := 0, locals := lo } : Room) 0 0 n ∧ (Cond.static y).before args s = true) (hn : As.length = n) (hls : ls.size = nL) (hst : st = As.reverse ++ rest) (hroom : (rest.map fun v => v.category).sum ≤ 8) (hf : cells ≤ R.cells ∧ slots ≤ R.slots) (hdg : decode cc pc = .ok (.invokestatic index, 3))
    (kk : ∀ (H1 : Heap) (locs1 : List Loc), zH A G s mem' H1 locs1 → W p l e R s m args below meth c H1 locs1 cells slots Q (F0 m (pc + 3) ls (.int r :: rest))) : W p l e R s m args below meth c H locs cells slots Q (F0 m pc ls st) := by
  refine va_calli (va_runS (As := As) (rest := rest) C.1 hM cw ⟨zBlind, zCall_preS C Z⟩ rfl hn hls hst (lv_room hroom) hdg ⟨hf.1, hf.2⟩) Z.2 (fun q _ h => C.2.2.1.1 q h) C.2.2.1.1 (fun r' u t H1 locs1 ht hvm hw hB hz1 hk1 hS => ?_)
  subst hw
  exact kk H1 locs1 (zAft hB ht hS)
theorem z_callSv (C : zC A G p s m args c cc nL own) (Z : zH A G s mem H locs) (hM : zM l G y bytes maxL ret fr lo As mem (zQv G mem')) (cw : CallB R s args own index y bytes maxL ret (Cond.code y bytes maxL ret :: zT) ({ frames := fr, cells := 0, slots := 0, locals := lo } : Room) 0 0 n ∧ (Cond.static y).before args s = true) (hn : As.length = n) (hls : ls.size = nL) (hst : st = As.reverse ++ rest) (hroom : (rest.map fun v => v.category).sum ≤ 8) (hf : cells ≤ R.cells ∧ slots ≤ R.slots) (hdg : decode cc pc = .ok (.invokestatic index, 3))
    (kk : ∀ (H1 : Heap) (locs1 : List Loc), zH A G s mem' H1 locs1 → W p l e R s m args below meth c H1 locs1 cells slots Q (F0 m (pc + 3) ls rest)) : W p l e R s m args below meth c H locs cells slots Q (F0 m pc ls st) := by
  refine va_callv (va_runS (As := As) (rest := rest) C.1 hM cw ⟨zBlind, zCall_preS C Z⟩ rfl hn hls hst (lv_room hroom) hdg ⟨hf.1, hf.2⟩) Z.2 (fun q _ h => C.2.2.1.1 q h) C.2.2.1.1 (fun u t H1 locs1 ht hvm hw hB hz1 hk1 hS => ?_)
  exact kk H1 locs1 (zAft hB ht hS)
theorem z_callSs {i : Nat} (C : zC A G p s m args c cc nL own) (Z : zH A G s mem H locs) (hM : zM l G y bytes maxL ret fr lo As mem (zQs G i mem')) (cw : CallB R s args own index y bytes maxL ret (Cond.code y bytes maxL ret :: zT) ({ frames := fr, cells := 0, slots := 0, locals := lo } : Room) 0 0 n ∧ (Cond.static y).before args s = true) (hn : As.length = n) (hls : ls.size = nL) (hst : st = As.reverse ++ rest) (hroom : (rest.map fun v => v.category).sum ≤ 8) (hf : cells ≤ R.cells ∧ slots ≤ R.slots) (hdg : decode cc pc = .ok (.invokestatic index, 3))
    (kk : ∀ (H1 : Heap) (locs1 : List Loc), zH A G s mem' H1 locs1 → W p l e R s m args below meth c H1 locs1 cells slots Q (F0 m (pc + 3) ls (.ref (zk G i) :: rest))) : W p l e R s m args below meth c H locs cells slots Q (F0 m pc ls st) := by
  refine va_callr (va_runS (As := As) (rest := rest) C.1 hM cw ⟨zBlind, zCall_preS C Z⟩ rfl hn hls hst (lv_room hroom) hdg ⟨hf.1, hf.2⟩) Z.2 (fun q _ h => C.2.2.1.1 q h) C.2.2.1.1 (fun u a t H1 locs1 ht hvm hw hB hz1 hk1 hS => ?_)
  obtain ⟨rfl, hB⟩ := hB
  exact kk H1 locs1 (zAft hB ht hS)
theorem z_callNi {host : String} (C : zC A G p s m args c cc nL own) (Z : zH A G s mem H locs) (hM : zM l G y bytes maxL ret fr lo As mem (zQi G r mem')) (cw : va_CN R s args own index y host bytes maxL ret (Cond.code y bytes maxL ret :: zT) ({ frames := fr, cells := 0, slots := 0, locals := lo } : Room) 0 0 n ∧ (Cond.static y).before args s = true ∧ True) (hn : As.length = n) (hls : ls.size = nL) (hst : st = As.reverse ++ rest) (hroom : (rest.map fun v => v.category).sum ≤ 8) (hf : cells ≤ R.cells ∧ slots ≤ R.slots) (hdg : decode cc pc = .ok (.invokestatic index, 3))
    (kk : ∀ (H1 : Heap) (locs1 : List Loc), zH A G s mem' H1 locs1 → W p l e R s m args below meth c H1 locs1 cells slots Q (F0 m (pc + 3) ls (.int r :: rest))) : W p l e R s m args below meth c H locs cells slots Q (F0 m pc ls st) := by
  refine va_calli (va_runSN (As := As) (rest := rest) C.1 hM cw ⟨zBlind, zCall_preS C Z⟩ rfl hn hls hst (lv_room hroom) hdg ⟨hf.1, hf.2⟩) Z.2 (fun q _ h => C.2.2.1.1 q h) C.2.2.1.1 (fun r' u t H1 locs1 ht hvm hw hB hz1 hk1 hS => ?_)
  subst hw
  exact kk H1 locs1 (zAft hB ht hS)
theorem z_callTi {i : Nat} (hi : i < 9) (C : zC A G p s m args c cc nL own) (Z : zH A G s mem H locs) (hM : zM l G y bytes maxL ret fr lo (.ref (zk G i) :: As) mem (zQi G r mem')) (cw : CallW R s args own "java/lang/String" index y bytes maxL ret (Cond.code y bytes maxL ret :: zT) ({ frames := fr, cells := 0, slots := 0, locals := lo } : Room) 0 0 n) (hn : As.length = n) (hls : ls.size = nL) (hst : st = As.reverse ++ .ref (zk G i) :: rest) (hroom : (rest.map fun v => v.category).sum ≤ 8) (hf : cells ≤ R.cells ∧ slots ≤ R.slots) (hdg : decode cc pc = .ok (.invokevirtual index, 3))
    (kk : ∀ (H1 : Heap) (locs1 : List Loc), zH A G s mem' H1 locs1 → W p l e R s m args below meth c H1 locs1 cells slots Q (F0 m (pc + 3) ls (.int r :: rest))) : W p l e R s m args below meth c H locs cells slots Q (F0 m pc ls st) := by
  have hv : ∃ cell : Cell, H[zk G i]? = some cell ∧ cell.vm.isStatics = false ∧ s.vm.findClass "java/lang/String" = some cell.cls := by
    obtain ⟨cell, h1, h2, h3, -⟩ := ((C.now Z (State.WarmedH.refl s)).2.1.1 i hi).1
    exact ⟨cell, h1, h2, h3⟩
  refine va_calli (va_runV (As := As) (rest := rest) C.1 hM cw ⟨zBlind, hv, zCall_pre C Z _⟩ rfl hn hls hst (lv_room hroom) hdg ⟨hf.1, hf.2⟩) Z.2 (fun q _ h => C.2.2.1.1 q h) C.2.2.1.1 (fun r' u t H1 locs1 ht hvm hw hB hz1 hk1 hS => ?_)
  subst hw
  exact kk H1 locs1 (zAft hB ht hS)
end ZCALL
theorem z_cpy6 (C : zC A G p s m args c cc nL own) (Z : zH A G s mem H locs) {a b index : Nat} (hls : ls.size = nL) (ha : a < 54) (hb : b < 54) (hea : ∀ f : Nat → Int32, zcf G a f = .inl (G.2.1.1, 6, .inl f)) (heb : ∀ f : Nat → Int32, zcf G b f = .inl (G.2.1.1, 6, .inl f)) (hlink : Cond.methodLink own index arraycopyName ∈ zT) (hnat : Cond.native arraycopyName ∈ zT) (hstat : Cond.static arraycopyName ∈ zT) (hini : Cond.initialized "java/lang/System" ∈ zT) (hframes : 1 ≤ R.frames) (hlocals : (rest.map fun v => v.category).sum + (nativeFrameWords "java/lang/System" "arraycopy" 5 + 11) ≤ R.locals) (hdg : decode cc pc = .ok (.invokestatic index, 3))
    (kk : ∀ (H1 : Heap) (locs1 : List Loc), zH A G s (cpy6 mem a b) H1 locs1 → W p l e R s m args below meth c H1 locs1 cells slots Q (F0 m (pc + 3) ls rest)) : W p l e R s m args below meth c H locs cells slots Q (F0 m pc ls (.int 6 :: .int 0 :: .ref (zr G b) :: .int 0 :: .ref (zr G a) :: rest)) := by
  refine va_copyi (ty := .int) C.1.1 C.1.2.1 (C.1.2.2.1.trans hls.symm) C.1.2.2.2.1 (C.1.2.2.2.2 _ hlink) (C.1.2.2.2.2 _ hnat) (C.1.2.2.2.2 _ hstat) (C.1.2.2.2.2 _ hini) C.2.2.2.1 Z.1 (zD C.2.1 C.2.2.1.1 mem) Z.2 a b 0 0 (WS_get ha (hea _)) (WS_get hb (heb _)) rfl rfl rfl (by decide) (by decide) (by decide) (by decide) (by decide) (fun _ _ => rfl) hframes hlocals hdg (fun H1 locs1 hP hD hS => ?_)
  refine kk H1 locs1 ⟨?_, hS⟩
  rw [← WS_set (mem := mem) (mem' := cpy6 mem a b) hb (e := .inl (G.2.1.1, 6, .inl (va_cpy (mem a) (mem b) 0 0 6))) (by simp only [cpy6, if_true]; exact heb _) (fun i hi => by simp only [cpy6, if_neg hi])]
  exact hP
end ZR
end
section
theorem lkN_L : Cond.initialized RL ∈ zT := zT_in 47 (by decide +kernel) (by decide +kernel)
theorem lkN_X4 : Cond.initialized RX4 ∈ zT := zT_in 48 (by decide +kernel) (by decide +kernel)
theorem lkN_X2 : Cond.initialized RX2 ∈ zT := zT_in 49 (by decide +kernel) (by decide +kernel)
theorem lkN_X1 : Cond.initialized RX1 ∈ zT := zT_in 50 (by decide +kernel) (by decide +kernel)
theorem lkN_X3 : Cond.initialized RX3 ∈ zT := zT_in 51 (by decide +kernel) (by decide +kernel)
theorem lkN_X0 : Cond.initialized RX0 ∈ zT := zT_in 52 (by decide +kernel) (by decide +kernel)
theorem lkN_X5 : Cond.initialized RX5 ∈ zT := zT_in 53 (by decide +kernel) (by decide +kernel)
theorem lkN_J0 : Cond.initialized RJ0 ∈ zT := zT_in 54 (by decide +kernel) (by decide +kernel)
theorem lkN_J1 : Cond.initialized RJ1 ∈ zT := zT_in 55 (by decide +kernel) (by decide +kernel)
theorem lkN_J3 : Cond.initialized RJ3 ∈ zT := zT_in 56 (by decide +kernel) (by decide +kernel)
theorem lkN_J2 : Cond.initialized RJ2 ∈ zT := zT_in 57 (by decide +kernel) (by decide +kernel)
theorem lkN_J10 : Cond.initialized RJ10 ∈ zT := zT_in 58 (by decide +kernel) (by decide +kernel)
theorem lkN_J9 : Cond.initialized RJ9 ∈ zT := zT_in 59 (by decide +kernel) (by decide +kernel)
theorem lkN_J6 : Cond.initialized RJ6 ∈ zT := zT_in 60 (by decide +kernel) (by decide +kernel)
theorem lkI_X4_init : Cond.instanceMethod yX4_init ∈ zT := zT_in 64 (by decide +kernel) (by decide +kernel)
theorem lkC_X4_init : Cond.code yX4_init cX4_init 1 none ∈ zT := zT_in 65 (by decide +kernel) (by decide +kernel)
theorem lkI_X2_init : Cond.instanceMethod yX2_init ∈ zT := zT_in 72 (by decide +kernel) (by decide +kernel)
theorem lkC_X2_init : Cond.code yX2_init cX2_init 1 none ∈ zT := zT_in 73 (by decide +kernel) (by decide +kernel)
theorem lkF_X2_9 : Cond.fieldLink RX2 9 "SermonScale$Text" "letters" "[I" ∈ zT := zT_in 75 (by decide +kernel) (by decide +kernel)
theorem lkF_X2_15 : Cond.fieldLink RX2 15 "SermonScale$Text" "word" "[I" ∈ zT := zT_in 76 (by decide +kernel) (by decide +kernel)
theorem lkF_X4_77 : Cond.fieldLink RX4 77 "SermonScale$Text" "word" "[I" ∈ zT := zT_in 77 (by decide +kernel) (by decide +kernel)
theorem lkF_X2_18 : Cond.fieldLink RX2 18 "SermonScale$Text" "first" "[I" ∈ zT := zT_in 78 (by decide +kernel) (by decide +kernel)
theorem lkF_X4_81 : Cond.fieldLink RX4 81 "SermonScale$Text" "first" "[I" ∈ zT := zT_in 79 (by decide +kernel) (by decide +kernel)
theorem lkF_X2_21 : Cond.fieldLink RX2 21 "SermonScale$Text" "second" "[I" ∈ zT := zT_in 80 (by decide +kernel) (by decide +kernel)
theorem lkF_X4_84 : Cond.fieldLink RX4 84 "SermonScale$Text" "second" "[I" ∈ zT := zT_in 81 (by decide +kernel) (by decide +kernel)
theorem lkF_X2_24 : Cond.fieldLink RX2 24 "SermonScale$Text" "length" "I" ∈ zT := zT_in 82 (by decide +kernel) (by decide +kernel)
theorem lkF_X4_60 : Cond.fieldLink RX4 60 "SermonScale$Text" "length" "I" ∈ zT := zT_in 83 (by decide +kernel) (by decide +kernel)
theorem lkF_X2_37 : Cond.fieldLink RX2 37 "SermonScale$Text" "clauses" "I" ∈ zT := zT_in 84 (by decide +kernel) (by decide +kernel)
theorem lkF_X4_74 : Cond.fieldLink RX4 74 "SermonScale$Text" "clauses" "I" ∈ zT := zT_in 85 (by decide +kernel) (by decide +kernel)
theorem lkF_X2_44 : Cond.fieldLink RX2 44 "SermonScale$Text" "tokenStart" "I" ∈ zT := zT_in 86 (by decide +kernel) (by decide +kernel)
theorem lkF_X2_34 : Cond.fieldLink RX2 34 "SermonScale$Text" "tokenEnd" "I" ∈ zT := zT_in 87 (by decide +kernel) (by decide +kernel)
theorem lkF_X2_28 : Cond.fieldLink RX2 28 "SermonScale$Text" "partsThen" "I" ∈ zT := zT_in 88 (by decide +kernel) (by decide +kernel)
theorem lkF_X2_31 : Cond.fieldLink RX2 31 "SermonScale$Text" "soulsThen" "I" ∈ zT := zT_in 89 (by decide +kernel) (by decide +kernel)
theorem lkM_X4_18 : Cond.methodLink RX4 18 yX1_init ∈ zT := zT_in 114 (by decide +kernel) (by decide +kernel)
theorem lkI_X1_init : Cond.instanceMethod yX1_init ∈ zT := zT_in 115 (by decide +kernel) (by decide +kernel)
theorem lkC_X1_init : Cond.code yX1_init cX1_init 1 none ∈ zT := zT_in 116 (by decide +kernel) (by decide +kernel)
theorem lkM_X1_24 : Cond.methodLink RX1 24 yX1_beginAsAtFirst ∈ zT := zT_in 118 (by decide +kernel) (by decide +kernel)
theorem lkI_X1_beginAsAtFirst : Cond.instanceMethod yX1_beginAsAtFirst ∈ zT := zT_in 120 (by decide +kernel) (by decide +kernel)
theorem lkC_X1_beginAsAtFirst : Cond.code yX1_beginAsAtFirst cX1_beginAsAtFirst 1 none ∈ zT := zT_in 121 (by decide +kernel) (by decide +kernel)
theorem lkF_X1_9 : Cond.fieldLink RX1 9 "SermonScale$Parish" "kind" "[I" ∈ zT := zT_in 122 (by decide +kernel) (by decide +kernel)
theorem lkF_X4_107 : Cond.fieldLink RX4 107 "SermonScale$Parish" "kind" "[I" ∈ zT := zT_in 123 (by decide +kernel) (by decide +kernel)
theorem lkF_X1_15 : Cond.fieldLink RX1 15 "SermonScale$Parish" "weight" "[I" ∈ zT := zT_in 124 (by decide +kernel) (by decide +kernel)
theorem lkF_X4_110 : Cond.fieldLink RX4 110 "SermonScale$Parish" "weight" "[I" ∈ zT := zT_in 125 (by decide +kernel) (by decide +kernel)
theorem lkF_X1_18 : Cond.fieldLink RX1 18 "SermonScale$Parish" "minutes" "[I" ∈ zT := zT_in 126 (by decide +kernel) (by decide +kernel)
theorem lkF_X4_113 : Cond.fieldLink RX4 113 "SermonScale$Parish" "minutes" "[I" ∈ zT := zT_in 127 (by decide +kernel) (by decide +kernel)
theorem lkF_X1_21 : Cond.fieldLink RX1 21 "SermonScale$Parish" "toldSins" "[I" ∈ zT := zT_in 128 (by decide +kernel) (by decide +kernel)
theorem lkF_X3_15 : Cond.fieldLink RX3 15 "SermonScale$Parish" "toldSins" "[I" ∈ zT := zT_in 129 (by decide +kernel) (by decide +kernel)
theorem lkF_X1_27 : Cond.fieldLink RX1 27 "SermonScale$Parish" "parts" "I" ∈ zT := zT_in 130 (by decide +kernel) (by decide +kernel)
theorem lkF_X4_64 : Cond.fieldLink RX4 64 "SermonScale$Parish" "parts" "I" ∈ zT := zT_in 131 (by decide +kernel) (by decide +kernel)
theorem lkF_X1_31 : Cond.fieldLink RX1 31 "SermonScale$Parish" "souls" "I" ∈ zT := zT_in 132 (by decide +kernel) (by decide +kernel)
theorem lkF_X4_67 : Cond.fieldLink RX4 67 "SermonScale$Parish" "souls" "I" ∈ zT := zT_in 133 (by decide +kernel) (by decide +kernel)
theorem lkF_X1_34 : Cond.fieldLink RX1 34 "SermonScale$Parish" "thumb" "I" ∈ zT := zT_in 134 (by decide +kernel) (by decide +kernel)
theorem lkF_X4_265 : Cond.fieldLink RX4 265 "SermonScale$Parish" "thumb" "I" ∈ zT := zT_in 135 (by decide +kernel) (by decide +kernel)
theorem lkF_X1_37 : Cond.fieldLink RX1 37 "SermonScale$Parish" "beam" "I" ∈ zT := zT_in 136 (by decide +kernel) (by decide +kernel)
theorem lkF_X4_262 : Cond.fieldLink RX4 262 "SermonScale$Parish" "beam" "I" ∈ zT := zT_in 137 (by decide +kernel) (by decide +kernel)
theorem lkF_X1_40 : Cond.fieldLink RX1 40 "SermonScale$Parish" "toldWet" "I" ∈ zT := zT_in 138 (by decide +kernel) (by decide +kernel)
theorem lkF_X3_33 : Cond.fieldLink RX3 33 "SermonScale$Parish" "toldWet" "I" ∈ zT := zT_in 139 (by decide +kernel) (by decide +kernel)
theorem lkI_X3_init : Cond.instanceMethod yX3_init ∈ zT := zT_in 162 (by decide +kernel) (by decide +kernel)
theorem lkC_X3_init : Cond.code yX3_init cX3_init 1 none ∈ zT := zT_in 163 (by decide +kernel) (by decide +kernel)
theorem lkF_X3_9 : Cond.fieldLink RX3 9 "SermonScale$Week" "sins" "[I" ∈ zT := zT_in 165 (by decide +kernel) (by decide +kernel)
theorem lkF_X4_133 : Cond.fieldLink RX4 133 "SermonScale$Week" "sins" "[I" ∈ zT := zT_in 166 (by decide +kernel) (by decide +kernel)
theorem lkF_X3_26 : Cond.fieldLink RX3 26 "SermonScale$Week" "preached" "I" ∈ zT := zT_in 167 (by decide +kernel) (by decide +kernel)
theorem lkF_X4_123 : Cond.fieldLink RX4 123 "SermonScale$Week" "preached" "I" ∈ zT := zT_in 168 (by decide +kernel) (by decide +kernel)
theorem lkF_X3_30 : Cond.fieldLink RX3 30 "SermonScale$Week" "paid" "I" ∈ zT := zT_in 169 (by decide +kernel) (by decide +kernel)
theorem lkF_X4_161 : Cond.fieldLink RX4 161 "SermonScale$Week" "paid" "I" ∈ zT := zT_in 170 (by decide +kernel) (by decide +kernel)
theorem lkF_X3_36 : Cond.fieldLink RX3 36 "SermonScale$Week" "wet" "I" ∈ zT := zT_in 171 (by decide +kernel) (by decide +kernel)
theorem lkF_X4_116 : Cond.fieldLink RX4 116 "SermonScale$Week" "wet" "I" ∈ zT := zT_in 172 (by decide +kernel) (by decide +kernel)
theorem lkF_X3_39 : Cond.fieldLink RX3 39 "SermonScale$Week" "numbe\x72" "I" ∈ zT := zT_in 173 (by decide +kernel) (by decide +kernel)
theorem lkF_X4_164 : Cond.fieldLink RX4 164 "SermonScale$Week" "numbe\x72" "I" ∈ zT := zT_in 174 (by decide +kernel) (by decide +kernel)
theorem lkF_X3_42 : Cond.fieldLink RX3 42 "SermonScale$Week" "minutes" "I" ∈ zT := zT_in 175 (by decide +kernel) (by decide +kernel)
theorem lkF_X4_146 : Cond.fieldLink RX4 146 "SermonScale$Week" "minutes" "I" ∈ zT := zT_in 176 (by decide +kernel) (by decide +kernel)
theorem lkF_X3_45 : Cond.fieldLink RX3 45 "SermonScale$Week" "levelSundays" "I" ∈ zT := zT_in 177 (by decide +kernel) (by decide +kernel)
theorem lkF_X4_256 : Cond.fieldLink RX4 256 "SermonScale$Week" "levelSundays" "I" ∈ zT := zT_in 178 (by decide +kernel) (by decide +kernel)
theorem lkM_X4_30 : Cond.methodLink RX4 30 yX4_newWeeks ∈ zT := zT_in 194 (by decide +kernel) (by decide +kernel)
theorem lkS_X4_newWeeks : Cond.static yX4_newWeeks ∈ zT := zT_in 195 (by decide +kernel) (by decide +kernel)
theorem lkC_X4_newWeeks : Cond.code yX4_newWeeks cX4_newWeeks 3 (some (.array (.object "SermonScale$Week")) ∈ zT := zT_in 196 (by decide +kernel) (by decide +kernel)
theorem lkI_X0_init : Cond.instanceMethod yX0_init ∈ zT := zT_in 201 (by decide +kernel) (by decide +kernel)
theorem lkC_X0_init : Cond.code yX0_init cX0_init 1 none ∈ zT := zT_in 202 (by decide +kernel) (by decide +kernel)
theorem lkF_X0_9 : Cond.fieldLink RX0 9 "SermonScale$Notes" "seenParts" "[I" ∈ zT := zT_in 204 (by decide +kernel) (by decide +kernel)
theorem lkF_X4_217 : Cond.fieldLink RX4 217 "SermonScale$Notes" "seenParts" "[I" ∈ zT := zT_in 205 (by decide +kernel) (by decide +kernel)
theorem lkF_X0_15 : Cond.fieldLink RX0 15 "SermonScale$Notes" "seenWet" "[I" ∈ zT := zT_in 206 (by decide +kernel) (by decide +kernel)
theorem lkF_X4_220 : Cond.fieldLink RX4 220 "SermonScale$Notes" "seenWet" "[I" ∈ zT := zT_in 207 (by decide +kernel) (by decide +kernel)
theorem lkF_X0_18 : Cond.fieldLink RX0 18 "SermonScale$Notes" "seenOunces" "[I" ∈ zT := zT_in 208 (by decide +kernel) (by decide +kernel)
theorem lkF_X4_226 : Cond.fieldLink RX4 226 "SermonScale$Notes" "seenOunces" "[I" ∈ zT := zT_in 209 (by decide +kernel) (by decide +kernel)
theorem lkF_X0_21 : Cond.fieldLink RX0 21 "SermonScale$Notes" "heardParts" "[I" ∈ zT := zT_in 210 (by decide +kernel) (by decide +kernel)
theorem lkF_X4_232 : Cond.fieldLink RX4 232 "SermonScale$Notes" "heardParts" "[I" ∈ zT := zT_in 211 (by decide +kernel) (by decide +kernel)
theorem lkF_X0_24 : Cond.fieldLink RX0 24 "SermonScale$Notes" "heardLead" "[I" ∈ zT := zT_in 212 (by decide +kernel) (by decide +kernel)
theorem lkF_X4_238 : Cond.fieldLink RX4 238 "SermonScale$Notes" "heardLead" "[I" ∈ zT := zT_in 213 (by decide +kernel) (by decide +kernel)
theorem lkF_X0_27 : Cond.fieldLink RX0 27 "SermonScale$Notes" "heardWet" "[I" ∈ zT := zT_in 214 (by decide +kernel) (by decide +kernel)
theorem lkF_X4_235 : Cond.fieldLink RX4 235 "SermonScale$Notes" "heardWet" "[I" ∈ zT := zT_in 215 (by decide +kernel) (by decide +kernel)
theorem lkF_X0_30 : Cond.fieldLink RX0 30 "SermonScale$Notes" "heardLevel" "[Z" ∈ zT := zT_in 216 (by decide +kernel) (by decide +kernel)
theorem lkF_X4_241 : Cond.fieldLink RX4 241 "SermonScale$Notes" "heardLevel" "[Z" ∈ zT := zT_in 217 (by decide +kernel) (by decide +kernel)
theorem lkF_X0_34 : Cond.fieldLink RX0 34 "SermonScale$Notes" "seenMany" "I" ∈ zT := zT_in 218 (by decide +kernel) (by decide +kernel)
theorem lkF_X4_204 : Cond.fieldLink RX4 204 "SermonScale$Notes" "seenMany" "I" ∈ zT := zT_in 219 (by decide +kernel) (by decide +kernel)
theorem lkF_X0_38 : Cond.fieldLink RX0 38 "SermonScale$Notes" "heardMany" "I" ∈ zT := zT_in 220 (by decide +kernel) (by decide +kernel)
theorem lkF_X4_211 : Cond.fieldLink RX4 211 "SermonScale$Notes" "heardMany" "I" ∈ zT := zT_in 221 (by decide +kernel) (by decide +kernel)
theorem lkF_X4_10 : Cond.fieldLink RX4 10 "SermonScale" "text" "LSermonScale$Text;" ∈ zT := zT_in 242 (by decide +kernel) (by decide +kernel)
theorem lkF_X4_19 : Cond.fieldLink RX4 19 "SermonScale" "parish" "LSermonScale$Parish;" ∈ zT := zT_in 243 (by decide +kernel) (by decide +kernel)
theorem lkF_X4_26 : Cond.fieldLink RX4 26 "SermonScale" "now" "LSermonScale$Week;" ∈ zT := zT_in 244 (by decide +kernel) (by decide +kernel)
theorem lkF_X4_34 : Cond.fieldLink RX4 34 "SermonScale" "past" "[LSermonScale$Week;" ∈ zT := zT_in 245 (by decide +kernel) (by decide +kernel)
theorem lkF_X4_38 : Cond.fieldLink RX4 38 "SermonScale" "kept" "[LSermonScale$Week;" ∈ zT := zT_in 246 (by decide +kernel) (by decide +kernel)
theorem lkF_X4_41 : Cond.fieldLink RX4 41 "SermonScale" "isKept" "[Z" ∈ zT := zT_in 247 (by decide +kernel) (by decide +kernel)
theorem lkF_X4_48 : Cond.fieldLink RX4 48 "SermonScale" "notes" "LSermonScale$Notes;" ∈ zT := zT_in 248 (by decide +kernel) (by decide +kernel)
theorem lkF_X4_101 : Cond.fieldLink RX4 101 "SermonScale" "undoable" "I" ∈ zT := zT_in 249 (by decide +kernel) (by decide +kernel)
theorem lkF_X4_171 : Cond.fieldLink RX4 171 "SermonScale" "nextPast" "I" ∈ zT := zT_in 250 (by decide +kernel) (by decide +kernel)
theorem lkI_X4_write : Cond.instanceMethod yX4_write ∈ zT := zT_in 271 (by decide +kernel) (by decide +kernel)
theorem lkV_X4_write : Cond.selects RX4 yX4_write yX4_write ∈ zT := zT_in 272 (by decide +kernel) (by decide +kernel)
theorem lkC_X4_write : Cond.code yX4_write cX4_write 2 (some .int) ∈ zT := zT_in 273 (by decide +kernel) (by decide +kernel)
theorem lkM_X4_52 : Cond.methodLink RX4 52 yX4_isWithin ∈ zT := zT_in 274 (by decide +kernel) (by decide +kernel)
theorem lkS_X4_isWithin : Cond.static yX4_isWithin ∈ zT := zT_in 275 (by decide +kernel) (by decide +kernel)
theorem lkC_X4_isWithin : Cond.code yX4_isWithin cX4_isWithin 3 (some .boolean) ∈ zT := zT_in 276 (by decide +kernel) (by decide +kernel)
theorem lkM_X4_56 : Cond.methodLink RX4 56 yX2_add ∈ zT := zT_in 277 (by decide +kernel) (by decide +kernel)
theorem lkI_X2_add : Cond.instanceMethod yX2_add ∈ zT := zT_in 278 (by decide +kernel) (by decide +kernel)
theorem lkV_X2_add : Cond.selects RX2 yX2_add yX2_add ∈ zT := zT_in 279 (by decide +kernel) (by decide +kernel)
theorem lkC_X2_add : Cond.code yX2_add cX2_add 2 (some .boolean) ∈ zT := zT_in 280 (by decide +kernel) (by decide +kernel)
theorem lkI_X4_erase : Cond.instanceMethod yX4_erase ∈ zT := zT_in 282 (by decide +kernel) (by decide +kernel)
theorem lkV_X4_erase : Cond.selects RX4 yX4_erase yX4_erase ∈ zT := zT_in 283 (by decide +kernel) (by decide +kernel)
theorem lkC_X4_erase : Cond.code yX4_erase cX4_erase 2 (some .int) ∈ zT := zT_in 284 (by decide +kernel) (by decide +kernel)
theorem lkI_X4_fault : Cond.instanceMethod yX4_fault ∈ zT := zT_in 286 (by decide +kernel) (by decide +kernel)
theorem lkV_X4_fault : Cond.selects RX4 yX4_fault yX4_fault ∈ zT := zT_in 287 (by decide +kernel) (by decide +kernel)
theorem lkC_X4_fault : Cond.code yX4_fault cX4_fault 1 (some .int) ∈ zT := zT_in 288 (by decide +kernel) (by decide +kernel)
theorem lkM_X4_70 : Cond.methodLink RX4 70 yX2_firstFault ∈ zT := zT_in 289 (by decide +kernel) (by decide +kernel)
theorem lkI_X2_firstFault : Cond.instanceMethod yX2_firstFault ∈ zT := zT_in 290 (by decide +kernel) (by decide +kernel)
theorem lkV_X2_firstFault : Cond.selects RX2 yX2_firstFault yX2_firstFault ∈ zT := zT_in 291 (by decide +kernel) (by decide +kernel)
theorem lkC_X2_firstFault : Cond.code yX2_firstFault cX2_firstFault 4 (some .int) ∈ zT := zT_in 292 (by decide +kernel) (by decide +kernel)
theorem lkM_X2_40 : Cond.methodLink RX2 40 yX2_readClause ∈ zT := zT_in 293 (by decide +kernel) (by decide +kernel)
theorem lkI_X2_readClause : Cond.instanceMethod yX2_readClause ∈ zT := zT_in 295 (by decide +kernel) (by decide +kernel)
theorem lkC_X2_readClause : Cond.code yX2_readClause cX2_readClause 3 (some .boolean) ∈ zT := zT_in 296 (by decide +kernel) (by decide +kernel)
theorem lkM_X2_47 : Cond.methodLink RX2 47 yX2_nextToken ∈ zT := zT_in 297 (by decide +kernel) (by decide +kernel)
theorem lkI_X2_nextToken : Cond.instanceMethod yX2_nextToken ∈ zT := zT_in 299 (by decide +kernel) (by decide +kernel)
theorem lkC_X2_nextToken : Cond.code yX2_nextToken cX2_nextToken 1 none ∈ zT := zT_in 300 (by decide +kernel) (by decide +kernel)
theorem lkM_X2_72 : Cond.methodLink RX2 72 yX2_endOfRow ∈ zT := zT_in 301 (by decide +kernel) (by decide +kernel)
theorem lkI_X2_endOfRow : Cond.instanceMethod yX2_endOfRow ∈ zT := zT_in 303 (by decide +kernel) (by decide +kernel)
theorem lkC_X2_endOfRow : Cond.code yX2_endOfRow cX2_endOfRow 5 (some .int) ∈ zT := zT_in 304 (by decide +kernel) (by decide +kernel)
theorem lkM_X2_50 : Cond.methodLink RX2 50 yX2_tokenWord ∈ zT := zT_in 306 (by decide +kernel) (by decide +kernel)
theorem lkI_X2_tokenWord : Cond.instanceMethod yX2_tokenWord ∈ zT := zT_in 308 (by decide +kernel) (by decide +kernel)
theorem lkC_X2_tokenWord : Cond.code yX2_tokenWord cX2_tokenWord 2 (some .int) ∈ zT := zT_in 309 (by decide +kernel) (by decide +kernel)
theorem lkM_X2_76 : Cond.methodLink RX2 76 yX2_nameOf ∈ zT := zT_in 310 (by decide +kernel) (by decide +kernel)
theorem lkS_X2_nameOf : Cond.static yX2_nameOf ∈ zT := zT_in 311 (by decide +kernel) (by decide +kernel)
theorem lkC_X2_nameOf : Cond.code yX2_nameOf cX2_nameOf 1 (some (.object "java/lang/String")) ∈ zT := zT_in 312 (by decide +kernel) (by decide +kernel)
theorem lkM_X2_80 : Cond.methodLink RX2 80 yX2_tokenIs ∈ zT := zT_in 322 (by decide +kernel) (by decide +kernel)
theorem lkI_X2_tokenIs : Cond.instanceMethod yX2_tokenIs ∈ zT := zT_in 324 (by decide +kernel) (by decide +kernel)
theorem lkC_X2_tokenIs : Cond.code yX2_tokenIs cX2_tokenIs 3 (some .boolean) ∈ zT := zT_in 325 (by decide +kernel) (by decide +kernel)
theorem lkM_X2_84 : Cond.methodLink RX2 84 yJ0_length_8abf5 ∈ zT := zT_in 326 (by decide +kernel) (by decide +kernel)
theorem lkI_J0_length_8abf5 : Cond.instanceMethod yJ0_length_8abf5 ∈ zT := zT_in 327 (by decide +kernel) (by decide +kernel)
theorem lkV_J0_length_8abf5 : Cond.selects RJ0 yJ0_length_8abf5 yJ0_length_8abf5 ∈ zT := zT_in 328 (by decide +kernel) (by decide +kernel)
theorem lkC_J0_length_8abf5 : Cond.code yJ0_length_8abf5 cJ0_length_8abf5 1 (some .int) ∈ zT := zT_in 329 (by decide +kernel) (by decide +kernel)
theorem lkM_J0_335 : Cond.methodLink RJ0 335 yJ0_coder_7d493 ∈ zT := zT_in 330 (by decide +kernel) (by decide +kernel)
theorem lkI_J0_coder_7d493 : Cond.instanceMethod yJ0_coder_7d493 ∈ zT := zT_in 331 (by decide +kernel) (by decide +kernel)
theorem lkV_J0_coder_7d493 : Cond.selects RJ0 yJ0_coder_7d493 yJ0_coder_7d493 ∈ zT := zT_in 332 (by decide +kernel) (by decide +kernel)
theorem lkC_J0_coder_7d493 : Cond.code yJ0_coder_7d493 cJ0_coder_7d493 1 (some .byte) ∈ zT := zT_in 333 (by decide +kernel) (by decide +kernel)
theorem lkF_J0_38 : Cond.fieldLink RJ0 38 "java/lang/String" "COMPACT_STRINGS" "Z" ∈ zT := zT_in 334 (by decide +kernel) (by decide +kernel)
theorem lkM_X2_88 : Cond.methodLink RX2 88 yJ0_charAt_5068e ∈ zT := zT_in 336 (by decide +kernel) (by decide +kernel)
theorem lkI_J0_charAt_5068e : Cond.instanceMethod yJ0_charAt_5068e ∈ zT := zT_in 337 (by decide +kernel) (by decide +kernel)
theorem lkV_J0_charAt_5068e : Cond.selects RJ0 yJ0_charAt_5068e yJ0_charAt_5068e ∈ zT := zT_in 338 (by decide +kernel) (by decide +kernel)
theorem lkC_J0_charAt_5068e : Cond.code yJ0_charAt_5068e cJ0_charAt_5068e 2 (some .char) ∈ zT := zT_in 339 (by decide +kernel) (by decide +kernel)
theorem lkM_J0_492 : Cond.methodLink RJ0 492 yJ0_isLatin1_aae02 ∈ zT := zT_in 340 (by decide +kernel) (by decide +kernel)
theorem lkI_J0_isLatin1_aae02 : Cond.instanceMethod yJ0_isLatin1_aae02 ∈ zT := zT_in 341 (by decide +kernel) (by decide +kernel)
theorem lkV_J0_isLatin1_aae02 : Cond.selects RJ0 yJ0_isLatin1_aae02 yJ0_isLatin1_aae02 ∈ zT := zT_in 342 (by decide +kernel) (by decide +kernel)
theorem lkC_J0_isLatin1_aae02 : Cond.code yJ0_isLatin1_aae02 cJ0_isLatin1_aae02 1 (some .boolean) ∈ zT := zT_in 343 (by decide +kernel) (by decide +kernel)
theorem lkM_J0_495 : Cond.methodLink RJ0 495 yJ1_charAt_3b067 ∈ zT := zT_in 344 (by decide +kernel) (by decide +kernel)
theorem lkS_J1_charAt_3b067 : Cond.static yJ1_charAt_3b067 ∈ zT := zT_in 345 (by decide +kernel) (by decide +kernel)
theorem lkC_J1_charAt_3b067 : Cond.code yJ1_charAt_3b067 cJ1_charAt_3b067 2 (some .char) ∈ zT := zT_in 346 (by decide +kernel) (by decide +kernel)
theorem lkM_J1_9 : Cond.methodLink RJ1 9 yJ0_checkIndex_df160 ∈ zT := zT_in 347 (by decide +kernel) (by decide +kernel)
theorem lkS_J0_checkIndex_df160 : Cond.static yJ0_checkIndex_df160 ∈ zT := zT_in 348 (by decide +kernel) (by decide +kernel)
theorem lkC_J0_checkIndex_df160 : Cond.code yJ0_checkIndex_df160 cJ0_checkIndex_df160 2 none ∈ zT := zT_in 349 (by decide +kernel) (by decide +kernel)
theorem lkF_J0_1053 : Cond.fieldLink RJ0 1053 "jdk/internal/util/Preconditions" "SIOOBE_FORMATTER" "Ljava/util/function/BiFunction;" ∈ zT := zT_in 350 (by decide +kernel) (by decide +kernel)
theorem lkM_J0_1059 : Cond.methodLink RJ0 1059 yJ3_checkIndex_8e157 ∈ zT := zT_in 352 (by decide +kernel) (by decide +kernel)
theorem lkS_J3_checkIndex_8e157 : Cond.static yJ3_checkIndex_8e157 ∈ zT := zT_in 353 (by decide +kernel) (by decide +kernel)
theorem lkC_J3_checkIndex_8e157 : Cond.code yJ3_checkIndex_8e157 cJ3_checkIndex_8e157 3 (some .int) ∈ zT := zT_in 354 (by decide +kernel) (by decide +kernel)
theorem lkM_J0_498 : Cond.methodLink RJ0 498 yJ2_charAt_3b067 ∈ zT := zT_in 355 (by decide +kernel) (by decide +kernel)
theorem lkS_J2_charAt_3b067 : Cond.static yJ2_charAt_3b067 ∈ zT := zT_in 356 (by decide +kernel) (by decide +kernel)
theorem lkC_J2_charAt_3b067 : Cond.code yJ2_charAt_3b067 cJ2_charAt_3b067 2 (some .char) ∈ zT := zT_in 357 (by decide +kernel) (by decide +kernel)
theorem lkM_J2_67 : Cond.methodLink RJ2 67 yJ2_checkIndex_2214a ∈ zT := zT_in 358 (by decide +kernel) (by decide +kernel)
theorem lkS_J2_checkIndex_2214a : Cond.static yJ2_checkIndex_2214a ∈ zT := zT_in 359 (by decide +kernel) (by decide +kernel)
theorem lkC_J2_checkIndex_2214a : Cond.code yJ2_checkIndex_2214a cJ2_checkIndex_2214a 2 none ∈ zT := zT_in 360 (by decide +kernel) (by decide +kernel)
theorem lkM_J2_48 : Cond.methodLink RJ2 48 yJ2_length_9d52b ∈ zT := zT_in 361 (by decide +kernel) (by decide +kernel)
theorem lkS_J2_length_9d52b : Cond.static yJ2_length_9d52b ∈ zT := zT_in 362 (by decide +kernel) (by decide +kernel)
theorem lkC_J2_length_9d52b : Cond.code yJ2_length_9d52b cJ2_length_9d52b 1 (some .int) ∈ zT := zT_in 363 (by decide +kernel) (by decide +kernel)
theorem lkM_J2_414 : Cond.methodLink RJ2 414 yJ0_checkIndex_df160 ∈ zT := zT_in 364 (by decide +kernel) (by decide +kernel)
theorem lkM_J2_71 : Cond.methodLink RJ2 71 yJ2_getChar_3b067 ∈ zT := zT_in 365 (by decide +kernel) (by decide +kernel)
theorem lkS_J2_getChar_3b067 : Cond.static yJ2_getChar_3b067 ∈ zT := zT_in 366 (by decide +kernel) (by decide +kernel)
theorem lkC_J2_getChar_3b067 : Cond.code yJ2_getChar_3b067 cJ2_getChar_3b067 2 (some .char) ∈ zT := zT_in 367 (by decide +kernel) (by decide +kernel)
theorem lkM_X2_54 : Cond.methodLink RX2 54 yX2_countPartsAndSouls ∈ zT := zT_in 374 (by decide +kernel) (by decide +kernel)
theorem lkI_X2_countPartsAndSouls : Cond.instanceMethod yX2_countPartsAndSouls ∈ zT := zT_in 376 (by decide +kernel) (by decide +kernel)
theorem lkC_X2_countPartsAndSouls : Cond.code yX2_countPartsAndSouls cX2_countPartsAndSouls 2 none ∈ zT := zT_in 377 (by decide +kernel) (by decide +kernel)
theorem lkM_X2_69 : Cond.methodLink RX2 69 yX2_isOfPart ∈ zT := zT_in 378 (by decide +kernel) (by decide +kernel)
theorem lkS_X2_isOfPart : Cond.static yX2_isOfPart ∈ zT := zT_in 379 (by decide +kernel) (by decide +kernel)
theorem lkC_X2_isOfPart : Cond.code yX2_isOfPart cX2_isOfPart 1 (some .boolean) ∈ zT := zT_in 380 (by decide +kernel) (by decide +kernel)
theorem lkM_X2_58 : Cond.methodLink RX2 58 yX2_tokenNumber ∈ zT := zT_in 381 (by decide +kernel) (by decide +kernel)
theorem lkI_X2_tokenNumber : Cond.instanceMethod yX2_tokenNumber ∈ zT := zT_in 383 (by decide +kernel) (by decide +kernel)
theorem lkC_X2_tokenNumber : Cond.code yX2_tokenNumber cX2_tokenNumber 4 (some .int) ∈ zT := zT_in 384 (by decide +kernel) (by decide +kernel)
theorem lkM_X2_61 : Cond.methodLink RX2 61 yX2_mostFirst ∈ zT := zT_in 385 (by decide +kernel) (by decide +kernel)
theorem lkS_X2_mostFirst : Cond.static yX2_mostFirst ∈ zT := zT_in 386 (by decide +kernel) (by decide +kernel)
theorem lkC_X2_mostFirst : Cond.code yX2_mostFirst cX2_mostFirst 1 (some .int) ∈ zT := zT_in 387 (by decide +kernel) (by decide +kernel)
theorem lkI_X4_kirk : Cond.instanceMethod yX4_kirk ∈ zT := zT_in 390 (by decide +kernel) (by decide +kernel)
theorem lkV_X4_kirk : Cond.selects RX4 yX4_kirk yX4_kirk ∈ zT := zT_in 391 (by decide +kernel) (by decide +kernel)
theorem lkC_X4_kirk : Cond.code yX4_kirk cX4_kirk 3 (some .int) ∈ zT := zT_in 392 (by decide +kernel) (by decide +kernel)
theorem lkM_X4_87 : Cond.methodLink RX4 87 yX1_tell ∈ zT := zT_in 393 (by decide +kernel) (by decide +kernel)
theorem lkI_X1_tell : Cond.instanceMethod yX1_tell ∈ zT := zT_in 394 (by decide +kernel) (by decide +kernel)
theorem lkV_X1_tell : Cond.selects RX1 yX1_tell yX1_tell ∈ zT := zT_in 395 (by decide +kernel) (by decide +kernel)
theorem lkC_X1_tell : Cond.code yX1_tell cX1_tell 4 none ∈ zT := zT_in 396 (by decide +kernel) (by decide +kernel)
theorem lkM_X1_43 : Cond.methodLink RX1 43 yX1_addPart ∈ zT := zT_in 397 (by decide +kernel) (by decide +kernel)
theorem lkI_X1_addPart : Cond.instanceMethod yX1_addPart ∈ zT := zT_in 399 (by decide +kernel) (by decide +kernel)
theorem lkC_X1_addPart : Cond.code yX1_addPart cX1_addPart 4 none ∈ zT := zT_in 400 (by decide +kernel) (by decide +kernel)
theorem lkM_X1_47 : Cond.methodLink RX1 47 yX1_addSoul ∈ zT := zT_in 401 (by decide +kernel) (by decide +kernel)
theorem lkI_X1_addSoul : Cond.instanceMethod yX1_addSoul ∈ zT := zT_in 403 (by decide +kernel) (by decide +kernel)
theorem lkC_X1_addSoul : Cond.code yX1_addSoul cX1_addSoul 2 none ∈ zT := zT_in 404 (by decide +kernel) (by decide +kernel)
theorem lkM_X4_91 : Cond.methodLink RX4 91 yX4_beginAnew ∈ zT := zT_in 405 (by decide +kernel) (by decide +kernel)
theorem lkI_X4_beginAnew : Cond.instanceMethod yX4_beginAnew ∈ zT := zT_in 407 (by decide +kernel) (by decide +kernel)
theorem lkC_X4_beginAnew : Cond.code yX4_beginAnew cX4_beginAnew 2 none ∈ zT := zT_in 408 (by decide +kernel) (by decide +kernel)
theorem lkM_X4_94 : Cond.methodLink RX4 94 yX3_beginAsTold ∈ zT := zT_in 409 (by decide +kernel) (by decide +kernel)
theorem lkI_X3_beginAsTold : Cond.instanceMethod yX3_beginAsTold ∈ zT := zT_in 410 (by decide +kernel) (by decide +kernel)
theorem lkV_X3_beginAsTold : Cond.selects RX3 yX3_beginAsTold yX3_beginAsTold ∈ zT := zT_in 411 (by decide +kernel) (by decide +kernel)
theorem lkC_X3_beginAsTold : Cond.code yX3_beginAsTold cX3_beginAsTold 2 none ∈ zT := zT_in 412 (by decide +kernel) (by decide +kernel)
theorem lkM_X4_98 : Cond.methodLink RX4 98 yX0_clear ∈ zT := zT_in 416 (by decide +kernel) (by decide +kernel)
theorem lkI_X0_clear : Cond.instanceMethod yX0_clear ∈ zT := zT_in 417 (by decide +kernel) (by decide +kernel)
theorem lkV_X0_clear : Cond.selects RX0 yX0_clear yX0_clear ∈ zT := zT_in 418 (by decide +kernel) (by decide +kernel)
theorem lkC_X0_clear : Cond.code yX0_clear cX0_clear 1 none ∈ zT := zT_in 419 (by decide +kernel) (by decide +kernel)
theorem lkI_X4_part : Cond.instanceMethod yX4_part ∈ zT := zT_in 421 (by decide +kernel) (by decide +kernel)
theorem lkV_X4_part : Cond.selects RX4 yX4_part yX4_part ∈ zT := zT_in 422 (by decide +kernel) (by decide +kernel)
theorem lkC_X4_part : Cond.code yX4_part cX4_part 3 (some .int) ∈ zT := zT_in 423 (by decide +kernel) (by decide +kernel)
theorem lkM_X4_104 : Cond.methodLink RX4 104 yX4_isPart ∈ zT := zT_in 424 (by decide +kernel) (by decide +kernel)
theorem lkI_X4_isPart : Cond.instanceMethod yX4_isPart ∈ zT := zT_in 426 (by decide +kernel) (by decide +kernel)
theorem lkC_X4_isPart : Cond.code yX4_isPart cX4_isPart 2 (some .boolean) ∈ zT := zT_in 427 (by decide +kernel) (by decide +kernel)
theorem lkM_X4_119 : Cond.methodLink RX4 119 yX4_ouncesOf ∈ zT := zT_in 428 (by decide +kernel) (by decide +kernel)
theorem lkS_X4_ouncesOf : Cond.static yX4_ouncesOf ∈ zT := zT_in 429 (by decide +kernel) (by decide +kernel)
theorem lkC_X4_ouncesOf : Cond.code yX4_ouncesOf cX4_ouncesOf 3 (some .int) ∈ zT := zT_in 430 (by decide +kernel) (by decide +kernel)
theorem lkM_X4_126 : Cond.methodLink RX4 126 yX4_isIn ∈ zT := zT_in 431 (by decide +kernel) (by decide +kernel)
theorem lkS_X4_isIn : Cond.static yX4_isIn ∈ zT := zT_in 432 (by decide +kernel) (by decide +kernel)
theorem lkC_X4_isIn : Cond.code yX4_isIn cX4_isIn 2 (some .boolean) ∈ zT := zT_in 433 (by decide +kernel) (by decide +kernel)
theorem lkI_X4_sins : Cond.instanceMethod yX4_sins ∈ zT := zT_in 435 (by decide +kernel) (by decide +kernel)
theorem lkV_X4_sins : Cond.selects RX4 yX4_sins yX4_sins ∈ zT := zT_in 436 (by decide +kernel) (by decide +kernel)
theorem lkC_X4_sins : Cond.code yX4_sins cX4_sins 2 (some .int) ∈ zT := zT_in 437 (by decide +kernel) (by decide +kernel)
theorem lkM_X4_130 : Cond.methodLink RX4 130 yX4_isSoul ∈ zT := zT_in 438 (by decide +kernel) (by decide +kernel)
theorem lkI_X4_isSoul : Cond.instanceMethod yX4_isSoul ∈ zT := zT_in 440 (by decide +kernel) (by decide +kernel)
theorem lkC_X4_isSoul : Cond.code yX4_isSoul cX4_isSoul 2 (some .boolean) ∈ zT := zT_in 441 (by decide +kernel) (by decide +kernel)
theorem lkI_X4_as : Cond.instanceMethod yX4_as ∈ zT := zT_in 443 (by decide +kernel) (by decide +kernel)
theorem lkV_X4_as : Cond.selects RX4 yX4_as yX4_as ∈ zT := zT_in 444 (by decide +kernel) (by decide +kernel)
theorem lkC_X4_as : Cond.code yX4_as cX4_as 3 (some .int) ∈ zT := zT_in 445 (by decide +kernel) (by decide +kernel)
theorem lkM_X4_136 : Cond.methodLink RX4 136 yX4_isTakenAs ∈ zT := zT_in 446 (by decide +kernel) (by decide +kernel)
theorem lkS_X4_isTakenAs : Cond.static yX4_isTakenAs ∈ zT := zT_in 447 (by decide +kernel) (by decide +kernel)
theorem lkC_X4_isTakenAs : Cond.code yX4_isTakenAs cX4_isTakenAs 4 (some .boolean) ∈ zT := zT_in 448 (by decide +kernel) (by decide +kernel)
theorem lkI_X4_preach : Cond.instanceMethod yX4_preach ∈ zT := zT_in 450 (by decide +kernel) (by decide +kernel)
theorem lkV_X4_preach : Cond.selects RX4 yX4_preach yX4_preach ∈ zT := zT_in 451 (by decide +kernel) (by decide +kernel)
theorem lkC_X4_preach : Cond.code yX4_preach cX4_preach 2 (some .int) ∈ zT := zT_in 452 (by decide +kernel) (by decide +kernel)
theorem lkM_X4_139 : Cond.methodLink RX4 139 yX4_hangsLevelNow ∈ zT := zT_in 453 (by decide +kernel) (by decide +kernel)
theorem lkI_X4_hangsLevelNow : Cond.instanceMethod yX4_hangsLevelNow ∈ zT := zT_in 455 (by decide +kernel) (by decide +kernel)
theorem lkC_X4_hangsLevelNow : Cond.code yX4_hangsLevelNow cX4_hangsLevelNow 1 (some .boolean) ∈ zT := zT_in 456 (by decide +kernel) (by decide +kernel)
theorem lkM_X4_148 : Cond.methodLink RX4 148 yX4_sermonOf ∈ zT := zT_in 457 (by decide +kernel) (by decide +kernel)
theorem lkI_X4_sermonOf : Cond.instanceMethod yX4_sermonOf ∈ zT := zT_in 459 (by decide +kernel) (by decide +kernel)
theorem lkC_X4_sermonOf : Cond.code yX4_sermonOf cX4_sermonOf 2 (some .int) ∈ zT := zT_in 460 (by decide +kernel) (by decide +kernel)
theorem lkM_X4_223 : Cond.methodLink RX4 223 yX1_ouncesOfSet ∈ zT := zT_in 461 (by decide +kernel) (by decide +kernel)
theorem lkI_X1_ouncesOfSet : Cond.instanceMethod yX1_ouncesOfSet ∈ zT := zT_in 462 (by decide +kernel) (by decide +kernel)
theorem lkV_X1_ouncesOfSet : Cond.selects RX1 yX1_ouncesOfSet yX1_ouncesOfSet ∈ zT := zT_in 463 (by decide +kernel) (by decide +kernel)
theorem lkC_X1_ouncesOfSet : Cond.code yX1_ouncesOfSet cX1_ouncesOfSet 5 (some .int) ∈ zT := zT_in 464 (by decide +kernel) (by decide +kernel)
theorem lkM_X4_152 : Cond.methodLink RX4 152 yX4_leadNow ∈ zT := zT_in 467 (by decide +kernel) (by decide +kernel)
theorem lkI_X4_leadNow : Cond.instanceMethod yX4_leadNow ∈ zT := zT_in 469 (by decide +kernel) (by decide +kernel)
theorem lkC_X4_leadNow : Cond.code yX4_leadNow cX4_leadNow 1 (some .int) ∈ zT := zT_in 470 (by decide +kernel) (by decide +kernel)
theorem lkM_X4_247 : Cond.methodLink RX4 247 yX4_leadWithout ∈ zT := zT_in 471 (by decide +kernel) (by decide +kernel)
theorem lkI_X4_leadWithout : Cond.instanceMethod yX4_leadWithout ∈ zT := zT_in 473 (by decide +kernel) (by decide +kernel)
theorem lkC_X4_leadWithout : Cond.code yX4_leadWithout cX4_leadWithout 4 (some .int) ∈ zT := zT_in 474 (by decide +kernel) (by decide +kernel)
theorem lkM_X4_253 : Cond.methodLink RX4 253 yJ9_max_7cf53 ∈ zT := zT_in 475 (by decide +kernel) (by decide +kernel)
theorem lkS_J9_max_7cf53 : Cond.static yJ9_max_7cf53 ∈ zT := zT_in 476 (by decide +kernel) (by decide +kernel)
theorem lkC_J9_max_7cf53 : Cond.code yJ9_max_7cf53 cJ9_max_7cf53 2 (some .int) ∈ zT := zT_in 477 (by decide +kernel) (by decide +kernel)
theorem lkM_X4_178 : Cond.methodLink RX4 178 yX4_hangsLevel ∈ zT := zT_in 478 (by decide +kernel) (by decide +kernel)
theorem lkI_X4_hangsLevel : Cond.instanceMethod yX4_hangsLevel ∈ zT := zT_in 480 (by decide +kernel) (by decide +kernel)
theorem lkC_X4_hangsLevel : Cond.code yX4_hangsLevel cX4_hangsLevel 3 (some .boolean) ∈ zT := zT_in 481 (by decide +kernel) (by decide +kernel)
theorem lkM_X4_259 : Cond.methodLink RX4 259 yJ9_abs_0f7a4 ∈ zT := zT_in 482 (by decide +kernel) (by decide +kernel)
theorem lkS_J9_abs_0f7a4 : Cond.static yJ9_abs_0f7a4 ∈ zT := zT_in 483 (by decide +kernel) (by decide +kernel)
theorem lkC_J9_abs_0f7a4 : Cond.code yJ9_abs_0f7a4 cJ9_abs_0f7a4 1 (some .int) ∈ zT := zT_in 484 (by decide +kernel) (by decide +kernel)
theorem lkM_X4_143 : Cond.methodLink RX4 143 yX4_rememberWeek ∈ zT := zT_in 485 (by decide +kernel) (by decide +kernel)
theorem lkI_X4_rememberWeek : Cond.instanceMethod yX4_rememberWeek ∈ zT := zT_in 487 (by decide +kernel) (by decide +kernel)
theorem lkC_X4_rememberWeek : Cond.code yX4_rememberWeek cX4_rememberWeek 1 none ∈ zT := zT_in 488 (by decide +kernel) (by decide +kernel)
theorem lkM_X4_174 : Cond.methodLink RX4 174 yX3_becomeLike ∈ zT := zT_in 489 (by decide +kernel) (by decide +kernel)
theorem lkI_X3_becomeLike : Cond.instanceMethod yX3_becomeLike ∈ zT := zT_in 490 (by decide +kernel) (by decide +kernel)
theorem lkV_X3_becomeLike : Cond.selects RX3 yX3_becomeLike yX3_becomeLike ∈ zT := zT_in 491 (by decide +kernel) (by decide +kernel)
theorem lkC_X3_becomeLike : Cond.code yX3_becomeLike cX3_becomeLike 2 none ∈ zT := zT_in 492 (by decide +kernel) (by decide +kernel)
theorem lkM_X4_156 : Cond.methodLink RX4 156 yJ9_min_7cf53 ∈ zT := zT_in 493 (by decide +kernel) (by decide +kernel)
theorem lkS_J9_min_7cf53 : Cond.static yJ9_min_7cf53 ∈ zT := zT_in 494 (by decide +kernel) (by decide +kernel)
theorem lkC_J9_min_7cf53 : Cond.code yJ9_min_7cf53 cJ9_min_7cf53 2 (some .int) ∈ zT := zT_in 495 (by decide +kernel) (by decide +kernel)
theorem lkI_X4_sin : Cond.instanceMethod yX4_sin ∈ zT := zT_in 497 (by decide +kernel) (by decide +kernel)
theorem lkV_X4_sin : Cond.selects RX4 yX4_sin yX4_sin ∈ zT := zT_in 498 (by decide +kernel) (by decide +kernel)
theorem lkC_X4_sin : Cond.code yX4_sin cX4_sin 3 (some .int) ∈ zT := zT_in 499 (by decide +kernel) (by decide +kernel)
theorem lkI_X4_ballast : Cond.instanceMethod yX4_ballast ∈ zT := zT_in 501 (by decide +kernel) (by decide +kernel)
theorem lkV_X4_ballast : Cond.selects RX4 yX4_ballast yX4_ballast ∈ zT := zT_in 502 (by decide +kernel) (by decide +kernel)
theorem lkC_X4_ballast : Cond.code yX4_ballast cX4_ballast 2 (some .int) ∈ zT := zT_in 503 (by decide +kernel) (by decide +kernel)
theorem lkI_X4_rain : Cond.instanceMethod yX4_rain ∈ zT := zT_in 505 (by decide +kernel) (by decide +kernel)
theorem lkV_X4_rain : Cond.selects RX4 yX4_rain yX4_rain ∈ zT := zT_in 506 (by decide +kernel) (by decide +kernel)
theorem lkC_X4_rain : Cond.code yX4_rain cX4_rain 3 (some .int) ∈ zT := zT_in 507 (by decide +kernel) (by decide +kernel)
theorem lkI_X4_sunday : Cond.instanceMethod yX4_sunday ∈ zT := zT_in 509 (by decide +kernel) (by decide +kernel)
theorem lkV_X4_sunday : Cond.selects RX4 yX4_sunday yX4_sunday ∈ zT := zT_in 510 (by decide +kernel) (by decide +kernel)
theorem lkC_X4_sunday : Cond.code yX4_sunday cX4_sunday 2 (some .int) ∈ zT := zT_in 511 (by decide +kernel) (by decide +kernel)
theorem lkM_X4_167 : Cond.methodLink RX4 167 yX3_end ∈ zT := zT_in 512 (by decide +kernel) (by decide +kernel)
theorem lkI_X3_end : Cond.instanceMethod yX3_end ∈ zT := zT_in 513 (by decide +kernel) (by decide +kernel)
theorem lkV_X3_end : Cond.selects RX3 yX3_end yX3_end ∈ zT := zT_in 514 (by decide +kernel) (by decide +kernel)
theorem lkC_X3_end : Cond.code yX3_end cX3_end 3 none ∈ zT := zT_in 515 (by decide +kernel) (by decide +kernel)
theorem lkI_X4_undo : Cond.instanceMethod yX4_undo ∈ zT := zT_in 517 (by decide +kernel) (by decide +kernel)
theorem lkV_X4_undo : Cond.selects RX4 yX4_undo yX4_undo ∈ zT := zT_in 518 (by decide +kernel) (by decide +kernel)
theorem lkC_X4_undo : Cond.code yX4_undo cX4_undo 1 (some .int) ∈ zT := zT_in 519 (by decide +kernel) (by decide +kernel)
theorem lkI_X4_keep : Cond.instanceMethod yX4_keep ∈ zT := zT_in 521 (by decide +kernel) (by decide +kernel)
theorem lkV_X4_keep : Cond.selects RX4 yX4_keep yX4_keep ∈ zT := zT_in 522 (by decide +kernel) (by decide +kernel)
theorem lkC_X4_keep : Cond.code yX4_keep cX4_keep 2 (some .int) ∈ zT := zT_in 523 (by decide +kernel) (by decide +kernel)
theorem lkI_X4_back : Cond.instanceMethod yX4_back ∈ zT := zT_in 525 (by decide +kernel) (by decide +kernel)
theorem lkV_X4_back : Cond.selects RX4 yX4_back yX4_back ∈ zT := zT_in 526 (by decide +kernel) (by decide +kernel)
theorem lkC_X4_back : Cond.code yX4_back cX4_back 2 (some .int) ∈ zT := zT_in 527 (by decide +kernel) (by decide +kernel)
theorem lkI_X4_stops : Cond.instanceMethod yX4_stops ∈ zT := zT_in 529 (by decide +kernel) (by decide +kernel)
theorem lkV_X4_stops : Cond.selects RX4 yX4_stops yX4_stops ∈ zT := zT_in 530 (by decide +kernel) (by decide +kernel)
theorem lkC_X4_stops : Cond.code yX4_stops cX4_stops 5 (some .int) ∈ zT := zT_in 531 (by decide +kernel) (by decide +kernel)
theorem lkI_X4_soonest : Cond.instanceMethod yX4_soonest ∈ zT := zT_in 533 (by decide +kernel) (by decide +kernel)
theorem lkV_X4_soonest : Cond.selects RX4 yX4_soonest yX4_soonest ∈ zT := zT_in 534 (by decide +kernel) (by decide +kernel)
theorem lkC_X4_soonest : Cond.code yX4_soonest cX4_soonest 3 (some .int) ∈ zT := zT_in 535 (by decide +kernel) (by decide +kernel)
theorem lkM_X4_181 : Cond.methodLink RX4 181 yX4_soonestSet ∈ zT := zT_in 536 (by decide +kernel) (by decide +kernel)
theorem lkI_X4_soonestSet : Cond.instanceMethod yX4_soonestSet ∈ zT := zT_in 538 (by decide +kernel) (by decide +kernel)
theorem lkC_X4_soonestSet : Cond.code yX4_soonestSet cX4_soonestSet 4 (some .int) ∈ zT := zT_in 539 (by decide +kernel) (by decide +kernel)
theorem lkM_X4_187 : Cond.methodLink RX4 187 yX4_levels ∈ zT := zT_in 540 (by decide +kernel) (by decide +kernel)
theorem lkI_X4_levels : Cond.instanceMethod yX4_levels ∈ zT := zT_in 542 (by decide +kernel) (by decide +kernel)
theorem lkC_X4_levels : Cond.code yX4_levels cX4_levels 3 (some .boolean) ∈ zT := zT_in 543 (by decide +kernel) (by decide +kernel)
theorem lkM_X4_190 : Cond.methodLink RX4 190 yX4_isSooner ∈ zT := zT_in 544 (by decide +kernel) (by decide +kernel)
theorem lkI_X4_isSooner : Cond.instanceMethod yX4_isSooner ∈ zT := zT_in 546 (by decide +kernel) (by decide +kernel)
theorem lkC_X4_isSooner : Cond.code yX4_isSooner cX4_isSooner 5 (some .boolean) ∈ zT := zT_in 547 (by decide +kernel) (by decide +kernel)
theorem lkM_X4_184 : Cond.methodLink RX4 184 yX1_minutesOf ∈ zT := zT_in 548 (by decide +kernel) (by decide +kernel)
theorem lkI_X1_minutesOf : Cond.instanceMethod yX1_minutesOf ∈ zT := zT_in 549 (by decide +kernel) (by decide +kernel)
theorem lkV_X1_minutesOf : Cond.selects RX1 yX1_minutesOf yX1_minutesOf ∈ zT := zT_in 550 (by decide +kernel) (by decide +kernel)
theorem lkC_X1_minutesOf : Cond.code yX1_minutesOf cX1_minutesOf 4 (some .int) ∈ zT := zT_in 551 (by decide +kernel) (by decide +kernel)
theorem lkM_X4_193 : Cond.methodLink RX4 193 yJ6_bitCount_0f7a4 ∈ zT := zT_in 552 (by decide +kernel) (by decide +kernel)
theorem lkS_J6_bitCount_0f7a4 : Cond.static yJ6_bitCount_0f7a4 ∈ zT := zT_in 553 (by decide +kernel) (by decide +kernel)
theorem lkC_J6_bitCount_0f7a4 : Cond.code yJ6_bitCount_0f7a4 cJ6_bitCount_0f7a4 1 (some .int) ∈ zT := zT_in 554 (by decide +kernel) (by decide +kernel)
theorem lkK_265 : Cond.constant RJ6 265 (1431655765) ∈ zT := zT_in 555 (by decide +kernel) (by decide +kernel)
theorem lkK_266 : Cond.constant RJ6 266 (858993459) ∈ zT := zT_in 556 (by decide +kernel) (by decide +kernel)
theorem lkK_267 : Cond.constant RJ6 267 (252645135) ∈ zT := zT_in 557 (by decide +kernel) (by decide +kernel)
theorem lkI_X4_never : Cond.instanceMethod yX4_never ∈ zT := zT_in 559 (by decide +kernel) (by decide +kernel)
theorem lkV_X4_never : Cond.selects RX4 yX4_never yX4_never ∈ zT := zT_in 560 (by decide +kernel) (by decide +kernel)
theorem lkC_X4_never : Cond.code yX4_never cX4_never 3 (some .int) ∈ zT := zT_in 561 (by decide +kernel) (by decide +kernel)
theorem lkI_X4_seen : Cond.instanceMethod yX4_seen ∈ zT := zT_in 563 (by decide +kernel) (by decide +kernel)
theorem lkV_X4_seen : Cond.selects RX4 yX4_seen yX4_seen ∈ zT := zT_in 564 (by decide +kernel) (by decide +kernel)
theorem lkC_X4_seen : Cond.code yX4_seen cX4_seen 4 (some .int) ∈ zT := zT_in 565 (by decide +kernel) (by decide +kernel)
theorem lkM_X4_198 : Cond.methodLink RX4 198 yX4_isSet ∈ zT := zT_in 566 (by decide +kernel) (by decide +kernel)
theorem lkI_X4_isSet : Cond.instanceMethod yX4_isSet ∈ zT := zT_in 568 (by decide +kernel) (by decide +kernel)
theorem lkC_X4_isSet : Cond.code yX4_isSet cX4_isSet 2 (some .boolean) ∈ zT := zT_in 569 (by decide +kernel) (by decide +kernel)
theorem lkM_X4_201 : Cond.methodLink RX4 201 yX0_addSeen ∈ zT := zT_in 570 (by decide +kernel) (by decide +kernel)
theorem lkI_X0_addSeen : Cond.instanceMethod yX0_addSeen ∈ zT := zT_in 571 (by decide +kernel) (by decide +kernel)
theorem lkV_X0_addSeen : Cond.selects RX0 yX0_addSeen yX0_addSeen ∈ zT := zT_in 572 (by decide +kernel) (by decide +kernel)
theorem lkC_X0_addSeen : Cond.code yX0_addSeen cX0_addSeen 4 (some .boolean) ∈ zT := zT_in 573 (by decide +kernel) (by decide +kernel)
theorem lkI_X4_heard : Cond.instanceMethod yX4_heard ∈ zT := zT_in 575 (by decide +kernel) (by decide +kernel)
theorem lkV_X4_heard : Cond.selects RX4 yX4_heard yX4_heard ∈ zT := zT_in 576 (by decide +kernel) (by decide +kernel)
theorem lkC_X4_heard : Cond.code yX4_heard cX4_heard 4 (some .int) ∈ zT := zT_in 577 (by decide +kernel) (by decide +kernel)
theorem lkM_X4_207 : Cond.methodLink RX4 207 yX0_addHeard ∈ zT := zT_in 578 (by decide +kernel) (by decide +kernel)
theorem lkI_X0_addHeard : Cond.instanceMethod yX0_addHeard ∈ zT := zT_in 579 (by decide +kernel) (by decide +kernel)
theorem lkV_X0_addHeard : Cond.selects RX0 yX0_addHeard yX0_addHeard ∈ zT := zT_in 580 (by decide +kernel) (by decide +kernel)
theorem lkC_X0_addHeard : Cond.code yX0_addHeard cX0_addHeard 5 (some .boolean) ∈ zT := zT_in 581 (by decide +kernel) (by decide +kernel)
theorem lkI_X4_forget : Cond.instanceMethod yX4_forget ∈ zT := zT_in 583 (by decide +kernel) (by decide +kernel)
theorem lkV_X4_forget : Cond.selects RX4 yX4_forget yX4_forget ∈ zT := zT_in 584 (by decide +kernel) (by decide +kernel)
theorem lkC_X4_forget : Cond.code yX4_forget cX4_forget 2 (some .int) ∈ zT := zT_in 585 (by decide +kernel) (by decide +kernel)
theorem lkI_X4_weights : Cond.instanceMethod yX4_weights ∈ zT := zT_in 587 (by decide +kernel) (by decide +kernel)
theorem lkV_X4_weights : Cond.selects RX4 yX4_weights yX4_weights ∈ zT := zT_in 588 (by decide +kernel) (by decide +kernel)
theorem lkC_X4_weights : Cond.code yX4_weights cX4_weights 4 (some .int) ∈ zT := zT_in 589 (by decide +kernel) (by decide +kernel)
theorem lkM_X4_214 : Cond.methodLink RX4 214 yX4_fitsAllSeen ∈ zT := zT_in 590 (by decide +kernel) (by decide +kernel)
theorem lkI_X4_fitsAllSeen : Cond.instanceMethod yX4_fitsAllSeen ∈ zT := zT_in 592 (by decide +kernel) (by decide +kernel)
theorem lkC_X4_fitsAllSeen : Cond.code yX4_fitsAllSeen cX4_fitsAllSeen 7 (some .boolean) ∈ zT := zT_in 593 (by decide +kernel) (by decide +kernel)
theorem lkI_X4_thumbs : Cond.instanceMethod yX4_thumbs ∈ zT := zT_in 595 (by decide +kernel) (by decide +kernel)
theorem lkV_X4_thumbs : Cond.selects RX4 yX4_thumbs yX4_thumbs ∈ zT := zT_in 596 (by decide +kernel) (by decide +kernel)
theorem lkC_X4_thumbs : Cond.code yX4_thumbs cX4_thumbs 3 (some .int) ∈ zT := zT_in 597 (by decide +kernel) (by decide +kernel)
theorem lkM_X4_229 : Cond.methodLink RX4 229 yX4_fitsAllHeard ∈ zT := zT_in 598 (by decide +kernel) (by decide +kernel)
theorem lkI_X4_fitsAllHeard : Cond.instanceMethod yX4_fitsAllHeard ∈ zT := zT_in 600 (by decide +kernel) (by decide +kernel)
theorem lkC_X4_fitsAllHeard : Cond.code yX4_fitsAllHeard cX4_fitsAllHeard 4 (some .boolean) ∈ zT := zT_in 601 (by decide +kernel) (by decide +kernel)
theorem lkI_X4_confessed : Cond.instanceMethod yX4_confessed ∈ zT := zT_in 603 (by decide +kernel) (by decide +kernel)
theorem lkV_X4_confessed : Cond.selects RX4 yX4_confessed yX4_confessed ∈ zT := zT_in 604 (by decide +kernel) (by decide +kernel)
theorem lkC_X4_confessed : Cond.code yX4_confessed cX4_confessed 8 (some .int) ∈ zT := zT_in 605 (by decide +kernel) (by decide +kernel)
theorem lkM_X4_244 : Cond.methodLink RX4 244 yX4_waysOfConfessing ∈ zT := zT_in 606 (by decide +kernel) (by decide +kernel)
theorem lkI_X4_waysOfConfessing : Cond.instanceMethod yX4_waysOfConfessing ∈ zT := zT_in 608 (by decide +kernel) (by decide +kernel)
theorem lkC_X4_waysOfConfessing : Cond.code yX4_waysOfConfessing cX4_waysOfConfessing 5 (some .int) ∈ zT := zT_in 609 (by decide +kernel) (by decide +kernel)
theorem lkM_X4_250 : Cond.methodLink RX4 250 yX4_greatestDivisor ∈ zT := zT_in 610 (by decide +kernel) (by decide +kernel)
theorem lkS_X4_greatestDivisor : Cond.static yX4_greatestDivisor ∈ zT := zT_in 611 (by decide +kernel) (by decide +kernel)
theorem lkC_X4_greatestDivisor : Cond.code yX4_greatestDivisor cX4_greatestDivisor 6 (some .int) ∈ zT := zT_in 612 (by decide +kernel) (by decide +kernel)
theorem lkI_X4_count : Cond.instanceMethod yX4_count ∈ zT := zT_in 614 (by decide +kernel) (by decide +kernel)
theorem lkV_X4_count : Cond.selects RX4 yX4_count yX4_count ∈ zT := zT_in 615 (by decide +kernel) (by decide +kernel)
theorem lkC_X4_count : Cond.code yX4_count cX4_count 2 (some .int) ∈ zT := zT_in 616 (by decide +kernel) (by decide +kernel)
theorem lkI_X5_init : Cond.instanceMethod yX5_init ∈ zT := zT_in 620 (by decide +kernel) (by decide +kernel)
theorem lkC_X5_init : Cond.code yX5_init cX5_init 2 none ∈ zT := zT_in 621 (by decide +kernel) (by decide +kernel)
theorem lkM_X5_38 : Cond.methodLink RX5 38 yX5_forgets ∈ zT := zT_in 623 (by decide +kernel) (by decide +kernel)
theorem lkI_X5_forgets : Cond.instanceMethod yX5_forgets ∈ zT := zT_in 625 (by decide +kernel) (by decide +kernel)
theorem lkC_X5_forgets : Cond.code yX5_forgets cX5_forgets 2 none ∈ zT := zT_in 626 (by decide +kernel) (by decide +kernel)
theorem lkM_X5_41 : Cond.methodLink RX5 41 yX5_lays ∈ zT := zT_in 627 (by decide +kernel) (by decide +kernel)
theorem lkI_X5_lays : Cond.instanceMethod yX5_lays ∈ zT := zT_in 629 (by decide +kernel) (by decide +kernel)
theorem lkC_X5_lays : Cond.code yX5_lays cX5_lays 2 none ∈ zT := zT_in 630 (by decide +kernel) (by decide +kernel)
theorem lkF_X5_7 : Cond.fieldLink RX5 7 "SermonScaleModel" "text" "[I" ∈ zT := zT_in 631 (by decide +kernel) (by decide +kernel)
theorem lkF_X5_48 : Cond.fieldLink RX5 48 "SermonScaleModel" "typed" "I" ∈ zT := zT_in 632 (by decide +kernel) (by decide +kernel)
theorem lkF_X5_13 : Cond.fieldLink RX5 13 "SermonScaleModel" "told" "[I" ∈ zT := zT_in 633 (by decide +kernel) (by decide +kernel)
theorem lkF_X5_16 : Cond.fieldLink RX5 16 "SermonScaleModel" "draft" "[I" ∈ zT := zT_in 634 (by decide +kernel) (by decide +kernel)
theorem lkF_X5_19 : Cond.fieldLink RX5 19 "SermonScaleModel" "s" "[I" ∈ zT := zT_in 635 (by decide +kernel) (by decide +kernel)
theorem lkF_X5_22 : Cond.fieldLink RX5 22 "SermonScaleModel" "past" "[I" ∈ zT := zT_in 636 (by decide +kernel) (by decide +kernel)
theorem lkF_X5_95 : Cond.fieldLink RX5 95 "SermonScaleModel" "known" "I" ∈ zT := zT_in 637 (by decide +kernel) (by decide +kernel)
theorem lkF_X5_25 : Cond.fieldLink RX5 25 "SermonScaleModel" "images" "[I" ∈ zT := zT_in 638 (by decide +kernel) (by decide +kernel)
theorem lkF_X5_28 : Cond.fieldLink RX5 28 "SermonScaleModel" "kept" "[Z" ∈ zT := zT_in 639 (by decide +kernel) (by decide +kernel)
theorem lkF_X5_32 : Cond.fieldLink RX5 32 "SermonScaleModel" "notes" "[I" ∈ zT := zT_in 640 (by decide +kernel) (by decide +kernel)
theorem lkF_X5_98 : Cond.fieldLink RX5 98 "SermonScaleModel" "noted" "I" ∈ zT := zT_in 641 (by decide +kernel) (by decide +kernel)
theorem lkF_X5_35 : Cond.fieldLink RX5 35 "SermonScaleModel" "rumours" "[I" ∈ zT := zT_in 642 (by decide +kernel) (by decide +kernel)
theorem lkF_X5_101 : Cond.fieldLink RX5 101 "SermonScaleModel" "many" "I" ∈ zT := zT_in 643 (by decide +kernel) (by decide +kernel)
theorem lkF_X5_52 : Cond.fieldLink RX5 52 "SermonScaleModel" "at" "I" ∈ zT := zT_in 644 (by decide +kernel) (by decide +kernel)
theorem lkF_X5_69 : Cond.fieldLink RX5 69 "SermonScaleModel" "sort" "I" ∈ zT := zT_in 645 (by decide +kernel) (by decide +kernel)
theorem lkF_X5_59 : Cond.fieldLink RX5 59 "SermonScaleModel" "start" "I" ∈ zT := zT_in 646 (by decide +kernel) (by decide +kernel)
theorem lkF_X5_72 : Cond.fieldLink RX5 72 "SermonScaleModel" "value" "I" ∈ zT := zT_in 647 (by decide +kernel) (by decide +kernel)
theorem lkI_X5_write : Cond.instanceMethod yX5_write ∈ zT := zT_in 684 (by decide +kernel) (by decide +kernel)
theorem lkV_X5_write : Cond.selects RX5 yX5_write yX5_write ∈ zT := zT_in 685 (by decide +kernel) (by decide +kernel)
theorem lkC_X5_write : Cond.code yX5_write cX5_write 2 (some .int) ∈ zT := zT_in 686 (by decide +kernel) (by decide +kernel)
theorem lkM_X5_44 : Cond.methodLink RX5 44 yX5_in ∈ zT := zT_in 687 (by decide +kernel) (by decide +kernel)
theorem lkS_X5_in : Cond.static yX5_in ∈ zT := zT_in 688 (by decide +kernel) (by decide +kernel)
theorem lkC_X5_in : Cond.code yX5_in cX5_in 3 (some .boolean) ∈ zT := zT_in 689 (by decide +kernel) (by decide +kernel)
theorem lkI_X5_erase : Cond.instanceMethod yX5_erase ∈ zT := zT_in 691 (by decide +kernel) (by decide +kernel)
theorem lkV_X5_erase : Cond.selects RX5 yX5_erase yX5_erase ∈ zT := zT_in 692 (by decide +kernel) (by decide +kernel)
theorem lkC_X5_erase : Cond.code yX5_erase cX5_erase 2 (some .int) ∈ zT := zT_in 693 (by decide +kernel) (by decide +kernel)
theorem lkI_X5_fault : Cond.instanceMethod yX5_fault ∈ zT := zT_in 695 (by decide +kernel) (by decide +kernel)
theorem lkV_X5_fault : Cond.selects RX5 yX5_fault yX5_fault ∈ zT := zT_in 696 (by decide +kernel) (by decide +kernel)
theorem lkC_X5_fault : Cond.code yX5_fault cX5_fault 1 (some .int) ∈ zT := zT_in 697 (by decide +kernel) (by decide +kernel)
theorem lkM_X5_104 : Cond.methodLink RX5 104 yX5_reads ∈ zT := zT_in 698 (by decide +kernel) (by decide +kernel)
theorem lkI_X5_reads : Cond.instanceMethod yX5_reads ∈ zT := zT_in 700 (by decide +kernel) (by decide +kernel)
theorem lkC_X5_reads : Cond.code yX5_reads cX5_reads 3 (some .int) ∈ zT := zT_in 701 (by decide +kernel) (by decide +kernel)
theorem lkM_X5_75 : Cond.methodLink RX5 75 yX5_token ∈ zT := zT_in 702 (by decide +kernel) (by decide +kernel)
theorem lkI_X5_token : Cond.instanceMethod yX5_token ∈ zT := zT_in 704 (by decide +kernel) (by decide +kernel)
theorem lkC_X5_token : Cond.code yX5_token cX5_token 2 none ∈ zT := zT_in 705 (by decide +kernel) (by decide +kernel)
theorem lkM_X5_55 : Cond.methodLink RX5 55 yX5_letterAt ∈ zT := zT_in 706 (by decide +kernel) (by decide +kernel)
theorem lkI_X5_letterAt : Cond.instanceMethod yX5_letterAt ∈ zT := zT_in 708 (by decide +kernel) (by decide +kernel)
theorem lkC_X5_letterAt : Cond.code yX5_letterAt cX5_letterAt 2 (some .int) ∈ zT := zT_in 709 (by decide +kernel) (by decide +kernel)
theorem lkM_X5_62 : Cond.methodLink RX5 62 yX5_isLetter ∈ zT := zT_in 710 (by decide +kernel) (by decide +kernel)
theorem lkS_X5_isLetter : Cond.static yX5_isLetter ∈ zT := zT_in 711 (by decide +kernel) (by decide +kernel)
theorem lkC_X5_isLetter : Cond.code yX5_isLetter cX5_isLetter 1 (some .boolean) ∈ zT := zT_in 712 (by decide +kernel) (by decide +kernel)
theorem lkM_X5_66 : Cond.methodLink RX5 66 yX5_isDigit ∈ zT := zT_in 713 (by decide +kernel) (by decide +kernel)
theorem lkS_X5_isDigit : Cond.static yX5_isDigit ∈ zT := zT_in 714 (by decide +kernel) (by decide +kernel)
theorem lkC_X5_isDigit : Cond.code yX5_isDigit cX5_isDigit 1 (some .boolean) ∈ zT := zT_in 715 (by decide +kernel) (by decide +kernel)
theorem lkM_X5_92 : Cond.methodLink RX5 92 yX5_readsClause ∈ zT := zT_in 716 (by decide +kernel) (by decide +kernel)
theorem lkI_X5_readsClause : Cond.instanceMethod yX5_readsClause ∈ zT := zT_in 718 (by decide +kernel) (by decide +kernel)
theorem lkC_X5_readsClause : Cond.code yX5_readsClause cX5_readsClause 1 (some .boolean) ∈ zT := zT_in 719 (by decide +kernel) (by decide +kernel)
theorem lkM_X5_81 : Cond.methodLink RX5 81 yX5_isWord ∈ zT := zT_in 720 (by decide +kernel) (by decide +kernel)
theorem lkI_X5_isWord : Cond.instanceMethod yX5_isWord ∈ zT := zT_in 722 (by decide +kernel) (by decide +kernel)
theorem lkC_X5_isWord : Cond.code yX5_isWord cX5_isWord 9 (some .boolean) ∈ zT := zT_in 723 (by decide +kernel) (by decide +kernel)
theorem lkM_X5_85 : Cond.methodLink RX5 85 yX5_readsPart ∈ zT := zT_in 724 (by decide +kernel) (by decide +kernel)
theorem lkI_X5_readsPart : Cond.instanceMethod yX5_readsPart ∈ zT := zT_in 726 (by decide +kernel) (by decide +kernel)
theorem lkC_X5_readsPart : Cond.code yX5_readsPart cX5_readsPart 3 (some .boolean) ∈ zT := zT_in 727 (by decide +kernel) (by decide +kernel)
theorem lkM_X5_78 : Cond.methodLink RX5 78 yX5_number ∈ zT := zT_in 728 (by decide +kernel) (by decide +kernel)
theorem lkI_X5_number : Cond.instanceMethod yX5_number ∈ zT := zT_in 730 (by decide +kernel) (by decide +kernel)
theorem lkC_X5_number : Cond.code yX5_number cX5_number 4 (some .boolean) ∈ zT := zT_in 731 (by decide +kernel) (by decide +kernel)
theorem lkM_X5_88 : Cond.methodLink RX5 88 yX5_readsSoul ∈ zT := zT_in 732 (by decide +kernel) (by decide +kernel)
theorem lkI_X5_readsSoul : Cond.instanceMethod yX5_readsSoul ∈ zT := zT_in 734 (by decide +kernel) (by decide +kernel)
theorem lkC_X5_readsSoul : Cond.code yX5_readsSoul cX5_readsSoul 2 (some .boolean) ∈ zT := zT_in 735 (by decide +kernel) (by decide +kernel)
theorem lkI_X5_kirk : Cond.instanceMethod yX5_kirk ∈ zT := zT_in 737 (by decide +kernel) (by decide +kernel)
theorem lkV_X5_kirk : Cond.selects RX5 yX5_kirk yX5_kirk ∈ zT := zT_in 738 (by decide +kernel) (by decide +kernel)
theorem lkC_X5_kirk : Cond.code yX5_kirk cX5_kirk 3 (some .int) ∈ zT := zT_in 739 (by decide +kernel) (by decide +kernel)
theorem lkI_X5_part : Cond.instanceMethod yX5_part ∈ zT := zT_in 741 (by decide +kernel) (by decide +kernel)
theorem lkV_X5_part : Cond.selects RX5 yX5_part yX5_part ∈ zT := zT_in 742 (by decide +kernel) (by decide +kernel)
theorem lkC_X5_part : Cond.code yX5_part cX5_part 3 (some .int) ∈ zT := zT_in 743 (by decide +kernel) (by decide +kernel)
theorem lkM_X5_129 : Cond.methodLink RX5 129 yX5_isPart ∈ zT := zT_in 744 (by decide +kernel) (by decide +kernel)
theorem lkI_X5_isPart : Cond.instanceMethod yX5_isPart ∈ zT := zT_in 746 (by decide +kernel) (by decide +kernel)
theorem lkC_X5_isPart : Cond.code yX5_isPart cX5_isPart 2 (some .boolean) ∈ zT := zT_in 747 (by decide +kernel) (by decide +kernel)
theorem lkM_X5_112 : Cond.methodLink RX5 112 yX5_ounces ∈ zT := zT_in 748 (by decide +kernel) (by decide +kernel)
theorem lkI_X5_ounces : Cond.instanceMethod yX5_ounces ∈ zT := zT_in 750 (by decide +kernel) (by decide +kernel)
theorem lkC_X5_ounces : Cond.code yX5_ounces cX5_ounces 3 (some .int) ∈ zT := zT_in 751 (by decide +kernel) (by decide +kernel)
theorem lkM_X5_108 : Cond.methodLink RX5 108 yX5_weighs ∈ zT := zT_in 752 (by decide +kernel) (by decide +kernel)
theorem lkS_X5_weighs : Cond.static yX5_weighs ∈ zT := zT_in 753 (by decide +kernel) (by decide +kernel)
theorem lkC_X5_weighs : Cond.code yX5_weighs cX5_weighs 3 (some .int) ∈ zT := zT_in 754 (by decide +kernel) (by decide +kernel)
theorem lkI_X5_sins : Cond.instanceMethod yX5_sins ∈ zT := zT_in 756 (by decide +kernel) (by decide +kernel)
theorem lkV_X5_sins : Cond.selects RX5 yX5_sins yX5_sins ∈ zT := zT_in 757 (by decide +kernel) (by decide +kernel)
theorem lkC_X5_sins : Cond.code yX5_sins cX5_sins 2 (some .int) ∈ zT := zT_in 758 (by decide +kernel) (by decide +kernel)
theorem lkI_X5_as : Cond.instanceMethod yX5_as ∈ zT := zT_in 760 (by decide +kernel) (by decide +kernel)
theorem lkV_X5_as : Cond.selects RX5 yX5_as yX5_as ∈ zT := zT_in 761 (by decide +kernel) (by decide +kernel)
theorem lkC_X5_as : Cond.code yX5_as cX5_as 5 (some .int) ∈ zT := zT_in 762 (by decide +kernel) (by decide +kernel)
theorem lkI_X5_preach : Cond.instanceMethod yX5_preach ∈ zT := zT_in 764 (by decide +kernel) (by decide +kernel)
theorem lkV_X5_preach : Cond.selects RX5 yX5_preach yX5_preach ∈ zT := zT_in 765 (by decide +kernel) (by decide +kernel)
theorem lkC_X5_preach : Cond.code yX5_preach cX5_preach 2 (some .int) ∈ zT := zT_in 766 (by decide +kernel) (by decide +kernel)
theorem lkM_X5_132 : Cond.methodLink RX5 132 yX5_isLevel ∈ zT := zT_in 767 (by decide +kernel) (by decide +kernel)
theorem lkI_X5_isLevel : Cond.instanceMethod yX5_isLevel ∈ zT := zT_in 769 (by decide +kernel) (by decide +kernel)
theorem lkC_X5_isLevel : Cond.code yX5_isLevel cX5_isLevel 1 (some .boolean) ∈ zT := zT_in 770 (by decide +kernel) (by decide +kernel)
theorem lkM_X5_119 : Cond.methodLink RX5 119 yX5_sermon ∈ zT := zT_in 771 (by decide +kernel) (by decide +kernel)
theorem lkI_X5_sermon : Cond.instanceMethod yX5_sermon ∈ zT := zT_in 773 (by decide +kernel) (by decide +kernel)
theorem lkC_X5_sermon : Cond.code yX5_sermon cX5_sermon 1 (some .int) ∈ zT := zT_in 774 (by decide +kernel) (by decide +kernel)
theorem lkM_X5_116 : Cond.methodLink RX5 116 yX5_ouncesOf ∈ zT := zT_in 775 (by decide +kernel) (by decide +kernel)
theorem lkI_X5_ouncesOf : Cond.instanceMethod yX5_ouncesOf ∈ zT := zT_in 777 (by decide +kernel) (by decide +kernel)
theorem lkC_X5_ouncesOf : Cond.code yX5_ouncesOf cX5_ouncesOf 5 (some .int) ∈ zT := zT_in 778 (by decide +kernel) (by decide +kernel)
theorem lkM_X5_122 : Cond.methodLink RX5 122 yX5_lead ∈ zT := zT_in 779 (by decide +kernel) (by decide +kernel)
theorem lkI_X5_lead : Cond.instanceMethod yX5_lead ∈ zT := zT_in 781 (by decide +kernel) (by decide +kernel)
theorem lkC_X5_lead : Cond.code yX5_lead cX5_lead 3 (some .int) ∈ zT := zT_in 782 (by decide +kernel) (by decide +kernel)
theorem lkM_X5_125 : Cond.methodLink RX5 125 yX5_hangs ∈ zT := zT_in 783 (by decide +kernel) (by decide +kernel)
theorem lkI_X5_hangs : Cond.instanceMethod yX5_hangs ∈ zT := zT_in 785 (by decide +kernel) (by decide +kernel)
theorem lkC_X5_hangs : Cond.code yX5_hangs cX5_hangs 3 (some .boolean) ∈ zT := zT_in 786 (by decide +kernel) (by decide +kernel)
theorem lkM_X5_135 : Cond.methodLink RX5 135 yX5_keeps ∈ zT := zT_in 787 (by decide +kernel) (by decide +kernel)
theorem lkI_X5_keeps : Cond.instanceMethod yX5_keeps ∈ zT := zT_in 789 (by decide +kernel) (by decide +kernel)
theorem lkC_X5_keeps : Cond.code yX5_keeps cX5_keeps 2 none ∈ zT := zT_in 790 (by decide +kernel) (by decide +kernel)
theorem lkI_X5_sin : Cond.instanceMethod yX5_sin ∈ zT := zT_in 792 (by decide +kernel) (by decide +kernel)
theorem lkV_X5_sin : Cond.selects RX5 yX5_sin yX5_sin ∈ zT := zT_in 793 (by decide +kernel) (by decide +kernel)
theorem lkC_X5_sin : Cond.code yX5_sin cX5_sin 3 (some .int) ∈ zT := zT_in 794 (by decide +kernel) (by decide +kernel)
theorem lkI_X5_ballast : Cond.instanceMethod yX5_ballast ∈ zT := zT_in 796 (by decide +kernel) (by decide +kernel)
theorem lkV_X5_ballast : Cond.selects RX5 yX5_ballast yX5_ballast ∈ zT := zT_in 797 (by decide +kernel) (by decide +kernel)
theorem lkC_X5_ballast : Cond.code yX5_ballast cX5_ballast 2 (some .int) ∈ zT := zT_in 798 (by decide +kernel) (by decide +kernel)
theorem lkI_X5_rain : Cond.instanceMethod yX5_rain ∈ zT := zT_in 800 (by decide +kernel) (by decide +kernel)
theorem lkV_X5_rain : Cond.selects RX5 yX5_rain yX5_rain ∈ zT := zT_in 801 (by decide +kernel) (by decide +kernel)
theorem lkC_X5_rain : Cond.code yX5_rain cX5_rain 3 (some .int) ∈ zT := zT_in 802 (by decide +kernel) (by decide +kernel)
theorem lkI_X5_sunday : Cond.instanceMethod yX5_sunday ∈ zT := zT_in 804 (by decide +kernel) (by decide +kernel)
theorem lkV_X5_sunday : Cond.selects RX5 yX5_sunday yX5_sunday ∈ zT := zT_in 805 (by decide +kernel) (by decide +kernel)
theorem lkC_X5_sunday : Cond.code yX5_sunday cX5_sunday 3 (some .int) ∈ zT := zT_in 806 (by decide +kernel) (by decide +kernel)
theorem lkI_X5_undo : Cond.instanceMethod yX5_undo ∈ zT := zT_in 808 (by decide +kernel) (by decide +kernel)
theorem lkV_X5_undo : Cond.selects RX5 yX5_undo yX5_undo ∈ zT := zT_in 809 (by decide +kernel) (by decide +kernel)
theorem lkC_X5_undo : Cond.code yX5_undo cX5_undo 2 (some .int) ∈ zT := zT_in 810 (by decide +kernel) (by decide +kernel)
theorem lkI_X5_keep : Cond.instanceMethod yX5_keep ∈ zT := zT_in 812 (by decide +kernel) (by decide +kernel)
theorem lkV_X5_keep : Cond.selects RX5 yX5_keep yX5_keep ∈ zT := zT_in 813 (by decide +kernel) (by decide +kernel)
theorem lkC_X5_keep : Cond.code yX5_keep cX5_keep 3 (some .int) ∈ zT := zT_in 814 (by decide +kernel) (by decide +kernel)
theorem lkI_X5_back : Cond.instanceMethod yX5_back ∈ zT := zT_in 816 (by decide +kernel) (by decide +kernel)
theorem lkV_X5_back : Cond.selects RX5 yX5_back yX5_back ∈ zT := zT_in 817 (by decide +kernel) (by decide +kernel)
theorem lkC_X5_back : Cond.code yX5_back cX5_back 3 (some .int) ∈ zT := zT_in 818 (by decide +kernel) (by decide +kernel)
theorem lkI_X5_stops : Cond.instanceMethod yX5_stops ∈ zT := zT_in 820 (by decide +kernel) (by decide +kernel)
theorem lkV_X5_stops : Cond.selects RX5 yX5_stops yX5_stops ∈ zT := zT_in 821 (by decide +kernel) (by decide +kernel)
theorem lkC_X5_stops : Cond.code yX5_stops cX5_stops 4 (some .int) ∈ zT := zT_in 822 (by decide +kernel) (by decide +kernel)
theorem lkI_X5_soonest : Cond.instanceMethod yX5_soonest ∈ zT := zT_in 824 (by decide +kernel) (by decide +kernel)
theorem lkV_X5_soonest : Cond.selects RX5 yX5_soonest yX5_soonest ∈ zT := zT_in 825 (by decide +kernel) (by decide +kernel)
theorem lkC_X5_soonest : Cond.code yX5_soonest cX5_soonest 6 (some .int) ∈ zT := zT_in 826 (by decide +kernel) (by decide +kernel)
theorem lkM_X5_138 : Cond.methodLink RX5 138 yX5_would ∈ zT := zT_in 827 (by decide +kernel) (by decide +kernel)
theorem lkI_X5_would : Cond.instanceMethod yX5_would ∈ zT := zT_in 829 (by decide +kernel) (by decide +kernel)
theorem lkC_X5_would : Cond.code yX5_would cX5_would 3 (some .boolean) ∈ zT := zT_in 830 (by decide +kernel) (by decide +kernel)
theorem lkM_X5_141 : Cond.methodLink RX5 141 yX5_minutesOf ∈ zT := zT_in 831 (by decide +kernel) (by decide +kernel)
theorem lkI_X5_minutesOf : Cond.instanceMethod yX5_minutesOf ∈ zT := zT_in 833 (by decide +kernel) (by decide +kernel)
theorem lkC_X5_minutesOf : Cond.code yX5_minutesOf cX5_minutesOf 4 (some .int) ∈ zT := zT_in 834 (by decide +kernel) (by decide +kernel)
theorem lkM_X5_144 : Cond.methodLink RX5 144 yX5_ones ∈ zT := zT_in 835 (by decide +kernel) (by decide +kernel)
theorem lkS_X5_ones : Cond.static yX5_ones ∈ zT := zT_in 836 (by decide +kernel) (by decide +kernel)
theorem lkC_X5_ones : Cond.code yX5_ones cX5_ones 3 (some .int) ∈ zT := zT_in 837 (by decide +kernel) (by decide +kernel)
theorem lkI_X5_never : Cond.instanceMethod yX5_never ∈ zT := zT_in 839 (by decide +kernel) (by decide +kernel)
theorem lkV_X5_never : Cond.selects RX5 yX5_never yX5_never ∈ zT := zT_in 840 (by decide +kernel) (by decide +kernel)
theorem lkC_X5_never : Cond.code yX5_never cX5_never 4 (some .int) ∈ zT := zT_in 841 (by decide +kernel) (by decide +kernel)
theorem lkI_X5_seen : Cond.instanceMethod yX5_seen ∈ zT := zT_in 843 (by decide +kernel) (by decide +kernel)
theorem lkV_X5_seen : Cond.selects RX5 yX5_seen yX5_seen ∈ zT := zT_in 844 (by decide +kernel) (by decide +kernel)
theorem lkC_X5_seen : Cond.code yX5_seen cX5_seen 4 (some .int) ∈ zT := zT_in 845 (by decide +kernel) (by decide +kernel)
theorem lkM_X5_147 : Cond.methodLink RX5 147 yX5_isSet ∈ zT := zT_in 846 (by decide +kernel) (by decide +kernel)
theorem lkI_X5_isSet : Cond.instanceMethod yX5_isSet ∈ zT := zT_in 848 (by decide +kernel) (by decide +kernel)
theorem lkC_X5_isSet : Cond.code yX5_isSet cX5_isSet 2 (some .boolean) ∈ zT := zT_in 849 (by decide +kernel) (by decide +kernel)
theorem lkI_X5_heard : Cond.instanceMethod yX5_heard ∈ zT := zT_in 851 (by decide +kernel) (by decide +kernel)
theorem lkV_X5_heard : Cond.selects RX5 yX5_heard yX5_heard ∈ zT := zT_in 852 (by decide +kernel) (by decide +kernel)
theorem lkC_X5_heard : Cond.code yX5_heard cX5_heard 4 (some .int) ∈ zT := zT_in 853 (by decide +kernel) (by decide +kernel)
theorem lkI_X5_forget : Cond.instanceMethod yX5_forget ∈ zT := zT_in 855 (by decide +kernel) (by decide +kernel)
theorem lkV_X5_forget : Cond.selects RX5 yX5_forget yX5_forget ∈ zT := zT_in 856 (by decide +kernel) (by decide +kernel)
theorem lkC_X5_forget : Cond.code yX5_forget cX5_forget 2 (some .int) ∈ zT := zT_in 857 (by decide +kernel) (by decide +kernel)
theorem lkI_X5_weights : Cond.instanceMethod yX5_weights ∈ zT := zT_in 859 (by decide +kernel) (by decide +kernel)
theorem lkV_X5_weights : Cond.selects RX5 yX5_weights yX5_weights ∈ zT := zT_in 860 (by decide +kernel) (by decide +kernel)
theorem lkC_X5_weights : Cond.code yX5_weights cX5_weights 9 (some .int) ∈ zT := zT_in 861 (by decide +kernel) (by decide +kernel)
theorem lkI_X5_thumbs : Cond.instanceMethod yX5_thumbs ∈ zT := zT_in 863 (by decide +kernel) (by decide +kernel)
theorem lkV_X5_thumbs : Cond.selects RX5 yX5_thumbs yX5_thumbs ∈ zT := zT_in 864 (by decide +kernel) (by decide +kernel)
theorem lkC_X5_thumbs : Cond.code yX5_thumbs cX5_thumbs 6 (some .int) ∈ zT := zT_in 865 (by decide +kernel) (by decide +kernel)
theorem lkI_X5_confessed : Cond.instanceMethod yX5_confessed ∈ zT := zT_in 867 (by decide +kernel) (by decide +kernel)
theorem lkV_X5_confessed : Cond.selects RX5 yX5_confessed yX5_confessed ∈ zT := zT_in 868 (by decide +kernel) (by decide +kernel)
theorem lkC_X5_confessed : Cond.code yX5_confessed cX5_confessed 10 (some .int) ∈ zT := zT_in 869 (by decide +kernel) (by decide +kernel)
theorem lkI_X5_count : Cond.instanceMethod yX5_count ∈ zT := zT_in 871 (by decide +kernel) (by decide +kernel)
theorem lkV_X5_count : Cond.selects RX5 yX5_count yX5_count ∈ zT := zT_in 872 (by decide +kernel) (by decide +kernel)
theorem lkC_X5_count : Cond.code yX5_count cX5_count 2 (some .int) ∈ zT := zT_in 873 (by decide +kernel) (by decide +kernel)
theorem lkF_J0_9 : Cond.fieldLink RJ0 9 "java/lang/String" "value" "[B" ∈ zT := zT_in 874 (by decide +kernel) (by decide +kernel)
theorem lkF_J0_15 : Cond.fieldLink RJ0 15 "java/lang/String" "code\x72" "B" ∈ zT := zT_in 875 (by decide +kernel) (by decide +kernel)
theorem lkV_X1_beginAsAtFirst : Cond.selects RX1 yX1_beginAsAtFirst yX1_beginAsAtFirst ∈ zT := zT_in 0 (by decide +kernel) (by decide +kernel)
theorem lkV_X2_readClause : Cond.selects RX2 yX2_readClause yX2_readClause ∈ zT := zT_in 1 (by decide +kernel) (by decide +kernel)
theorem lkV_X2_nextToken : Cond.selects RX2 yX2_nextToken yX2_nextToken ∈ zT := zT_in 2 (by decide +kernel) (by decide +kernel)
theorem lkV_X2_endOfRow : Cond.selects RX2 yX2_endOfRow yX2_endOfRow ∈ zT := zT_in 3 (by decide +kernel) (by decide +kernel)
theorem lkV_X2_tokenWord : Cond.selects RX2 yX2_tokenWord yX2_tokenWord ∈ zT := zT_in 4 (by decide +kernel) (by decide +kernel)
theorem lkV_X2_tokenIs : Cond.selects RX2 yX2_tokenIs yX2_tokenIs ∈ zT := zT_in 5 (by decide +kernel) (by decide +kernel)
theorem lkV_X2_countPartsAndSouls : Cond.selects RX2 yX2_countPartsAndSouls yX2_countPartsAndSouls ∈ zT := zT_in 6 (by decide +kernel) (by decide +kernel)
theorem lkV_X2_tokenNumber : Cond.selects RX2 yX2_tokenNumber yX2_tokenNumber ∈ zT := zT_in 7 (by decide +kernel) (by decide +kernel)
theorem lkV_X1_addPart : Cond.selects RX1 yX1_addPart yX1_addPart ∈ zT := zT_in 8 (by decide +kernel) (by decide +kernel)
theorem lkV_X1_addSoul : Cond.selects RX1 yX1_addSoul yX1_addSoul ∈ zT := zT_in 9 (by decide +kernel) (by decide +kernel)
theorem lkV_X4_beginAnew : Cond.selects RX4 yX4_beginAnew yX4_beginAnew ∈ zT := zT_in 10 (by decide +kernel) (by decide +kernel)
theorem lkV_X4_isPart : Cond.selects RX4 yX4_isPart yX4_isPart ∈ zT := zT_in 11 (by decide +kernel) (by decide +kernel)
theorem lkV_X4_isSoul : Cond.selects RX4 yX4_isSoul yX4_isSoul ∈ zT := zT_in 12 (by decide +kernel) (by decide +kernel)
theorem lkV_X4_hangsLevelNow : Cond.selects RX4 yX4_hangsLevelNow yX4_hangsLevelNow ∈ zT := zT_in 13 (by decide +kernel) (by decide +kernel)
theorem lkV_X4_sermonOf : Cond.selects RX4 yX4_sermonOf yX4_sermonOf ∈ zT := zT_in 14 (by decide +kernel) (by decide +kernel)
theorem lkV_X4_leadNow : Cond.selects RX4 yX4_leadNow yX4_leadNow ∈ zT := zT_in 15 (by decide +kernel) (by decide +kernel)
theorem lkV_X4_leadWithout : Cond.selects RX4 yX4_leadWithout yX4_leadWithout ∈ zT := zT_in 16 (by decide +kernel) (by decide +kernel)
theorem lkV_X4_hangsLevel : Cond.selects RX4 yX4_hangsLevel yX4_hangsLevel ∈ zT := zT_in 17 (by decide +kernel) (by decide +kernel)
theorem lkV_X4_rememberWeek : Cond.selects RX4 yX4_rememberWeek yX4_rememberWeek ∈ zT := zT_in 18 (by decide +kernel) (by decide +kernel)
theorem lkV_X4_soonestSet : Cond.selects RX4 yX4_soonestSet yX4_soonestSet ∈ zT := zT_in 19 (by decide +kernel) (by decide +kernel)
theorem lkV_X4_levels : Cond.selects RX4 yX4_levels yX4_levels ∈ zT := zT_in 20 (by decide +kernel) (by decide +kernel)
theorem lkV_X4_isSooner : Cond.selects RX4 yX4_isSooner yX4_isSooner ∈ zT := zT_in 21 (by decide +kernel) (by decide +kernel)
theorem lkV_X4_isSet : Cond.selects RX4 yX4_isSet yX4_isSet ∈ zT := zT_in 22 (by decide +kernel) (by decide +kernel)
theorem lkV_X4_fitsAllSeen : Cond.selects RX4 yX4_fitsAllSeen yX4_fitsAllSeen ∈ zT := zT_in 23 (by decide +kernel) (by decide +kernel)
theorem lkV_X4_fitsAllHeard : Cond.selects RX4 yX4_fitsAllHeard yX4_fitsAllHeard ∈ zT := zT_in 24 (by decide +kernel) (by decide +kernel)
theorem lkV_X4_waysOfConfessing : Cond.selects RX4 yX4_waysOfConfessing yX4_waysOfConfessing ∈ zT := zT_in 25 (by decide +kernel) (by decide +kernel)
theorem lkV_X5_forgets : Cond.selects RX5 yX5_forgets yX5_forgets ∈ zT := zT_in 26 (by decide +kernel) (by decide +kernel)
theorem lkV_X5_lays : Cond.selects RX5 yX5_lays yX5_lays ∈ zT := zT_in 27 (by decide +kernel) (by decide +kernel)
theorem lkV_X5_reads : Cond.selects RX5 yX5_reads yX5_reads ∈ zT := zT_in 28 (by decide +kernel) (by decide +kernel)
theorem lkV_X5_token : Cond.selects RX5 yX5_token yX5_token ∈ zT := zT_in 29 (by decide +kernel) (by decide +kernel)
theorem lkV_X5_letterAt : Cond.selects RX5 yX5_letterAt yX5_letterAt ∈ zT := zT_in 30 (by decide +kernel) (by decide +kernel)
theorem lkV_X5_readsClause : Cond.selects RX5 yX5_readsClause yX5_readsClause ∈ zT := zT_in 31 (by decide +kernel) (by decide +kernel)
theorem lkV_X5_isWord : Cond.selects RX5 yX5_isWord yX5_isWord ∈ zT := zT_in 32 (by decide +kernel) (by decide +kernel)
theorem lkV_X5_readsPart : Cond.selects RX5 yX5_readsPart yX5_readsPart ∈ zT := zT_in 33 (by decide +kernel) (by decide +kernel)
theorem lkV_X5_number : Cond.selects RX5 yX5_number yX5_number ∈ zT := zT_in 34 (by decide +kernel) (by decide +kernel)
theorem lkV_X5_readsSoul : Cond.selects RX5 yX5_readsSoul yX5_readsSoul ∈ zT := zT_in 35 (by decide +kernel) (by decide +kernel)
theorem lkV_X5_isPart : Cond.selects RX5 yX5_isPart yX5_isPart ∈ zT := zT_in 36 (by decide +kernel) (by decide +kernel)
theorem lkV_X5_ounces : Cond.selects RX5 yX5_ounces yX5_ounces ∈ zT := zT_in 37 (by decide +kernel) (by decide +kernel)
theorem lkV_X5_isLevel : Cond.selects RX5 yX5_isLevel yX5_isLevel ∈ zT := zT_in 38 (by decide +kernel) (by decide +kernel)
theorem lkV_X5_sermon : Cond.selects RX5 yX5_sermon yX5_sermon ∈ zT := zT_in 39 (by decide +kernel) (by decide +kernel)
theorem lkV_X5_ouncesOf : Cond.selects RX5 yX5_ouncesOf yX5_ouncesOf ∈ zT := zT_in 40 (by decide +kernel) (by decide +kernel)
theorem lkV_X5_lead : Cond.selects RX5 yX5_lead yX5_lead ∈ zT := zT_in 41 (by decide +kernel) (by decide +kernel)
theorem lkV_X5_hangs : Cond.selects RX5 yX5_hangs yX5_hangs ∈ zT := zT_in 42 (by decide +kernel) (by decide +kernel)
theorem lkV_X5_keeps : Cond.selects RX5 yX5_keeps yX5_keeps ∈ zT := zT_in 43 (by decide +kernel) (by decide +kernel)
theorem lkV_X5_would : Cond.selects RX5 yX5_would yX5_would ∈ zT := zT_in 44 (by decide +kernel) (by decide +kernel)
theorem lkV_X5_minutesOf : Cond.selects RX5 yX5_minutesOf yX5_minutesOf ∈ zT := zT_in 45 (by decide +kernel) (by decide +kernel)
theorem lkV_X5_isSet : Cond.selects RX5 yX5_isSet yX5_isSet ∈ zT := zT_in 46 (by decide +kernel) (by decide +kernel)
theorem lkA_X3_20 : Cond.methodLink RX3 20 arraycopyName ∈ zT := zT_in 413 (by decide +kernel) (by decide +kernel)
theorem lkA_native : Cond.native arraycopyName ∈ zT := zT_in 415 (by decide +kernel) (by decide +kernel)
theorem lkA_static : Cond.static arraycopyName ∈ zT := zT_in 414 (by decide +kernel) (by decide +kernel)
theorem inZX0 : ∀ w ∈ u_ws RX0 TX0 9, w ∈ zT := by decide +kernel
theorem inZX1 : ∀ w ∈ u_ws RX1 TX1 9, w ∈ zT := by decide +kernel
theorem inZX2 : ∀ w ∈ u_ws RX2 TX2 10, w ∈ zT := by decide +kernel
theorem inZX3 : ∀ w ∈ u_ws RX3 TX3 7, w ∈ zT := by decide +kernel
theorem inZX4 : ∀ w ∈ u_ws RX4 TX4 9, w ∈ zT := by decide +kernel
theorem inZX5 : ∀ w ∈ u_ws RX5 TX5 17, w ∈ zT := by decide +kernel
end
section
section ZL
variable {A : Nat → Prop} {G : zG} {p : Program} {l : Launch} {e : Env} {R : Room} {s : State} {m : MethodId} {args : Array Value} {below : List Frame} {meth : Method} {c : Code} {H : Heap} {locs : List Loc} {cells slots : Nat} {Q : State → Prop}
variable {cc : ByteArray} {nL : Nat} {pc : Nat} {ls : Array Slot} {rest : List Value} {mem : zMem}
theorem zg_X0_34 (C : zC A G p s m args c cc nL RX0) (Z : zH A G s mem H locs) (hdg : decode cc pc = .ok (.getfield 34, 3)) (kk : W p l e R s m args below meth c H locs cells slots Q (F0 m (pc + 3) ls (.int (mem 36 7) :: rest))) : W p l e R s m args below meth c H locs cells slots Q (F0 m pc ls (.ref (zr G 36) :: rest)) := z_get C Z (k := 36) (by decide) rfl rfl inZX0 7 (by decide) lkF_X0_34 rfl rfl hdg kk
theorem zg_X0_9 (C : zC A G p s m args c cc nL RX0) (Z : zH A G s mem H locs) (hdg : decode cc pc = .ok (.getfield 9, 3)) (kk : W p l e R s m args below meth c H locs cells slots Q (F0 m (pc + 3) ls (.ref (zr G 37) :: rest))) : W p l e R s m args below meth c H locs cells slots Q (F0 m pc ls (.ref (zr G 36) :: rest)) := z_get C Z (k := 36) (by decide) rfl rfl inZX0 0 (by decide) lkF_X0_9 rfl rfl hdg kk
theorem zg_X0_15 (C : zC A G p s m args c cc nL RX0) (Z : zH A G s mem H locs) (hdg : decode cc pc = .ok (.getfield 15, 3)) (kk : W p l e R s m args below meth c H locs cells slots Q (F0 m (pc + 3) ls (.ref (zr G 38) :: rest))) : W p l e R s m args below meth c H locs cells slots Q (F0 m pc ls (.ref (zr G 36) :: rest)) := z_get C Z (k := 36) (by decide) rfl rfl inZX0 1 (by decide) lkF_X0_15 rfl rfl hdg kk
theorem zg_X0_18 (C : zC A G p s m args c cc nL RX0) (Z : zH A G s mem H locs) (hdg : decode cc pc = .ok (.getfield 18, 3)) (kk : W p l e R s m args below meth c H locs cells slots Q (F0 m (pc + 3) ls (.ref (zr G 39) :: rest))) : W p l e R s m args below meth c H locs cells slots Q (F0 m pc ls (.ref (zr G 36) :: rest)) := z_get C Z (k := 36) (by decide) rfl rfl inZX0 2 (by decide) lkF_X0_18 rfl rfl hdg kk
theorem zp_X0_34 {x : Int32} (C : zC A G p s m args c cc nL RX0) (Z : zH A G s mem H locs) (hdg : decode cc pc = .ok (.putfield 34, 3)) (kk : ∀ (H1 : Heap) (locs1 : List Loc), zH A G s (wr mem 36 7 x) H1 locs1 → W p l e R s m args below meth c H1 locs1 cells slots Q (F0 m (pc + 3) ls rest)) : W p l e R s m args below meth c H locs cells slots Q (F0 m pc ls (.int x :: .ref (zr G 36) :: rest)) := z_put C Z (k := 36) (by decide) rfl rfl inZX0 tyX0 tyX0_ok nmX0 7 (by decide) lkF_X0_34 rfl rfl (by decide +kernel) (by decide +kernel) rfl hdg kk
theorem zg_X0_38 (C : zC A G p s m args c cc nL RX0) (Z : zH A G s mem H locs) (hdg : decode cc pc = .ok (.getfield 38, 3)) (kk : W p l e R s m args below meth c H locs cells slots Q (F0 m (pc + 3) ls (.int (mem 36 8) :: rest))) : W p l e R s m args below meth c H locs cells slots Q (F0 m pc ls (.ref (zr G 36) :: rest)) := z_get C Z (k := 36) (by decide) rfl rfl inZX0 8 (by decide) lkF_X0_38 rfl rfl hdg kk
theorem zg_X0_21 (C : zC A G p s m args c cc nL RX0) (Z : zH A G s mem H locs) (hdg : decode cc pc = .ok (.getfield 21, 3)) (kk : W p l e R s m args below meth c H locs cells slots Q (F0 m (pc + 3) ls (.ref (zr G 40) :: rest))) : W p l e R s m args below meth c H locs cells slots Q (F0 m pc ls (.ref (zr G 36) :: rest)) := z_get C Z (k := 36) (by decide) rfl rfl inZX0 3 (by decide) lkF_X0_21 rfl rfl hdg kk
theorem zg_X0_24 (C : zC A G p s m args c cc nL RX0) (Z : zH A G s mem H locs) (hdg : decode cc pc = .ok (.getfield 24, 3)) (kk : W p l e R s m args below meth c H locs cells slots Q (F0 m (pc + 3) ls (.ref (zr G 41) :: rest))) : W p l e R s m args below meth c H locs cells slots Q (F0 m pc ls (.ref (zr G 36) :: rest)) := z_get C Z (k := 36) (by decide) rfl rfl inZX0 4 (by decide) lkF_X0_24 rfl rfl hdg kk
theorem zg_X0_30 (C : zC A G p s m args c cc nL RX0) (Z : zH A G s mem H locs) (hdg : decode cc pc = .ok (.getfield 30, 3)) (kk : W p l e R s m args below meth c H locs cells slots Q (F0 m (pc + 3) ls (.ref (zr G 43) :: rest))) : W p l e R s m args below meth c H locs cells slots Q (F0 m pc ls (.ref (zr G 36) :: rest)) := z_get C Z (k := 36) (by decide) rfl rfl inZX0 6 (by decide) lkF_X0_30 rfl rfl hdg kk
theorem zg_X0_27 (C : zC A G p s m args c cc nL RX0) (Z : zH A G s mem H locs) (hdg : decode cc pc = .ok (.getfield 27, 3)) (kk : W p l e R s m args below meth c H locs cells slots Q (F0 m (pc + 3) ls (.ref (zr G 42) :: rest))) : W p l e R s m args below meth c H locs cells slots Q (F0 m pc ls (.ref (zr G 36) :: rest)) := z_get C Z (k := 36) (by decide) rfl rfl inZX0 5 (by decide) lkF_X0_27 rfl rfl hdg kk
theorem zp_X0_38 {x : Int32} (C : zC A G p s m args c cc nL RX0) (Z : zH A G s mem H locs) (hdg : decode cc pc = .ok (.putfield 38, 3)) (kk : ∀ (H1 : Heap) (locs1 : List Loc), zH A G s (wr mem 36 8 x) H1 locs1 → W p l e R s m args below meth c H1 locs1 cells slots Q (F0 m (pc + 3) ls rest)) : W p l e R s m args below meth c H locs cells slots Q (F0 m pc ls (.int x :: .ref (zr G 36) :: rest)) := z_put C Z (k := 36) (by decide) rfl rfl inZX0 tyX0 tyX0_ok nmX0 8 (by decide) lkF_X0_38 rfl rfl (by decide +kernel) (by decide +kernel) rfl hdg kk
theorem zp_X1_27 {x : Int32} (C : zC A G p s m args c cc nL RX1) (Z : zH A G s mem H locs) (hdg : decode cc pc = .ok (.putfield 27, 3)) (kk : ∀ (H1 : Heap) (locs1 : List Loc), zH A G s (wr mem 6 4 x) H1 locs1 → W p l e R s m args below meth c H1 locs1 cells slots Q (F0 m (pc + 3) ls rest)) : W p l e R s m args below meth c H locs cells slots Q (F0 m pc ls (.int x :: .ref (zr G 6) :: rest)) := z_put C Z (k := 6) (by decide) rfl rfl inZX1 tyX1 tyX1_ok nmX1 4 (by decide) lkF_X1_27 rfl rfl (by decide +kernel) (by decide +kernel) rfl hdg kk
theorem zp_X1_31 {x : Int32} (C : zC A G p s m args c cc nL RX1) (Z : zH A G s mem H locs) (hdg : decode cc pc = .ok (.putfield 31, 3)) (kk : ∀ (H1 : Heap) (locs1 : List Loc), zH A G s (wr mem 6 5 x) H1 locs1 → W p l e R s m args below meth c H1 locs1 cells slots Q (F0 m (pc + 3) ls rest)) : W p l e R s m args below meth c H locs cells slots Q (F0 m pc ls (.int x :: .ref (zr G 6) :: rest)) := z_put C Z (k := 6) (by decide) rfl rfl inZX1 tyX1 tyX1_ok nmX1 5 (by decide) lkF_X1_31 rfl rfl (by decide +kernel) (by decide +kernel) rfl hdg kk
theorem zp_X1_34 {x : Int32} (C : zC A G p s m args c cc nL RX1) (Z : zH A G s mem H locs) (hdg : decode cc pc = .ok (.putfield 34, 3)) (kk : ∀ (H1 : Heap) (locs1 : List Loc), zH A G s (wr mem 6 6 x) H1 locs1 → W p l e R s m args below meth c H1 locs1 cells slots Q (F0 m (pc + 3) ls rest)) : W p l e R s m args below meth c H locs cells slots Q (F0 m pc ls (.int x :: .ref (zr G 6) :: rest)) := z_put C Z (k := 6) (by decide) rfl rfl inZX1 tyX1 tyX1_ok nmX1 6 (by decide) lkF_X1_34 rfl rfl (by decide +kernel) (by decide +kernel) rfl hdg kk
theorem zp_X1_37 {x : Int32} (C : zC A G p s m args c cc nL RX1) (Z : zH A G s mem H locs) (hdg : decode cc pc = .ok (.putfield 37, 3)) (kk : ∀ (H1 : Heap) (locs1 : List Loc), zH A G s (wr mem 6 7 x) H1 locs1 → W p l e R s m args below meth c H1 locs1 cells slots Q (F0 m (pc + 3) ls rest)) : W p l e R s m args below meth c H locs cells slots Q (F0 m pc ls (.int x :: .ref (zr G 6) :: rest)) := z_put C Z (k := 6) (by decide) rfl rfl inZX1 tyX1 tyX1_ok nmX1 7 (by decide) lkF_X1_37 rfl rfl (by decide +kernel) (by decide +kernel) rfl hdg kk
theorem zp_X1_40 {x : Int32} (C : zC A G p s m args c cc nL RX1) (Z : zH A G s mem H locs) (hdg : decode cc pc = .ok (.putfield 40, 3)) (kk : ∀ (H1 : Heap) (locs1 : List Loc), zH A G s (wr mem 6 8 x) H1 locs1 → W p l e R s m args below meth c H1 locs1 cells slots Q (F0 m (pc + 3) ls rest)) : W p l e R s m args below meth c H locs cells slots Q (F0 m pc ls (.int x :: .ref (zr G 6) :: rest)) := z_put C Z (k := 6) (by decide) rfl rfl inZX1 tyX1 tyX1_ok nmX1 8 (by decide) lkF_X1_40 rfl rfl (by decide +kernel) (by decide +kernel) rfl hdg kk
theorem zg_X1_27 (C : zC A G p s m args c cc nL RX1) (Z : zH A G s mem H locs) (hdg : decode cc pc = .ok (.getfield 27, 3)) (kk : W p l e R s m args below meth c H locs cells slots Q (F0 m (pc + 3) ls (.int (mem 6 4) :: rest))) : W p l e R s m args below meth c H locs cells slots Q (F0 m pc ls (.ref (zr G 6) :: rest)) := z_get C Z (k := 6) (by decide) rfl rfl inZX1 4 (by decide) lkF_X1_27 rfl rfl hdg kk
theorem zg_X1_9 (C : zC A G p s m args c cc nL RX1) (Z : zH A G s mem H locs) (hdg : decode cc pc = .ok (.getfield 9, 3)) (kk : W p l e R s m args below meth c H locs cells slots Q (F0 m (pc + 3) ls (.ref (zr G 7) :: rest))) : W p l e R s m args below meth c H locs cells slots Q (F0 m pc ls (.ref (zr G 6) :: rest)) := z_get C Z (k := 6) (by decide) rfl rfl inZX1 0 (by decide) lkF_X1_9 rfl rfl hdg kk
theorem zg_X1_15 (C : zC A G p s m args c cc nL RX1) (Z : zH A G s mem H locs) (hdg : decode cc pc = .ok (.getfield 15, 3)) (kk : W p l e R s m args below meth c H locs cells slots Q (F0 m (pc + 3) ls (.ref (zr G 8) :: rest))) : W p l e R s m args below meth c H locs cells slots Q (F0 m pc ls (.ref (zr G 6) :: rest)) := z_get C Z (k := 6) (by decide) rfl rfl inZX1 1 (by decide) lkF_X1_15 rfl rfl hdg kk
theorem zg_X1_18 (C : zC A G p s m args c cc nL RX1) (Z : zH A G s mem H locs) (hdg : decode cc pc = .ok (.getfield 18, 3)) (kk : W p l e R s m args below meth c H locs cells slots Q (F0 m (pc + 3) ls (.ref (zr G 9) :: rest))) : W p l e R s m args below meth c H locs cells slots Q (F0 m pc ls (.ref (zr G 6) :: rest)) := z_get C Z (k := 6) (by decide) rfl rfl inZX1 2 (by decide) lkF_X1_18 rfl rfl hdg kk
theorem zg_X1_31 (C : zC A G p s m args c cc nL RX1) (Z : zH A G s mem H locs) (hdg : decode cc pc = .ok (.getfield 31, 3)) (kk : W p l e R s m args below meth c H locs cells slots Q (F0 m (pc + 3) ls (.int (mem 6 5) :: rest))) : W p l e R s m args below meth c H locs cells slots Q (F0 m pc ls (.ref (zr G 6) :: rest)) := z_get C Z (k := 6) (by decide) rfl rfl inZX1 5 (by decide) lkF_X1_31 rfl rfl hdg kk
theorem zg_X1_21 (C : zC A G p s m args c cc nL RX1) (Z : zH A G s mem H locs) (hdg : decode cc pc = .ok (.getfield 21, 3)) (kk : W p l e R s m args below meth c H locs cells slots Q (F0 m (pc + 3) ls (.ref (zr G 10) :: rest))) : W p l e R s m args below meth c H locs cells slots Q (F0 m pc ls (.ref (zr G 6) :: rest)) := z_get C Z (k := 6) (by decide) rfl rfl inZX1 3 (by decide) lkF_X1_21 rfl rfl hdg kk
theorem zcw_X1_24 (hts : ∀ w ∈ zT, w.before args s = true) (hR : 0 + 1 ≤ R.frames ∧ 8 + (1 + 11) + 0 ≤ R.locals) : CallW R s args RX1 RX1 24 yX1_beginAsAtFirst cX1_beginAsAtFirst 1 none (Cond.code yX1_beginAsAtFirst cX1_beginAsAtFirst 1 none :: zT) ({ frames := 0, cells := 0, slots := 0, locals := 0 } : Room) 0 0 0 := cwV 0 hts (zGoodV lkM_X1_24 lkI_X1_beginAsAtFirst lkV_X1_beginAsAtFirst lkN_X1 lkC_X1_beginAsAtFirst) rfl rfl rfl (by decide +kernel) hR
theorem zcw_X1_43 (hts : ∀ w ∈ zT, w.before args s = true) (hR : 0 + 1 ≤ R.frames ∧ 8 + (4 + 11) + 0 ≤ R.locals) : CallW R s args RX1 RX1 43 yX1_addPart cX1_addPart 4 none (Cond.code yX1_addPart cX1_addPart 4 none :: zT) ({ frames := 0, cells := 0, slots := 0, locals := 0 } : Room) 0 0 3 := cwV 3 hts (zGoodV lkM_X1_43 lkI_X1_addPart lkV_X1_addPart lkN_X1 lkC_X1_addPart) rfl rfl rfl (by decide +kernel) hR
theorem zcw_X1_47 (hts : ∀ w ∈ zT, w.before args s = true) (hR : 0 + 1 ≤ R.frames ∧ 8 + (2 + 11) + 0 ≤ R.locals) : CallW R s args RX1 RX1 47 yX1_addSoul cX1_addSoul 2 none (Cond.code yX1_addSoul cX1_addSoul 2 none :: zT) ({ frames := 0, cells := 0, slots := 0, locals := 0 } : Room) 0 0 1 := cwV 1 hts (zGoodV lkM_X1_47 lkI_X1_addSoul lkV_X1_addSoul lkN_X1 lkC_X1_addSoul) rfl rfl rfl (by decide +kernel) hR
theorem zcw_X1_51 (hts : ∀ w ∈ zT, w.before args s = true) (hn : va_Nw (.methodLinkNest RX1 51 yX4_isIn RX4) s) (hR : 0 + 1 ≤ R.frames ∧ 8 + (2 + 11) + 0 ≤ R.locals) : va_CN R s args RX1 51 yX4_isIn RX4 cX4_isIn 2 (some .boolean) (Cond.code yX4_isIn cX4_isIn 2 (some .boolean) :: zT) ({ frames := 0, cells := 0, slots := 0, locals := 0 } : Room) 0 0 2 ∧ (Cond.static yX4_isIn).before args s = true ∧ True := ⟨va_cnB 2 hts (zGood lkC_X4_isIn) rfl rfl rfl hn (hts _ lkN_X4) (by decide +kernel) hR, hts _ lkS_X4_isIn, trivial⟩
theorem zcw_X1_55 (hts : ∀ w ∈ zT, w.before args s = true) (hn : va_Nw (.methodLinkNest RX1 55 yX4_ouncesOf RX4) s) (hR : 0 + 1 ≤ R.frames ∧ 8 + (3 + 11) + 0 ≤ R.locals) : va_CN R s args RX1 55 yX4_ouncesOf RX4 cX4_ouncesOf 3 (some .int) (Cond.code yX4_ouncesOf cX4_ouncesOf 3 (some .int) :: zT) ({ frames := 0, cells := 0, slots := 0, locals := 0 } : Room) 0 0 3 ∧ (Cond.static yX4_ouncesOf).before args s = true ∧ True := ⟨va_cnB 3 hts (zGood lkC_X4_ouncesOf) rfl rfl rfl hn (hts _ lkN_X4) (by decide +kernel) hR, hts _ lkS_X4_ouncesOf, trivial⟩
theorem zg_X2_24 (C : zC A G p s m args c cc nL RX2) (Z : zH A G s mem H locs) (hdg : decode cc pc = .ok (.getfield 24, 3)) (kk : W p l e R s m args below meth c H locs cells slots Q (F0 m (pc + 3) ls (.int (mem 1 4) :: rest))) : W p l e R s m args below meth c H locs cells slots Q (F0 m pc ls (.ref (zr G 1) :: rest)) := z_get C Z (k := 1) (by decide) rfl rfl inZX2 4 (by decide) lkF_X2_24 rfl rfl hdg kk
theorem zg_X2_9 (C : zC A G p s m args c cc nL RX2) (Z : zH A G s mem H locs) (hdg : decode cc pc = .ok (.getfield 9, 3)) (kk : W p l e R s m args below meth c H locs cells slots Q (F0 m (pc + 3) ls (.ref (zr G 2) :: rest))) : W p l e R s m args below meth c H locs cells slots Q (F0 m pc ls (.ref (zr G 1) :: rest)) := z_get C Z (k := 1) (by decide) rfl rfl inZX2 0 (by decide) lkF_X2_9 rfl rfl hdg kk
theorem zp_X2_24 {x : Int32} (C : zC A G p s m args c cc nL RX2) (Z : zH A G s mem H locs) (hdg : decode cc pc = .ok (.putfield 24, 3)) (kk : ∀ (H1 : Heap) (locs1 : List Loc), zH A G s (wr mem 1 4 x) H1 locs1 → W p l e R s m args below meth c H1 locs1 cells slots Q (F0 m (pc + 3) ls rest)) : W p l e R s m args below meth c H locs cells slots Q (F0 m pc ls (.int x :: .ref (zr G 1) :: rest)) := z_put C Z (k := 1) (by decide) rfl rfl inZX2 tyX2 tyX2_ok nmX2 4 (by decide) lkF_X2_24 rfl rfl (by decide +kernel) (by decide +kernel) rfl hdg kk
theorem zcw_X2_65 (hts : ∀ w ∈ zT, w.before args s = true) (hn : va_Nw (.methodLinkNest RX2 65 yX4_isWithin RX4) s) (hR : 0 + 1 ≤ R.frames ∧ 8 + (3 + 11) + 0 ≤ R.locals) : va_CN R s args RX2 65 yX4_isWithin RX4 cX4_isWithin 3 (some .boolean) (Cond.code yX4_isWithin cX4_isWithin 3 (some .boolean) :: zT) ({ frames := 0, cells := 0, slots := 0, locals := 0 } : Room) 0 0 3 ∧ (Cond.static yX4_isWithin).before args s = true ∧ True := ⟨va_cnB 3 hts (zGood lkC_X4_isWithin) rfl rfl rfl hn (hts _ lkN_X4) (by decide +kernel) hR, hts _ lkS_X4_isWithin, trivial⟩
theorem zg_X2_34 (C : zC A G p s m args c cc nL RX2) (Z : zH A G s mem H locs) (hdg : decode cc pc = .ok (.getfield 34, 3)) (kk : W p l e R s m args below meth c H locs cells slots Q (F0 m (pc + 3) ls (.int (mem 1 7) :: rest))) : W p l e R s m args below meth c H locs cells slots Q (F0 m pc ls (.ref (zr G 1) :: rest)) := z_get C Z (k := 1) (by decide) rfl rfl inZX2 7 (by decide) lkF_X2_34 rfl rfl hdg kk
theorem zg_X2_44 (C : zC A G p s m args c cc nL RX2) (Z : zH A G s mem H locs) (hdg : decode cc pc = .ok (.getfield 44, 3)) (kk : W p l e R s m args below meth c H locs cells slots Q (F0 m (pc + 3) ls (.int (mem 1 6) :: rest))) : W p l e R s m args below meth c H locs cells slots Q (F0 m pc ls (.ref (zr G 1) :: rest)) := z_get C Z (k := 1) (by decide) rfl rfl inZX2 6 (by decide) lkF_X2_44 rfl rfl hdg kk
theorem zp_X2_34 {x : Int32} (C : zC A G p s m args c cc nL RX2) (Z : zH A G s mem H locs) (hdg : decode cc pc = .ok (.putfield 34, 3)) (kk : ∀ (H1 : Heap) (locs1 : List Loc), zH A G s (wr mem 1 7 x) H1 locs1 → W p l e R s m args below meth c H1 locs1 cells slots Q (F0 m (pc + 3) ls rest)) : W p l e R s m args below meth c H locs cells slots Q (F0 m pc ls (.int x :: .ref (zr G 1) :: rest)) := z_put C Z (k := 1) (by decide) rfl rfl inZX2 tyX2 tyX2_ok nmX2 7 (by decide) lkF_X2_34 rfl rfl (by decide +kernel) (by decide +kernel) rfl hdg kk
theorem zcw_X2_72 (hts : ∀ w ∈ zT, w.before args s = true) (hR : 1 + 1 ≤ R.frames ∧ 8 + (5 + 11) + 22 ≤ R.locals) : CallW R s args RX2 RX2 72 yX2_endOfRow cX2_endOfRow 5 (some .int) (Cond.code yX2_endOfRow cX2_endOfRow 5 (some .int) :: zT) ({ frames := 1, cells := 0, slots := 0, locals := 22 } : Room) 0 0 3 := cwV 3 hts (zGoodV lkM_X2_72 lkI_X2_endOfRow lkV_X2_endOfRow lkN_X2 lkC_X2_endOfRow) rfl rfl rfl (by decide +kernel) hR
theorem zp_X2_44 {x : Int32} (C : zC A G p s m args c cc nL RX2) (Z : zH A G s mem H locs) (hdg : decode cc pc = .ok (.putfield 44, 3)) (kk : ∀ (H1 : Heap) (locs1 : List Loc), zH A G s (wr mem 1 6 x) H1 locs1 → W p l e R s m args below meth c H1 locs1 cells slots Q (F0 m (pc + 3) ls rest)) : W p l e R s m args below meth c H locs cells slots Q (F0 m pc ls (.int x :: .ref (zr G 1) :: rest)) := z_put C Z (k := 1) (by decide) rfl rfl inZX2 tyX2 tyX2_ok nmX2 6 (by decide) lkF_X2_44 rfl rfl (by decide +kernel) (by decide +kernel) rfl hdg kk
theorem zcw_X2_84 (hts : ∀ w ∈ zT, w.before args s = true) (hR : 1 + 1 ≤ R.frames ∧ 8 + (1 + 11) + 20 ≤ R.locals) : CallW R s args RX2 RJ0 84 yJ0_length_8abf5 cJ0_length_8abf5 1 (some .int) (Cond.code yJ0_length_8abf5 cJ0_length_8abf5 1 (some .int) :: zT) ({ frames := 1, cells := 0, slots := 0, locals := 20 } : Room) 0 0 0 := cwV 0 hts (zGoodV lkM_X2_84 lkI_J0_length_8abf5 lkV_J0_length_8abf5 lkN_J0 lkC_J0_length_8abf5) rfl rfl rfl (by decide +kernel) hR
theorem zcw_X2_88 (hts : ∀ w ∈ zT, w.before args s = true) (hR : 4 + 1 ≤ R.frames ∧ 8 + (2 + 11) + 85 ≤ R.locals) : CallW R s args RX2 RJ0 88 yJ0_charAt_5068e cJ0_charAt_5068e 2 (some .char) (Cond.code yJ0_charAt_5068e cJ0_charAt_5068e 2 (some .char) :: zT) ({ frames := 4, cells := 0, slots := 0, locals := 85 } : Room) 0 0 1 := cwV 1 hts (zGoodV lkM_X2_88 lkI_J0_charAt_5068e lkV_J0_charAt_5068e lkN_J0 lkC_J0_charAt_5068e) rfl rfl rfl (by decide +kernel) hR
theorem zcw_X2_76 (hts : ∀ w ∈ zT, w.before args s = true) (hR : 0 + 1 ≤ R.frames ∧ 8 + (1 + 11) + 0 ≤ R.locals) : CallB R s args RX2 76 yX2_nameOf cX2_nameOf 1 (some (.object "java/lang/String")) (Cond.code yX2_nameOf cX2_nameOf 1 (some (.object "java/lang/String")) :: zT) ({ frames := 0, cells := 0, slots := 0, locals := 0 } : Room) 0 0 1 ∧ (Cond.static yX2_nameOf).before args s = true := va_cwS 1 hts (zGoodS lkM_X2_76 lkS_X2_nameOf lkN_X2 lkC_X2_nameOf) rfl rfl rfl (by decide +kernel) hR
theorem zcw_X2_80 (hts : ∀ w ∈ zT, w.before args s = true) (hR : 5 + 1 ≤ R.frames ∧ 8 + (3 + 11) + 106 ≤ R.locals) : CallW R s args RX2 RX2 80 yX2_tokenIs cX2_tokenIs 3 (some .boolean) (Cond.code yX2_tokenIs cX2_tokenIs 3 (some .boolean) :: zT) ({ frames := 5, cells := 0, slots := 0, locals := 106 } : Room) 0 0 1 := cwV 1 hts (zGoodV lkM_X2_80 lkI_X2_tokenIs lkV_X2_tokenIs lkN_X2 lkC_X2_tokenIs) rfl rfl rfl (by decide +kernel) hR
theorem zcw_X2_69 (hts : ∀ w ∈ zT, w.before args s = true) (hR : 1 + 1 ≤ R.frames ∧ 8 + (1 + 11) + 22 ≤ R.locals) : CallB R s args RX2 69 yX2_isOfPart cX2_isOfPart 1 (some .boolean) (Cond.code yX2_isOfPart cX2_isOfPart 1 (some .boolean) :: zT) ({ frames := 1, cells := 0, slots := 0, locals := 22 } : Room) 0 0 1 ∧ (Cond.static yX2_isOfPart).before args s = true := va_cwS 1 hts (zGoodS lkM_X2_69 lkS_X2_isOfPart lkN_X2 lkC_X2_isOfPart) rfl rfl rfl (by decide +kernel) hR
theorem zg_X2_28 (C : zC A G p s m args c cc nL RX2) (Z : zH A G s mem H locs) (hdg : decode cc pc = .ok (.getfield 28, 3)) (kk : W p l e R s m args below meth c H locs cells slots Q (F0 m (pc + 3) ls (.int (mem 1 8) :: rest))) : W p l e R s m args below meth c H locs cells slots Q (F0 m pc ls (.ref (zr G 1) :: rest)) := z_get C Z (k := 1) (by decide) rfl rfl inZX2 8 (by decide) lkF_X2_28 rfl rfl hdg kk
theorem zp_X2_28 {x : Int32} (C : zC A G p s m args c cc nL RX2) (Z : zH A G s mem H locs) (hdg : decode cc pc = .ok (.putfield 28, 3)) (kk : ∀ (H1 : Heap) (locs1 : List Loc), zH A G s (wr mem 1 8 x) H1 locs1 → W p l e R s m args below meth c H1 locs1 cells slots Q (F0 m (pc + 3) ls rest)) : W p l e R s m args below meth c H locs cells slots Q (F0 m pc ls (.int x :: .ref (zr G 1) :: rest)) := z_put C Z (k := 1) (by decide) rfl rfl inZX2 tyX2 tyX2_ok nmX2 8 (by decide) lkF_X2_28 rfl rfl (by decide +kernel) (by decide +kernel) rfl hdg kk
theorem zg_X2_31 (C : zC A G p s m args c cc nL RX2) (Z : zH A G s mem H locs) (hdg : decode cc pc = .ok (.getfield 31, 3)) (kk : W p l e R s m args below meth c H locs cells slots Q (F0 m (pc + 3) ls (.int (mem 1 9) :: rest))) : W p l e R s m args below meth c H locs cells slots Q (F0 m pc ls (.ref (zr G 1) :: rest)) := z_get C Z (k := 1) (by decide) rfl rfl inZX2 9 (by decide) lkF_X2_31 rfl rfl hdg kk
theorem zp_X2_31 {x : Int32} (C : zC A G p s m args c cc nL RX2) (Z : zH A G s mem H locs) (hdg : decode cc pc = .ok (.putfield 31, 3)) (kk : ∀ (H1 : Heap) (locs1 : List Loc), zH A G s (wr mem 1 9 x) H1 locs1 → W p l e R s m args below meth c H1 locs1 cells slots Q (F0 m (pc + 3) ls rest)) : W p l e R s m args below meth c H locs cells slots Q (F0 m pc ls (.int x :: .ref (zr G 1) :: rest)) := z_put C Z (k := 1) (by decide) rfl rfl inZX2 tyX2 tyX2_ok nmX2 9 (by decide) lkF_X2_31 rfl rfl (by decide +kernel) (by decide +kernel) rfl hdg kk
theorem zcw_X2_47 (hts : ∀ w ∈ zT, w.before args s = true) (hR : 2 + 1 ≤ R.frames ∧ 8 + (1 + 11) + 46 ≤ R.locals) : CallW R s args RX2 RX2 47 yX2_nextToken cX2_nextToken 1 none (Cond.code yX2_nextToken cX2_nextToken 1 none :: zT) ({ frames := 2, cells := 0, slots := 0, locals := 46 } : Room) 0 0 0 := cwV 0 hts (zGoodV lkM_X2_47 lkI_X2_nextToken lkV_X2_nextToken lkN_X2 lkC_X2_nextToken) rfl rfl rfl (by decide +kernel) hR
theorem zcw_X2_50 (hts : ∀ w ∈ zT, w.before args s = true) (hR : 6 + 1 ≤ R.frames ∧ 8 + (2 + 11) + 128 ≤ R.locals) : CallW R s args RX2 RX2 50 yX2_tokenWord cX2_tokenWord 2 (some .int) (Cond.code yX2_tokenWord cX2_tokenWord 2 (some .int) :: zT) ({ frames := 6, cells := 0, slots := 0, locals := 128 } : Room) 0 0 0 := cwV 0 hts (zGoodV lkM_X2_50 lkI_X2_tokenWord lkV_X2_tokenWord lkN_X2 lkC_X2_tokenWord) rfl rfl rfl (by decide +kernel) hR
theorem zg_X2_15 (C : zC A G p s m args c cc nL RX2) (Z : zH A G s mem H locs) (hdg : decode cc pc = .ok (.getfield 15, 3)) (kk : W p l e R s m args below meth c H locs cells slots Q (F0 m (pc + 3) ls (.ref (zr G 3) :: rest))) : W p l e R s m args below meth c H locs cells slots Q (F0 m pc ls (.ref (zr G 1) :: rest)) := z_get C Z (k := 1) (by decide) rfl rfl inZX2 1 (by decide) lkF_X2_15 rfl rfl hdg kk
theorem zg_X2_18 (C : zC A G p s m args c cc nL RX2) (Z : zH A G s mem H locs) (hdg : decode cc pc = .ok (.getfield 18, 3)) (kk : W p l e R s m args below meth c H locs cells slots Q (F0 m (pc + 3) ls (.ref (zr G 4) :: rest))) : W p l e R s m args below meth c H locs cells slots Q (F0 m pc ls (.ref (zr G 1) :: rest)) := z_get C Z (k := 1) (by decide) rfl rfl inZX2 2 (by decide) lkF_X2_18 rfl rfl hdg kk
theorem zg_X2_21 (C : zC A G p s m args c cc nL RX2) (Z : zH A G s mem H locs) (hdg : decode cc pc = .ok (.getfield 21, 3)) (kk : W p l e R s m args below meth c H locs cells slots Q (F0 m (pc + 3) ls (.ref (zr G 5) :: rest))) : W p l e R s m args below meth c H locs cells slots Q (F0 m pc ls (.ref (zr G 1) :: rest)) := z_get C Z (k := 1) (by decide) rfl rfl inZX2 3 (by decide) lkF_X2_21 rfl rfl hdg kk
theorem zcw_X2_54 (hts : ∀ w ∈ zT, w.before args s = true) (hR : 2 + 1 ≤ R.frames ∧ 8 + (2 + 11) + 42 ≤ R.locals) : CallW R s args RX2 RX2 54 yX2_countPartsAndSouls cX2_countPartsAndSouls 2 none (Cond.code yX2_countPartsAndSouls cX2_countPartsAndSouls 2 none :: zT) ({ frames := 2, cells := 0, slots := 0, locals := 42 } : Room) 0 0 1 := cwV 1 hts (zGoodV lkM_X2_54 lkI_X2_countPartsAndSouls lkV_X2_countPartsAndSouls lkN_X2 lkC_X2_countPartsAndSouls) rfl rfl rfl (by decide +kernel) hR
theorem zcw_X2_58 (hts : ∀ w ∈ zT, w.before args s = true) (hR : 1 + 1 ≤ R.frames ∧ 8 + (4 + 11) + 22 ≤ R.locals) : CallW R s args RX2 RX2 58 yX2_tokenNumber cX2_tokenNumber 4 (some .int) (Cond.code yX2_tokenNumber cX2_tokenNumber 4 (some .int) :: zT) ({ frames := 1, cells := 0, slots := 0, locals := 22 } : Room) 0 0 0 := cwV 0 hts (zGoodV lkM_X2_58 lkI_X2_tokenNumber lkV_X2_tokenNumber lkN_X2 lkC_X2_tokenNumber) rfl rfl rfl (by decide +kernel) hR
theorem zcw_X2_61 (hts : ∀ w ∈ zT, w.before args s = true) (hR : 0 + 1 ≤ R.frames ∧ 8 + (1 + 11) + 0 ≤ R.locals) : CallB R s args RX2 61 yX2_mostFirst cX2_mostFirst 1 (some .int) (Cond.code yX2_mostFirst cX2_mostFirst 1 (some .int) :: zT) ({ frames := 0, cells := 0, slots := 0, locals := 0 } : Room) 0 0 1 ∧ (Cond.static yX2_mostFirst).before args s = true := va_cwS 1 hts (zGoodS lkM_X2_61 lkS_X2_mostFirst lkN_X2 lkC_X2_mostFirst) rfl rfl rfl (by decide +kernel) hR
theorem zcw_X2_40 (hts : ∀ w ∈ zT, w.before args s = true) (hR : 7 + 1 ≤ R.frames ∧ 8 + (3 + 11) + 149 ≤ R.locals) : CallW R s args RX2 RX2 40 yX2_readClause cX2_readClause 3 (some .boolean) (Cond.code yX2_readClause cX2_readClause 3 (some .boolean) :: zT) ({ frames := 7, cells := 0, slots := 0, locals := 149 } : Room) 0 0 1 := cwV 1 hts (zGoodV lkM_X2_40 lkI_X2_readClause lkV_X2_readClause lkN_X2 lkC_X2_readClause) rfl rfl rfl (by decide +kernel) hR
theorem zp_X2_37 {x : Int32} (C : zC A G p s m args c cc nL RX2) (Z : zH A G s mem H locs) (hdg : decode cc pc = .ok (.putfield 37, 3)) (kk : ∀ (H1 : Heap) (locs1 : List Loc), zH A G s (wr mem 1 5 x) H1 locs1 → W p l e R s m args below meth c H1 locs1 cells slots Q (F0 m (pc + 3) ls rest)) : W p l e R s m args below meth c H locs cells slots Q (F0 m pc ls (.int x :: .ref (zr G 1) :: rest)) := z_put C Z (k := 1) (by decide) rfl rfl inZX2 tyX2 tyX2_ok nmX2 5 (by decide) lkF_X2_37 rfl rfl (by decide +kernel) (by decide +kernel) rfl hdg kk
theorem zg_X3_15 (C : zC A G p s m args c cc nL RX3) (Z : zH A G s mem H locs) (hdg : decode cc pc = .ok (.getfield 15, 3)) (kk : W p l e R s m args below meth c H locs cells slots Q (F0 m (pc + 3) ls (.ref (zr G 10) :: rest))) : W p l e R s m args below meth c H locs cells slots Q (F0 m pc ls (.ref (zr G 6) :: rest)) := z_get C Z (k := 6) (by decide) rfl rfl inZX1 3 (by decide) lkF_X3_15 rfl rfl hdg kk
theorem zg_X3_9 {k : Nat} (hk : zW k = true) (C : zC A G p s m args c cc nL RX3) (Z : zH A G s mem H locs) (hdg : decode cc pc = .ok (.getfield 9, 3)) (kk : W p l e R s m args below meth c H locs cells slots Q (F0 m (pc + 3) ls (.ref (zr G (k + 1)) :: rest))) : W p l e R s m args below meth c H locs cells slots Q (F0 m pc ls (.ref (zr G k) :: rest)) := z_get C Z (k := k) (zW_lt hk).1 (zcf_W hk _ _) rfl inZX3 0 (by decide) lkF_X3_9 rfl rfl hdg kk
theorem zp_X3_26 {k : Nat} {x : Int32} (hk : zW k = true) (C : zC A G p s m args c cc nL RX3) (Z : zH A G s mem H locs) (hdg : decode cc pc = .ok (.putfield 26, 3)) (kk : ∀ (H1 : Heap) (locs1 : List Loc), zH A G s (wr mem k 1 x) H1 locs1 → W p l e R s m args below meth c H1 locs1 cells slots Q (F0 m (pc + 3) ls rest)) : W p l e R s m args below meth c H locs cells slots Q (F0 m pc ls (.int x :: .ref (zr G k) :: rest)) := z_put C Z (k := k) (zW_lt hk).1 (zcf_W hk _ _) rfl inZX3 tyX3 tyX3_ok nmX3 1 (by decide) lkF_X3_26 rfl rfl (by decide +kernel) (by decide) (by rcases zW_or hk with rfl | rfl | rfl | rfl | rfl | rfl | rfl | rfl | rfl | rfl | rfl <;> rfl) hdg kk
theorem zp_X3_30 {k : Nat} {x : Int32} (hk : zW k = true) (C : zC A G p s m args c cc nL RX3) (Z : zH A G s mem H locs) (hdg : decode cc pc = .ok (.putfield 30, 3)) (kk : ∀ (H1 : Heap) (locs1 : List Loc), zH A G s (wr mem k 2 x) H1 locs1 → W p l e R s m args below meth c H1 locs1 cells slots Q (F0 m (pc + 3) ls rest)) : W p l e R s m args below meth c H locs cells slots Q (F0 m pc ls (.int x :: .ref (zr G k) :: rest)) := z_put C Z (k := k) (zW_lt hk).1 (zcf_W hk _ _) rfl inZX3 tyX3 tyX3_ok nmX3 2 (by decide) lkF_X3_30 rfl rfl (by decide +kernel) (by decide) (by rcases zW_or hk with rfl | rfl | rfl | rfl | rfl | rfl | rfl | rfl | rfl | rfl | rfl <;> rfl) hdg kk
theorem zg_X3_33 (C : zC A G p s m args c cc nL RX3) (Z : zH A G s mem H locs) (hdg : decode cc pc = .ok (.getfield 33, 3)) (kk : W p l e R s m args below meth c H locs cells slots Q (F0 m (pc + 3) ls (.int (mem 6 8) :: rest))) : W p l e R s m args below meth c H locs cells slots Q (F0 m pc ls (.ref (zr G 6) :: rest)) := z_get C Z (k := 6) (by decide) rfl rfl inZX1 8 (by decide) lkF_X3_33 rfl rfl hdg kk
theorem zp_X3_36 {k : Nat} {x : Int32} (hk : zW k = true) (C : zC A G p s m args c cc nL RX3) (Z : zH A G s mem H locs) (hdg : decode cc pc = .ok (.putfield 36, 3)) (kk : ∀ (H1 : Heap) (locs1 : List Loc), zH A G s (wr mem k 3 x) H1 locs1 → W p l e R s m args below meth c H1 locs1 cells slots Q (F0 m (pc + 3) ls rest)) : W p l e R s m args below meth c H locs cells slots Q (F0 m pc ls (.int x :: .ref (zr G k) :: rest)) := z_put C Z (k := k) (zW_lt hk).1 (zcf_W hk _ _) rfl inZX3 tyX3 tyX3_ok nmX3 3 (by decide) lkF_X3_36 rfl rfl (by decide +kernel) (by decide) (by rcases zW_or hk with rfl | rfl | rfl | rfl | rfl | rfl | rfl | rfl | rfl | rfl | rfl <;> rfl) hdg kk
theorem zp_X3_39 {k : Nat} {x : Int32} (hk : zW k = true) (C : zC A G p s m args c cc nL RX3) (Z : zH A G s mem H locs) (hdg : decode cc pc = .ok (.putfield 39, 3)) (kk : ∀ (H1 : Heap) (locs1 : List Loc), zH A G s (wr mem k 4 x) H1 locs1 → W p l e R s m args below meth c H1 locs1 cells slots Q (F0 m (pc + 3) ls rest)) : W p l e R s m args below meth c H locs cells slots Q (F0 m pc ls (.int x :: .ref (zr G k) :: rest)) := z_put C Z (k := k) (zW_lt hk).1 (zcf_W hk _ _) rfl inZX3 tyX3 tyX3_ok nmX3 4 (by decide) lkF_X3_39 rfl rfl (by decide +kernel) (by decide) (by rcases zW_or hk with rfl | rfl | rfl | rfl | rfl | rfl | rfl | rfl | rfl | rfl | rfl <;> rfl) hdg kk
theorem zp_X3_42 {k : Nat} {x : Int32} (hk : zW k = true) (C : zC A G p s m args c cc nL RX3) (Z : zH A G s mem H locs) (hdg : decode cc pc = .ok (.putfield 42, 3)) (kk : ∀ (H1 : Heap) (locs1 : List Loc), zH A G s (wr mem k 5 x) H1 locs1 → W p l e R s m args below meth c H1 locs1 cells slots Q (F0 m (pc + 3) ls rest)) : W p l e R s m args below meth c H locs cells slots Q (F0 m pc ls (.int x :: .ref (zr G k) :: rest)) := z_put C Z (k := k) (zW_lt hk).1 (zcf_W hk _ _) rfl inZX3 tyX3 tyX3_ok nmX3 5 (by decide) lkF_X3_42 rfl rfl (by decide +kernel) (by decide) (by rcases zW_or hk with rfl | rfl | rfl | rfl | rfl | rfl | rfl | rfl | rfl | rfl | rfl <;> rfl) hdg kk
theorem zp_X3_45 {k : Nat} {x : Int32} (hk : zW k = true) (C : zC A G p s m args c cc nL RX3) (Z : zH A G s mem H locs) (hdg : decode cc pc = .ok (.putfield 45, 3)) (kk : ∀ (H1 : Heap) (locs1 : List Loc), zH A G s (wr mem k 6 x) H1 locs1 → W p l e R s m args below meth c H1 locs1 cells slots Q (F0 m (pc + 3) ls rest)) : W p l e R s m args below meth c H locs cells slots Q (F0 m pc ls (.int x :: .ref (zr G k) :: rest)) := z_put C Z (k := k) (zW_lt hk).1 (zcf_W hk _ _) rfl inZX3 tyX3 tyX3_ok nmX3 6 (by decide) lkF_X3_45 rfl rfl (by decide +kernel) (by decide) (by rcases zW_or hk with rfl | rfl | rfl | rfl | rfl | rfl | rfl | rfl | rfl | rfl | rfl <;> rfl) hdg kk
theorem zg_X3_39 {k : Nat} (hk : zW k = true) (C : zC A G p s m args c cc nL RX3) (Z : zH A G s mem H locs) (hdg : decode cc pc = .ok (.getfield 39, 3)) (kk : W p l e R s m args below meth c H locs cells slots Q (F0 m (pc + 3) ls (.int (mem k 4) :: rest))) : W p l e R s m args below meth c H locs cells slots Q (F0 m pc ls (.ref (zr G k) :: rest)) := z_get C Z (k := k) (zW_lt hk).1 (zcf_W hk _ _) rfl inZX3 4 (by decide) lkF_X3_39 rfl rfl hdg kk
theorem zg_X3_45 {k : Nat} (hk : zW k = true) (C : zC A G p s m args c cc nL RX3) (Z : zH A G s mem H locs) (hdg : decode cc pc = .ok (.getfield 45, 3)) (kk : W p l e R s m args below meth c H locs cells slots Q (F0 m (pc + 3) ls (.int (mem k 6) :: rest))) : W p l e R s m args below meth c H locs cells slots Q (F0 m pc ls (.ref (zr G k) :: rest)) := z_get C Z (k := k) (zW_lt hk).1 (zcf_W hk _ _) rfl inZX3 6 (by decide) lkF_X3_45 rfl rfl hdg kk
theorem zg_X3_26 {k : Nat} (hk : zW k = true) (C : zC A G p s m args c cc nL RX3) (Z : zH A G s mem H locs) (hdg : decode cc pc = .ok (.getfield 26, 3)) (kk : W p l e R s m args below meth c H locs cells slots Q (F0 m (pc + 3) ls (.int (mem k 1) :: rest))) : W p l e R s m args below meth c H locs cells slots Q (F0 m pc ls (.ref (zr G k) :: rest)) := z_get C Z (k := k) (zW_lt hk).1 (zcf_W hk _ _) rfl inZX3 1 (by decide) lkF_X3_26 rfl rfl hdg kk
theorem zg_X3_30 {k : Nat} (hk : zW k = true) (C : zC A G p s m args c cc nL RX3) (Z : zH A G s mem H locs) (hdg : decode cc pc = .ok (.getfield 30, 3)) (kk : W p l e R s m args below meth c H locs cells slots Q (F0 m (pc + 3) ls (.int (mem k 2) :: rest))) : W p l e R s m args below meth c H locs cells slots Q (F0 m pc ls (.ref (zr G k) :: rest)) := z_get C Z (k := k) (zW_lt hk).1 (zcf_W hk _ _) rfl inZX3 2 (by decide) lkF_X3_30 rfl rfl hdg kk
theorem zg_X3_36 {k : Nat} (hk : zW k = true) (C : zC A G p s m args c cc nL RX3) (Z : zH A G s mem H locs) (hdg : decode cc pc = .ok (.getfield 36, 3)) (kk : W p l e R s m args below meth c H locs cells slots Q (F0 m (pc + 3) ls (.int (mem k 3) :: rest))) : W p l e R s m args below meth c H locs cells slots Q (F0 m pc ls (.ref (zr G k) :: rest)) := z_get C Z (k := k) (zW_lt hk).1 (zcf_W hk _ _) rfl inZX3 3 (by decide) lkF_X3_36 rfl rfl hdg kk
theorem zg_X3_42 {k : Nat} (hk : zW k = true) (C : zC A G p s m args c cc nL RX3) (Z : zH A G s mem H locs) (hdg : decode cc pc = .ok (.getfield 42, 3)) (kk : W p l e R s m args below meth c H locs cells slots Q (F0 m (pc + 3) ls (.int (mem k 5) :: rest))) : W p l e R s m args below meth c H locs cells slots Q (F0 m pc ls (.ref (zr G k) :: rest)) := z_get C Z (k := k) (zW_lt hk).1 (zcf_W hk _ _) rfl inZX3 5 (by decide) lkF_X3_42 rfl rfl hdg kk
theorem zcw_X4_52 (hts : ∀ w ∈ zT, w.before args s = true) (hR : 0 + 1 ≤ R.frames ∧ 8 + (3 + 11) + 0 ≤ R.locals) : CallB R s args RX4 52 yX4_isWithin cX4_isWithin 3 (some .boolean) (Cond.code yX4_isWithin cX4_isWithin 3 (some .boolean) :: zT) ({ frames := 0, cells := 0, slots := 0, locals := 0 } : Room) 0 0 3 ∧ (Cond.static yX4_isWithin).before args s = true := va_cwS 3 hts (zGoodS lkM_X4_52 lkS_X4_isWithin lkN_X4 lkC_X4_isWithin) rfl rfl rfl (by decide +kernel) hR
theorem zg_X4_10 (C : zC A G p s m args c cc nL RX4) (Z : zH A G s mem H locs) (hdg : decode cc pc = .ok (.getfield 10, 3)) (kk : W p l e R s m args below meth c H locs cells slots Q (F0 m (pc + 3) ls (.ref (zr G 1) :: rest))) : W p l e R s m args below meth c H locs cells slots Q (F0 m pc ls (.ref (zr G 0) :: rest)) := z_get C Z (k := 0) (by decide) rfl rfl inZX4 0 (by decide) lkF_X4_10 rfl rfl hdg kk
theorem zcw_X4_56 (hts : ∀ w ∈ zT, w.before args s = true) (hR : 0 + 1 ≤ R.frames ∧ 8 + (2 + 11) + 0 ≤ R.locals) : CallW R s args RX4 RX2 56 yX2_add cX2_add 2 (some .boolean) (Cond.code yX2_add cX2_add 2 (some .boolean) :: zT) ({ frames := 0, cells := 0, slots := 0, locals := 0 } : Room) 0 0 1 := cwV 1 hts (zGoodV lkM_X4_56 lkI_X2_add lkV_X2_add lkN_X2 lkC_X2_add) rfl rfl rfl (by decide +kernel) hR
theorem zg_X4_60 (C : zC A G p s m args c cc nL RX4) (Z : zH A G s mem H locs) (hdg : decode cc pc = .ok (.getfield 60, 3)) (kk : W p l e R s m args below meth c H locs cells slots Q (F0 m (pc + 3) ls (.int (mem 1 4) :: rest))) : W p l e R s m args below meth c H locs cells slots Q (F0 m pc ls (.ref (zr G 1) :: rest)) := z_get C Z (k := 1) (by decide) rfl rfl inZX2 4 (by decide) lkF_X4_60 rfl rfl hdg kk
theorem zp_X4_60 {x : Int32} (C : zC A G p s m args c cc nL RX4) (Z : zH A G s mem H locs) (hdg : decode cc pc = .ok (.putfield 60, 3)) (kk : ∀ (H1 : Heap) (locs1 : List Loc), zH A G s (wr mem 1 4 x) H1 locs1 → W p l e R s m args below meth c H1 locs1 cells slots Q (F0 m (pc + 3) ls rest)) : W p l e R s m args below meth c H locs cells slots Q (F0 m pc ls (.int x :: .ref (zr G 1) :: rest)) := z_put C Z (k := 1) (by decide) rfl rfl inZX2 tyX2 tyX2_ok nmX2 4 (by decide) lkF_X4_60 rfl rfl (by decide +kernel) (by decide +kernel) rfl hdg kk
theorem zg_X4_19 (C : zC A G p s m args c cc nL RX4) (Z : zH A G s mem H locs) (hdg : decode cc pc = .ok (.getfield 19, 3)) (kk : W p l e R s m args below meth c H locs cells slots Q (F0 m (pc + 3) ls (.ref (zr G 6) :: rest))) : W p l e R s m args below meth c H locs cells slots Q (F0 m pc ls (.ref (zr G 0) :: rest)) := z_get C Z (k := 0) (by decide) rfl rfl inZX4 1 (by decide) lkF_X4_19 rfl rfl hdg kk
theorem zg_X4_64 (C : zC A G p s m args c cc nL RX4) (Z : zH A G s mem H locs) (hdg : decode cc pc = .ok (.getfield 64, 3)) (kk : W p l e R s m args below meth c H locs cells slots Q (F0 m (pc + 3) ls (.int (mem 6 4) :: rest))) : W p l e R s m args below meth c H locs cells slots Q (F0 m pc ls (.ref (zr G 6) :: rest)) := z_get C Z (k := 6) (by decide) rfl rfl inZX1 4 (by decide) lkF_X4_64 rfl rfl hdg kk
theorem zg_X4_67 (C : zC A G p s m args c cc nL RX4) (Z : zH A G s mem H locs) (hdg : decode cc pc = .ok (.getfield 67, 3)) (kk : W p l e R s m args below meth c H locs cells slots Q (F0 m (pc + 3) ls (.int (mem 6 5) :: rest))) : W p l e R s m args below meth c H locs cells slots Q (F0 m pc ls (.ref (zr G 6) :: rest)) := z_get C Z (k := 6) (by decide) rfl rfl inZX1 5 (by decide) lkF_X4_67 rfl rfl hdg kk
theorem zcw_X4_70 (hts : ∀ w ∈ zT, w.before args s = true) (hR : 8 + 1 ≤ R.frames ∧ 8 + (4 + 11) + 171 ≤ R.locals) : CallW R s args RX4 RX2 70 yX2_firstFault cX2_firstFault 4 (some .int) (Cond.code yX2_firstFault cX2_firstFault 4 (some .int) :: zT) ({ frames := 8, cells := 0, slots := 0, locals := 171 } : Room) 0 0 2 := cwV 2 hts (zGoodV lkM_X4_70 lkI_X2_firstFault lkV_X2_firstFault lkN_X2 lkC_X2_firstFault) rfl rfl rfl (by decide +kernel) hR
theorem zp_X4_101 {x : Int32} (C : zC A G p s m args c cc nL RX4) (Z : zH A G s mem H locs) (hdg : decode cc pc = .ok (.putfield 101, 3)) (kk : ∀ (H1 : Heap) (locs1 : List Loc), zH A G s (wr mem 0 7 x) H1 locs1 → W p l e R s m args below meth c H1 locs1 cells slots Q (F0 m (pc + 3) ls rest)) : W p l e R s m args below meth c H locs cells slots Q (F0 m pc ls (.int x :: .ref (zr G 0) :: rest)) := z_put C Z (k := 0) (by decide) rfl rfl inZX4 tyX4 tyX4_ok nmX4 7 (by decide) lkF_X4_101 rfl rfl (by decide +kernel) (by decide +kernel) rfl hdg kk
theorem zg_X4_41 (C : zC A G p s m args c cc nL RX4) (Z : zH A G s mem H locs) (hdg : decode cc pc = .ok (.getfield 41, 3)) (kk : W p l e R s m args below meth c H locs cells slots Q (F0 m (pc + 3) ls (.ref (zr G 35) :: rest))) : W p l e R s m args below meth c H locs cells slots Q (F0 m pc ls (.ref (zr G 0) :: rest)) := z_get C Z (k := 0) (by decide) rfl rfl inZX4 5 (by decide) lkF_X4_41 rfl rfl hdg kk
theorem zg_X4_26 (C : zC A G p s m args c cc nL RX4) (Z : zH A G s mem H locs) (hdg : decode cc pc = .ok (.getfield 26, 3)) (kk : W p l e R s m args below meth c H locs cells slots Q (F0 m (pc + 3) ls (.ref (zr G 11) :: rest))) : W p l e R s m args below meth c H locs cells slots Q (F0 m pc ls (.ref (zr G 0) :: rest)) := z_get C Z (k := 0) (by decide) rfl rfl inZX4 2 (by decide) lkF_X4_26 rfl rfl hdg kk
theorem zcw_X4_94 (hts : ∀ w ∈ zT, w.before args s = true) (hR : 1 + 1 ≤ R.frames ∧ 8 + (2 + 11) + 18 ≤ R.locals) : CallW R s args RX4 RX3 94 yX3_beginAsTold cX3_beginAsTold 2 none (Cond.code yX3_beginAsTold cX3_beginAsTold 2 none :: zT) ({ frames := 1, cells := 0, slots := 0, locals := 18 } : Room) 0 0 1 := cwV 1 hts (zGoodV lkM_X4_94 lkI_X3_beginAsTold lkV_X3_beginAsTold lkN_X3 lkC_X3_beginAsTold) rfl rfl rfl (by decide +kernel) hR
theorem zg_X4_48 (C : zC A G p s m args c cc nL RX4) (Z : zH A G s mem H locs) (hdg : decode cc pc = .ok (.getfield 48, 3)) (kk : W p l e R s m args below meth c H locs cells slots Q (F0 m (pc + 3) ls (.ref (zr G 36) :: rest))) : W p l e R s m args below meth c H locs cells slots Q (F0 m pc ls (.ref (zr G 0) :: rest)) := z_get C Z (k := 0) (by decide) rfl rfl inZX4 6 (by decide) lkF_X4_48 rfl rfl hdg kk
theorem zcw_X4_98 (hts : ∀ w ∈ zT, w.before args s = true) (hR : 0 + 1 ≤ R.frames ∧ 8 + (1 + 11) + 0 ≤ R.locals) : CallW R s args RX4 RX0 98 yX0_clear cX0_clear 1 none (Cond.code yX0_clear cX0_clear 1 none :: zT) ({ frames := 0, cells := 0, slots := 0, locals := 0 } : Room) 0 0 0 := cwV 0 hts (zGoodV lkM_X4_98 lkI_X0_clear lkV_X0_clear lkN_X0 lkC_X0_clear) rfl rfl rfl (by decide +kernel) hR
theorem zcw_X4_91 (hts : ∀ w ∈ zT, w.before args s = true) (hR : 2 + 1 ≤ R.frames ∧ 8 + (2 + 11) + 39 ≤ R.locals) : CallW R s args RX4 RX4 91 yX4_beginAnew cX4_beginAnew 2 none (Cond.code yX4_beginAnew cX4_beginAnew 2 none :: zT) ({ frames := 2, cells := 0, slots := 0, locals := 39 } : Room) 0 0 0 := cwV 0 hts (zGoodV lkM_X4_91 lkI_X4_beginAnew lkV_X4_beginAnew lkN_X4 lkC_X4_beginAnew) rfl rfl rfl (by decide +kernel) hR
theorem zg_X4_77 (C : zC A G p s m args c cc nL RX4) (Z : zH A G s mem H locs) (hdg : decode cc pc = .ok (.getfield 77, 3)) (kk : W p l e R s m args below meth c H locs cells slots Q (F0 m (pc + 3) ls (.ref (zr G 3) :: rest))) : W p l e R s m args below meth c H locs cells slots Q (F0 m pc ls (.ref (zr G 1) :: rest)) := z_get C Z (k := 1) (by decide) rfl rfl inZX2 1 (by decide) lkF_X4_77 rfl rfl hdg kk
theorem zg_X4_81 (C : zC A G p s m args c cc nL RX4) (Z : zH A G s mem H locs) (hdg : decode cc pc = .ok (.getfield 81, 3)) (kk : W p l e R s m args below meth c H locs cells slots Q (F0 m (pc + 3) ls (.ref (zr G 4) :: rest))) : W p l e R s m args below meth c H locs cells slots Q (F0 m pc ls (.ref (zr G 1) :: rest)) := z_get C Z (k := 1) (by decide) rfl rfl inZX2 2 (by decide) lkF_X4_81 rfl rfl hdg kk
theorem zg_X4_84 (C : zC A G p s m args c cc nL RX4) (Z : zH A G s mem H locs) (hdg : decode cc pc = .ok (.getfield 84, 3)) (kk : W p l e R s m args below meth c H locs cells slots Q (F0 m (pc + 3) ls (.ref (zr G 5) :: rest))) : W p l e R s m args below meth c H locs cells slots Q (F0 m pc ls (.ref (zr G 1) :: rest)) := z_get C Z (k := 1) (by decide) rfl rfl inZX2 3 (by decide) lkF_X4_84 rfl rfl hdg kk
theorem zcw_X4_87 (hts : ∀ w ∈ zT, w.before args s = true) (hR : 1 + 1 ≤ R.frames ∧ 8 + (4 + 11) + 23 ≤ R.locals) : CallW R s args RX4 RX1 87 yX1_tell cX1_tell 4 none (Cond.code yX1_tell cX1_tell 4 none :: zT) ({ frames := 1, cells := 0, slots := 0, locals := 23 } : Room) 0 0 3 := cwV 3 hts (zGoodV lkM_X4_87 lkI_X1_tell lkV_X1_tell lkN_X1 lkC_X1_tell) rfl rfl rfl (by decide +kernel) hR
theorem zg_X4_74 (C : zC A G p s m args c cc nL RX4) (Z : zH A G s mem H locs) (hdg : decode cc pc = .ok (.getfield 74, 3)) (kk : W p l e R s m args below meth c H locs cells slots Q (F0 m (pc + 3) ls (.int (mem 1 5) :: rest))) : W p l e R s m args below meth c H locs cells slots Q (F0 m pc ls (.ref (zr G 1) :: rest)) := z_get C Z (k := 1) (by decide) rfl rfl inZX2 5 (by decide) lkF_X4_74 rfl rfl hdg kk
theorem zcw_X4_104 (hts : ∀ w ∈ zT, w.before args s = true) (hR : 0 + 1 ≤ R.frames ∧ 8 + (2 + 11) + 0 ≤ R.locals) : CallW R s args RX4 RX4 104 yX4_isPart cX4_isPart 2 (some .boolean) (Cond.code yX4_isPart cX4_isPart 2 (some .boolean) :: zT) ({ frames := 0, cells := 0, slots := 0, locals := 0 } : Room) 0 0 1 := cwV 1 hts (zGoodV lkM_X4_104 lkI_X4_isPart lkV_X4_isPart lkN_X4 lkC_X4_isPart) rfl rfl rfl (by decide +kernel) hR
theorem zg_X4_107 (C : zC A G p s m args c cc nL RX4) (Z : zH A G s mem H locs) (hdg : decode cc pc = .ok (.getfield 107, 3)) (kk : W p l e R s m args below meth c H locs cells slots Q (F0 m (pc + 3) ls (.ref (zr G 7) :: rest))) : W p l e R s m args below meth c H locs cells slots Q (F0 m pc ls (.ref (zr G 6) :: rest)) := z_get C Z (k := 6) (by decide) rfl rfl inZX1 0 (by decide) lkF_X4_107 rfl rfl hdg kk
theorem zg_X4_110 (C : zC A G p s m args c cc nL RX4) (Z : zH A G s mem H locs) (hdg : decode cc pc = .ok (.getfield 110, 3)) (kk : W p l e R s m args below meth c H locs cells slots Q (F0 m (pc + 3) ls (.ref (zr G 8) :: rest))) : W p l e R s m args below meth c H locs cells slots Q (F0 m pc ls (.ref (zr G 6) :: rest)) := z_get C Z (k := 6) (by decide) rfl rfl inZX1 1 (by decide) lkF_X4_110 rfl rfl hdg kk
theorem zg_X4_113 (C : zC A G p s m args c cc nL RX4) (Z : zH A G s mem H locs) (hdg : decode cc pc = .ok (.getfield 113, 3)) (kk : W p l e R s m args below meth c H locs cells slots Q (F0 m (pc + 3) ls (.ref (zr G 9) :: rest))) : W p l e R s m args below meth c H locs cells slots Q (F0 m pc ls (.ref (zr G 6) :: rest)) := z_get C Z (k := 6) (by decide) rfl rfl inZX1 2 (by decide) lkF_X4_113 rfl rfl hdg kk
theorem zg_X4_116 {k : Nat} (hk : zW k = true) (C : zC A G p s m args c cc nL RX4) (Z : zH A G s mem H locs) (hdg : decode cc pc = .ok (.getfield 116, 3)) (kk : W p l e R s m args below meth c H locs cells slots Q (F0 m (pc + 3) ls (.int (mem k 3) :: rest))) : W p l e R s m args below meth c H locs cells slots Q (F0 m pc ls (.ref (zr G k) :: rest)) := z_get C Z (k := k) (zW_lt hk).1 (zcf_W hk _ _) rfl inZX3 3 (by decide) lkF_X4_116 rfl rfl hdg kk
theorem zcw_X4_119 (hts : ∀ w ∈ zT, w.before args s = true) (hR : 0 + 1 ≤ R.frames ∧ 8 + (3 + 11) + 0 ≤ R.locals) : CallB R s args RX4 119 yX4_ouncesOf cX4_ouncesOf 3 (some .int) (Cond.code yX4_ouncesOf cX4_ouncesOf 3 (some .int) :: zT) ({ frames := 0, cells := 0, slots := 0, locals := 0 } : Room) 0 0 3 ∧ (Cond.static yX4_ouncesOf).before args s = true := va_cwS 3 hts (zGoodS lkM_X4_119 lkS_X4_ouncesOf lkN_X4 lkC_X4_ouncesOf) rfl rfl rfl (by decide +kernel) hR
theorem zg_X4_123 {k : Nat} (hk : zW k = true) (C : zC A G p s m args c cc nL RX4) (Z : zH A G s mem H locs) (hdg : decode cc pc = .ok (.getfield 123, 3)) (kk : W p l e R s m args below meth c H locs cells slots Q (F0 m (pc + 3) ls (.int (mem k 1) :: rest))) : W p l e R s m args below meth c H locs cells slots Q (F0 m pc ls (.ref (zr G k) :: rest)) := z_get C Z (k := k) (zW_lt hk).1 (zcf_W hk _ _) rfl inZX3 1 (by decide) lkF_X4_123 rfl rfl hdg kk
theorem zcw_X4_126 (hts : ∀ w ∈ zT, w.before args s = true) (hR : 0 + 1 ≤ R.frames ∧ 8 + (2 + 11) + 0 ≤ R.locals) : CallB R s args RX4 126 yX4_isIn cX4_isIn 2 (some .boolean) (Cond.code yX4_isIn cX4_isIn 2 (some .boolean) :: zT) ({ frames := 0, cells := 0, slots := 0, locals := 0 } : Room) 0 0 2 ∧ (Cond.static yX4_isIn).before args s = true := va_cwS 2 hts (zGoodS lkM_X4_126 lkS_X4_isIn lkN_X4 lkC_X4_isIn) rfl rfl rfl (by decide +kernel) hR
theorem zcw_X4_130 (hts : ∀ w ∈ zT, w.before args s = true) (hR : 0 + 1 ≤ R.frames ∧ 8 + (2 + 11) + 0 ≤ R.locals) : CallW R s args RX4 RX4 130 yX4_isSoul cX4_isSoul 2 (some .boolean) (Cond.code yX4_isSoul cX4_isSoul 2 (some .boolean) :: zT) ({ frames := 0, cells := 0, slots := 0, locals := 0 } : Room) 0 0 1 := cwV 1 hts (zGoodV lkM_X4_130 lkI_X4_isSoul lkV_X4_isSoul lkN_X4 lkC_X4_isSoul) rfl rfl rfl (by decide +kernel) hR
theorem zg_X4_133 {k : Nat} (hk : zW k = true) (C : zC A G p s m args c cc nL RX4) (Z : zH A G s mem H locs) (hdg : decode cc pc = .ok (.getfield 133, 3)) (kk : W p l e R s m args below meth c H locs cells slots Q (F0 m (pc + 3) ls (.ref (zr G (k + 1)) :: rest))) : W p l e R s m args below meth c H locs cells slots Q (F0 m pc ls (.ref (zr G k) :: rest)) := z_get C Z (k := k) (zW_lt hk).1 (zcf_W hk _ _) rfl inZX3 0 (by decide) lkF_X4_133 rfl rfl hdg kk
theorem zcw_X4_136 (hts : ∀ w ∈ zT, w.before args s = true) (hR : 0 + 1 ≤ R.frames ∧ 8 + (4 + 11) + 0 ≤ R.locals) : CallB R s args RX4 136 yX4_isTakenAs cX4_isTakenAs 4 (some .boolean) (Cond.code yX4_isTakenAs cX4_isTakenAs 4 (some .boolean) :: zT) ({ frames := 0, cells := 0, slots := 0, locals := 0 } : Room) 0 0 2 ∧ (Cond.static yX4_isTakenAs).before args s = true := va_cwS 2 hts (zGoodS lkM_X4_136 lkS_X4_isTakenAs lkN_X4 lkC_X4_isTakenAs) rfl rfl rfl (by decide +kernel) hR
theorem zcw_X4_223 (hts : ∀ w ∈ zT, w.before args s = true) (hR : 1 + 1 ≤ R.frames ∧ 8 + (5 + 11) + 22 ≤ R.locals) : CallW R s args RX4 RX1 223 yX1_ouncesOfSet cX1_ouncesOfSet 5 (some .int) (Cond.code yX1_ouncesOfSet cX1_ouncesOfSet 5 (some .int) :: zT) ({ frames := 1, cells := 0, slots := 0, locals := 22 } : Room) 0 0 2 := cwV 2 hts (zGoodV lkM_X4_223 lkI_X1_ouncesOfSet lkV_X1_ouncesOfSet lkN_X1 lkC_X1_ouncesOfSet) rfl rfl rfl (by decide +kernel) hR
theorem zg_X4_265 (C : zC A G p s m args c cc nL RX4) (Z : zH A G s mem H locs) (hdg : decode cc pc = .ok (.getfield 265, 3)) (kk : W p l e R s m args below meth c H locs cells slots Q (F0 m (pc + 3) ls (.int (mem 6 6) :: rest))) : W p l e R s m args below meth c H locs cells slots Q (F0 m pc ls (.ref (zr G 6) :: rest)) := z_get C Z (k := 6) (by decide) rfl rfl inZX1 6 (by decide) lkF_X4_265 rfl rfl hdg kk
theorem zcw_X4_253 (hts : ∀ w ∈ zT, w.before args s = true) (hR : 0 + 1 ≤ R.frames ∧ 8 + (2 + 11) + 0 ≤ R.locals) : CallB R s args RX4 253 yJ9_max_7cf53 cJ9_max_7cf53 2 (some .int) (Cond.code yJ9_max_7cf53 cJ9_max_7cf53 2 (some .int) :: zT) ({ frames := 0, cells := 0, slots := 0, locals := 0 } : Room) 0 0 2 ∧ (Cond.static yJ9_max_7cf53).before args s = true := va_cwS 2 hts (zGoodS lkM_X4_253 lkS_J9_max_7cf53 lkN_J9 lkC_J9_max_7cf53) rfl rfl rfl (by decide +kernel) hR
theorem zg_X4_161 {k : Nat} (hk : zW k = true) (C : zC A G p s m args c cc nL RX4) (Z : zH A G s mem H locs) (hdg : decode cc pc = .ok (.getfield 161, 3)) (kk : W p l e R s m args below meth c H locs cells slots Q (F0 m (pc + 3) ls (.int (mem k 2) :: rest))) : W p l e R s m args below meth c H locs cells slots Q (F0 m pc ls (.ref (zr G k) :: rest)) := z_get C Z (k := k) (zW_lt hk).1 (zcf_W hk _ _) rfl inZX3 2 (by decide) lkF_X4_161 rfl rfl hdg kk
theorem zcw_X4_247 (hts : ∀ w ∈ zT, w.before args s = true) (hR : 1 + 1 ≤ R.frames ∧ 8 + (4 + 11) + 21 ≤ R.locals) : CallW R s args RX4 RX4 247 yX4_leadWithout cX4_leadWithout 4 (some .int) (Cond.code yX4_leadWithout cX4_leadWithout 4 (some .int) :: zT) ({ frames := 1, cells := 0, slots := 0, locals := 21 } : Room) 0 0 1 := cwV 1 hts (zGoodV lkM_X4_247 lkI_X4_leadWithout lkV_X4_leadWithout lkN_X4 lkC_X4_leadWithout) rfl rfl rfl (by decide +kernel) hR
theorem zcw_X4_259 (hts : ∀ w ∈ zT, w.before args s = true) (hR : 0 + 1 ≤ R.frames ∧ 8 + (1 + 11) + 0 ≤ R.locals) : CallB R s args RX4 259 yJ9_abs_0f7a4 cJ9_abs_0f7a4 1 (some .int) (Cond.code yJ9_abs_0f7a4 cJ9_abs_0f7a4 1 (some .int) :: zT) ({ frames := 0, cells := 0, slots := 0, locals := 0 } : Room) 0 0 1 ∧ (Cond.static yJ9_abs_0f7a4).before args s = true := va_cwS 1 hts (zGoodS lkM_X4_259 lkS_J9_abs_0f7a4 lkN_J9 lkC_J9_abs_0f7a4) rfl rfl rfl (by decide +kernel) hR
theorem zg_X4_262 (C : zC A G p s m args c cc nL RX4) (Z : zH A G s mem H locs) (hdg : decode cc pc = .ok (.getfield 262, 3)) (kk : W p l e R s m args below meth c H locs cells slots Q (F0 m (pc + 3) ls (.int (mem 6 7) :: rest))) : W p l e R s m args below meth c H locs cells slots Q (F0 m pc ls (.ref (zr G 6) :: rest)) := z_get C Z (k := 6) (by decide) rfl rfl inZX1 7 (by decide) lkF_X4_262 rfl rfl hdg kk
theorem zcw_X4_148 (hts : ∀ w ∈ zT, w.before args s = true) (hR : 2 + 1 ≤ R.frames ∧ 8 + (2 + 11) + 46 ≤ R.locals) : CallW R s args RX4 RX4 148 yX4_sermonOf cX4_sermonOf 2 (some .int) (Cond.code yX4_sermonOf cX4_sermonOf 2 (some .int) :: zT) ({ frames := 2, cells := 0, slots := 0, locals := 46 } : Room) 0 0 1 := cwV 1 hts (zGoodV lkM_X4_148 lkI_X4_sermonOf lkV_X4_sermonOf lkN_X4 lkC_X4_sermonOf) rfl rfl rfl (by decide +kernel) hR
theorem zcw_X4_152 (hts : ∀ w ∈ zT, w.before args s = true) (hR : 2 + 1 ≤ R.frames ∧ 8 + (1 + 11) + 44 ≤ R.locals) : CallW R s args RX4 RX4 152 yX4_leadNow cX4_leadNow 1 (some .int) (Cond.code yX4_leadNow cX4_leadNow 1 (some .int) :: zT) ({ frames := 2, cells := 0, slots := 0, locals := 44 } : Room) 0 0 0 := cwV 0 hts (zGoodV lkM_X4_152 lkI_X4_leadNow lkV_X4_leadNow lkN_X4 lkC_X4_leadNow) rfl rfl rfl (by decide +kernel) hR
theorem zcw_X4_178 (hts : ∀ w ∈ zT, w.before args s = true) (hR : 1 + 1 ≤ R.frames ∧ 8 + (3 + 11) + 20 ≤ R.locals) : CallW R s args RX4 RX4 178 yX4_hangsLevel cX4_hangsLevel 3 (some .boolean) (Cond.code yX4_hangsLevel cX4_hangsLevel 3 (some .boolean) :: zT) ({ frames := 1, cells := 0, slots := 0, locals := 20 } : Room) 0 0 2 := cwV 2 hts (zGoodV lkM_X4_178 lkI_X4_hangsLevel lkV_X4_hangsLevel lkN_X4 lkC_X4_hangsLevel) rfl rfl rfl (by decide +kernel) hR
theorem zg_X4_34 (C : zC A G p s m args c cc nL RX4) (Z : zH A G s mem H locs) (hdg : decode cc pc = .ok (.getfield 34, 3)) (kk : W p l e R s m args below meth c H locs cells slots Q (F0 m (pc + 3) ls (.ref (zr G 13) :: rest))) : W p l e R s m args below meth c H locs cells slots Q (F0 m pc ls (.ref (zr G 0) :: rest)) := z_get C Z (k := 0) (by decide) rfl rfl inZX4 3 (by decide) lkF_X4_34 rfl rfl hdg kk
theorem zg_X4_171 (C : zC A G p s m args c cc nL RX4) (Z : zH A G s mem H locs) (hdg : decode cc pc = .ok (.getfield 171, 3)) (kk : W p l e R s m args below meth c H locs cells slots Q (F0 m (pc + 3) ls (.int (mem 0 8) :: rest))) : W p l e R s m args below meth c H locs cells slots Q (F0 m pc ls (.ref (zr G 0) :: rest)) := z_get C Z (k := 0) (by decide) rfl rfl inZX4 8 (by decide) lkF_X4_171 rfl rfl hdg kk
theorem zcw_X4_174 (hts : ∀ w ∈ zT, w.before args s = true) (hR : 1 + 1 ≤ R.frames ∧ 8 + (2 + 11) + 18 ≤ R.locals) : CallW R s args RX4 RX3 174 yX3_becomeLike cX3_becomeLike 2 none (Cond.code yX3_becomeLike cX3_becomeLike 2 none :: zT) ({ frames := 1, cells := 0, slots := 0, locals := 18 } : Room) 0 0 1 := cwV 1 hts (zGoodV lkM_X4_174 lkI_X3_becomeLike lkV_X3_becomeLike lkN_X3 lkC_X3_becomeLike) rfl rfl rfl (by decide +kernel) hR
theorem zp_X4_171 {x : Int32} (C : zC A G p s m args c cc nL RX4) (Z : zH A G s mem H locs) (hdg : decode cc pc = .ok (.putfield 171, 3)) (kk : ∀ (H1 : Heap) (locs1 : List Loc), zH A G s (wr mem 0 8 x) H1 locs1 → W p l e R s m args below meth c H1 locs1 cells slots Q (F0 m (pc + 3) ls rest)) : W p l e R s m args below meth c H locs cells slots Q (F0 m pc ls (.int x :: .ref (zr G 0) :: rest)) := z_put C Z (k := 0) (by decide) rfl rfl inZX4 tyX4 tyX4_ok nmX4 8 (by decide) lkF_X4_171 rfl rfl (by decide +kernel) (by decide +kernel) rfl hdg kk
theorem zg_X4_101 (C : zC A G p s m args c cc nL RX4) (Z : zH A G s mem H locs) (hdg : decode cc pc = .ok (.getfield 101, 3)) (kk : W p l e R s m args below meth c H locs cells slots Q (F0 m (pc + 3) ls (.int (mem 0 7) :: rest))) : W p l e R s m args below meth c H locs cells slots Q (F0 m pc ls (.ref (zr G 0) :: rest)) := z_get C Z (k := 0) (by decide) rfl rfl inZX4 7 (by decide) lkF_X4_101 rfl rfl hdg kk
theorem zcw_X4_156 (hts : ∀ w ∈ zT, w.before args s = true) (hR : 0 + 1 ≤ R.frames ∧ 8 + (2 + 11) + 0 ≤ R.locals) : CallB R s args RX4 156 yJ9_min_7cf53 cJ9_min_7cf53 2 (some .int) (Cond.code yJ9_min_7cf53 cJ9_min_7cf53 2 (some .int) :: zT) ({ frames := 0, cells := 0, slots := 0, locals := 0 } : Room) 0 0 2 ∧ (Cond.static yJ9_min_7cf53).before args s = true := va_cwS 2 hts (zGoodS lkM_X4_156 lkS_J9_min_7cf53 lkN_J9 lkC_J9_min_7cf53) rfl rfl rfl (by decide +kernel) hR
theorem zcw_X4_139 (hts : ∀ w ∈ zT, w.before args s = true) (hR : 3 + 1 ≤ R.frames ∧ 8 + (1 + 11) + 67 ≤ R.locals) : CallW R s args RX4 RX4 139 yX4_hangsLevelNow cX4_hangsLevelNow 1 (some .boolean) (Cond.code yX4_hangsLevelNow cX4_hangsLevelNow 1 (some .boolean) :: zT) ({ frames := 3, cells := 0, slots := 0, locals := 67 } : Room) 0 0 0 := cwV 0 hts (zGoodV lkM_X4_139 lkI_X4_hangsLevelNow lkV_X4_hangsLevelNow lkN_X4 lkC_X4_hangsLevelNow) rfl rfl rfl (by decide +kernel) hR
theorem zcw_X4_143 (hts : ∀ w ∈ zT, w.before args s = true) (hR : 2 + 1 ≤ R.frames ∧ 8 + (1 + 11) + 39 ≤ R.locals) : CallW R s args RX4 RX4 143 yX4_rememberWeek cX4_rememberWeek 1 none (Cond.code yX4_rememberWeek cX4_rememberWeek 1 none :: zT) ({ frames := 2, cells := 0, slots := 0, locals := 39 } : Room) 0 0 0 := cwV 0 hts (zGoodV lkM_X4_143 lkI_X4_rememberWeek lkV_X4_rememberWeek lkN_X4 lkC_X4_rememberWeek) rfl rfl rfl (by decide +kernel) hR
theorem zp_X4_123 {k : Nat} {x : Int32} (hk : zW k = true) (C : zC A G p s m args c cc nL RX4) (Z : zH A G s mem H locs) (hdg : decode cc pc = .ok (.putfield 123, 3)) (kk : ∀ (H1 : Heap) (locs1 : List Loc), zH A G s (wr mem k 1 x) H1 locs1 → W p l e R s m args below meth c H1 locs1 cells slots Q (F0 m (pc + 3) ls rest)) : W p l e R s m args below meth c H locs cells slots Q (F0 m pc ls (.int x :: .ref (zr G k) :: rest)) := z_put C Z (k := k) (zW_lt hk).1 (zcf_W hk _ _) rfl inZX3 tyX3 tyX3_ok nmX3 1 (by decide) lkF_X4_123 rfl rfl (by decide +kernel) (by decide) (by rcases zW_or hk with rfl | rfl | rfl | rfl | rfl | rfl | rfl | rfl | rfl | rfl | rfl <;> rfl) hdg kk
theorem zg_X4_146 {k : Nat} (hk : zW k = true) (C : zC A G p s m args c cc nL RX4) (Z : zH A G s mem H locs) (hdg : decode cc pc = .ok (.getfield 146, 3)) (kk : W p l e R s m args below meth c H locs cells slots Q (F0 m (pc + 3) ls (.int (mem k 5) :: rest))) : W p l e R s m args below meth c H locs cells slots Q (F0 m pc ls (.ref (zr G k) :: rest)) := z_get C Z (k := k) (zW_lt hk).1 (zcf_W hk _ _) rfl inZX3 5 (by decide) lkF_X4_146 rfl rfl hdg kk
theorem zp_X4_146 {k : Nat} {x : Int32} (hk : zW k = true) (C : zC A G p s m args c cc nL RX4) (Z : zH A G s mem H locs) (hdg : decode cc pc = .ok (.putfield 146, 3)) (kk : ∀ (H1 : Heap) (locs1 : List Loc), zH A G s (wr mem k 5 x) H1 locs1 → W p l e R s m args below meth c H1 locs1 cells slots Q (F0 m (pc + 3) ls rest)) : W p l e R s m args below meth c H locs cells slots Q (F0 m pc ls (.int x :: .ref (zr G k) :: rest)) := z_put C Z (k := k) (zW_lt hk).1 (zcf_W hk _ _) rfl inZX3 tyX3 tyX3_ok nmX3 5 (by decide) lkF_X4_146 rfl rfl (by decide +kernel) (by decide) (by rcases zW_or hk with rfl | rfl | rfl | rfl | rfl | rfl | rfl | rfl | rfl | rfl | rfl <;> rfl) hdg kk
theorem zp_X4_161 {k : Nat} {x : Int32} (hk : zW k = true) (C : zC A G p s m args c cc nL RX4) (Z : zH A G s mem H locs) (hdg : decode cc pc = .ok (.putfield 161, 3)) (kk : ∀ (H1 : Heap) (locs1 : List Loc), zH A G s (wr mem k 2 x) H1 locs1 → W p l e R s m args below meth c H1 locs1 cells slots Q (F0 m (pc + 3) ls rest)) : W p l e R s m args below meth c H locs cells slots Q (F0 m pc ls (.int x :: .ref (zr G k) :: rest)) := z_put C Z (k := k) (zW_lt hk).1 (zcf_W hk _ _) rfl inZX3 tyX3 tyX3_ok nmX3 2 (by decide) lkF_X4_161 rfl rfl (by decide +kernel) (by decide) (by rcases zW_or hk with rfl | rfl | rfl | rfl | rfl | rfl | rfl | rfl | rfl | rfl | rfl <;> rfl) hdg kk
theorem zp_X4_116 {k : Nat} {x : Int32} (hk : zW k = true) (C : zC A G p s m args c cc nL RX4) (Z : zH A G s mem H locs) (hdg : decode cc pc = .ok (.putfield 116, 3)) (kk : ∀ (H1 : Heap) (locs1 : List Loc), zH A G s (wr mem k 3 x) H1 locs1 → W p l e R s m args below meth c H1 locs1 cells slots Q (F0 m (pc + 3) ls rest)) : W p l e R s m args below meth c H locs cells slots Q (F0 m pc ls (.int x :: .ref (zr G k) :: rest)) := z_put C Z (k := k) (zW_lt hk).1 (zcf_W hk _ _) rfl inZX3 tyX3 tyX3_ok nmX3 3 (by decide) lkF_X4_116 rfl rfl (by decide +kernel) (by decide) (by rcases zW_or hk with rfl | rfl | rfl | rfl | rfl | rfl | rfl | rfl | rfl | rfl | rfl <;> rfl) hdg kk
theorem zg_X4_164 {k : Nat} (hk : zW k = true) (C : zC A G p s m args c cc nL RX4) (Z : zH A G s mem H locs) (hdg : decode cc pc = .ok (.getfield 164, 3)) (kk : W p l e R s m args below meth c H locs cells slots Q (F0 m (pc + 3) ls (.int (mem k 4) :: rest))) : W p l e R s m args below meth c H locs cells slots Q (F0 m pc ls (.ref (zr G k) :: rest)) := z_get C Z (k := k) (zW_lt hk).1 (zcf_W hk _ _) rfl inZX3 4 (by decide) lkF_X4_164 rfl rfl hdg kk
theorem zcw_X4_167 (hts : ∀ w ∈ zT, w.before args s = true) (hR : 0 + 1 ≤ R.frames ∧ 8 + (3 + 11) + 0 ≤ R.locals) : CallW R s args RX4 RX3 167 yX3_end cX3_end 3 none (Cond.code yX3_end cX3_end 3 none :: zT) ({ frames := 0, cells := 0, slots := 0, locals := 0 } : Room) 0 0 1 := cwV 1 hts (zGoodV lkM_X4_167 lkI_X3_end lkV_X3_end lkN_X3 lkC_X3_end) rfl rfl rfl (by decide +kernel) hR
theorem zg_X4_38 (C : zC A G p s m args c cc nL RX4) (Z : zH A G s mem H locs) (hdg : decode cc pc = .ok (.getfield 38, 3)) (kk : W p l e R s m args below meth c H locs cells slots Q (F0 m (pc + 3) ls (.ref (zr G 30) :: rest))) : W p l e R s m args below meth c H locs cells slots Q (F0 m pc ls (.ref (zr G 0) :: rest)) := z_get C Z (k := 0) (by decide) rfl rfl inZX4 4 (by decide) lkF_X4_38 rfl rfl hdg kk
theorem zcw_X4_184 (hts : ∀ w ∈ zT, w.before args s = true) (hR : 1 + 1 ≤ R.frames ∧ 8 + (4 + 11) + 21 ≤ R.locals) : CallW R s args RX4 RX1 184 yX1_minutesOf cX1_minutesOf 4 (some .int) (Cond.code yX1_minutesOf cX1_minutesOf 4 (some .int) :: zT) ({ frames := 1, cells := 0, slots := 0, locals := 21 } : Room) 0 0 1 := cwV 1 hts (zGoodV lkM_X4_184 lkI_X1_minutesOf lkV_X1_minutesOf lkN_X1 lkC_X1_minutesOf) rfl rfl rfl (by decide +kernel) hR
theorem zcw_X4_193 (hts : ∀ w ∈ zT, w.before args s = true) (hR : 0 + 1 ≤ R.frames ∧ 8 + (1 + 11) + 0 ≤ R.locals) : CallB R s args RX4 193 yJ6_bitCount_0f7a4 cJ6_bitCount_0f7a4 1 (some .int) (Cond.code yJ6_bitCount_0f7a4 cJ6_bitCount_0f7a4 1 (some .int) :: zT) ({ frames := 0, cells := 0, slots := 0, locals := 0 } : Room) 0 0 1 ∧ (Cond.static yJ6_bitCount_0f7a4).before args s = true := va_cwS 1 hts (zGoodS lkM_X4_193 lkS_J6_bitCount_0f7a4 lkN_J6 lkC_J6_bitCount_0f7a4) rfl rfl rfl (by decide +kernel) hR
theorem zcw_X4_187 (hts : ∀ w ∈ zT, w.before args s = true) (hR : 3 + 1 ≤ R.frames ∧ 8 + (3 + 11) + 67 ≤ R.locals) : CallW R s args RX4 RX4 187 yX4_levels cX4_levels 3 (some .boolean) (Cond.code yX4_levels cX4_levels 3 (some .boolean) :: zT) ({ frames := 3, cells := 0, slots := 0, locals := 67 } : Room) 0 0 2 := cwV 2 hts (zGoodV lkM_X4_187 lkI_X4_levels lkV_X4_levels lkN_X4 lkC_X4_levels) rfl rfl rfl (by decide +kernel) hR
theorem zcw_X4_190 (hts : ∀ w ∈ zT, w.before args s = true) (hR : 2 + 1 ≤ R.frames ∧ 8 + (5 + 11) + 44 ≤ R.locals) : CallW R s args RX4 RX4 190 yX4_isSooner cX4_isSooner 5 (some .boolean) (Cond.code yX4_isSooner cX4_isSooner 5 (some .boolean) :: zT) ({ frames := 2, cells := 0, slots := 0, locals := 44 } : Room) 0 0 2 := cwV 2 hts (zGoodV lkM_X4_190 lkI_X4_isSooner lkV_X4_isSooner lkN_X4 lkC_X4_isSooner) rfl rfl rfl (by decide +kernel) hR
theorem zcw_X4_181 (hts : ∀ w ∈ zT, w.before args s = true) (hR : 4 + 1 ≤ R.frames ∧ 8 + (4 + 11) + 89 ≤ R.locals) : CallW R s args RX4 RX4 181 yX4_soonestSet cX4_soonestSet 4 (some .int) (Cond.code yX4_soonestSet cX4_soonestSet 4 (some .int) :: zT) ({ frames := 4, cells := 0, slots := 0, locals := 89 } : Room) 0 0 0 := cwV 0 hts (zGoodV lkM_X4_181 lkI_X4_soonestSet lkV_X4_soonestSet lkN_X4 lkC_X4_soonestSet) rfl rfl rfl (by decide +kernel) hR
theorem zcw_X4_198 (hts : ∀ w ∈ zT, w.before args s = true) (hR : 0 + 1 ≤ R.frames ∧ 8 + (2 + 11) + 0 ≤ R.locals) : CallW R s args RX4 RX4 198 yX4_isSet cX4_isSet 2 (some .boolean) (Cond.code yX4_isSet cX4_isSet 2 (some .boolean) :: zT) ({ frames := 0, cells := 0, slots := 0, locals := 0 } : Room) 0 0 1 := cwV 1 hts (zGoodV lkM_X4_198 lkI_X4_isSet lkV_X4_isSet lkN_X4 lkC_X4_isSet) rfl rfl rfl (by decide +kernel) hR
theorem zcw_X4_201 (hts : ∀ w ∈ zT, w.before args s = true) (hR : 0 + 1 ≤ R.frames ∧ 8 + (4 + 11) + 0 ≤ R.locals) : CallW R s args RX4 RX0 201 yX0_addSeen cX0_addSeen 4 (some .boolean) (Cond.code yX0_addSeen cX0_addSeen 4 (some .boolean) :: zT) ({ frames := 0, cells := 0, slots := 0, locals := 0 } : Room) 0 0 3 := cwV 3 hts (zGoodV lkM_X4_201 lkI_X0_addSeen lkV_X0_addSeen lkN_X0 lkC_X0_addSeen) rfl rfl rfl (by decide +kernel) hR
theorem zg_X4_204 (C : zC A G p s m args c cc nL RX4) (Z : zH A G s mem H locs) (hdg : decode cc pc = .ok (.getfield 204, 3)) (kk : W p l e R s m args below meth c H locs cells slots Q (F0 m (pc + 3) ls (.int (mem 36 7) :: rest))) : W p l e R s m args below meth c H locs cells slots Q (F0 m pc ls (.ref (zr G 36) :: rest)) := z_get C Z (k := 36) (by decide) rfl rfl inZX0 7 (by decide) lkF_X4_204 rfl rfl hdg kk
theorem zcw_X4_207 (hts : ∀ w ∈ zT, w.before args s = true) (hR : 0 + 1 ≤ R.frames ∧ 8 + (5 + 11) + 0 ≤ R.locals) : CallW R s args RX4 RX0 207 yX0_addHeard cX0_addHeard 5 (some .boolean) (Cond.code yX0_addHeard cX0_addHeard 5 (some .boolean) :: zT) ({ frames := 0, cells := 0, slots := 0, locals := 0 } : Room) 0 0 4 := cwV 4 hts (zGoodV lkM_X4_207 lkI_X0_addHeard lkV_X0_addHeard lkN_X0 lkC_X0_addHeard) rfl rfl rfl (by decide +kernel) hR
theorem zg_X4_211 (C : zC A G p s m args c cc nL RX4) (Z : zH A G s mem H locs) (hdg : decode cc pc = .ok (.getfield 211, 3)) (kk : W p l e R s m args below meth c H locs cells slots Q (F0 m (pc + 3) ls (.int (mem 36 8) :: rest))) : W p l e R s m args below meth c H locs cells slots Q (F0 m pc ls (.ref (zr G 36) :: rest)) := z_get C Z (k := 36) (by decide) rfl rfl inZX0 8 (by decide) lkF_X4_211 rfl rfl hdg kk
theorem zg_X4_217 (C : zC A G p s m args c cc nL RX4) (Z : zH A G s mem H locs) (hdg : decode cc pc = .ok (.getfield 217, 3)) (kk : W p l e R s m args below meth c H locs cells slots Q (F0 m (pc + 3) ls (.ref (zr G 37) :: rest))) : W p l e R s m args below meth c H locs cells slots Q (F0 m pc ls (.ref (zr G 36) :: rest)) := z_get C Z (k := 36) (by decide) rfl rfl inZX0 0 (by decide) lkF_X4_217 rfl rfl hdg kk
theorem zg_X4_220 (C : zC A G p s m args c cc nL RX4) (Z : zH A G s mem H locs) (hdg : decode cc pc = .ok (.getfield 220, 3)) (kk : W p l e R s m args below meth c H locs cells slots Q (F0 m (pc + 3) ls (.ref (zr G 38) :: rest))) : W p l e R s m args below meth c H locs cells slots Q (F0 m pc ls (.ref (zr G 36) :: rest)) := z_get C Z (k := 36) (by decide) rfl rfl inZX0 1 (by decide) lkF_X4_220 rfl rfl hdg kk
theorem zg_X4_226 (C : zC A G p s m args c cc nL RX4) (Z : zH A G s mem H locs) (hdg : decode cc pc = .ok (.getfield 226, 3)) (kk : W p l e R s m args below meth c H locs cells slots Q (F0 m (pc + 3) ls (.ref (zr G 39) :: rest))) : W p l e R s m args below meth c H locs cells slots Q (F0 m pc ls (.ref (zr G 36) :: rest)) := z_get C Z (k := 36) (by decide) rfl rfl inZX0 2 (by decide) lkF_X4_226 rfl rfl hdg kk
theorem zcw_X4_214 (hts : ∀ w ∈ zT, w.before args s = true) (hR : 2 + 1 ≤ R.frames ∧ 8 + (7 + 11) + 46 ≤ R.locals) : CallW R s args RX4 RX4 214 yX4_fitsAllSeen cX4_fitsAllSeen 7 (some .boolean) (Cond.code yX4_fitsAllSeen cX4_fitsAllSeen 7 (some .boolean) :: zT) ({ frames := 2, cells := 0, slots := 0, locals := 46 } : Room) 0 0 2 := cwV 2 hts (zGoodV lkM_X4_214 lkI_X4_fitsAllSeen lkV_X4_fitsAllSeen lkN_X4 lkC_X4_fitsAllSeen) rfl rfl rfl (by decide +kernel) hR
theorem zg_X4_232 (C : zC A G p s m args c cc nL RX4) (Z : zH A G s mem H locs) (hdg : decode cc pc = .ok (.getfield 232, 3)) (kk : W p l e R s m args below meth c H locs cells slots Q (F0 m (pc + 3) ls (.ref (zr G 40) :: rest))) : W p l e R s m args below meth c H locs cells slots Q (F0 m pc ls (.ref (zr G 36) :: rest)) := z_get C Z (k := 36) (by decide) rfl rfl inZX0 3 (by decide) lkF_X4_232 rfl rfl hdg kk
theorem zg_X4_235 (C : zC A G p s m args c cc nL RX4) (Z : zH A G s mem H locs) (hdg : decode cc pc = .ok (.getfield 235, 3)) (kk : W p l e R s m args below meth c H locs cells slots Q (F0 m (pc + 3) ls (.ref (zr G 42) :: rest))) : W p l e R s m args below meth c H locs cells slots Q (F0 m pc ls (.ref (zr G 36) :: rest)) := z_get C Z (k := 36) (by decide) rfl rfl inZX0 5 (by decide) lkF_X4_235 rfl rfl hdg kk
theorem zg_X4_238 (C : zC A G p s m args c cc nL RX4) (Z : zH A G s mem H locs) (hdg : decode cc pc = .ok (.getfield 238, 3)) (kk : W p l e R s m args below meth c H locs cells slots Q (F0 m (pc + 3) ls (.ref (zr G 41) :: rest))) : W p l e R s m args below meth c H locs cells slots Q (F0 m pc ls (.ref (zr G 36) :: rest)) := z_get C Z (k := 36) (by decide) rfl rfl inZX0 4 (by decide) lkF_X4_238 rfl rfl hdg kk
theorem zg_X4_241 (C : zC A G p s m args c cc nL RX4) (Z : zH A G s mem H locs) (hdg : decode cc pc = .ok (.getfield 241, 3)) (kk : W p l e R s m args below meth c H locs cells slots Q (F0 m (pc + 3) ls (.ref (zr G 43) :: rest))) : W p l e R s m args below meth c H locs cells slots Q (F0 m pc ls (.ref (zr G 36) :: rest)) := z_get C Z (k := 36) (by decide) rfl rfl inZX0 6 (by decide) lkF_X4_241 rfl rfl hdg kk
theorem zcw_X4_229 (hts : ∀ w ∈ zT, w.before args s = true) (hR : 2 + 1 ≤ R.frames ∧ 8 + (4 + 11) + 46 ≤ R.locals) : CallW R s args RX4 RX4 229 yX4_fitsAllHeard cX4_fitsAllHeard 4 (some .boolean) (Cond.code yX4_fitsAllHeard cX4_fitsAllHeard 4 (some .boolean) :: zT) ({ frames := 2, cells := 0, slots := 0, locals := 46 } : Room) 0 0 1 := cwV 1 hts (zGoodV lkM_X4_229 lkI_X4_fitsAllHeard lkV_X4_fitsAllHeard lkN_X4 lkC_X4_fitsAllHeard) rfl rfl rfl (by decide +kernel) hR
theorem zcw_X4_250 (hts : ∀ w ∈ zT, w.before args s = true) (hR : 0 + 1 ≤ R.frames ∧ 8 + (6 + 11) + 0 ≤ R.locals) : CallB R s args RX4 250 yX4_greatestDivisor cX4_greatestDivisor 6 (some .int) (Cond.code yX4_greatestDivisor cX4_greatestDivisor 6 (some .int) :: zT) ({ frames := 0, cells := 0, slots := 0, locals := 0 } : Room) 0 0 2 ∧ (Cond.static yX4_greatestDivisor).before args s = true := va_cwS 2 hts (zGoodS lkM_X4_250 lkS_X4_greatestDivisor lkN_X4 lkC_X4_greatestDivisor) rfl rfl rfl (by decide +kernel) hR
theorem zcw_X4_244 (hts : ∀ w ∈ zT, w.before args s = true) (hR : 1 + 1 ≤ R.frames ∧ 8 + (5 + 11) + 21 ≤ R.locals) : CallW R s args RX4 RX4 244 yX4_waysOfConfessing cX4_waysOfConfessing 5 (some .int) (Cond.code yX4_waysOfConfessing cX4_waysOfConfessing 5 (some .int) :: zT) ({ frames := 1, cells := 0, slots := 0, locals := 21 } : Room) 0 0 2 := cwV 2 hts (zGoodV lkM_X4_244 lkI_X4_waysOfConfessing lkV_X4_waysOfConfessing lkN_X4 lkC_X4_waysOfConfessing) rfl rfl rfl (by decide +kernel) hR
theorem zg_X4_256 {k : Nat} (hk : zW k = true) (C : zC A G p s m args c cc nL RX4) (Z : zH A G s mem H locs) (hdg : decode cc pc = .ok (.getfield 256, 3)) (kk : W p l e R s m args below meth c H locs cells slots Q (F0 m (pc + 3) ls (.int (mem k 6) :: rest))) : W p l e R s m args below meth c H locs cells slots Q (F0 m pc ls (.ref (zr G k) :: rest)) := z_get C Z (k := k) (zW_lt hk).1 (zcf_W hk _ _) rfl inZX3 6 (by decide) lkF_X4_256 rfl rfl hdg kk
theorem zg_X5_13 (C : zC A G p s m args c cc nL RX5) (Z : zH A G s mem H locs) (hdg : decode cc pc = .ok (.getfield 13, 3)) (kk : W p l e R s m args below meth c H locs cells slots Q (F0 m (pc + 3) ls (.ref (zr G 46) :: rest))) : W p l e R s m args below meth c H locs cells slots Q (F0 m pc ls (.ref (zr G 44) :: rest)) := z_get C Z (k := 44) (by decide) rfl rfl inZX5 2 (by decide) lkF_X5_13 rfl rfl hdg kk
theorem zcw_X5_44 (hts : ∀ w ∈ zT, w.before args s = true) (hR : 0 + 1 ≤ R.frames ∧ 8 + (3 + 11) + 0 ≤ R.locals) : CallB R s args RX5 44 yX5_in cX5_in 3 (some .boolean) (Cond.code yX5_in cX5_in 3 (some .boolean) :: zT) ({ frames := 0, cells := 0, slots := 0, locals := 0 } : Room) 0 0 3 ∧ (Cond.static yX5_in).before args s = true := va_cwS 3 hts (zGoodS lkM_X5_44 lkS_X5_in lkN_X5 lkC_X5_in) rfl rfl rfl (by decide +kernel) hR
theorem zg_X5_48 (C : zC A G p s m args c cc nL RX5) (Z : zH A G s mem H locs) (hdg : decode cc pc = .ok (.getfield 48, 3)) (kk : W p l e R s m args below meth c H locs cells slots Q (F0 m (pc + 3) ls (.int (mem 44 1) :: rest))) : W p l e R s m args below meth c H locs cells slots Q (F0 m pc ls (.ref (zr G 44) :: rest)) := z_get C Z (k := 44) (by decide) rfl rfl inZX5 1 (by decide) lkF_X5_48 rfl rfl hdg kk
theorem zg_X5_7 (C : zC A G p s m args c cc nL RX5) (Z : zH A G s mem H locs) (hdg : decode cc pc = .ok (.getfield 7, 3)) (kk : W p l e R s m args below meth c H locs cells slots Q (F0 m (pc + 3) ls (.ref (zr G 45) :: rest))) : W p l e R s m args below meth c H locs cells slots Q (F0 m pc ls (.ref (zr G 44) :: rest)) := z_get C Z (k := 44) (by decide) rfl rfl inZX5 0 (by decide) lkF_X5_7 rfl rfl hdg kk
theorem zp_X5_48 {x : Int32} (C : zC A G p s m args c cc nL RX5) (Z : zH A G s mem H locs) (hdg : decode cc pc = .ok (.putfield 48, 3)) (kk : ∀ (H1 : Heap) (locs1 : List Loc), zH A G s (wr mem 44 1 x) H1 locs1 → W p l e R s m args below meth c H1 locs1 cells slots Q (F0 m (pc + 3) ls rest)) : W p l e R s m args below meth c H locs cells slots Q (F0 m pc ls (.int x :: .ref (zr G 44) :: rest)) := z_put C Z (k := 44) (by decide) rfl rfl inZX5 tyX5 tyX5_ok nmX5 1 (by decide) lkF_X5_48 rfl rfl (by decide +kernel) (by decide +kernel) rfl hdg kk
theorem zg_X5_52 (C : zC A G p s m args c cc nL RX5) (Z : zH A G s mem H locs) (hdg : decode cc pc = .ok (.getfield 52, 3)) (kk : W p l e R s m args below meth c H locs cells slots Q (F0 m (pc + 3) ls (.int (mem 44 13) :: rest))) : W p l e R s m args below meth c H locs cells slots Q (F0 m pc ls (.ref (zr G 44) :: rest)) := z_get C Z (k := 44) (by decide) rfl rfl inZX5 13 (by decide) lkF_X5_52 rfl rfl hdg kk
theorem zg_X5_69 (C : zC A G p s m args c cc nL RX5) (Z : zH A G s mem H locs) (hdg : decode cc pc = .ok (.getfield 69, 3)) (kk : W p l e R s m args below meth c H locs cells slots Q (F0 m (pc + 3) ls (.int (mem 44 14) :: rest))) : W p l e R s m args below meth c H locs cells slots Q (F0 m pc ls (.ref (zr G 44) :: rest)) := z_get C Z (k := 44) (by decide) rfl rfl inZX5 14 (by decide) lkF_X5_69 rfl rfl hdg kk
theorem zp_X5_52 {x : Int32} (C : zC A G p s m args c cc nL RX5) (Z : zH A G s mem H locs) (hdg : decode cc pc = .ok (.putfield 52, 3)) (kk : ∀ (H1 : Heap) (locs1 : List Loc), zH A G s (wr mem 44 13 x) H1 locs1 → W p l e R s m args below meth c H1 locs1 cells slots Q (F0 m (pc + 3) ls rest)) : W p l e R s m args below meth c H locs cells slots Q (F0 m pc ls (.int x :: .ref (zr G 44) :: rest)) := z_put C Z (k := 44) (by decide) rfl rfl inZX5 tyX5 tyX5_ok nmX5 13 (by decide) lkF_X5_52 rfl rfl (by decide +kernel) (by decide +kernel) rfl hdg kk
theorem zcw_X5_55 (hts : ∀ w ∈ zT, w.before args s = true) (hR : 0 + 1 ≤ R.frames ∧ 8 + (2 + 11) + 0 ≤ R.locals) : CallW R s args RX5 RX5 55 yX5_letterAt cX5_letterAt 2 (some .int) (Cond.code yX5_letterAt cX5_letterAt 2 (some .int) :: zT) ({ frames := 0, cells := 0, slots := 0, locals := 0 } : Room) 0 0 1 := cwV 1 hts (zGoodV lkM_X5_55 lkI_X5_letterAt lkV_X5_letterAt lkN_X5 lkC_X5_letterAt) rfl rfl rfl (by decide +kernel) hR
theorem zcw_X5_66 (hts : ∀ w ∈ zT, w.before args s = true) (hR : 1 + 1 ≤ R.frames ∧ 8 + (1 + 11) + 22 ≤ R.locals) : CallB R s args RX5 66 yX5_isDigit cX5_isDigit 1 (some .boolean) (Cond.code yX5_isDigit cX5_isDigit 1 (some .boolean) :: zT) ({ frames := 1, cells := 0, slots := 0, locals := 22 } : Room) 0 0 1 ∧ (Cond.static yX5_isDigit).before args s = true := va_cwS 1 hts (zGoodS lkM_X5_66 lkS_X5_isDigit lkN_X5 lkC_X5_isDigit) rfl rfl rfl (by decide +kernel) hR
theorem zg_X5_59 (C : zC A G p s m args c cc nL RX5) (Z : zH A G s mem H locs) (hdg : decode cc pc = .ok (.getfield 59, 3)) (kk : W p l e R s m args below meth c H locs cells slots Q (F0 m (pc + 3) ls (.int (mem 44 15) :: rest))) : W p l e R s m args below meth c H locs cells slots Q (F0 m pc ls (.ref (zr G 44) :: rest)) := z_get C Z (k := 44) (by decide) rfl rfl inZX5 15 (by decide) lkF_X5_59 rfl rfl hdg kk
theorem zp_X5_72 {x : Int32} (C : zC A G p s m args c cc nL RX5) (Z : zH A G s mem H locs) (hdg : decode cc pc = .ok (.putfield 72, 3)) (kk : ∀ (H1 : Heap) (locs1 : List Loc), zH A G s (wr mem 44 16 x) H1 locs1 → W p l e R s m args below meth c H1 locs1 cells slots Q (F0 m (pc + 3) ls rest)) : W p l e R s m args below meth c H locs cells slots Q (F0 m pc ls (.int x :: .ref (zr G 44) :: rest)) := z_put C Z (k := 44) (by decide) rfl rfl inZX5 tyX5 tyX5_ok nmX5 16 (by decide) lkF_X5_72 rfl rfl (by decide +kernel) (by decide +kernel) rfl hdg kk
theorem zg_X5_72 (C : zC A G p s m args c cc nL RX5) (Z : zH A G s mem H locs) (hdg : decode cc pc = .ok (.getfield 72, 3)) (kk : W p l e R s m args below meth c H locs cells slots Q (F0 m (pc + 3) ls (.int (mem 44 16) :: rest))) : W p l e R s m args below meth c H locs cells slots Q (F0 m pc ls (.ref (zr G 44) :: rest)) := z_get C Z (k := 44) (by decide) rfl rfl inZX5 16 (by decide) lkF_X5_72 rfl rfl hdg kk
theorem zcw_X5_62 (hts : ∀ w ∈ zT, w.before args s = true) (hR : 1 + 1 ≤ R.frames ∧ 8 + (1 + 11) + 22 ≤ R.locals) : CallB R s args RX5 62 yX5_isLetter cX5_isLetter 1 (some .boolean) (Cond.code yX5_isLetter cX5_isLetter 1 (some .boolean) :: zT) ({ frames := 1, cells := 0, slots := 0, locals := 22 } : Room) 0 0 1 ∧ (Cond.static yX5_isLetter).before args s = true := va_cwS 1 hts (zGoodS lkM_X5_62 lkS_X5_isLetter lkN_X5 lkC_X5_isLetter) rfl rfl rfl (by decide +kernel) hR
theorem zp_X5_69 {x : Int32} (C : zC A G p s m args c cc nL RX5) (Z : zH A G s mem H locs) (hdg : decode cc pc = .ok (.putfield 69, 3)) (kk : ∀ (H1 : Heap) (locs1 : List Loc), zH A G s (wr mem 44 14 x) H1 locs1 → W p l e R s m args below meth c H1 locs1 cells slots Q (F0 m (pc + 3) ls rest)) : W p l e R s m args below meth c H locs cells slots Q (F0 m pc ls (.int x :: .ref (zr G 44) :: rest)) := z_put C Z (k := 44) (by decide) rfl rfl inZX5 tyX5 tyX5_ok nmX5 14 (by decide) lkF_X5_69 rfl rfl (by decide +kernel) (by decide +kernel) rfl hdg kk
theorem zp_X5_59 {x : Int32} (C : zC A G p s m args c cc nL RX5) (Z : zH A G s mem H locs) (hdg : decode cc pc = .ok (.putfield 59, 3)) (kk : ∀ (H1 : Heap) (locs1 : List Loc), zH A G s (wr mem 44 15 x) H1 locs1 → W p l e R s m args below meth c H1 locs1 cells slots Q (F0 m (pc + 3) ls rest)) : W p l e R s m args below meth c H locs cells slots Q (F0 m pc ls (.int x :: .ref (zr G 44) :: rest)) := z_put C Z (k := 44) (by decide) rfl rfl inZX5 tyX5 tyX5_ok nmX5 15 (by decide) lkF_X5_59 rfl rfl (by decide +kernel) (by decide +kernel) rfl hdg kk
theorem zcw_X5_75 (hts : ∀ w ∈ zT, w.before args s = true) (hR : 2 + 1 ≤ R.frames ∧ 8 + (2 + 11) + 42 ≤ R.locals) : CallW R s args RX5 RX5 75 yX5_token cX5_token 2 none (Cond.code yX5_token cX5_token 2 none :: zT) ({ frames := 2, cells := 0, slots := 0, locals := 42 } : Room) 0 0 0 := cwV 0 hts (zGoodV lkM_X5_75 lkI_X5_token lkV_X5_token lkN_X5 lkC_X5_token) rfl rfl rfl (by decide +kernel) hR
theorem zg_X5_16 (C : zC A G p s m args c cc nL RX5) (Z : zH A G s mem H locs) (hdg : decode cc pc = .ok (.getfield 16, 3)) (kk : W p l e R s m args below meth c H locs cells slots Q (F0 m (pc + 3) ls (.ref (zr G 47) :: rest))) : W p l e R s m args below meth c H locs cells slots Q (F0 m pc ls (.ref (zr G 44) :: rest)) := z_get C Z (k := 44) (by decide) rfl rfl inZX5 3 (by decide) lkF_X5_16 rfl rfl hdg kk
theorem zcw_X5_78 (hts : ∀ w ∈ zT, w.before args s = true) (hR : 3 + 1 ≤ R.frames ∧ 8 + (4 + 11) + 63 ≤ R.locals) : CallW R s args RX5 RX5 78 yX5_number cX5_number 4 (some .boolean) (Cond.code yX5_number cX5_number 4 (some .boolean) :: zT) ({ frames := 3, cells := 0, slots := 0, locals := 63 } : Room) 0 0 3 := cwV 3 hts (zGoodV lkM_X5_78 lkI_X5_number lkV_X5_number lkN_X5 lkC_X5_number) rfl rfl rfl (by decide +kernel) hR
theorem zcw_X5_81 (hts : ∀ w ∈ zT, w.before args s = true) (hR : 0 + 1 ≤ R.frames ∧ 8 + (9 + 11) + 0 ≤ R.locals) : CallW R s args RX5 RX5 81 yX5_isWord cX5_isWord 9 (some .boolean) (Cond.code yX5_isWord cX5_isWord 9 (some .boolean) :: zT) ({ frames := 0, cells := 0, slots := 0, locals := 0 } : Room) 0 0 5 := cwV 5 hts (zGoodV lkM_X5_81 lkI_X5_isWord lkV_X5_isWord lkN_X5 lkC_X5_isWord) rfl rfl rfl (by decide +kernel) hR
theorem zcw_X5_88 (hts : ∀ w ∈ zT, w.before args s = true) (hR : 4 + 1 ≤ R.frames ∧ 8 + (2 + 11) + 86 ≤ R.locals) : CallW R s args RX5 RX5 88 yX5_readsSoul cX5_readsSoul 2 (some .boolean) (Cond.code yX5_readsSoul cX5_readsSoul 2 (some .boolean) :: zT) ({ frames := 4, cells := 0, slots := 0, locals := 86 } : Room) 0 0 0 := cwV 0 hts (zGoodV lkM_X5_88 lkI_X5_readsSoul lkV_X5_readsSoul lkN_X5 lkC_X5_readsSoul) rfl rfl rfl (by decide +kernel) hR
theorem zcw_X5_85 (hts : ∀ w ∈ zT, w.before args s = true) (hR : 4 + 1 ≤ R.frames ∧ 8 + (3 + 11) + 86 ≤ R.locals) : CallW R s args RX5 RX5 85 yX5_readsPart cX5_readsPart 3 (some .boolean) (Cond.code yX5_readsPart cX5_readsPart 3 (some .boolean) :: zT) ({ frames := 4, cells := 0, slots := 0, locals := 86 } : Room) 0 0 1 := cwV 1 hts (zGoodV lkM_X5_85 lkI_X5_readsPart lkV_X5_readsPart lkN_X5 lkC_X5_readsPart) rfl rfl rfl (by decide +kernel) hR
theorem zcw_X5_38 (hts : ∀ w ∈ zT, w.before args s = true) (hR : 0 + 1 ≤ R.frames ∧ 8 + (2 + 11) + 0 ≤ R.locals) : CallW R s args RX5 RX5 38 yX5_forgets cX5_forgets 2 none (Cond.code yX5_forgets cX5_forgets 2 none :: zT) ({ frames := 0, cells := 0, slots := 0, locals := 0 } : Room) 0 0 0 := cwV 0 hts (zGoodV lkM_X5_38 lkI_X5_forgets lkV_X5_forgets lkN_X5 lkC_X5_forgets) rfl rfl rfl (by decide +kernel) hR
theorem zcw_X5_92 (hts : ∀ w ∈ zT, w.before args s = true) (hR : 5 + 1 ≤ R.frames ∧ 8 + (1 + 11) + 108 ≤ R.locals) : CallW R s args RX5 RX5 92 yX5_readsClause cX5_readsClause 1 (some .boolean) (Cond.code yX5_readsClause cX5_readsClause 1 (some .boolean) :: zT) ({ frames := 5, cells := 0, slots := 0, locals := 108 } : Room) 0 0 0 := cwV 0 hts (zGoodV lkM_X5_92 lkI_X5_readsClause lkV_X5_readsClause lkN_X5 lkC_X5_readsClause) rfl rfl rfl (by decide +kernel) hR
theorem zg_X5_19 (C : zC A G p s m args c cc nL RX5) (Z : zH A G s mem H locs) (hdg : decode cc pc = .ok (.getfield 19, 3)) (kk : W p l e R s m args below meth c H locs cells slots Q (F0 m (pc + 3) ls (.ref (zr G 48) :: rest))) : W p l e R s m args below meth c H locs cells slots Q (F0 m pc ls (.ref (zr G 44) :: rest)) := z_get C Z (k := 44) (by decide) rfl rfl inZX5 4 (by decide) lkF_X5_19 rfl rfl hdg kk
theorem zp_X5_95 {x : Int32} (C : zC A G p s m args c cc nL RX5) (Z : zH A G s mem H locs) (hdg : decode cc pc = .ok (.putfield 95, 3)) (kk : ∀ (H1 : Heap) (locs1 : List Loc), zH A G s (wr mem 44 6 x) H1 locs1 → W p l e R s m args below meth c H1 locs1 cells slots Q (F0 m (pc + 3) ls rest)) : W p l e R s m args below meth c H locs cells slots Q (F0 m pc ls (.int x :: .ref (zr G 44) :: rest)) := z_put C Z (k := 44) (by decide) rfl rfl inZX5 tyX5 tyX5_ok nmX5 6 (by decide) lkF_X5_95 rfl rfl (by decide +kernel) (by decide +kernel) rfl hdg kk
theorem zp_X5_98 {x : Int32} (C : zC A G p s m args c cc nL RX5) (Z : zH A G s mem H locs) (hdg : decode cc pc = .ok (.putfield 98, 3)) (kk : ∀ (H1 : Heap) (locs1 : List Loc), zH A G s (wr mem 44 10 x) H1 locs1 → W p l e R s m args below meth c H1 locs1 cells slots Q (F0 m (pc + 3) ls rest)) : W p l e R s m args below meth c H locs cells slots Q (F0 m pc ls (.int x :: .ref (zr G 44) :: rest)) := z_put C Z (k := 44) (by decide) rfl rfl inZX5 tyX5 tyX5_ok nmX5 10 (by decide) lkF_X5_98 rfl rfl (by decide +kernel) (by decide +kernel) rfl hdg kk
theorem zp_X5_101 {x : Int32} (C : zC A G p s m args c cc nL RX5) (Z : zH A G s mem H locs) (hdg : decode cc pc = .ok (.putfield 101, 3)) (kk : ∀ (H1 : Heap) (locs1 : List Loc), zH A G s (wr mem 44 12 x) H1 locs1 → W p l e R s m args below meth c H1 locs1 cells slots Q (F0 m (pc + 3) ls rest)) : W p l e R s m args below meth c H locs cells slots Q (F0 m pc ls (.int x :: .ref (zr G 44) :: rest)) := z_put C Z (k := 44) (by decide) rfl rfl inZX5 tyX5 tyX5_ok nmX5 12 (by decide) lkF_X5_101 rfl rfl (by decide +kernel) (by decide +kernel) rfl hdg kk
theorem zg_X5_28 (C : zC A G p s m args c cc nL RX5) (Z : zH A G s mem H locs) (hdg : decode cc pc = .ok (.getfield 28, 3)) (kk : W p l e R s m args below meth c H locs cells slots Q (F0 m (pc + 3) ls (.ref (zr G 51) :: rest))) : W p l e R s m args below meth c H locs cells slots Q (F0 m pc ls (.ref (zr G 44) :: rest)) := z_get C Z (k := 44) (by decide) rfl rfl inZX5 8 (by decide) lkF_X5_28 rfl rfl hdg kk
theorem zcw_X5_104 (hts : ∀ w ∈ zT, w.before args s = true) (hR : 6 + 1 ≤ R.frames ∧ 8 + (3 + 11) + 128 ≤ R.locals) : CallW R s args RX5 RX5 104 yX5_reads cX5_reads 3 (some .int) (Cond.code yX5_reads cX5_reads 3 (some .int) :: zT) ({ frames := 6, cells := 0, slots := 0, locals := 128 } : Room) 0 0 0 := cwV 0 hts (zGoodV lkM_X5_104 lkI_X5_reads lkV_X5_reads lkN_X5 lkC_X5_reads) rfl rfl rfl (by decide +kernel) hR
theorem zcw_X5_41 (hts : ∀ w ∈ zT, w.before args s = true) (hR : 0 + 1 ≤ R.frames ∧ 8 + (2 + 11) + 0 ≤ R.locals) : CallW R s args RX5 RX5 41 yX5_lays cX5_lays 2 none (Cond.code yX5_lays cX5_lays 2 none :: zT) ({ frames := 0, cells := 0, slots := 0, locals := 0 } : Room) 0 0 0 := cwV 0 hts (zGoodV lkM_X5_41 lkI_X5_lays lkV_X5_lays lkN_X5 lkC_X5_lays) rfl rfl rfl (by decide +kernel) hR
theorem zcw_X5_108 (hts : ∀ w ∈ zT, w.before args s = true) (hR : 0 + 1 ≤ R.frames ∧ 8 + (3 + 11) + 0 ≤ R.locals) : CallB R s args RX5 108 yX5_weighs cX5_weighs 3 (some .int) (Cond.code yX5_weighs cX5_weighs 3 (some .int) :: zT) ({ frames := 0, cells := 0, slots := 0, locals := 0 } : Room) 0 0 3 ∧ (Cond.static yX5_weighs).before args s = true := va_cwS 3 hts (zGoodS lkM_X5_108 lkS_X5_weighs lkN_X5 lkC_X5_weighs) rfl rfl rfl (by decide +kernel) hR
theorem zcw_X5_112 (hts : ∀ w ∈ zT, w.before args s = true) (hR : 1 + 1 ≤ R.frames ∧ 8 + (3 + 11) + 22 ≤ R.locals) : CallW R s args RX5 RX5 112 yX5_ounces cX5_ounces 3 (some .int) (Cond.code yX5_ounces cX5_ounces 3 (some .int) :: zT) ({ frames := 1, cells := 0, slots := 0, locals := 22 } : Room) 0 0 2 := cwV 2 hts (zGoodV lkM_X5_112 lkI_X5_ounces lkV_X5_ounces lkN_X5 lkC_X5_ounces) rfl rfl rfl (by decide +kernel) hR
theorem zcw_X5_116 (hts : ∀ w ∈ zT, w.before args s = true) (hR : 2 + 1 ≤ R.frames ∧ 8 + (5 + 11) + 44 ≤ R.locals) : CallW R s args RX5 RX5 116 yX5_ouncesOf cX5_ouncesOf 5 (some .int) (Cond.code yX5_ouncesOf cX5_ouncesOf 5 (some .int) :: zT) ({ frames := 2, cells := 0, slots := 0, locals := 44 } : Room) 0 0 2 := cwV 2 hts (zGoodV lkM_X5_116 lkI_X5_ouncesOf lkV_X5_ouncesOf lkN_X5 lkC_X5_ouncesOf) rfl rfl rfl (by decide +kernel) hR
theorem zcw_X5_119 (hts : ∀ w ∈ zT, w.before args s = true) (hR : 3 + 1 ≤ R.frames ∧ 8 + (1 + 11) + 68 ≤ R.locals) : CallW R s args RX5 RX5 119 yX5_sermon cX5_sermon 1 (some .int) (Cond.code yX5_sermon cX5_sermon 1 (some .int) :: zT) ({ frames := 3, cells := 0, slots := 0, locals := 68 } : Room) 0 0 0 := cwV 0 hts (zGoodV lkM_X5_119 lkI_X5_sermon lkV_X5_sermon lkN_X5 lkC_X5_sermon) rfl rfl rfl (by decide +kernel) hR
theorem zcw_X5_122 (hts : ∀ w ∈ zT, w.before args s = true) (hR : 0 + 1 ≤ R.frames ∧ 8 + (3 + 11) + 0 ≤ R.locals) : CallW R s args RX5 RX5 122 yX5_lead cX5_lead 3 (some .int) (Cond.code yX5_lead cX5_lead 3 (some .int) :: zT) ({ frames := 0, cells := 0, slots := 0, locals := 0 } : Room) 0 0 0 := cwV 0 hts (zGoodV lkM_X5_122 lkI_X5_lead lkV_X5_lead lkN_X5 lkC_X5_lead) rfl rfl rfl (by decide +kernel) hR
theorem zcw_X5_125 (hts : ∀ w ∈ zT, w.before args s = true) (hR : 1 + 1 ≤ R.frames ∧ 8 + (3 + 11) + 22 ≤ R.locals) : CallW R s args RX5 RX5 125 yX5_hangs cX5_hangs 3 (some .boolean) (Cond.code yX5_hangs cX5_hangs 3 (some .boolean) :: zT) ({ frames := 1, cells := 0, slots := 0, locals := 22 } : Room) 0 0 2 := cwV 2 hts (zGoodV lkM_X5_125 lkI_X5_hangs lkV_X5_hangs lkN_X5 lkC_X5_hangs) rfl rfl rfl (by decide +kernel) hR
theorem zcw_X5_129 (hts : ∀ w ∈ zT, w.before args s = true) (hR : 1 + 1 ≤ R.frames ∧ 8 + (2 + 11) + 22 ≤ R.locals) : CallW R s args RX5 RX5 129 yX5_isPart cX5_isPart 2 (some .boolean) (Cond.code yX5_isPart cX5_isPart 2 (some .boolean) :: zT) ({ frames := 1, cells := 0, slots := 0, locals := 22 } : Room) 0 0 1 := cwV 1 hts (zGoodV lkM_X5_129 lkI_X5_isPart lkV_X5_isPart lkN_X5 lkC_X5_isPart) rfl rfl rfl (by decide +kernel) hR
theorem zg_X5_95 (C : zC A G p s m args c cc nL RX5) (Z : zH A G s mem H locs) (hdg : decode cc pc = .ok (.getfield 95, 3)) (kk : W p l e R s m args below meth c H locs cells slots Q (F0 m (pc + 3) ls (.int (mem 44 6) :: rest))) : W p l e R s m args below meth c H locs cells slots Q (F0 m pc ls (.ref (zr G 44) :: rest)) := z_get C Z (k := 44) (by decide) rfl rfl inZX5 6 (by decide) lkF_X5_95 rfl rfl hdg kk
theorem zg_X5_22 (C : zC A G p s m args c cc nL RX5) (Z : zH A G s mem H locs) (hdg : decode cc pc = .ok (.getfield 22, 3)) (kk : W p l e R s m args below meth c H locs cells slots Q (F0 m (pc + 3) ls (.ref (zr G 49) :: rest))) : W p l e R s m args below meth c H locs cells slots Q (F0 m pc ls (.ref (zr G 44) :: rest)) := z_get C Z (k := 44) (by decide) rfl rfl inZX5 5 (by decide) lkF_X5_22 rfl rfl hdg kk
theorem zcw_X5_132 (hts : ∀ w ∈ zT, w.before args s = true) (hR : 4 + 1 ≤ R.frames ∧ 8 + (1 + 11) + 88 ≤ R.locals) : CallW R s args RX5 RX5 132 yX5_isLevel cX5_isLevel 1 (some .boolean) (Cond.code yX5_isLevel cX5_isLevel 1 (some .boolean) :: zT) ({ frames := 4, cells := 0, slots := 0, locals := 88 } : Room) 0 0 0 := cwV 0 hts (zGoodV lkM_X5_132 lkI_X5_isLevel lkV_X5_isLevel lkN_X5 lkC_X5_isLevel) rfl rfl rfl (by decide +kernel) hR
theorem zcw_X5_135 (hts : ∀ w ∈ zT, w.before args s = true) (hR : 0 + 1 ≤ R.frames ∧ 8 + (2 + 11) + 0 ≤ R.locals) : CallW R s args RX5 RX5 135 yX5_keeps cX5_keeps 2 none (Cond.code yX5_keeps cX5_keeps 2 none :: zT) ({ frames := 0, cells := 0, slots := 0, locals := 0 } : Room) 0 0 0 := cwV 0 hts (zGoodV lkM_X5_135 lkI_X5_keeps lkV_X5_keeps lkN_X5 lkC_X5_keeps) rfl rfl rfl (by decide +kernel) hR
theorem zg_X5_25 (C : zC A G p s m args c cc nL RX5) (Z : zH A G s mem H locs) (hdg : decode cc pc = .ok (.getfield 25, 3)) (kk : W p l e R s m args below meth c H locs cells slots Q (F0 m (pc + 3) ls (.ref (zr G 50) :: rest))) : W p l e R s m args below meth c H locs cells slots Q (F0 m pc ls (.ref (zr G 44) :: rest)) := z_get C Z (k := 44) (by decide) rfl rfl inZX5 7 (by decide) lkF_X5_25 rfl rfl hdg kk
theorem zcw_X5_141 (hts : ∀ w ∈ zT, w.before args s = true) (hR : 0 + 1 ≤ R.frames ∧ 8 + (4 + 11) + 0 ≤ R.locals) : CallW R s args RX5 RX5 141 yX5_minutesOf cX5_minutesOf 4 (some .int) (Cond.code yX5_minutesOf cX5_minutesOf 4 (some .int) :: zT) ({ frames := 0, cells := 0, slots := 0, locals := 0 } : Room) 0 0 1 := cwV 1 hts (zGoodV lkM_X5_141 lkI_X5_minutesOf lkV_X5_minutesOf lkN_X5 lkC_X5_minutesOf) rfl rfl rfl (by decide +kernel) hR
theorem zcw_X5_138 (hts : ∀ w ∈ zT, w.before args s = true) (hR : 4 + 1 ≤ R.frames ∧ 8 + (3 + 11) + 88 ≤ R.locals) : CallW R s args RX5 RX5 138 yX5_would cX5_would 3 (some .boolean) (Cond.code yX5_would cX5_would 3 (some .boolean) :: zT) ({ frames := 4, cells := 0, slots := 0, locals := 88 } : Room) 0 0 2 := cwV 2 hts (zGoodV lkM_X5_138 lkI_X5_would lkV_X5_would lkN_X5 lkC_X5_would) rfl rfl rfl (by decide +kernel) hR
theorem zcw_X5_144 (hts : ∀ w ∈ zT, w.before args s = true) (hR : 0 + 1 ≤ R.frames ∧ 8 + (3 + 11) + 0 ≤ R.locals) : CallB R s args RX5 144 yX5_ones cX5_ones 3 (some .int) (Cond.code yX5_ones cX5_ones 3 (some .int) :: zT) ({ frames := 0, cells := 0, slots := 0, locals := 0 } : Room) 0 0 1 ∧ (Cond.static yX5_ones).before args s = true := va_cwS 1 hts (zGoodS lkM_X5_144 lkS_X5_ones lkN_X5 lkC_X5_ones) rfl rfl rfl (by decide +kernel) hR
theorem zcw_X5_147 (hts : ∀ w ∈ zT, w.before args s = true) (hR : 1 + 1 ≤ R.frames ∧ 8 + (2 + 11) + 22 ≤ R.locals) : CallW R s args RX5 RX5 147 yX5_isSet cX5_isSet 2 (some .boolean) (Cond.code yX5_isSet cX5_isSet 2 (some .boolean) :: zT) ({ frames := 1, cells := 0, slots := 0, locals := 22 } : Room) 0 0 1 := cwV 1 hts (zGoodV lkM_X5_147 lkI_X5_isSet lkV_X5_isSet lkN_X5 lkC_X5_isSet) rfl rfl rfl (by decide +kernel) hR
theorem zg_X5_98 (C : zC A G p s m args c cc nL RX5) (Z : zH A G s mem H locs) (hdg : decode cc pc = .ok (.getfield 98, 3)) (kk : W p l e R s m args below meth c H locs cells slots Q (F0 m (pc + 3) ls (.int (mem 44 10) :: rest))) : W p l e R s m args below meth c H locs cells slots Q (F0 m pc ls (.ref (zr G 44) :: rest)) := z_get C Z (k := 44) (by decide) rfl rfl inZX5 10 (by decide) lkF_X5_98 rfl rfl hdg kk
theorem zg_X5_32 (C : zC A G p s m args c cc nL RX5) (Z : zH A G s mem H locs) (hdg : decode cc pc = .ok (.getfield 32, 3)) (kk : W p l e R s m args below meth c H locs cells slots Q (F0 m (pc + 3) ls (.ref (zr G 52) :: rest))) : W p l e R s m args below meth c H locs cells slots Q (F0 m pc ls (.ref (zr G 44) :: rest)) := z_get C Z (k := 44) (by decide) rfl rfl inZX5 9 (by decide) lkF_X5_32 rfl rfl hdg kk
theorem zg_X5_101 (C : zC A G p s m args c cc nL RX5) (Z : zH A G s mem H locs) (hdg : decode cc pc = .ok (.getfield 101, 3)) (kk : W p l e R s m args below meth c H locs cells slots Q (F0 m (pc + 3) ls (.int (mem 44 12) :: rest))) : W p l e R s m args below meth c H locs cells slots Q (F0 m pc ls (.ref (zr G 44) :: rest)) := z_get C Z (k := 44) (by decide) rfl rfl inZX5 12 (by decide) lkF_X5_101 rfl rfl hdg kk
theorem zg_X5_35 (C : zC A G p s m args c cc nL RX5) (Z : zH A G s mem H locs) (hdg : decode cc pc = .ok (.getfield 35, 3)) (kk : W p l e R s m args below meth c H locs cells slots Q (F0 m (pc + 3) ls (.ref (zr G 53) :: rest))) : W p l e R s m args below meth c H locs cells slots Q (F0 m pc ls (.ref (zr G 44) :: rest)) := z_get C Z (k := 44) (by decide) rfl rfl inZX5 11 (by decide) lkF_X5_35 rfl rfl hdg kk
end ZL
end
section
def f_X0_addSeen (N : Nat) (mem : zMem) (a1 : Int32) (a2 : Int32) (a3 : Int32) : Option (Int32 × zMem) :=
    (if (mem 36 7) < (6 : Int32) then
    zgd (zin (mem 36 7) 6) (zgd (zin ((wr mem 37 (mem 36 7).toNatClampNeg a1) 36 7) 6) (zgd (zin ((wr (wr mem 37 (mem 36 7).toNatClampNeg a1) 38 ((wr mem 37 (mem 36 7).toNatClampNeg a1) 36 7).toNatClampNeg a2) 36 7) 6) (some ((1 : Int32), (wr (wr (wr (wr mem 37 (mem 36 7).toNatClampNeg a1) 38 ((wr mem 37 (mem 36 7).toNatClampNeg a1) 36 7).toNatClampNeg a2) 39 ((wr (wr mem 37 (mem 36 7).toNatClampNeg a1) 38 ((wr mem 37 (mem 36 7).toNatClampNeg a1) 36 7).toNatClampNeg a2) 36 7).toNatClampNeg a3) 36 7 (((wr (wr (wr mem 37 (mem 36 7).toNatClampNeg a1) 38 ((wr mem 37 (mem 36 7).toNatClampNeg a1) 36 7).toNatClampNeg a2) 39 ((wr (wr mem 37 (mem 36 7).toNatClampNeg a1) 38 ((wr mem 37 (mem 36 7).toNatClampNeg a1) 36 7).toNatClampNeg a2) 36 7).toNatClampNeg a3) 36 7) + (1 : Int32)))))))
    else
    some ((0 : Int32), mem))
def f_X0_addHeard (N : Nat) (mem : zMem) (a1 : Int32) (a2 : Int32) (a3 : Int32) (a4 : Int32) : Option (Int32 × zMem) :=
    (if (mem 36 8) < (6 : Int32) then
    zgd (zin (mem 36 8) 6) (zgd (zin ((wr mem 40 (mem 36 8).toNatClampNeg a1) 36 8) 6) (zgd (zin ((wr (wr mem 40 (mem 36 8).toNatClampNeg a1) 41 ((wr mem 40 (mem 36 8).toNatClampNeg a1) 36 8).toNatClampNeg a2) 36 8) 6) (zgd (zin ((wr (wr (wr mem 40 (mem 36 8).toNatClampNeg a1) 41 ((wr mem 40 (mem 36 8).toNatClampNeg a1) 36 8).toNatClampNeg a2) 43 ((wr (wr mem 40 (mem 36 8).toNatClampNeg a1) 41 ((wr mem 40 (mem 36 8).toNatClampNeg a1) 36 8).toNatClampNeg a2) 36 8).toNatClampNeg (vp_nar .boolean a3)) 36 8) 6) (some ((1 : Int32), (wr (wr (wr (wr (wr mem 40 (mem 36 8).toNatClampNeg a1) 41 ((wr mem 40 (mem 36 8).toNatClampNeg a1) 36 8).toNatClampNeg a2) 43 ((wr (wr mem 40 (mem 36 8).toNatClampNeg a1) 41 ((wr mem 40 (mem 36 8).toNatClampNeg a1) 36 8).toNatClampNeg a2) 36 8).toNatClampNeg (vp_nar .boolean a3)) 42 ((wr (wr (wr mem 40 (mem 36 8).toNatClampNeg a1) 41 ((wr mem 40 (mem 36 8).toNatClampNeg a1) 36 8).toNatClampNeg a2) 43 ((wr (wr mem 40 (mem 36 8).toNatClampNeg a1) 41 ((wr mem 40 (mem 36 8).toNatClampNeg a1) 36 8).toNatClampNeg a2) 36 8).toNatClampNeg (vp_nar .boolean a3)) 36 8).toNatClampNeg a4) 36 8 (((wr (wr (wr (wr mem 40 (mem 36 8).toNatClampNeg a1) 41 ((wr mem 40 (mem 36 8).toNatClampNeg a1) 36 8).toNatClampNeg a2) 43 ((wr (wr mem 40 (mem 36 8).toNatClampNeg a1) 41 ((wr mem 40 (mem 36 8).toNatClampNeg a1) 36 8).toNatClampNeg a2) 36 8).toNatClampNeg (vp_nar .boolean a3)) 42 ((wr (wr (wr mem 40 (mem 36 8).toNatClampNeg a1) 41 ((wr mem 40 (mem 36 8).toNatClampNeg a1) 36 8).toNatClampNeg a2) 43 ((wr (wr mem 40 (mem 36 8).toNatClampNeg a1) 41 ((wr mem 40 (mem 36 8).toNatClampNeg a1) 36 8).toNatClampNeg a2) 36 8).toNatClampNeg (vp_nar .boolean a3)) 36 8).toNatClampNeg a4) 36 8) + (1 : Int32))))))))
    else
    some ((0 : Int32), mem))
def f_X0_clear (N : Nat) (mem : zMem) : Option (Unit × zMem) :=
    some ((), (wr (wr mem 36 7 (0 : Int32)) 36 8 (0 : Int32)))
def f_X1_beginAsAtFirst (N : Nat) (mem : zMem) : Option (Unit × zMem) :=
    some ((), (wr (wr (wr (wr (wr mem 6 4 (0 : Int32)) 6 5 (0 : Int32)) 6 6 (0 : Int32)) 6 7 (1 : Int32)) 6 8 (0 : Int32)))
def f_X1_addPart (N : Nat) (mem : zMem) (a1 : Int32) (a2 : Int32) (a3 : Int32) : Option (Unit × zMem) :=
    (if (8 : Int32) ≤ (mem 6 4) then
    some ((), mem)
    else
    zgd (zin (mem 6 4) 8) (zgd (zin ((wr mem 7 (mem 6 4).toNatClampNeg a1) 6 4) 8) (zgd (zin ((wr (wr mem 7 (mem 6 4).toNatClampNeg a1) 8 ((wr mem 7 (mem 6 4).toNatClampNeg a1) 6 4).toNatClampNeg a2) 6 4) 8) (some ((), (wr (wr (wr (wr mem 7 (mem 6 4).toNatClampNeg a1) 8 ((wr mem 7 (mem 6 4).toNatClampNeg a1) 6 4).toNatClampNeg a2) 9 ((wr (wr mem 7 (mem 6 4).toNatClampNeg a1) 8 ((wr mem 7 (mem 6 4).toNatClampNeg a1) 6 4).toNatClampNeg a2) 6 4).toNatClampNeg a3) 6 4 (((wr (wr (wr mem 7 (mem 6 4).toNatClampNeg a1) 8 ((wr mem 7 (mem 6 4).toNatClampNeg a1) 6 4).toNatClampNeg a2) 9 ((wr (wr mem 7 (mem 6 4).toNatClampNeg a1) 8 ((wr mem 7 (mem 6 4).toNatClampNeg a1) 6 4).toNatClampNeg a2) 6 4).toNatClampNeg a3) 6 4) + (1 : Int32))))))))
def f_X1_addSoul (N : Nat) (mem : zMem) (a1 : Int32) : Option (Unit × zMem) :=
    (if (6 : Int32) ≤ (mem 6 5) then
    some ((), mem)
    else
    zgd (zin (mem 6 5) 6) (some ((), (wr (wr mem 10 (mem 6 5).toNatClampNeg a1) 6 5 (((wr mem 10 (mem 6 5).toNatClampNeg a1) 6 5) + (1 : Int32))))))
def f_X1_tell (N : Nat) (mem : zMem) (a1 : Int32) (a2 : Int32) (a3 : Int32) : Option (Unit × zMem) :=
    (if a1 = 0 then
    zb (f_X1_beginAsAtFirst N mem) (fun _ mem17 =>
    some ((), mem17))
    else
(if a1 = 1 then
    zb (f_X1_addPart N mem (0 : Int32) a2 a3) (fun _ mem19 =>
    some ((), mem19))
    else
(if a1 = 2 then
    zb (f_X1_addPart N mem (1 : Int32) a2 a3) (fun _ mem21 =>
    some ((), mem21))
    else
(if a1 = 3 then
    zb (f_X1_addPart N mem (2 : Int32) a2 a3) (fun _ mem23 =>
    some ((), mem23))
    else
(if a1 = 4 then
    zb (f_X1_addPart N mem (3 : Int32) a2 a3) (fun _ mem25 =>
    some ((), mem25))
    else
(if a1 = 5 then
    zb (f_X1_addSoul N mem a2) (fun _ mem27 =>
    some ((), mem27))
    else
(if a1 = 6 then
    some ((), (wr mem 6 6 a2))
    else
(if a1 = 7 then
    some ((), (wr mem 6 7 a2))
    else
(if a1 = 8 then
    some ((), (wr mem 6 8 a2))
    else
    some ((), mem))))))))))
def f_X4_isIn (N : Nat) (mem : zMem) (a1 : Int32) (a2 : Int32) : Option (Int32 × zMem) :=
    (if ((a2 >>> (a1 &&& 31)) &&& (1 : Int32)) = (1 : Int32) then
    some ((1 : Int32), mem)
    else
    some ((0 : Int32), mem))
def f_X4_ouncesOf (N : Nat) (mem : zMem) (a1 : Int32) (a2 : Int32) (a3 : Int32) : Option (Int32 × zMem) :=
    (if a1 = 1 then
    some ((a2 + a3), mem)
    else
(if a1 = 2 then
    some ((a2 / (2 : Int32)), mem)
    else
(if a1 = 3 then
    some ((0 : Int32), mem)
    else
    some (a2, mem))))
def f_X1_ouncesOfSet_5 (N : Nat) : Nat → zMem → Int32 → Int32 → Int32 → Int32 → Option (Int32 × zMem)
  | 0, _, _, _, _, _ => none
  | n + 1, mem, x1, x2, x3, x4 =>
    (if (mem 6 4) ≤ x4 then
    some (x3, mem)
    else
    zb (f_X4_isIn N mem x4 x1) (fun r36 mem36 =>
    (if r36 = 0 then
    f_X1_ouncesOfSet_5 N n mem36 x1 x2 x3 (x4 + 1)
    else
    zgd (zin x4 8) (zgd (zin x4 8) (zb (f_X4_ouncesOf N mem36 (mem36 7 x4.toNatClampNeg) (mem36 8 x4.toNatClampNeg) x2) (fun r40 mem40 =>
    f_X1_ouncesOfSet_5 N n mem40 x1 x2 (x3 + r40) (x4 + 1)))))))
def f_X1_ouncesOfSet (N : Nat) (mem : zMem) (a1 : Int32) (a2 : Int32) : Option (Int32 × zMem) :=
    f_X1_ouncesOfSet_5 N N mem a1 a2 (0 : Int32) (0 : Int32)
def f_X1_minutesOf_4 (N : Nat) : Nat → zMem → Int32 → Int32 → Int32 → Option (Int32 × zMem)
  | 0, _, _, _, _ => none
  | n + 1, mem, x1, x2, x3 =>
    (if (mem 6 4) ≤ x3 then
    some (x2, mem)
    else
    zb (f_X4_isIn N mem x3 x1) (fun r42 mem42 =>
    (if r42 = 0 then
    f_X1_minutesOf_4 N n mem42 x1 x2 (x3 + 1)
    else
    zgd (zin x3 8) (f_X1_minutesOf_4 N n mem42 x1 (x2 + (mem42 9 x3.toNatClampNeg)) (x3 + 1)))))
def f_X1_minutesOf (N : Nat) (mem : zMem) (a1 : Int32) : Option (Int32 × zMem) :=
    f_X1_minutesOf_4 N N mem a1 (0 : Int32) (0 : Int32)
def f_X2_add (N : Nat) (mem : zMem) (a1 : Int32) : Option (Int32 × zMem) :=
    (if (mem 1 4) < (160 : Int32) then
    zgd (zin (mem 1 4) 160) (some ((1 : Int32), (wr (wr mem 2 (mem 1 4).toNatClampNeg a1) 1 4 (((wr mem 2 (mem 1 4).toNatClampNeg a1) 1 4) + (1 : Int32)))))
    else
    some ((0 : Int32), mem))
def f_X4_isWithin (N : Nat) (mem : zMem) (a1 : Int32) (a2 : Int32) (a3 : Int32) : Option (Int32 × zMem) :=
    (if a1 < a2 then
    some ((0 : Int32), mem)
    else
    (if a3 < a1 then
    some ((0 : Int32), mem)
    else
    some ((1 : Int32), mem)))
def f_X2_endOfRow_3 (N : Nat) : Nat → zMem → Int32 → Int32 → Int32 → Option (Int32 × zMem)
  | 0, _, _, _, _ => none
  | n + 1, mem, x2, x3, x4 =>
    (if (mem 1 4) ≤ x4 then
    some (x4, mem)
    else
    zgd (zin x4 160) (zb (f_X4_isWithin N mem (mem 2 x4.toNatClampNeg) x2 x3) (fun r51 mem51 =>
    (if r51 = 0 then
    some (x4, mem51)
    else
    f_X2_endOfRow_3 N n mem51 x2 x3 (x4 + 1)))))
def f_X2_endOfRow (N : Nat) (mem : zMem) (a1 : Int32) (a2 : Int32) (a3 : Int32) : Option (Int32 × zMem) :=
    f_X2_endOfRow_3 N N mem a2 a3 a1
def f_X2_nextToken_59 (N : Nat) (mem : zMem) : Option (Unit × zMem) :=
    (if (mem 1 7) = (mem 1 6) then
    (if (mem 1 4) ≤ (mem 1 6) then
    some ((), mem)
    else
    some ((), (wr mem 1 7 ((mem 1 7) + (1 : Int32)))))
    else
    some ((), mem))
def f_X2_nextToken (N : Nat) (mem : zMem) : Option (Unit × zMem) :=
    zb (f_X2_endOfRow N mem (mem 1 7) (32 : Int32) (32 : Int32)) (fun r55 mem55 =>
    zb (f_X2_endOfRow N (wr mem55 1 6 r55) ((wr mem55 1 6 r55) 1 6) (97 : Int32) (122 : Int32)) (fun r56 mem56 =>
    (if ((wr mem56 1 7 r56) 1 7) = ((wr mem56 1 7 r56) 1 6) then
    zb (f_X2_endOfRow N (wr mem56 1 7 r56) ((wr mem56 1 7 r56) 1 6) (48 : Int32) (57 : Int32)) (fun r58 mem58 =>
    f_X2_nextToken_59 N (wr mem58 1 7 r58))
    else
    f_X2_nextToken_59 N (wr mem56 1 7 r56))))
def f_X2_nameOf (N : Nat) (mem : zMem) (a1 : Int32) : Option (Nat × zMem) :=
    (if a1 = 0 then
    some (0, mem)
    else
(if a1 = 1 then
    some (1, mem)
    else
(if a1 = 2 then
    some (2, mem)
    else
(if a1 = 3 then
    some (3, mem)
    else
(if a1 = 4 then
    some (4, mem)
    else
(if a1 = 5 then
    some (5, mem)
    else
(if a1 = 6 then
    some (6, mem)
    else
(if a1 = 7 then
    some (7, mem)
    else
    some (8, mem)))))))))
def f_X2_tokenIs_20 (N : Nat) (t : Nat) : Nat → zMem → Int32 → Option (Int32 × zMem)
  | 0, _, _ => none
  | n + 1, mem, x2 =>
    zb (f_J0_length_8abf5 N t mem) (fun r67 mem67 =>
    (if r67 ≤ x2 then
    some ((1 : Int32), mem67)
    else
    zgd (zin ((mem67 1 6) + x2) 160) (zb (f_J0_charAt_5068e N t mem67 x2) (fun r70 mem70 =>
    (if (mem67 2 ((mem67 1 6) + x2).toNatClampNeg) = r70 then
    f_X2_tokenIs_20 N t n mem70 (x2 + 1)
    else
    some ((0 : Int32), mem70))))))
def f_X2_tokenIs (N : Nat) (t : Nat) (mem : zMem) : Option (Int32 × zMem) :=
    zb (f_J0_length_8abf5 N t mem) (fun r72 mem72 =>
    (if r72 = ((mem72 1 7) - (mem72 1 6)) then
    f_X2_tokenIs_20 N t N mem72 (0 : Int32)
    else
    some ((0 : Int32), mem72)))
def f_X2_tokenWord_2 (N : Nat) : Nat → zMem → Int32 → Option (Int32 × zMem)
  | 0, _, _ => none
  | n + 1, mem, x1 =>
    (if (8 : Int32) < x1 then
    some ((-1 : Int32), mem)
    else
    zb (f_X2_nameOf N mem x1) (fun r75 mem75 =>
    zb (f_X2_tokenIs N r75 mem75) (fun r76 mem76 =>
    (if r76 = 0 then
    f_X2_tokenWord_2 N n mem76 (x1 + 1)
    else
    some (x1, mem76)))))
def f_X2_tokenWord (N : Nat) (mem : zMem) : Option (Int32 × zMem) :=
    f_X2_tokenWord_2 N N mem (0 : Int32)
def f_X2_isOfPart (N : Nat) (mem : zMem) (a1 : Int32) : Option (Int32 × zMem) :=
    zb (f_X4_isWithin N mem a1 (1 : Int32) (4 : Int32)) (fun r78 mem78 =>
    zgd (zbo r78) (some (r78, mem78)))
def f_X2_countPartsAndSouls (N : Nat) (mem : zMem) (a1 : Int32) : Option (Unit × zMem) :=
    (if a1 = 0 then
    some ((), (wr (wr mem 1 8 (0 : Int32)) 1 9 (0 : Int32)))
    else
    (if a1 = (5 : Int32) then
    some ((), (wr mem 1 9 ((mem 1 9) + (1 : Int32))))
    else
    zb (f_X2_isOfPart N mem a1) (fun r82 mem82 =>
    (if r82 = 0 then
    some ((), mem82)
    else
    some ((), (wr mem82 1 8 ((mem82 1 8) + (1 : Int32))))))))
def f_X2_tokenNumber_48 (N : Nat) : Nat → zMem → Int32 → Int32 → Option (Int32 × zMem)
  | 0, _, _, _ => none
  | n + 1, mem, x2, x3 =>
    (if (mem 1 7) ≤ x3 then
    some (x2, mem)
    else
    zgd (zin x3 160) (f_X2_tokenNumber_48 N n mem (((x2 * (10 : Int32)) + (mem 2 x3.toNatClampNeg)) - (48 : Int32)) (x3 + 1)))
def f_X2_tokenNumber (N : Nat) (mem : zMem) : Option (Int32 × zMem) :=
    (if ((mem 1 7) - (mem 1 6)) < (1 : Int32) then
    some ((-1 : Int32), mem)
    else
    (if (2 : Int32) < ((mem 1 7) - (mem 1 6)) then
    some ((-1 : Int32), mem)
    else
    zgd (zin (mem 1 6) 160) (zb (f_X4_isWithin N mem (mem 2 (mem 1 6).toNatClampNeg) (48 : Int32) (57 : Int32)) (fun r89 mem89 =>
    (if r89 = 0 then
    some ((-1 : Int32), mem89)
    else
    f_X2_tokenNumber_48 N N mem89 (0 : Int32) (mem89 1 6))))))
def f_X2_mostFirst (N : Nat) (mem : zMem) (a1 : Int32) : Option (Int32 × zMem) :=
    (if a1 = 5 then
    some ((40 : Int32), mem)
    else
(if a1 = 6 then
    some ((9 : Int32), mem)
    else
(if a1 = 7 then
    some ((5 : Int32), mem)
    else
(if a1 = 8 then
    some ((9 : Int32), mem)
    else
    some ((20 : Int32), mem)))))
def f_X2_readClause (N : Nat) (mem : zMem) (a1 : Int32) : Option (Int32 × zMem) :=
    zb (f_X2_nextToken N mem) (fun _ mem95 =>
    zb (f_X2_tokenWord N mem95) (fun r96 mem96 =>
    zgd (zin a1 14) (zgd (zin a1 14) (zgd (zin a1 14) ((if r96 = (-1 : Int32) then
    some ((0 : Int32), (wr (wr (wr mem96 3 a1.toNatClampNeg r96) 4 a1.toNatClampNeg (0 : Int32)) 5 a1.toNatClampNeg (0 : Int32)))
    else
    zb (f_X2_countPartsAndSouls N (wr (wr (wr mem96 3 a1.toNatClampNeg r96) 4 a1.toNatClampNeg (0 : Int32)) 5 a1.toNatClampNeg (0 : Int32)) r96) (fun _ mem101 =>
    (if (8 : Int32) < (mem101 1 8) then
    some ((0 : Int32), mem101)
    else
    (if (mem101 1 9) ≤ (6 : Int32) then
    (if r96 = 0 then
    some ((1 : Int32), mem101)
    else
    zb (f_X2_nextToken N mem101) (fun _ mem105 =>
    zb (f_X2_tokenNumber N mem105) (fun r106 mem106 =>
    zgd (zin a1 14) (zgd (zin a1 14) (zb (f_X2_mostFirst N (wr mem106 4 a1.toNatClampNeg r106) r96) (fun r109 mem109 =>
    zb (f_X4_isWithin N mem109 ((wr mem106 4 a1.toNatClampNeg r106) 4 a1.toNatClampNeg) (0 : Int32) r109) (fun r110 mem110 =>
    (if r110 = 0 then
    some ((0 : Int32), mem110)
    else
    zb (f_X2_isOfPart N mem110 r96) (fun r112 mem112 =>
    (if r112 = 0 then
    some ((1 : Int32), mem112)
    else
    zb (f_X2_nextToken N mem112) (fun _ mem114 =>
    zb (f_X2_tokenNumber N mem114) (fun r115 mem115 =>
    zgd (zin a1 14) (zgd (zin a1 14) (zb (f_X4_isWithin N (wr mem115 5 a1.toNatClampNeg r115) ((wr mem115 5 a1.toNatClampNeg r115) 5 a1.toNatClampNeg) (1 : Int32) (30 : Int32)) (fun r118 mem118 =>
    zgd (zbo r118) (some (r118, mem118)))))))))))))))))
    else
    some ((0 : Int32), mem101))))))))))
def f_X2_firstFault_22 (N : Nat) : Nat → zMem → Int32 → Option (Int32 × zMem)
  | 0, _, _ => none
  | n + 1, mem, x3 =>
    (if (14 : Int32) ≤ x3 then
    some ((mem 1 6), mem)
    else
    zb (f_X2_readClause N mem x3) (fun r121 mem121 =>
    (if r121 = 0 then
    some ((mem121 1 6), mem121)
    else
    zb (f_X2_nextToken N (wr mem121 1 5 (x3 + (1 : Int32)))) (fun _ mem123 =>
    (if (mem123 1 6) < (mem123 1 4) then
    zgd (zin (mem123 1 6) 160) ((if (mem123 2 (mem123 1 6).toNatClampNeg) = (59 : Int32) then
    f_X2_firstFault_22 N n mem123 (x3 + 1)
    else
    some ((mem123 1 6), mem123)))
    else
    some ((-1 : Int32), mem123))))))
def f_X2_firstFault (N : Nat) (mem : zMem) (a1 : Int32) (a2 : Int32) : Option (Int32 × zMem) :=
    f_X2_firstFault_22 N N (wr (wr (wr (wr mem 1 8 a1) 1 9 a2) 1 7 (0 : Int32)) 1 5 (0 : Int32)) (0 : Int32)
def f_X3_beginAsTold (N : Nat) (w : Nat) (mem : zMem) : Option (Unit × zMem) :=
    some ((), (wr (wr (wr (wr (wr (wr (cpy6 mem 10 (w + 1)) w 1 (0 : Int32)) w 2 (0 : Int32)) w 3 ((wr (wr (cpy6 mem 10 (w + 1)) w 1 (0 : Int32)) w 2 (0 : Int32)) 6 8)) w 4 (0 : Int32)) w 5 (0 : Int32)) w 6 (0 : Int32)))
def f_X3_end_2 (N : Nat) (w : Nat) : Nat → zMem → Int32 → Int32 → Option (Unit × zMem)
  | 0, _, _, _ => none
  | n + 1, mem, x1, x2 =>
    (if (6 : Int32) ≤ x2 then
    (if x1 = 0 then
    some ((), (wr (wr (wr (wr mem w 1 (0 : Int32)) w 2 (0 : Int32)) w 4 (((wr (wr mem w 1 (0 : Int32)) w 2 (0 : Int32)) w 4) + (1 : Int32))) w 6 (((wr (wr (wr mem w 1 (0 : Int32)) w 2 (0 : Int32)) w 4 (((wr (wr mem w 1 (0 : Int32)) w 2 (0 : Int32)) w 4) + (1 : Int32))) w 6) + (0 : Int32))))
    else
    some ((), (wr (wr (wr (wr mem w 1 (0 : Int32)) w 2 (0 : Int32)) w 4 (((wr (wr mem w 1 (0 : Int32)) w 2 (0 : Int32)) w 4) + (1 : Int32))) w 6 (((wr (wr (wr mem w 1 (0 : Int32)) w 2 (0 : Int32)) w 4 (((wr (wr mem w 1 (0 : Int32)) w 2 (0 : Int32)) w 4) + (1 : Int32))) w 6) + (1 : Int32)))))
    else
    (if x1 = 0 then
    zgd (zin x2 6) (zgd (zin x2 6) (f_X3_end_2 N w n (wr mem (w + 1) x2.toNatClampNeg ((mem (w + 1) x2.toNatClampNeg) / (2 : Int32))) x1 (x2 + 1)))
    else
    zgd (zin x2 6) (f_X3_end_2 N w n (wr mem (w + 1) x2.toNatClampNeg (0 : Int32)) x1 (x2 + 1))))
def f_X3_end (N : Nat) (w : Nat) (mem : zMem) (a1 : Int32) : Option (Unit × zMem) :=
    f_X3_end_2 N w N mem a1 (0 : Int32)
def f_X3_becomeLike (N : Nat) (w : Nat) (o : Nat) (mem : zMem) : Option (Unit × zMem) :=
    some ((), (wr (wr (wr (wr (wr (wr (cpy6 mem (o + 1) (w + 1)) w 1 ((cpy6 mem (o + 1) (w + 1)) o 1)) w 2 ((wr (cpy6 mem (o + 1) (w + 1)) w 1 ((cpy6 mem (o + 1) (w + 1)) o 1)) o 2)) w 3 ((wr (wr (cpy6 mem (o + 1) (w + 1)) w 1 ((cpy6 mem (o + 1) (w + 1)) o 1)) w 2 ((wr (cpy6 mem (o + 1) (w + 1)) w 1 ((cpy6 mem (o + 1) (w + 1)) o 1)) o 2)) o 3)) w 4 ((wr (wr (wr (cpy6 mem (o + 1) (w + 1)) w 1 ((cpy6 mem (o + 1) (w + 1)) o 1)) w 2 ((wr (cpy6 mem (o + 1) (w + 1)) w 1 ((cpy6 mem (o + 1) (w + 1)) o 1)) o 2)) w 3 ((wr (wr (cpy6 mem (o + 1) (w + 1)) w 1 ((cpy6 mem (o + 1) (w + 1)) o 1)) w 2 ((wr (cpy6 mem (o + 1) (w + 1)) w 1 ((cpy6 mem (o + 1) (w + 1)) o 1)) o 2)) o 3)) o 4)) w 5 ((wr (wr (wr (wr (cpy6 mem (o + 1) (w + 1)) w 1 ((cpy6 mem (o + 1) (w + 1)) o 1)) w 2 ((wr (cpy6 mem (o + 1) (w + 1)) w 1 ((cpy6 mem (o + 1) (w + 1)) o 1)) o 2)) w 3 ((wr (wr (cpy6 mem (o + 1) (w + 1)) w 1 ((cpy6 mem (o + 1) (w + 1)) o 1)) w 2 ((wr (cpy6 mem (o + 1) (w + 1)) w 1 ((cpy6 mem (o + 1) (w + 1)) o 1)) o 2)) o 3)) w 4 ((wr (wr (wr (cpy6 mem (o + 1) (w + 1)) w 1 ((cpy6 mem (o + 1) (w + 1)) o 1)) w 2 ((wr (cpy6 mem (o + 1) (w + 1)) w 1 ((cpy6 mem (o + 1) (w + 1)) o 1)) o 2)) w 3 ((wr (wr (cpy6 mem (o + 1) (w + 1)) w 1 ((cpy6 mem (o + 1) (w + 1)) o 1)) w 2 ((wr (cpy6 mem (o + 1) (w + 1)) w 1 ((cpy6 mem (o + 1) (w + 1)) o 1)) o 2)) o 3)) o 4)) o 5)) w 6 ((wr (wr (wr (wr (wr (cpy6 mem (o + 1) (w + 1)) w 1 ((cpy6 mem (o + 1) (w + 1)) o 1)) w 2 ((wr (cpy6 mem (o + 1) (w + 1)) w 1 ((cpy6 mem (o + 1) (w + 1)) o 1)) o 2)) w 3 ((wr (wr (cpy6 mem (o + 1) (w + 1)) w 1 ((cpy6 mem (o + 1) (w + 1)) o 1)) w 2 ((wr (cpy6 mem (o + 1) (w + 1)) w 1 ((cpy6 mem (o + 1) (w + 1)) o 1)) o 2)) o 3)) w 4 ((wr (wr (wr (cpy6 mem (o + 1) (w + 1)) w 1 ((cpy6 mem (o + 1) (w + 1)) o 1)) w 2 ((wr (cpy6 mem (o + 1) (w + 1)) w 1 ((cpy6 mem (o + 1) (w + 1)) o 1)) o 2)) w 3 ((wr (wr (cpy6 mem (o + 1) (w + 1)) w 1 ((cpy6 mem (o + 1) (w + 1)) o 1)) w 2 ((wr (cpy6 mem (o + 1) (w + 1)) w 1 ((cpy6 mem (o + 1) (w + 1)) o 1)) o 2)) o 3)) o 4)) w 5 ((wr (wr (wr (wr (cpy6 mem (o + 1) (w + 1)) w 1 ((cpy6 mem (o + 1) (w + 1)) o 1)) w 2 ((wr (cpy6 mem (o + 1) (w + 1)) w 1 ((cpy6 mem (o + 1) (w + 1)) o 1)) o 2)) w 3 ((wr (wr (cpy6 mem (o + 1) (w + 1)) w 1 ((cpy6 mem (o + 1) (w + 1)) o 1)) w 2 ((wr (cpy6 mem (o + 1) (w + 1)) w 1 ((cpy6 mem (o + 1) (w + 1)) o 1)) o 2)) o 3)) w 4 ((wr (wr (wr (cpy6 mem (o + 1) (w + 1)) w 1 ((cpy6 mem (o + 1) (w + 1)) o 1)) w 2 ((wr (cpy6 mem (o + 1) (w + 1)) w 1 ((cpy6 mem (o + 1) (w + 1)) o 1)) o 2)) w 3 ((wr (wr (cpy6 mem (o + 1) (w + 1)) w 1 ((cpy6 mem (o + 1) (w + 1)) o 1)) w 2 ((wr (cpy6 mem (o + 1) (w + 1)) w 1 ((cpy6 mem (o + 1) (w + 1)) o 1)) o 2)) o 3)) o 4)) o 5)) o 6)))
def f_X4_write (N : Nat) (mem : zMem) (a1 : Int32) : Option (Int32 × zMem) :=
    zb (f_X4_isWithin N mem a1 (0 : Int32) (255 : Int32)) (fun r133 mem133 =>
    (if r133 = 0 then
    some ((-3 : Int32), mem133)
    else
    zb (f_X2_add N mem133 a1) (fun r135 mem135 =>
    (if r135 = 0 then
    some ((-5 : Int32), mem135)
    else
    some ((mem135 1 4), mem135)))))
def f_X4_erase (N : Nat) (mem : zMem) : Option (Int32 × zMem) :=
    some ((mem 1 4), (wr mem 1 4 (0 : Int32)))
def f_X4_fault (N : Nat) (mem : zMem) : Option (Int32 × zMem) :=
    zb (f_X2_firstFault N mem (mem 6 4) (mem 6 5)) (fun r137 mem137 =>
    some (r137, mem137))
def f_X4_beginAnew_20 (N : Nat) : Nat → zMem → Int32 → Option (Unit × zMem)
  | 0, _, _ => none
  | n + 1, mem, x1 =>
    (if (2 : Int32) ≤ x1 then
    some ((), (wr mem 0 7 (0 : Int32)))
    else
    zgd (zin x1 2) (f_X4_beginAnew_20 N n (wr mem 35 x1.toNatClampNeg (vp_nar .boolean (0 : Int32))) (x1 + 1)))
def f_X4_beginAnew (N : Nat) (mem : zMem) : Option (Unit × zMem) :=
    zb (f_X3_beginAsTold N 11 mem) (fun _ mem140 =>
    zb (f_X0_clear N mem140) (fun _ mem141 =>
    f_X4_beginAnew_20 N N mem141 (0 : Int32)))
def f_X4_kirk_38 (N : Nat) : Nat → zMem → Int32 → Int32 → Option (Int32 × zMem)
  | 0, _, _, _ => none
  | n + 1, mem, x1, x2 =>
    (if x1 ≤ x2 then
    zb (f_X4_beginAnew N (wr mem 1 4 (0 : Int32))) (fun _ mem143 =>
    some (x1, mem143))
    else
    zgd (zin x2 14) (zgd (zin x2 14) (zgd (zin x2 14) (zb (f_X1_tell N mem (mem 3 x2.toNatClampNeg) (mem 4 x2.toNatClampNeg) (mem 5 x2.toNatClampNeg)) (fun _ mem147 =>
    f_X4_kirk_38 N n mem147 x1 (x2 + 1))))))
def f_X4_kirk (N : Nat) (mem : zMem) : Option (Int32 × zMem) :=
    zb (f_X2_firstFault N mem (mem 6 4) (mem 6 5)) (fun r148 mem148 =>
    (if r148 = (-1 : Int32) then
    f_X4_kirk_38 N N mem148 (mem148 1 5) (0 : Int32)
    else
    some ((-4 : Int32), mem148)))
def f_X4_isPart (N : Nat) (mem : zMem) (a1 : Int32) : Option (Int32 × zMem) :=
    (if a1 < 0 then
    some ((0 : Int32), mem)
    else
    (if (mem 6 4) ≤ a1 then
    some ((0 : Int32), mem)
    else
    some ((1 : Int32), mem)))
def f_X4_part (N : Nat) (mem : zMem) (a1 : Int32) (a2 : Int32) : Option (Int32 × zMem) :=
    zb (f_X4_isPart N mem a1) (fun r152 mem152 =>
    (if r152 = 0 then
    some ((-2 : Int32), mem152)
    else
    (if a2 = 0 then
    zgd (zin a1 8) (some ((mem152 7 a1.toNatClampNeg), mem152))
    else
(if a2 = 1 then
    zgd (zin a1 8) (some ((mem152 8 a1.toNatClampNeg), mem152))
    else
(if a2 = 2 then
    zgd (zin a1 8) (some ((mem152 9 a1.toNatClampNeg), mem152))
    else
(if a2 = 3 then
    zgd (zin a1 8) (zgd (zin a1 8) (zb (f_X4_ouncesOf N mem152 (mem152 7 a1.toNatClampNeg) (mem152 8 a1.toNatClampNeg) (mem152 11 3)) (fun r163 mem163 =>
    some (r163, mem163))))
    else
(if a2 = 4 then
    zb (f_X4_isIn N mem152 a1 (mem152 11 1)) (fun r165 mem165 =>
    (if r165 = 0 then
    some ((0 : Int32), mem165)
    else
    some ((1 : Int32), mem165)))
    else
    some ((-3 : Int32), mem152))))))))
def f_X4_isSoul (N : Nat) (mem : zMem) (a1 : Int32) : Option (Int32 × zMem) :=
    (if a1 < 0 then
    some ((0 : Int32), mem)
    else
    (if (mem 6 5) ≤ a1 then
    some ((0 : Int32), mem)
    else
    some ((1 : Int32), mem)))
def f_X4_sins (N : Nat) (mem : zMem) (a1 : Int32) : Option (Int32 × zMem) :=
    zb (f_X4_isSoul N mem a1) (fun r169 mem169 =>
    (if r169 = 0 then
    some ((-2 : Int32), mem169)
    else
    zgd (zin a1 6) (some ((mem169 12 a1.toNatClampNeg), mem169))))
def f_X4_isTakenAs_25 (N : Nat) (mem : zMem) (x0 : Int32) (x1 : Int32) (x2 : Int32) (s0 : Int32) : Option (Int32 × zMem) :=
    (if x2 = 0 then
    (if s0 = 0 then
    (if x1 = (x0 + (1 : Int32)) then
    some ((1 : Int32), mem)
    else
    some ((0 : Int32), mem))
    else
    some ((1 : Int32), mem))
    else
    some ((1 : Int32), mem))
def f_X4_isTakenAs_24 (N : Nat) (mem : zMem) (x0 : Int32) (x1 : Int32) (x2 : Int32) : Option (Int32 × zMem) :=
    f_X4_isTakenAs_25 N mem x0 x1 x2 (0 : Int32)
def f_X4_isTakenAs_9 (N : Nat) (mem : zMem) (x0 : Int32) (x1 : Int32) (s0 : Int32) : Option (Int32 × zMem) :=
    (if x1 = (1 : Int32) then
    (if x0 = (3 : Int32) then
    f_X4_isTakenAs_24 N mem x0 x1 s0
    else
    f_X4_isTakenAs_25 N mem x0 x1 s0 (1 : Int32))
    else
    f_X4_isTakenAs_24 N mem x0 x1 s0)
def f_X4_isTakenAs (N : Nat) (mem : zMem) (a1 : Int32) (a2 : Int32) : Option (Int32 × zMem) :=
    (if a2 = 0 then
    f_X4_isTakenAs_9 N mem a1 a2 (1 : Int32)
    else
    f_X4_isTakenAs_9 N mem a1 a2 (0 : Int32))
def f_X4_as (N : Nat) (mem : zMem) (a1 : Int32) (a2 : Int32) : Option (Int32 × zMem) :=
    zb (f_X4_isPart N mem a1) (fun r178 mem178 =>
    (if r178 = 0 then
    some ((-2 : Int32), mem178)
    else
    zb (f_X4_isWithin N mem178 a2 (0 : Int32) (4 : Int32)) (fun r180 mem180 =>
    (if r180 = 0 then
    some ((-3 : Int32), mem180)
    else
    zgd (zin a1 8) (zb (f_X4_isTakenAs N mem180 (mem180 7 a1.toNatClampNeg) a2) (fun r183 mem183 =>
    (if r183 = 0 then
    some ((-4 : Int32), mem183)
    else
    zgd (zin a1 8) (zgd (zin a1 8) (zb (f_X4_ouncesOf N mem183 (mem183 7 a1.toNatClampNeg) (mem183 8 a1.toNatClampNeg) (9 : Int32)) (fun r187 mem187 =>
    some (r187, mem187)))))))))))
def f_X4_sermonOf (N : Nat) (mem : zMem) (a1 : Int32) : Option (Int32 × zMem) :=
    zb (f_X1_ouncesOfSet N mem a1 (mem 11 3)) (fun r188 mem188 =>
    some ((r188 + (mem188 6 6)), mem188))
def f_J9_max_7cf53 (N : Nat) (mem : zMem) (a1 : Int32) (a2 : Int32) : Option (Int32 × zMem) :=
    (if a1 < a2 then
    some (a2, mem)
    else
    some (a1, mem))
def f_X4_leadWithout_11 (N : Nat) : Nat → zMem → Int32 → Int32 → Int32 → Option (Int32 × zMem)
  | 0, _, _, _, _ => none
  | n + 1, mem, x1, x2, x3 =>
    (if (mem 6 5) ≤ x3 then
    zb (f_J9_max_7cf53 N mem x2 (0 : Int32)) (fun r191 mem191 =>
    some (r191, mem191))
    else
    zb (f_X4_isIn N mem x3 x1) (fun r192 mem192 =>
    (if r192 = 0 then
    zgd (zin x3 6) (f_X4_leadWithout_11 N n mem192 x1 (x2 + (mem192 12 x3.toNatClampNeg)) (x3 + 1))
    else
    f_X4_leadWithout_11 N n mem192 x1 x2 (x3 + 1))))
def f_X4_leadWithout (N : Nat) (mem : zMem) (a1 : Int32) : Option (Int32 × zMem) :=
    f_X4_leadWithout_11 N N mem a1 (-(mem 11 2)) (0 : Int32)
def f_X4_leadNow (N : Nat) (mem : zMem) : Option (Int32 × zMem) :=
    zb (f_X4_leadWithout N mem (0 : Int32)) (fun r195 mem195 =>
    some (r195, mem195))
def f_J9_abs_0f7a4 (N : Nat) (mem : zMem) (a1 : Int32) : Option (Int32 × zMem) :=
    (if 0 ≤ a1 then
    some (a1, mem)
    else
    some ((-a1), mem))
def f_X4_hangsLevel (N : Nat) (mem : zMem) (a1 : Int32) (a2 : Int32) : Option (Int32 × zMem) :=
    zb (f_J9_abs_0f7a4 N mem (a1 - a2)) (fun r197 mem197 =>
    (if (mem197 6 7) < r197 then
    some ((0 : Int32), mem197)
    else
    some ((1 : Int32), mem197)))
def f_X4_hangsLevelNow (N : Nat) (mem : zMem) : Option (Int32 × zMem) :=
    zb (f_X4_sermonOf N mem (mem 11 1)) (fun r199 mem199 =>
    zb (f_X4_leadNow N mem199) (fun r200 mem200 =>
    zb (f_X4_hangsLevel N mem200 r199 r200) (fun r201 mem201 =>
    zgd (zbo r201) (some (r201, mem201)))))
def f_J9_min_7cf53 (N : Nat) (mem : zMem) (a1 : Int32) (a2 : Int32) : Option (Int32 × zMem) :=
    (if a2 < a1 then
    some (a2, mem)
    else
    some (a1, mem))
def f_X4_rememberWeek (N : Nat) (mem : zMem) : Option (Unit × zMem) :=
    zgd (zin (mem 0 8) 8) (zb (f_X3_becomeLike N (14 + 2 * (mem 0 8).toNatClampNeg) 11 mem) (fun _ mem205 =>
    zb (f_J9_min_7cf53 N (wr mem205 0 8 (((mem205 0 8) + (1 : Int32)) - ((mem205 0 8) + (1 : Int32)) / (8 : Int32) * (8 : Int32))) (((wr mem205 0 8 (((mem205 0 8) + (1 : Int32)) - ((mem205 0 8) + (1 : Int32)) / (8 : Int32) * (8 : Int32))) 0 7) + (1 : Int32)) (8 : Int32)) (fun r206 mem206 =>
    some ((), (wr mem206 0 7 r206)))))
def f_X4_preach (N : Nat) (mem : zMem) (a1 : Int32) : Option (Int32 × zMem) :=
    zb (f_X4_isPart N mem a1) (fun r207 mem207 =>
    (if r207 = 0 then
    some ((-2 : Int32), mem207)
    else
    zb (f_X4_isIn N mem207 a1 (mem207 11 1)) (fun r209 mem209 =>
    (if r209 = 0 then
    zb (f_X4_hangsLevelNow N mem209) (fun r211 mem211 =>
    (if r211 = 0 then
    zb (f_X4_rememberWeek N mem211) (fun _ mem213 =>
    zgd (zin a1 8) (zb (f_X4_sermonOf N (wr (wr mem213 11 1 ((mem213 11 1) ||| ((1 : Int32) <<< (a1 &&& 31)))) 11 5 (((wr mem213 11 1 ((mem213 11 1) ||| ((1 : Int32) <<< (a1 &&& 31)))) 11 5) + ((wr mem213 11 1 ((mem213 11 1) ||| ((1 : Int32) <<< (a1 &&& 31)))) 9 a1.toNatClampNeg))) ((wr (wr mem213 11 1 ((mem213 11 1) ||| ((1 : Int32) <<< (a1 &&& 31)))) 11 5 (((wr mem213 11 1 ((mem213 11 1) ||| ((1 : Int32) <<< (a1 &&& 31)))) 11 5) + ((wr mem213 11 1 ((mem213 11 1) ||| ((1 : Int32) <<< (a1 &&& 31)))) 9 a1.toNatClampNeg))) 11 1)) (fun r215 mem215 =>
    zb (f_X4_leadNow N mem215) (fun r216 mem216 =>
    some (((r215 - r216) + (9999 : Int32)), mem216)))))
    else
    some ((-4 : Int32), mem211)))
    else
    some ((-4 : Int32), mem209)))))
def f_X4_sin (N : Nat) (mem : zMem) (a1 : Int32) (a2 : Int32) : Option (Int32 × zMem) :=
    zb (f_X4_isSoul N mem a1) (fun r217 mem217 =>
    (if r217 = 0 then
    some ((-2 : Int32), mem217)
    else
    zb (f_X4_isWithin N mem217 a2 (1 : Int32) (20 : Int32)) (fun r219 mem219 =>
    (if r219 = 0 then
    some ((-3 : Int32), mem219)
    else
    zb (f_X4_rememberWeek N mem219) (fun _ mem221 =>
    zgd (zin a1 6) (zb (f_J9_min_7cf53 N mem221 ((mem221 12 a1.toNatClampNeg) + a2) (99 : Int32)) (fun r223 mem223 =>
    zgd (zin a1 6) (zgd (zin a1 6) (some (((wr mem223 12 a1.toNatClampNeg r223) 12 a1.toNatClampNeg), (wr mem223 12 a1.toNatClampNeg r223)))))))))))
def f_X4_ballast (N : Nat) (mem : zMem) (a1 : Int32) : Option (Int32 × zMem) :=
    zb (f_X4_isWithin N mem a1 (1 : Int32) (20 : Int32)) (fun r226 mem226 =>
    (if r226 = 0 then
    some ((-3 : Int32), mem226)
    else
    zb (f_X4_rememberWeek N mem226) (fun _ mem228 =>
    zb (f_J9_min_7cf53 N mem228 ((mem228 11 2) + a1) (99 : Int32)) (fun r229 mem229 =>
    some (((wr mem229 11 2 r229) 11 2), (wr mem229 11 2 r229))))))
def f_X4_rain (N : Nat) (mem : zMem) (a1 : Int32) : Option (Int32 × zMem) :=
    zb (f_X4_isWithin N mem a1 (0 : Int32) (9 : Int32)) (fun r230 mem230 =>
    (if r230 = 0 then
    some ((-3 : Int32), mem230)
    else
    zb (f_X4_rememberWeek N mem230) (fun _ mem232 =>
    some ((mem232 11 3), (wr mem232 11 3 a1)))))
def f_X4_sunday (N : Nat) (mem : zMem) : Option (Int32 × zMem) :=
    (if (mem 11 4) < (999 : Int32) then
    zb (f_X4_hangsLevelNow N mem) (fun r234 mem234 =>
    zb (f_X4_rememberWeek N mem234) (fun _ mem235 =>
    zb (f_X3_end N 11 mem235 r234) (fun _ mem236 =>
    (if r234 = 0 then
    some ((0 : Int32), mem236)
    else
    some ((1 : Int32), mem236)))))
    else
    some ((-5 : Int32), mem))
def f_X4_undo (N : Nat) (mem : zMem) : Option (Int32 × zMem) :=
    (if 0 < (mem 0 7) then
    zgd (zin ((wr (wr mem 0 7 ((mem 0 7) - (1 : Int32))) 0 8 (((((wr mem 0 7 ((mem 0 7) - (1 : Int32))) 0 8) + (8 : Int32)) - (1 : Int32)) - ((((wr mem 0 7 ((mem 0 7) - (1 : Int32))) 0 8) + (8 : Int32)) - (1 : Int32)) / (8 : Int32) * (8 : Int32))) 0 8) 8) (zb (f_X3_becomeLike N 11 (14 + 2 * ((wr (wr mem 0 7 ((mem 0 7) - (1 : Int32))) 0 8 (((((wr mem 0 7 ((mem 0 7) - (1 : Int32))) 0 8) + (8 : Int32)) - (1 : Int32)) - ((((wr mem 0 7 ((mem 0 7) - (1 : Int32))) 0 8) + (8 : Int32)) - (1 : Int32)) / (8 : Int32) * (8 : Int32))) 0 8).toNatClampNeg) (wr (wr mem 0 7 ((mem 0 7) - (1 : Int32))) 0 8 (((((wr mem 0 7 ((mem 0 7) - (1 : Int32))) 0 8) + (8 : Int32)) - (1 : Int32)) - ((((wr mem 0 7 ((mem 0 7) - (1 : Int32))) 0 8) + (8 : Int32)) - (1 : Int32)) / (8 : Int32) * (8 : Int32)))) (fun _ mem240 =>
    some ((mem240 0 7), mem240)))
    else
    some ((-4 : Int32), mem))
def f_X4_keep (N : Nat) (mem : zMem) (a1 : Int32) : Option (Int32 × zMem) :=
    zb (f_X4_isWithin N mem a1 (0 : Int32) (1 : Int32)) (fun r241 mem241 =>
    (if r241 = 0 then
    some ((-2 : Int32), mem241)
    else
    zgd (zin a1 2) (zb (f_X3_becomeLike N (31 + 2 * a1.toNatClampNeg) 11 mem241) (fun _ mem244 =>
    zgd (zin a1 2) (some (((wr mem244 35 a1.toNatClampNeg (vp_nar .boolean (1 : Int32))) 11 4), (wr mem244 35 a1.toNatClampNeg (vp_nar .boolean (1 : Int32)))))))))
def f_X4_back (N : Nat) (mem : zMem) (a1 : Int32) : Option (Int32 × zMem) :=
    zb (f_X4_isWithin N mem a1 (0 : Int32) (1 : Int32)) (fun r246 mem246 =>
    (if r246 = 0 then
    some ((-2 : Int32), mem246)
    else
    zgd (zin a1 2) ((if (mem246 35 a1.toNatClampNeg) = 0 then
    some ((-4 : Int32), mem246)
    else
    zgd (zin a1 2) (zb (f_X3_becomeLike N 11 (31 + 2 * a1.toNatClampNeg) mem246) (fun _ mem251 =>
    some (((wr mem251 0 7 (0 : Int32)) 11 4), (wr mem251 0 7 (0 : Int32)))))))))
def f_X4_stops_33 (N : Nat) : Nat → zMem → Int32 → Int32 → Int32 → Int32 → Option (Int32 × zMem)
  | 0, _, _, _, _, _ => none
  | n + 1, mem, x1, x2, x3, x4 =>
    (if (mem 6 4) ≤ x4 then
    some ((-1 : Int32), mem)
    else
    zb (f_X4_isIn N mem x4 (mem 11 1)) (fun r253 mem253 =>
    (if r253 = 0 then
    zb (f_X4_sermonOf N mem253 (x2 ||| ((1 : Int32) <<< (x4 &&& 31)))) (fun r255 mem255 =>
    zb (f_X4_hangsLevel N mem255 r255 x1) (fun r256 mem256 =>
    (if r256 = 0 then
    f_X4_stops_33 N n mem256 x1 (x2 ||| ((1 : Int32) <<< (x4 &&& 31))) (x3 + 1) (x4 + 1)
    else
    some ((x3 + 1), mem256))))
    else
    f_X4_stops_33 N n mem253 x1 x2 x3 (x4 + 1))))
def f_X4_stops (N : Nat) (mem : zMem) : Option (Int32 × zMem) :=
    zb (f_X4_leadNow N mem) (fun r258 mem258 =>
    zb (f_X4_sermonOf N mem258 (mem258 11 1)) (fun r259 mem259 =>
    zb (f_X4_hangsLevel N mem259 r259 r258) (fun r260 mem260 =>
    (if r260 = 0 then
    f_X4_stops_33 N N mem260 r258 (mem258 11 1) (0 : Int32) (0 : Int32)
    else
    some ((0 : Int32), mem260)))))
def f_X4_levels (N : Nat) (mem : zMem) (a1 : Int32) (a2 : Int32) : Option (Int32 × zMem) :=
    (if (a1 &&& (mem 11 1)) = 0 then
    zb (f_X4_sermonOf N mem ((mem 11 1) ||| a1)) (fun r263 mem263 =>
    zb (f_X4_hangsLevel N mem263 r263 a2) (fun r264 mem264 =>
    (if r264 = 0 then
    some ((0 : Int32), mem264)
    else
    some ((1 : Int32), mem264))))
    else
    some ((0 : Int32), mem))
def f_J6_bitCount_0f7a4 (N : Nat) (mem : zMem) (a1 : Int32) : Option (Int32 × zMem) :=
    some (((((((((a1 - ((a1.toUInt32 >>> ((1 : Int32).toUInt32 &&& Int32.toUInt32 31)).toInt32 &&& (1431655765 : Int32))) &&& (858993459 : Int32)) + (((a1 - ((a1.toUInt32 >>> ((1 : Int32).toUInt32 &&& Int32.toUInt32 31)).toInt32 &&& (1431655765 : Int32))).toUInt32 >>> ((2 : Int32).toUInt32 &&& Int32.toUInt32 31)).toInt32 &&& (858993459 : Int32))) + ((((a1 - ((a1.toUInt32 >>> ((1 : Int32).toUInt32 &&& Int32.toUInt32 31)).toInt32 &&& (1431655765 : Int32))) &&& (858993459 : Int32)) + (((a1 - ((a1.toUInt32 >>> ((1 : Int32).toUInt32 &&& Int32.toUInt32 31)).toInt32 &&& (1431655765 : Int32))).toUInt32 >>> ((2 : Int32).toUInt32 &&& Int32.toUInt32 31)).toInt32 &&& (858993459 : Int32))).toUInt32 >>> ((4 : Int32).toUInt32 &&& Int32.toUInt32 31)).toInt32) &&& (252645135 : Int32)) + ((((((a1 - ((a1.toUInt32 >>> ((1 : Int32).toUInt32 &&& Int32.toUInt32 31)).toInt32 &&& (1431655765 : Int32))) &&& (858993459 : Int32)) + (((a1 - ((a1.toUInt32 >>> ((1 : Int32).toUInt32 &&& Int32.toUInt32 31)).toInt32 &&& (1431655765 : Int32))).toUInt32 >>> ((2 : Int32).toUInt32 &&& Int32.toUInt32 31)).toInt32 &&& (858993459 : Int32))) + ((((a1 - ((a1.toUInt32 >>> ((1 : Int32).toUInt32 &&& Int32.toUInt32 31)).toInt32 &&& (1431655765 : Int32))) &&& (858993459 : Int32)) + (((a1 - ((a1.toUInt32 >>> ((1 : Int32).toUInt32 &&& Int32.toUInt32 31)).toInt32 &&& (1431655765 : Int32))).toUInt32 >>> ((2 : Int32).toUInt32 &&& Int32.toUInt32 31)).toInt32 &&& (858993459 : Int32))).toUInt32 >>> ((4 : Int32).toUInt32 &&& Int32.toUInt32 31)).toInt32) &&& (252645135 : Int32)).toUInt32 >>> ((8 : Int32).toUInt32 &&& Int32.toUInt32 31)).toInt32) + (((((((a1 - ((a1.toUInt32 >>> ((1 : Int32).toUInt32 &&& Int32.toUInt32 31)).toInt32 &&& (1431655765 : Int32))) &&& (858993459 : Int32)) + (((a1 - ((a1.toUInt32 >>> ((1 : Int32).toUInt32 &&& Int32.toUInt32 31)).toInt32 &&& (1431655765 : Int32))).toUInt32 >>> ((2 : Int32).toUInt32 &&& Int32.toUInt32 31)).toInt32 &&& (858993459 : Int32))) + ((((a1 - ((a1.toUInt32 >>> ((1 : Int32).toUInt32 &&& Int32.toUInt32 31)).toInt32 &&& (1431655765 : Int32))) &&& (858993459 : Int32)) + (((a1 - ((a1.toUInt32 >>> ((1 : Int32).toUInt32 &&& Int32.toUInt32 31)).toInt32 &&& (1431655765 : Int32))).toUInt32 >>> ((2 : Int32).toUInt32 &&& Int32.toUInt32 31)).toInt32 &&& (858993459 : Int32))).toUInt32 >>> ((4 : Int32).toUInt32 &&& Int32.toUInt32 31)).toInt32) &&& (252645135 : Int32)) + ((((((a1 - ((a1.toUInt32 >>> ((1 : Int32).toUInt32 &&& Int32.toUInt32 31)).toInt32 &&& (1431655765 : Int32))) &&& (858993459 : Int32)) + (((a1 - ((a1.toUInt32 >>> ((1 : Int32).toUInt32 &&& Int32.toUInt32 31)).toInt32 &&& (1431655765 : Int32))).toUInt32 >>> ((2 : Int32).toUInt32 &&& Int32.toUInt32 31)).toInt32 &&& (858993459 : Int32))) + ((((a1 - ((a1.toUInt32 >>> ((1 : Int32).toUInt32 &&& Int32.toUInt32 31)).toInt32 &&& (1431655765 : Int32))) &&& (858993459 : Int32)) + (((a1 - ((a1.toUInt32 >>> ((1 : Int32).toUInt32 &&& Int32.toUInt32 31)).toInt32 &&& (1431655765 : Int32))).toUInt32 >>> ((2 : Int32).toUInt32 &&& Int32.toUInt32 31)).toInt32 &&& (858993459 : Int32))).toUInt32 >>> ((4 : Int32).toUInt32 &&& Int32.toUInt32 31)).toInt32) &&& (252645135 : Int32)).toUInt32 >>> ((8 : Int32).toUInt32 &&& Int32.toUInt32 31)).toInt32).toUInt32 >>> ((16 : Int32).toUInt32 &&& Int32.toUInt32 31)).toInt32) &&& (63 : Int32)), mem)
def f_X4_isSooner (N : Nat) (mem : zMem) (a1 : Int32) (a2 : Int32) : Option (Int32 × zMem) :=
    zb (f_X1_minutesOf N mem a1) (fun r266 mem266 =>
    zb (f_X1_minutesOf N mem266 a2) (fun r267 mem267 =>
    (if r266 = r267 then
    zb (f_J6_bitCount_0f7a4 N mem267 a1) (fun r269 mem269 =>
    zb (f_J6_bitCount_0f7a4 N mem269 a2) (fun r270 mem270 =>
    (if r270 ≤ r269 then
    some ((0 : Int32), mem270)
    else
    some ((1 : Int32), mem270))))
    else
    (if r267 ≤ r266 then
    some ((0 : Int32), mem267)
    else
    some ((1 : Int32), mem267)))))
def f_X4_soonestSet_9 (N : Nat) : Nat → zMem → Int32 → Int32 → Int32 → Option (Int32 × zMem)
  | 0, _, _, _, _ => none
  | n + 1, mem, x1, x2, x3 =>
    (if ((1 : Int32) <<< ((mem 6 4) &&& 31)) ≤ x3 then
    some (x2, mem)
    else
    zb (f_X4_levels N mem x3 x1) (fun r274 mem274 =>
    (if r274 = 0 then
    f_X4_soonestSet_9 N n mem274 x1 x2 (x3 + 1)
    else
    (if x2 = (-1 : Int32) then
    f_X4_soonestSet_9 N n mem274 x1 x3 (x3 + 1)
    else
    zb (f_X4_isSooner N mem274 x3 x2) (fun r277 mem277 =>
    (if r277 = 0 then
    f_X4_soonestSet_9 N n mem277 x1 x2 (x3 + 1)
    else
    f_X4_soonestSet_9 N n mem277 x1 x3 (x3 + 1)))))))
def f_X4_soonestSet (N : Nat) (mem : zMem) : Option (Int32 × zMem) :=
    zb (f_X4_leadNow N mem) (fun r279 mem279 =>
    f_X4_soonestSet_9 N N mem279 r279 (-1 : Int32) (0 : Int32))
def f_X4_soonest (N : Nat) (mem : zMem) (a1 : Int32) : Option (Int32 × zMem) :=
    zb (f_X4_isWithin N mem a1 (0 : Int32) (1 : Int32)) (fun r280 mem280 =>
    (if r280 = 0 then
    some ((-3 : Int32), mem280)
    else
    zb (f_X4_soonestSet N mem280) (fun r282 mem282 =>
    (if r282 = (-1 : Int32) then
    some ((-1 : Int32), mem282)
    else
    (if a1 = 0 then
    some (r282, mem282)
    else
    zb (f_X1_minutesOf N mem282 r282) (fun r285 mem285 =>
    some (r285, mem285)))))))
def f_X4_never_15 (N : Nat) : Nat → zMem → Int32 → Int32 → Option (Int32 × zMem)
  | 0, _, _, _ => none
  | n + 1, mem, x1, x2 =>
    (if ((1 : Int32) <<< ((mem 6 4) &&& 31)) ≤ x2 then
    some ((1 : Int32), mem)
    else
    zb (f_X4_levels N mem x2 x1) (fun r287 mem287 =>
    (if r287 = 0 then
    f_X4_never_15 N n mem287 x1 (x2 + 1)
    else
    some ((0 : Int32), mem287))))
def f_X4_never (N : Nat) (mem : zMem) (a1 : Int32) : Option (Int32 × zMem) :=
    zb (f_X4_isWithin N mem a1 (0 : Int32) (99 : Int32)) (fun r289 mem289 =>
    (if r289 = 0 then
    some ((-3 : Int32), mem289)
    else
    f_X4_never_15 N N mem289 a1 (0 : Int32)))
def f_X4_isSet (N : Nat) (mem : zMem) (a1 : Int32) : Option (Int32 × zMem) :=
    (if a1 < 0 then
    some ((0 : Int32), mem)
    else
    (if ((1 : Int32) <<< ((mem 6 4) &&& 31)) ≤ a1 then
    some ((0 : Int32), mem)
    else
    some ((1 : Int32), mem)))
def f_X4_seen (N : Nat) (mem : zMem) (a1 : Int32) (a2 : Int32) (a3 : Int32) : Option (Int32 × zMem) :=
    zb (f_X4_isSet N mem a1) (fun r293 mem293 =>
    (if r293 = 0 then
    some ((-2 : Int32), mem293)
    else
    zb (f_X4_isWithin N mem293 a2 (0 : Int32) (9 : Int32)) (fun r295 mem295 =>
    (if r295 = 0 then
    some ((-3 : Int32), mem295)
    else
    zb (f_X4_isWithin N mem295 a3 (0 : Int32) (255 : Int32)) (fun r297 mem297 =>
    (if r297 = 0 then
    some ((-3 : Int32), mem297)
    else
    zb (f_X0_addSeen N mem297 a1 a2 a3) (fun r299 mem299 =>
    (if r299 = 0 then
    some ((-5 : Int32), mem299)
    else
    some ((mem299 36 7), mem299)))))))))
def f_X4_heard_49 (N : Nat) (mem : zMem) (s1 : Int32) (s2 : Int32) (s3 : Int32) : Option (Int32 × zMem) :=
    zb (f_X0_addHeard N mem s1 s2 s3 (mem 11 3)) (fun r301 mem301 =>
    (if r301 = 0 then
    some ((-5 : Int32), mem301)
    else
    some ((mem301 36 8), mem301)))
def f_X4_heard (N : Nat) (mem : zMem) (a1 : Int32) (a2 : Int32) (a3 : Int32) : Option (Int32 × zMem) :=
    zb (f_X4_isSet N mem a1) (fun r303 mem303 =>
    (if r303 = 0 then
    some ((-2 : Int32), mem303)
    else
    zb (f_X4_isWithin N mem303 a2 (0 : Int32) (99 : Int32)) (fun r305 mem305 =>
    (if r305 = 0 then
    some ((-3 : Int32), mem305)
    else
    zb (f_X4_isWithin N mem305 a3 (0 : Int32) (1 : Int32)) (fun r307 mem307 =>
    (if r307 = 0 then
    some ((-3 : Int32), mem307)
    else
    (if a3 = (1 : Int32) then
    f_X4_heard_49 N mem307 a1 a2 (1 : Int32)
    else
    f_X4_heard_49 N mem307 a1 a2 (0 : Int32))))))))
def f_X4_forget (N : Nat) (mem : zMem) : Option (Int32 × zMem) :=
    zb (f_X0_clear N mem) (fun _ mem310 =>
    some (((mem 36 7) + (mem 36 8)), mem310))
def f_X4_fitsAllSeen_2 (N : Nat) : Nat → zMem → Int32 → Int32 → Int32 → Option (Int32 × zMem)
  | 0, _, _, _, _ => none
  | n + 1, mem, x1, x2, x3 =>
    (if (mem 36 7) ≤ x3 then
    some ((1 : Int32), mem)
    else
    zgd (zin x3 6) (zgd (zin x3 6) (zb (f_X1_ouncesOfSet N mem ((mem 37 x3.toNatClampNeg) &&& (((1 : Int32) <<< (x1 &&& 31)) ^^^ (-1 : Int32))) (mem 38 x3.toNatClampNeg)) (fun r314 mem314 =>
    zb (f_X4_isIn N mem314 x1 (mem 37 x3.toNatClampNeg)) (fun r315 mem315 =>
    (if r315 = 0 then
    zgd (zin x3 6) ((if r314 = (mem315 39 x3.toNatClampNeg) then
    f_X4_fitsAllSeen_2 N n mem315 x1 x2 (x3 + 1)
    else
    some ((0 : Int32), mem315)))
    else
    zgd (zin x1 8) (zb (f_X4_ouncesOf N mem315 (mem315 7 x1.toNatClampNeg) x2 (mem 38 x3.toNatClampNeg)) (fun r320 mem320 =>
    zgd (zin x3 6) ((if (r314 + r320) = (mem320 39 x3.toNatClampNeg) then
    f_X4_fitsAllSeen_2 N n mem320 x1 x2 (x3 + 1)
    else
    some ((0 : Int32), mem320)))))))))))
def f_X4_fitsAllSeen (N : Nat) (mem : zMem) (a1 : Int32) (a2 : Int32) : Option (Int32 × zMem) :=
    f_X4_fitsAllSeen_2 N N mem a1 a2 (0 : Int32)
def f_X4_weights_15 (N : Nat) : Nat → zMem → Int32 → Int32 → Int32 → Option (Int32 × zMem)
  | 0, _, _, _, _ => none
  | n + 1, mem, x1, x2, x3 =>
    (if (20 : Int32) < x3 then
    some (x2, mem)
    else
    zb (f_X4_fitsAllSeen N mem x1 x3) (fun r324 mem324 =>
    (if r324 = 0 then
    f_X4_weights_15 N n mem324 x1 x2 (x3 + 1)
    else
    f_X4_weights_15 N n mem324 x1 (x2 ||| ((1 : Int32) <<< (x3 &&& 31))) (x3 + 1))))
def f_X4_weights (N : Nat) (mem : zMem) (a1 : Int32) : Option (Int32 × zMem) :=
    zb (f_X4_isPart N mem a1) (fun r326 mem326 =>
    (if r326 = 0 then
    some ((-2 : Int32), mem326)
    else
    f_X4_weights_15 N N mem326 a1 (0 : Int32) (0 : Int32)))
def f_X4_fitsAllHeard_2 (N : Nat) : Nat → zMem → Int32 → Int32 → Option (Int32 × zMem)
  | 0, _, _, _ => none
  | n + 1, mem, x1, x2 =>
    (if (mem 36 8) ≤ x2 then
    some ((1 : Int32), mem)
    else
    zgd (zin x2 6) (zgd (zin x2 6) (zb (f_X1_ouncesOfSet N mem (mem 40 x2.toNatClampNeg) (mem 42 x2.toNatClampNeg)) (fun r331 mem331 =>
    zgd (zin x2 6) (zb (f_X4_hangsLevel N mem331 (r331 + x1) (mem331 41 x2.toNatClampNeg)) (fun r333 mem333 =>
    zgd (zin x2 6) ((if r333 = (mem333 43 x2.toNatClampNeg) then
    f_X4_fitsAllHeard_2 N n mem333 x1 (x2 + 1)
    else
    some ((0 : Int32), mem333)))))))))
def f_X4_fitsAllHeard (N : Nat) (mem : zMem) (a1 : Int32) : Option (Int32 × zMem) :=
    f_X4_fitsAllHeard_2 N N mem a1 (0 : Int32)
def f_X4_thumbs_4 (N : Nat) : Nat → zMem → Int32 → Int32 → Option (Int32 × zMem)
  | 0, _, _, _ => none
  | n + 1, mem, x1, x2 =>
    (if (9 : Int32) < x2 then
    some (x1, mem)
    else
    zb (f_X4_fitsAllHeard N mem x2) (fun r337 mem337 =>
    (if r337 = 0 then
    f_X4_thumbs_4 N n mem337 x1 (x2 + 1)
    else
    f_X4_thumbs_4 N n mem337 (x1 ||| ((1 : Int32) <<< (x2 &&& 31))) (x2 + 1))))
def f_X4_thumbs (N : Nat) (mem : zMem) : Option (Int32 × zMem) :=
    f_X4_thumbs_4 N N mem (0 : Int32) (0 : Int32)
def f_X4_waysOfConfessing_5 (N : Nat) : Nat → zMem → Int32 → Int32 → Int32 → Int32 → Option (Int32 × zMem)
  | 0, _, _, _, _, _ => none
  | n + 1, mem, x1, x2, x3, x4 =>
    (if (mem 6 5) ≤ x4 then
    some (x3, mem)
    else
    zb (f_X4_isIn N mem x4 x1) (fun r340 mem340 =>
    (if r340 = 0 then
    f_X4_waysOfConfessing_5 N n mem340 x1 x2 (x3 * ((10 : Int32) - x2)) (x4 + 1)
    else
    f_X4_waysOfConfessing_5 N n mem340 x1 x2 (x3 * x2) (x4 + 1))))
def f_X4_waysOfConfessing (N : Nat) (mem : zMem) (a1 : Int32) (a2 : Int32) : Option (Int32 × zMem) :=
    f_X4_waysOfConfessing_5 N N mem a1 a2 (1 : Int32) (0 : Int32)
def f_X4_greatestDivisor_7 (N : Nat) : Nat → zMem → Int32 → Int32 → Int32 → Option (Int32 × zMem)
  | 0, _, _, _, _ => none
  | n + 1, mem, x2, x3, x4 =>
    (if (64 : Int32) ≤ x4 then
    some (x2, mem)
    else
    (if x3 = 0 then
    some (x2, mem)
    else
    zgd (znz x3) (f_X4_greatestDivisor_7 N n mem x3 (x2 - x2 / x3 * x3) (x4 + 1))))
def f_X4_greatestDivisor (N : Nat) (mem : zMem) (a1 : Int32) (a2 : Int32) : Option (Int32 × zMem) :=
    f_X4_greatestDivisor_7 N N mem a1 a2 (0 : Int32)
def f_X4_confessed_43 (N : Nat) : Nat → zMem → Int32 → Int32 → Int32 → Int32 → Int32 → Int32 → Option (Int32 × zMem)
  | 0, _, _, _, _, _, _, _ => none
  | n + 1, mem, x1, x2, x3, x4, x5, x6 =>
    (if ((1 : Int32) <<< ((mem 6 5) &&& 31)) ≤ x6 then
    zb (f_X4_greatestDivisor N mem x4 x5) (fun r346 mem346 =>
    zb (f_J9_max_7cf53 N mem346 r346 (1 : Int32)) (fun r347 mem347 =>
    (if x2 = 0 then
    zgd (znz r347) (some ((x4 / r347), mem347))
    else
    zgd (znz r347) (some ((x5 / r347), mem347)))))
    else
    zb (f_X4_waysOfConfessing N mem x6 x1) (fun r351 mem351 =>
    zb (f_X4_leadWithout N mem351 x6) (fun r352 mem352 =>
    zb (f_X4_hangsLevel N mem352 x3 r352) (fun r353 mem353 =>
    (if r353 = 0 then
    f_X4_confessed_43 N n mem353 x1 x2 x3 x4 (x5 + r351) (x6 + 1)
    else
    f_X4_confessed_43 N n mem353 x1 x2 x3 (x4 + r351) (x5 + r351) (x6 + 1))))))
def f_X4_confessed (N : Nat) (mem : zMem) (a1 : Int32) (a2 : Int32) : Option (Int32 × zMem) :=
    zb (f_X4_isWithin N mem a1 (0 : Int32) (10 : Int32)) (fun r355 mem355 =>
    (if r355 = 0 then
    some ((-3 : Int32), mem355)
    else
    zb (f_X4_isWithin N mem355 a2 (0 : Int32) (1 : Int32)) (fun r357 mem357 =>
    (if r357 = 0 then
    some ((-3 : Int32), mem357)
    else
    zb (f_X4_sermonOf N mem357 (mem357 11 1)) (fun r359 mem359 =>
    f_X4_confessed_43 N N mem359 a1 a2 r359 (0 : Int32) (0 : Int32) (0 : Int32))))))
def f_X4_count (N : Nat) (mem : zMem) (a1 : Int32) : Option (Int32 × zMem) :=
    (if a1 = 0 then
    some ((mem 6 4), mem)
    else
(if a1 = 1 then
    some ((mem 6 5), mem)
    else
(if a1 = 2 then
    some ((mem 11 4), mem)
    else
(if a1 = 3 then
    zb (f_X4_sermonOf N mem (mem 11 1)) (fun r364 mem364 =>
    some (r364, mem364))
    else
(if a1 = 4 then
    zb (f_X4_leadNow N mem) (fun r366 mem366 =>
    some (r366, mem366))
    else
(if a1 = 5 then
    zb (f_X4_hangsLevelNow N mem) (fun r368 mem368 =>
    (if r368 = 0 then
    some ((0 : Int32), mem368)
    else
    some ((1 : Int32), mem368)))
    else
(if a1 = 6 then
    some ((mem 11 1), mem)
    else
(if a1 = 7 then
    some ((mem 11 5), mem)
    else
(if a1 = 8 then
    some ((mem 11 6), mem)
    else
(if a1 = 9 then
    some ((mem 11 2), mem)
    else
(if a1 = 10 then
    some ((mem 11 3), mem)
    else
(if a1 = 11 then
    some ((mem 36 7), mem)
    else
(if a1 = 12 then
    some ((mem 36 8), mem)
    else
(if a1 = 13 then
    some ((mem 0 7), mem)
    else
(if a1 = 14 then
    some ((mem 1 4), mem)
    else
    some ((-3 : Int32), mem))))))))))))))))
def f_X5_in (N : Nat) (mem : zMem) (a1 : Int32) (a2 : Int32) (a3 : Int32) : Option (Int32 × zMem) :=
    (if a1 < a2 then
    some ((0 : Int32), mem)
    else
    (if a3 < a1 then
    some ((0 : Int32), mem)
    else
    some ((1 : Int32), mem)))
def f_X5_isPart (N : Nat) (mem : zMem) (a1 : Int32) : Option (Int32 × zMem) :=
    zb (f_X5_in N mem a1 (0 : Int32) ((mem 46 (0 : Int32).toNatClampNeg) - (1 : Int32))) (fun r381 mem381 =>
    zgd (zbo r381) (some (r381, mem381)))
def f_X5_isSet (N : Nat) (mem : zMem) (a1 : Int32) : Option (Int32 × zMem) :=
    zb (f_X5_in N mem a1 (0 : Int32) (((1 : Int32) <<< ((mem 46 (0 : Int32).toNatClampNeg) &&& 31)) - (1 : Int32))) (fun r383 mem383 =>
    zgd (zbo r383) (some (r383, mem383)))
def f_X5_write (N : Nat) (mem : zMem) (a1 : Int32) : Option (Int32 × zMem) :=
    zb (f_X5_in N mem a1 (0 : Int32) (255 : Int32)) (fun r385 mem385 =>
    (if r385 = 0 then
    some ((-3 : Int32), mem385)
    else
    (if (mem385 44 1) = (160 : Int32) then
    some ((-5 : Int32), mem385)
    else
    zgd (zin (mem385 44 1) 160) (some (((wr (wr mem385 45 (mem385 44 1).toNatClampNeg a1) 44 1 (((wr mem385 45 (mem385 44 1).toNatClampNeg a1) 44 1) + (1 : Int32))) 44 1), (wr (wr mem385 45 (mem385 44 1).toNatClampNeg a1) 44 1 (((wr mem385 45 (mem385 44 1).toNatClampNeg a1) 44 1) + (1 : Int32))))))))
def f_X5_erase (N : Nat) (mem : zMem) : Option (Int32 × zMem) :=
    some ((mem 44 1), (wr mem 44 1 (0 : Int32)))
def f_X5_letterAt (N : Nat) (mem : zMem) (a1 : Int32) : Option (Int32 × zMem) :=
    (if (mem 44 1) ≤ a1 then
    some ((-1 : Int32), mem)
    else
    zgd (zin a1 160) (some ((mem 45 a1.toNatClampNeg), mem)))
def f_X5_isLetter (N : Nat) (mem : zMem) (a1 : Int32) : Option (Int32 × zMem) :=
    zb (f_X5_in N mem a1 (97 : Int32) (122 : Int32)) (fun r391 mem391 =>
    zgd (zbo r391) (some (r391, mem391)))
def f_X5_isDigit (N : Nat) (mem : zMem) (a1 : Int32) : Option (Int32 × zMem) :=
    zb (f_X5_in N mem a1 (48 : Int32) (57 : Int32)) (fun r393 mem393 =>
    zgd (zbo r393) (some (r393, mem393)))
def f_X5_token_195 (N : Nat) (mem : zMem) : Option (Unit × zMem) :=
    (if (mem 44 14) = (3 : Int32) then
    some ((), (wr mem 44 13 ((mem 44 13) + (1 : Int32))))
    else
    some ((), (wr mem 44 13 ((mem 44 13) + (0 : Int32)))))
def f_X5_token_118 (N : Nat) : Nat → zMem → Option (Unit × zMem)
  | 0, _ => none
  | n + 1, mem =>
    (if (mem 44 14) = (2 : Int32) then
    zb (f_X5_letterAt N mem (mem 44 13)) (fun r397 mem397 =>
    zb (f_X5_isDigit N mem397 r397) (fun r398 mem398 =>
    (if r398 = 0 then
    f_X5_token_195 N mem398
    else
    (if (2 : Int32) ≤ ((mem398 44 13) - (mem398 44 15)) then
    f_X5_token_118 N n (wr (wr mem398 44 16 (100 : Int32)) 44 13 (((wr mem398 44 16 (100 : Int32)) 44 13) + (1 : Int32)))
    else
    zgd (zin (mem398 44 13) 160) (f_X5_token_118 N n (wr (wr mem398 44 16 ((((10 : Int32) * (mem398 44 16)) + (mem398 45 (mem398 44 13).toNatClampNeg)) - (48 : Int32))) 44 13 (((wr mem398 44 16 ((((10 : Int32) * (mem398 44 16)) + (mem398 45 (mem398 44 13).toNatClampNeg)) - (48 : Int32))) 44 13) + (1 : Int32))))))))
    else
    f_X5_token_195 N mem)
def f_X5_token_83 (N : Nat) : Nat → zMem → Option (Unit × zMem)
  | 0, _ => none
  | n + 1, mem =>
    (if (mem 44 14) = (1 : Int32) then
    zb (f_X5_letterAt N mem (mem 44 13)) (fun r403 mem403 =>
    zb (f_X5_isLetter N mem403 r403) (fun r404 mem404 =>
    (if r404 = 0 then
    f_X5_token_118 N N mem404
    else
    f_X5_token_83 N n (wr mem404 44 13 ((mem404 44 13) + (1 : Int32))))))
    else
    f_X5_token_118 N N mem)
def f_X5_token_75 (N : Nat) (mem : zMem) (s1 : Int32) : Option (Unit × zMem) :=
    f_X5_token_83 N N (wr (wr mem 44 14 s1) 44 16 (0 : Int32))
def f_X5_token_0 (N : Nat) : Nat → zMem → Option (Unit × zMem)
  | 0, _ => none
  | n + 1, mem =>
    zb (f_X5_letterAt N mem (mem 44 13)) (fun r406 mem406 =>
    (if r406 = (32 : Int32) then
    f_X5_token_0 N n (wr mem406 44 13 ((mem406 44 13) + (1 : Int32)))
    else
    zb (f_X5_letterAt N (wr mem406 44 15 (mem406 44 13)) ((wr mem406 44 15 (mem406 44 13)) 44 13)) (fun r408 mem408 =>
    (if 0 ≤ r408 then
    zb (f_X5_isLetter N mem408 r408) (fun r410 mem410 =>
    (if r410 = 0 then
    zb (f_X5_isDigit N mem410 r408) (fun r412 mem412 =>
    (if r412 = 0 then
    f_X5_token_75 N mem412 (3 : Int32)
    else
    f_X5_token_75 N mem412 (2 : Int32)))
    else
    f_X5_token_75 N mem410 (1 : Int32)))
    else
    f_X5_token_75 N mem408 (0 : Int32)))))
def f_X5_token (N : Nat) (mem : zMem) : Option (Unit × zMem) :=
    f_X5_token_0 N N mem
def f_X5_isWord_32 (N : Nat) : Nat → zMem → Int32 → Int32 → Int32 → Int32 → Int32 → Int32 → Int32 → Option (Int32 × zMem)
  | 0, _, _, _, _, _, _, _, _ => none
  | n + 1, mem, x1, x2, x3, x4, x5, x6, x7 =>
    (if (5 : Int32) ≤ x7 then
    zgd (zbo x6) (some (x6, mem))
    else
    (if x6 = 0 then
    zgd (zbo x6) (some (x6, mem))
    else
    (if x7 = 0 then
    (if (mem 44 13) ≤ ((mem 44 15) + x7) then
    (if x1 = 0 then
    f_X5_isWord_32 N n mem x1 x2 x3 x4 x5 (1 : Int32) (x7 + 1)
    else
    f_X5_isWord_32 N n mem x1 x2 x3 x4 x5 (0 : Int32) (x7 + 1))
    else
    zgd (zin ((mem 44 15) + x7) 160) ((if (mem 45 ((mem 44 15) + x7).toNatClampNeg) = x1 then
    f_X5_isWord_32 N n mem x1 x2 x3 x4 x5 (1 : Int32) (x7 + 1)
    else
    f_X5_isWord_32 N n mem x1 x2 x3 x4 x5 (0 : Int32) (x7 + 1))))
    else
    (if x7 = (1 : Int32) then
    (if (mem 44 13) ≤ ((mem 44 15) + x7) then
    (if x2 = 0 then
    f_X5_isWord_32 N n mem x1 x2 x3 x4 x5 (1 : Int32) (x7 + 1)
    else
    f_X5_isWord_32 N n mem x1 x2 x3 x4 x5 (0 : Int32) (x7 + 1))
    else
    zgd (zin ((mem 44 15) + x7) 160) ((if (mem 45 ((mem 44 15) + x7).toNatClampNeg) = x2 then
    f_X5_isWord_32 N n mem x1 x2 x3 x4 x5 (1 : Int32) (x7 + 1)
    else
    f_X5_isWord_32 N n mem x1 x2 x3 x4 x5 (0 : Int32) (x7 + 1))))
    else
    (if x7 = (2 : Int32) then
    (if (mem 44 13) ≤ ((mem 44 15) + x7) then
    (if x3 = 0 then
    f_X5_isWord_32 N n mem x1 x2 x3 x4 x5 (1 : Int32) (x7 + 1)
    else
    f_X5_isWord_32 N n mem x1 x2 x3 x4 x5 (0 : Int32) (x7 + 1))
    else
    zgd (zin ((mem 44 15) + x7) 160) ((if (mem 45 ((mem 44 15) + x7).toNatClampNeg) = x3 then
    f_X5_isWord_32 N n mem x1 x2 x3 x4 x5 (1 : Int32) (x7 + 1)
    else
    f_X5_isWord_32 N n mem x1 x2 x3 x4 x5 (0 : Int32) (x7 + 1))))
    else
    (if x7 = (3 : Int32) then
    (if (mem 44 13) ≤ ((mem 44 15) + x7) then
    (if x4 = 0 then
    f_X5_isWord_32 N n mem x1 x2 x3 x4 x5 (1 : Int32) (x7 + 1)
    else
    f_X5_isWord_32 N n mem x1 x2 x3 x4 x5 (0 : Int32) (x7 + 1))
    else
    zgd (zin ((mem 44 15) + x7) 160) ((if (mem 45 ((mem 44 15) + x7).toNatClampNeg) = x4 then
    f_X5_isWord_32 N n mem x1 x2 x3 x4 x5 (1 : Int32) (x7 + 1)
    else
    f_X5_isWord_32 N n mem x1 x2 x3 x4 x5 (0 : Int32) (x7 + 1))))
    else
    (if (mem 44 13) ≤ ((mem 44 15) + x7) then
    (if x5 = 0 then
    f_X5_isWord_32 N n mem x1 x2 x3 x4 x5 (1 : Int32) (x7 + 1)
    else
    f_X5_isWord_32 N n mem x1 x2 x3 x4 x5 (0 : Int32) (x7 + 1))
    else
    zgd (zin ((mem 44 15) + x7) 160) ((if (mem 45 ((mem 44 15) + x7).toNatClampNeg) = x5 then
    f_X5_isWord_32 N n mem x1 x2 x3 x4 x5 (1 : Int32) (x7 + 1)
    else
    f_X5_isWord_32 N n mem x1 x2 x3 x4 x5 (0 : Int32) (x7 + 1))))))))))
def f_X5_isWord_27 (N : Nat) (mem : zMem) (x1 : Int32) (x2 : Int32) (x3 : Int32) (x4 : Int32) (x5 : Int32) (s0 : Int32) : Option (Int32 × zMem) :=
    f_X5_isWord_32 N N mem x1 x2 x3 x4 x5 s0 (0 : Int32)
def f_X5_isWord_26 (N : Nat) (mem : zMem) (x1 : Int32) (x2 : Int32) (x3 : Int32) (x4 : Int32) (x5 : Int32) : Option (Int32 × zMem) :=
    f_X5_isWord_27 N mem x1 x2 x3 x4 x5 (0 : Int32)
def f_X5_isWord (N : Nat) (mem : zMem) (a1 : Int32) (a2 : Int32) (a3 : Int32) (a4 : Int32) (a5 : Int32) : Option (Int32 × zMem) :=
    (if (mem 44 14) = (1 : Int32) then
    (if (6 : Int32) ≤ ((mem 44 13) - (mem 44 15)) then
    f_X5_isWord_26 N mem a1 a2 a3 a4 a5
    else
    f_X5_isWord_27 N mem a1 a2 a3 a4 a5 (1 : Int32))
    else
    f_X5_isWord_26 N mem a1 a2 a3 a4 a5)
def f_X5_number (N : Nat) (mem : zMem) (a1 : Int32) (a2 : Int32) (a3 : Int32) : Option (Int32 × zMem) :=
    zb (f_X5_token N mem) (fun _ mem444 =>
    zgd (zin a1 35) ((if ((wr mem444 47 a1.toNatClampNeg (mem444 44 16)) 44 14) = (2 : Int32) then
    zb (f_X5_in N (wr mem444 47 a1.toNatClampNeg (mem444 44 16)) ((wr mem444 47 a1.toNatClampNeg (mem444 44 16)) 44 16) a2 a3) (fun r447 mem447 =>
    (if r447 = 0 then
    some ((0 : Int32), mem447)
    else
    some ((1 : Int32), mem447)))
    else
    some ((0 : Int32), (wr mem444 47 a1.toNatClampNeg (mem444 44 16))))))
def f_X5_forgets_2 (N : Nat) : Nat → zMem → Int32 → Option (Unit × zMem)
  | 0, _, _ => none
  | n + 1, mem, x1 =>
    (if (35 : Int32) ≤ x1 then
    some ((), (wr mem 47 (3 : Int32).toNatClampNeg (1 : Int32)))
    else
    zgd (zin x1 35) (f_X5_forgets_2 N n (wr mem 47 x1.toNatClampNeg (0 : Int32)) (x1 + 1)))
def f_X5_forgets (N : Nat) (mem : zMem) : Option (Unit × zMem) :=
    f_X5_forgets_2 N N mem (0 : Int32)
def f_X5_readsPart (N : Nat) (mem : zMem) (a1 : Int32) : Option (Int32 × zMem) :=
    (if (mem 47 (0 : Int32).toNatClampNeg) = (8 : Int32) then
    some ((0 : Int32), mem)
    else
    zb (f_X5_number N mem ((13 : Int32) + (mem 47 (0 : Int32).toNatClampNeg)) (0 : Int32) (20 : Int32)) (fun r452 mem452 =>
    (if r452 = 0 then
    some ((0 : Int32), mem452)
    else
    zb (f_X5_number N mem452 ((21 : Int32) + (mem 47 (0 : Int32).toNatClampNeg)) (1 : Int32) (30 : Int32)) (fun r454 mem454 =>
    (if r454 = 0 then
    some ((0 : Int32), mem454)
    else
    zgd (zin ((5 : Int32) + (mem 47 (0 : Int32).toNatClampNeg)) 35) (some ((1 : Int32), (wr (wr mem454 47 ((5 : Int32) + (mem 47 (0 : Int32).toNatClampNeg)).toNatClampNeg a1) 47 (0 : Int32).toNatClampNeg (((wr mem454 47 ((5 : Int32) + (mem 47 (0 : Int32).toNatClampNeg)).toNatClampNeg a1) 47 (0 : Int32).toNatClampNeg) + (1 : Int32))))))))))
def f_X5_readsSoul (N : Nat) (mem : zMem) : Option (Int32 × zMem) :=
    (if (mem 47 (1 : Int32).toNatClampNeg) = (6 : Int32) then
    some ((0 : Int32), mem)
    else
    zb (f_X5_number N mem ((29 : Int32) + (mem 47 (1 : Int32).toNatClampNeg)) (0 : Int32) (40 : Int32)) (fun r458 mem458 =>
    (if r458 = 0 then
    some ((0 : Int32), mem458)
    else
    some ((1 : Int32), (wr mem458 47 (1 : Int32).toNatClampNeg ((mem458 47 (1 : Int32).toNatClampNeg) + (1 : Int32)))))))
def f_X5_readsClause (N : Nat) (mem : zMem) : Option (Int32 × zMem) :=
    zb (f_X5_isWord N mem (107 : Int32) (105 : Int32) (114 : Int32) (107 : Int32) (0 : Int32)) (fun r460 mem460 =>
    (if r460 = 0 then
    zb (f_X5_isWord N mem460 (119 : Int32) (111 : Int32) (114 : Int32) (100 : Int32) (0 : Int32)) (fun r462 mem462 =>
    (if r462 = 0 then
    zb (f_X5_isWord N mem462 (103 : Int32) (114 : Int32) (101 : Int32) (101 : Int32) (107 : Int32)) (fun r464 mem464 =>
    (if r464 = 0 then
    zb (f_X5_isWord N mem464 (113 : Int32) (117 : Int32) (111 : Int32) (116 : Int32) (101 : Int32)) (fun r466 mem466 =>
    (if r466 = 0 then
    zb (f_X5_isWord N mem466 (112 : Int32) (115 : Int32) (97 : Int32) (108 : Int32) (109 : Int32)) (fun r468 mem468 =>
    (if r468 = 0 then
    zb (f_X5_isWord N mem468 (115 : Int32) (111 : Int32) (117 : Int32) (108 : Int32) (0 : Int32)) (fun r470 mem470 =>
    (if r470 = 0 then
    zb (f_X5_isWord N mem470 (116 : Int32) (104 : Int32) (117 : Int32) (109 : Int32) (98 : Int32)) (fun r472 mem472 =>
    (if r472 = 0 then
    zb (f_X5_isWord N mem472 (98 : Int32) (101 : Int32) (97 : Int32) (109 : Int32) (0 : Int32)) (fun r474 mem474 =>
    (if r474 = 0 then
    zb (f_X5_isWord N mem474 (119 : Int32) (101 : Int32) (116 : Int32) (0 : Int32) (0 : Int32)) (fun r476 mem476 =>
    (if r476 = 0 then
    some ((0 : Int32), mem476)
    else
    zb (f_X5_number N mem476 (4 : Int32) (0 : Int32) (9 : Int32)) (fun r478 mem478 =>
    (if r478 = 0 then
    some ((0 : Int32), mem478)
    else
    some ((1 : Int32), mem478)))))
    else
    zb (f_X5_number N mem474 (3 : Int32) (0 : Int32) (5 : Int32)) (fun r480 mem480 =>
    zgd (zbo r480) (some (r480, mem480)))))
    else
    zb (f_X5_number N mem472 (2 : Int32) (0 : Int32) (9 : Int32)) (fun r482 mem482 =>
    zgd (zbo r482) (some (r482, mem482)))))
    else
    zb (f_X5_readsSoul N mem470) (fun r484 mem484 =>
    zgd (zbo r484) (some (r484, mem484)))))
    else
    zb (f_X5_readsPart N mem468 (3 : Int32)) (fun r486 mem486 =>
    zgd (zbo r486) (some (r486, mem486)))))
    else
    zb (f_X5_readsPart N mem466 (2 : Int32)) (fun r488 mem488 =>
    zgd (zbo r488) (some (r488, mem488)))))
    else
    zb (f_X5_readsPart N mem464 (1 : Int32)) (fun r490 mem490 =>
    zgd (zbo r490) (some (r490, mem490)))))
    else
    zb (f_X5_readsPart N mem462 (0 : Int32)) (fun r492 mem492 =>
    zgd (zbo r492) (some (r492, mem492)))))
    else
    zb (f_X5_forgets N mem460) (fun _ mem494 =>
    some ((1 : Int32), mem494))))
def f_X5_reads_35 (N : Nat) : Nat → zMem → Int32 → Int32 → Option (Int32 × zMem)
  | 0, _, _, _ => none
  | n + 1, mem, x1, x2 =>
    (if x2 = 0 then
    some (x1, mem)
    else
    zb (f_X5_token N mem) (fun _ mem496 =>
    zb (f_X5_readsClause N mem496) (fun r497 mem497 =>
    (if r497 = 0 then
    some ((-1 : Int32), mem497)
    else
    zb (f_X5_token N mem497) (fun _ mem499 =>
    (if (mem499 44 14) = 0 then
    (if (0 : Int32) = 0 then
    f_X5_reads_35 N n mem499 (x1 + 1) (0 : Int32)
    else
    (if (mem499 44 14) = (3 : Int32) then
    zgd (zin (mem499 44 15) 160) ((if (mem499 45 (mem499 44 15).toNatClampNeg) = (59 : Int32) then
    (if (x1 + 1) = (14 : Int32) then
    some ((-1 : Int32), mem499)
    else
    f_X5_reads_35 N n mem499 (x1 + 1) (0 : Int32))
    else
    some ((-1 : Int32), mem499)))
    else
    some ((-1 : Int32), mem499)))
    else
    (if (1 : Int32) = 0 then
    f_X5_reads_35 N n mem499 (x1 + 1) (1 : Int32)
    else
    (if (mem499 44 14) = (3 : Int32) then
    zgd (zin (mem499 44 15) 160) ((if (mem499 45 (mem499 44 15).toNatClampNeg) = (59 : Int32) then
    (if (x1 + 1) = (14 : Int32) then
    some ((-1 : Int32), mem499)
    else
    f_X5_reads_35 N n mem499 (x1 + 1) (1 : Int32))
    else
    some ((-1 : Int32), mem499)))
    else
    some ((-1 : Int32), mem499)))))))))
def f_X5_reads_2 (N : Nat) : Nat → zMem → Int32 → Option (Int32 × zMem)
  | 0, _, _ => none
  | n + 1, mem, x1 =>
    (if (35 : Int32) ≤ x1 then
    f_X5_reads_35 N N (wr mem 44 13 (0 : Int32)) (0 : Int32) (1 : Int32)
    else
    zgd (zin x1 35) (zgd (zin x1 35) (f_X5_reads_2 N n (wr mem 47 x1.toNatClampNeg (mem 46 x1.toNatClampNeg)) (x1 + 1))))
def f_X5_reads (N : Nat) (mem : zMem) : Option (Int32 × zMem) :=
    f_X5_reads_2 N N mem (0 : Int32)
def f_X5_lays_2 (N : Nat) : Nat → zMem → Int32 → Option (Unit × zMem)
  | 0, _, _ => none
  | n + 1, mem, x1 =>
    (if (12 : Int32) ≤ x1 then
    some ((), (wr (wr (wr (wr (wr (wr mem 48 (6 : Int32).toNatClampNeg (mem 46 (4 : Int32).toNatClampNeg)) 44 6 (0 : Int32)) 44 10 (0 : Int32)) 44 12 (0 : Int32)) 51 (0 : Int32).toNatClampNeg (vp_nar .boolean (0 : Int32))) 51 (1 : Int32).toNatClampNeg (vp_nar .boolean (0 : Int32))))
    else
    (if (6 : Int32) ≤ x1 then
    zgd (zin x1 12) (f_X5_lays_2 N n (wr mem 48 x1.toNatClampNeg (0 : Int32)) (x1 + 1))
    else
    zgd (zin ((29 : Int32) + x1) 35) (zgd (zin x1 12) (f_X5_lays_2 N n (wr mem 48 x1.toNatClampNeg (mem 46 ((29 : Int32) + x1).toNatClampNeg)) (x1 + 1)))))
def f_X5_lays (N : Nat) (mem : zMem) : Option (Unit × zMem) :=
    f_X5_lays_2 N N mem (0 : Int32)
def f_X5_fault (N : Nat) (mem : zMem) : Option (Int32 × zMem) :=
    zb (f_X5_reads N mem) (fun r519 mem519 =>
    (if r519 = (-1 : Int32) then
    some ((mem519 44 15), mem519)
    else
    some ((-1 : Int32), mem519)))
def f_X5_kirk_15 (N : Nat) : Nat → zMem → Int32 → Int32 → Option (Int32 × zMem)
  | 0, _, _, _ => none
  | n + 1, mem, x1, x2 =>
    (if (35 : Int32) ≤ x2 then
    zb (f_X5_lays N mem) (fun _ mem522 =>
    some (x1, (wr mem522 44 1 (0 : Int32))))
    else
    zgd (zin x2 35) (zgd (zin x2 35) (f_X5_kirk_15 N n (wr mem 46 x2.toNatClampNeg (mem 47 x2.toNatClampNeg)) x1 (x2 + 1))))
def f_X5_kirk (N : Nat) (mem : zMem) : Option (Int32 × zMem) :=
    zb (f_X5_reads N mem) (fun r525 mem525 =>
    (if r525 = (-1 : Int32) then
    some ((-4 : Int32), mem525)
    else
    f_X5_kirk_15 N N mem525 r525 (0 : Int32)))
def f_X5_weighs (N : Nat) (mem : zMem) (a1 : Int32) (a2 : Int32) (a3 : Int32) : Option (Int32 × zMem) :=
    (if a1 = (3 : Int32) then
    some ((0 : Int32), mem)
    else
    (if a1 = (2 : Int32) then
    some ((a2 / (2 : Int32)), mem)
    else
    (if a1 = (1 : Int32) then
    some ((a2 + a3), mem)
    else
    some (a2, mem))))
def f_X5_ounces (N : Nat) (mem : zMem) (a1 : Int32) (a2 : Int32) : Option (Int32 × zMem) :=
    zgd (zin ((5 : Int32) + a1) 35) (zgd (zin ((13 : Int32) + a1) 35) (zb (f_X5_weighs N mem (mem 46 ((5 : Int32) + a1).toNatClampNeg) (mem 46 ((13 : Int32) + a1).toNatClampNeg) a2) (fun r532 mem532 =>
    some (r532, mem532))))
def f_X5_ouncesOf_5 (N : Nat) : Nat → zMem → Int32 → Int32 → Int32 → Int32 → Option (Int32 × zMem)
  | 0, _, _, _, _, _ => none
  | n + 1, mem, x1, x2, x3, x4 =>
    (if (mem 46 (0 : Int32).toNatClampNeg) ≤ x4 then
    some (x3, mem)
    else
    (if ((x1 >>> (x4 &&& 31)) &&& (1 : Int32)) = (1 : Int32) then
    zb (f_X5_ounces N mem x4 x2) (fun r535 mem535 =>
    f_X5_ouncesOf_5 N n mem535 x1 x2 (x3 + r535) (x4 + 1))
    else
    f_X5_ouncesOf_5 N n mem x1 x2 (x3 + (0 : Int32)) (x4 + 1)))
def f_X5_ouncesOf (N : Nat) (mem : zMem) (a1 : Int32) (a2 : Int32) : Option (Int32 × zMem) :=
    f_X5_ouncesOf_5 N N mem a1 a2 (0 : Int32) (0 : Int32)
def f_X5_sermon (N : Nat) (mem : zMem) : Option (Int32 × zMem) :=
    zb (f_X5_ouncesOf N mem (mem 48 (7 : Int32).toNatClampNeg) (mem 48 (6 : Int32).toNatClampNeg)) (fun r536 mem536 =>
    some (((mem 46 (2 : Int32).toNatClampNeg) + r536), mem536))
def f_X5_lead_4 (N : Nat) : Nat → zMem → Int32 → Int32 → Option (Int32 × zMem)
  | 0, _, _, _ => none
  | n + 1, mem, x1, x2 =>
    (if (mem 46 (1 : Int32).toNatClampNeg) ≤ x2 then
    (if x1 ≤ (mem 48 (8 : Int32).toNatClampNeg) then
    some ((0 : Int32), mem)
    else
    some ((x1 - (mem 48 (8 : Int32).toNatClampNeg)), mem))
    else
    zgd (zin x2 12) (f_X5_lead_4 N n mem (x1 + (mem 48 x2.toNatClampNeg)) (x2 + 1)))
def f_X5_lead (N : Nat) (mem : zMem) : Option (Int32 × zMem) :=
    f_X5_lead_4 N N mem (0 : Int32) (0 : Int32)
def f_X5_hangs (N : Nat) (mem : zMem) (a1 : Int32) (a2 : Int32) : Option (Int32 × zMem) :=
    zb (f_X5_in N mem (a1 - a2) (-(mem 46 (3 : Int32).toNatClampNeg)) (mem 46 (3 : Int32).toNatClampNeg)) (fun r540 mem540 =>
    zgd (zbo r540) (some (r540, mem540)))
def f_X5_isLevel (N : Nat) (mem : zMem) : Option (Int32 × zMem) :=
    zb (f_X5_sermon N mem) (fun r542 mem542 =>
    zb (f_X5_lead N mem542) (fun r543 mem543 =>
    zb (f_X5_hangs N mem543 r542 r543) (fun r544 mem544 =>
    zgd (zbo r544) (some (r544, mem544)))))
def f_X5_part (N : Nat) (mem : zMem) (a1 : Int32) (a2 : Int32) : Option (Int32 × zMem) :=
    zb (f_X5_isPart N mem a1) (fun r546 mem546 =>
    (if r546 = 0 then
    some ((-2 : Int32), mem546)
    else
    (if a2 = 0 then
    zgd (zin ((5 : Int32) + a1) 35) (some ((mem546 46 ((5 : Int32) + a1).toNatClampNeg), mem546))
    else
(if a2 = 1 then
    zgd (zin ((13 : Int32) + a1) 35) (some ((mem546 46 ((13 : Int32) + a1).toNatClampNeg), mem546))
    else
(if a2 = 2 then
    zgd (zin ((21 : Int32) + a1) 35) (some ((mem546 46 ((21 : Int32) + a1).toNatClampNeg), mem546))
    else
(if a2 = 3 then
    zb (f_X5_ounces N mem546 a1 (mem546 48 (6 : Int32).toNatClampNeg)) (fun r555 mem555 =>
    some (r555, mem555))
    else
(if a2 = 4 then
    some ((((mem546 48 (7 : Int32).toNatClampNeg) >>> (a1 &&& 31)) &&& (1 : Int32)), mem546)
    else
    some ((-3 : Int32), mem546))))))))
def f_X5_sins (N : Nat) (mem : zMem) (a1 : Int32) : Option (Int32 × zMem) :=
    zb (f_X5_in N mem a1 (0 : Int32) ((mem 46 (1 : Int32).toNatClampNeg) - (1 : Int32))) (fun r557 mem557 =>
    (if r557 = 0 then
    some ((-2 : Int32), mem557)
    else
    zgd (zin a1 12) (some ((mem557 48 a1.toNatClampNeg), mem557))))
def f_X5_as_58 (N : Nat) (mem : zMem) (x1 : Int32) (s0 : Int32) : Option (Int32 × zMem) :=
    (if s0 = 0 then
    some ((-4 : Int32), mem)
    else
    zb (f_X5_ounces N mem x1 (9 : Int32)) (fun r561 mem561 =>
    some (r561, mem561)))
def f_X5_as_57 (N : Nat) (mem : zMem) (x1 : Int32) : Option (Int32 × zMem) :=
    f_X5_as_58 N mem x1 (0 : Int32)
def f_X5_as_53 (N : Nat) (mem : zMem) (x1 : Int32) : Option (Int32 × zMem) :=
    f_X5_as_58 N mem x1 (1 : Int32)
def f_X5_as (N : Nat) (mem : zMem) (a1 : Int32) (a2 : Int32) : Option (Int32 × zMem) :=
    zb (f_X5_isPart N mem a1) (fun r562 mem562 =>
    (if r562 = 0 then
    some ((-2 : Int32), mem562)
    else
    zb (f_X5_in N mem562 a2 (0 : Int32) (4 : Int32)) (fun r564 mem564 =>
    (if r564 = 0 then
    some ((-3 : Int32), mem564)
    else
    zgd (zin ((5 : Int32) + a1) 35) ((if a2 = 0 then
    f_X5_as_53 N mem564 a1
    else
    (if a2 = ((mem564 46 ((5 : Int32) + a1).toNatClampNeg) + (1 : Int32)) then
    f_X5_as_53 N mem564 a1
    else
    (if a2 = (1 : Int32) then
    (if (3 : Int32) ≤ (mem564 46 ((5 : Int32) + a1).toNatClampNeg) then
    f_X5_as_57 N mem564 a1
    else
    f_X5_as_53 N mem564 a1)
    else
    f_X5_as_57 N mem564 a1))))))))
def f_X5_keeps_50 (N : Nat) : Nat → zMem → Int32 → Option (Unit × zMem)
  | 0, _, _ => none
  | n + 1, mem, x1 =>
    (if (12 : Int32) ≤ x1 then
    some ((), (wr mem 44 6 ((mem 44 6) + (1 : Int32))))
    else
    zgd (zin x1 12) (zgd (zin (((12 : Int32) * (mem 44 6)) + x1) 96) (f_X5_keeps_50 N n (wr mem 49 (((12 : Int32) * (mem 44 6)) + x1).toNatClampNeg (mem 48 x1.toNatClampNeg)) (x1 + 1))))
def f_X5_keeps_48 (N : Nat) (mem : zMem) : Option (Unit × zMem) :=
    f_X5_keeps_50 N N mem (0 : Int32)
def f_X5_keeps_11 (N : Nat) : Nat → zMem → Int32 → Option (Unit × zMem)
  | 0, _, _ => none
  | n + 1, mem, x1 =>
    (if (84 : Int32) ≤ x1 then
    f_X5_keeps_48 N (wr mem 44 6 ((mem 44 6) - (1 : Int32)))
    else
    zgd (zin (x1 + (12 : Int32)) 96) (zgd (zin x1 96) (f_X5_keeps_11 N n (wr mem 49 x1.toNatClampNeg (mem 49 (x1 + (12 : Int32)).toNatClampNeg)) (x1 + 1))))
def f_X5_keeps (N : Nat) (mem : zMem) : Option (Unit × zMem) :=
    (if (mem 44 6) = (8 : Int32) then
    f_X5_keeps_11 N N mem (0 : Int32)
    else
    f_X5_keeps_48 N mem)
def f_X5_preach (N : Nat) (mem : zMem) (a1 : Int32) : Option (Int32 × zMem) :=
    zb (f_X5_isPart N mem a1) (fun r578 mem578 =>
    (if r578 = 0 then
    some ((-2 : Int32), mem578)
    else
    (if (((mem578 48 (7 : Int32).toNatClampNeg) >>> (a1 &&& 31)) &&& (1 : Int32)) = (1 : Int32) then
    some ((-4 : Int32), mem578)
    else
    zb (f_X5_isLevel N mem578) (fun r581 mem581 =>
    (if r581 = 0 then
    zb (f_X5_keeps N mem581) (fun _ mem583 =>
    zgd (zin ((21 : Int32) + a1) 35) (zb (f_X5_sermon N (wr (wr mem583 48 (7 : Int32).toNatClampNeg ((mem583 48 (7 : Int32).toNatClampNeg) ||| ((1 : Int32) <<< (a1 &&& 31)))) 48 (10 : Int32).toNatClampNeg (((wr mem583 48 (7 : Int32).toNatClampNeg ((mem583 48 (7 : Int32).toNatClampNeg) ||| ((1 : Int32) <<< (a1 &&& 31)))) 48 (10 : Int32).toNatClampNeg) + ((wr mem583 48 (7 : Int32).toNatClampNeg ((mem583 48 (7 : Int32).toNatClampNeg) ||| ((1 : Int32) <<< (a1 &&& 31)))) 46 ((21 : Int32) + a1).toNatClampNeg)))) (fun r585 mem585 =>
    zb (f_X5_lead N mem585) (fun r586 mem586 =>
    some ((((9999 : Int32) + r585) - r586), mem586)))))
    else
    some ((-4 : Int32), mem581))))))
def f_X5_sin (N : Nat) (mem : zMem) (a1 : Int32) (a2 : Int32) : Option (Int32 × zMem) :=
    zb (f_X5_in N mem a1 (0 : Int32) ((mem 46 (1 : Int32).toNatClampNeg) - (1 : Int32))) (fun r587 mem587 =>
    (if r587 = 0 then
    some ((-2 : Int32), mem587)
    else
    zb (f_X5_in N mem587 a2 (1 : Int32) (20 : Int32)) (fun r589 mem589 =>
    (if r589 = 0 then
    some ((-3 : Int32), mem589)
    else
    zb (f_X5_keeps N mem589) (fun _ mem591 =>
    zgd (zin a1 12) ((if ((mem591 48 a1.toNatClampNeg) + a2) ≤ (99 : Int32) then
    zgd (zin a1 12) (zgd (zin a1 12) (zgd (zin a1 12) (some (((wr mem591 48 a1.toNatClampNeg ((mem591 48 a1.toNatClampNeg) + a2)) 48 a1.toNatClampNeg), (wr mem591 48 a1.toNatClampNeg ((mem591 48 a1.toNatClampNeg) + a2))))))
    else
    zgd (zin a1 12) (zgd (zin a1 12) (some (((wr mem591 48 a1.toNatClampNeg (99 : Int32)) 48 a1.toNatClampNeg), (wr mem591 48 a1.toNatClampNeg (99 : Int32))))))))))))
def f_X5_ballast (N : Nat) (mem : zMem) (a1 : Int32) : Option (Int32 × zMem) :=
    zb (f_X5_in N mem a1 (1 : Int32) (20 : Int32)) (fun r599 mem599 =>
    (if r599 = 0 then
    some ((-3 : Int32), mem599)
    else
    zb (f_X5_keeps N mem599) (fun _ mem601 =>
    (if ((mem601 48 (8 : Int32).toNatClampNeg) + a1) ≤ (99 : Int32) then
    some (((wr mem601 48 (8 : Int32).toNatClampNeg ((mem601 48 (8 : Int32).toNatClampNeg) + a1)) 48 (8 : Int32).toNatClampNeg), (wr mem601 48 (8 : Int32).toNatClampNeg ((mem601 48 (8 : Int32).toNatClampNeg) + a1)))
    else
    some (((wr mem601 48 (8 : Int32).toNatClampNeg (99 : Int32)) 48 (8 : Int32).toNatClampNeg), (wr mem601 48 (8 : Int32).toNatClampNeg (99 : Int32)))))))
def f_X5_rain (N : Nat) (mem : zMem) (a1 : Int32) : Option (Int32 × zMem) :=
    zb (f_X5_in N mem a1 (0 : Int32) (9 : Int32)) (fun r603 mem603 =>
    (if r603 = 0 then
    some ((-3 : Int32), mem603)
    else
    zb (f_X5_keeps N mem603) (fun _ mem605 =>
    some ((mem605 48 (6 : Int32).toNatClampNeg), (wr mem605 48 (6 : Int32).toNatClampNeg a1)))))
def f_X5_sunday_105 (N : Nat) (mem : zMem) (x1 : Int32) (s1 : Int32) (s2 : Int32) (s3 : Int32) : Option (Int32 × zMem) :=
    zgd (zin s1 12) ((if x1 = 0 then
    some ((0 : Int32), (wr mem 48 s1.toNatClampNeg (s2 + s3)))
    else
    some ((1 : Int32), (wr mem 48 s1.toNatClampNeg (s2 + s3)))))
def f_X5_sunday_27 (N : Nat) : Nat → zMem → Int32 → Int32 → Option (Int32 × zMem)
  | 0, _, _, _ => none
  | n + 1, mem, x1, x2 =>
    (if (6 : Int32) ≤ x2 then
    (if x1 = 0 then
    f_X5_sunday_105 N (wr (wr (wr mem 48 (8 : Int32).toNatClampNeg (0 : Int32)) 48 (7 : Int32).toNatClampNeg (0 : Int32)) 48 (9 : Int32).toNatClampNeg (((wr (wr mem 48 (8 : Int32).toNatClampNeg (0 : Int32)) 48 (7 : Int32).toNatClampNeg (0 : Int32)) 48 (9 : Int32).toNatClampNeg) + (1 : Int32))) x1 (11 : Int32) ((wr (wr (wr mem 48 (8 : Int32).toNatClampNeg (0 : Int32)) 48 (7 : Int32).toNatClampNeg (0 : Int32)) 48 (9 : Int32).toNatClampNeg (((wr (wr mem 48 (8 : Int32).toNatClampNeg (0 : Int32)) 48 (7 : Int32).toNatClampNeg (0 : Int32)) 48 (9 : Int32).toNatClampNeg) + (1 : Int32))) 48 (11 : Int32).toNatClampNeg) (0 : Int32)
    else
    f_X5_sunday_105 N (wr (wr (wr mem 48 (8 : Int32).toNatClampNeg (0 : Int32)) 48 (7 : Int32).toNatClampNeg (0 : Int32)) 48 (9 : Int32).toNatClampNeg (((wr (wr mem 48 (8 : Int32).toNatClampNeg (0 : Int32)) 48 (7 : Int32).toNatClampNeg (0 : Int32)) 48 (9 : Int32).toNatClampNeg) + (1 : Int32))) x1 (11 : Int32) ((wr (wr (wr mem 48 (8 : Int32).toNatClampNeg (0 : Int32)) 48 (7 : Int32).toNatClampNeg (0 : Int32)) 48 (9 : Int32).toNatClampNeg (((wr (wr mem 48 (8 : Int32).toNatClampNeg (0 : Int32)) 48 (7 : Int32).toNatClampNeg (0 : Int32)) 48 (9 : Int32).toNatClampNeg) + (1 : Int32))) 48 (11 : Int32).toNatClampNeg) (1 : Int32))
    else
    (if x1 = 0 then
    zgd (zin x2 12) (zgd (zin x2 12) (f_X5_sunday_27 N n (wr mem 48 x2.toNatClampNeg ((mem 48 x2.toNatClampNeg) / (2 : Int32))) x1 (x2 + 1)))
    else
    zgd (zin x2 12) (f_X5_sunday_27 N n (wr mem 48 x2.toNatClampNeg (0 : Int32)) x1 (x2 + 1))))
def f_X5_sunday (N : Nat) (mem : zMem) : Option (Int32 × zMem) :=
    (if (mem 48 (9 : Int32).toNatClampNeg) = (999 : Int32) then
    some ((-5 : Int32), mem)
    else
    zb (f_X5_keeps N mem) (fun _ mem615 =>
    zb (f_X5_isLevel N mem615) (fun r616 mem616 =>
    f_X5_sunday_27 N N mem616 r616 (0 : Int32))))
def f_X5_undo_22 (N : Nat) : Nat → zMem → Int32 → Option (Int32 × zMem)
  | 0, _, _ => none
  | n + 1, mem, x1 =>
    (if (12 : Int32) ≤ x1 then
    some ((mem 44 6), mem)
    else
    zgd (zin (((12 : Int32) * (mem 44 6)) + x1) 96) (zgd (zin x1 12) (f_X5_undo_22 N n (wr mem 48 x1.toNatClampNeg (mem 49 (((12 : Int32) * (mem 44 6)) + x1).toNatClampNeg)) (x1 + 1))))
def f_X5_undo (N : Nat) (mem : zMem) : Option (Int32 × zMem) :=
    (if (mem 44 6) = 0 then
    some ((-4 : Int32), mem)
    else
    f_X5_undo_22 N N (wr mem 44 6 ((mem 44 6) - (1 : Int32))) (0 : Int32))
def f_X5_keep_14 (N : Nat) : Nat → zMem → Int32 → Int32 → Option (Int32 × zMem)
  | 0, _, _, _ => none
  | n + 1, mem, x1, x2 =>
    (if (12 : Int32) ≤ x2 then
    zgd (zin x1 2) (some (((wr mem 51 x1.toNatClampNeg (vp_nar .boolean (1 : Int32))) 48 (9 : Int32).toNatClampNeg), (wr mem 51 x1.toNatClampNeg (vp_nar .boolean (1 : Int32)))))
    else
    zgd (zin x2 12) (zgd (zin (((12 : Int32) * x1) + x2) 24) (f_X5_keep_14 N n (wr mem 50 (((12 : Int32) * x1) + x2).toNatClampNeg (mem 48 x2.toNatClampNeg)) x1 (x2 + 1))))
def f_X5_keep (N : Nat) (mem : zMem) (a1 : Int32) : Option (Int32 × zMem) :=
    zb (f_X5_in N mem a1 (0 : Int32) (1 : Int32)) (fun r625 mem625 =>
    (if r625 = 0 then
    some ((-2 : Int32), mem625)
    else
    f_X5_keep_14 N N mem625 a1 (0 : Int32)))
def f_X5_back_26 (N : Nat) : Nat → zMem → Int32 → Int32 → Option (Int32 × zMem)
  | 0, _, _, _ => none
  | n + 1, mem, x1, x2 =>
    (if (12 : Int32) ≤ x2 then
    some (((wr mem 44 6 (0 : Int32)) 48 (9 : Int32).toNatClampNeg), (wr mem 44 6 (0 : Int32)))
    else
    zgd (zin (((12 : Int32) * x1) + x2) 24) (zgd (zin x2 12) (f_X5_back_26 N n (wr mem 48 x2.toNatClampNeg (mem 50 (((12 : Int32) * x1) + x2).toNatClampNeg)) x1 (x2 + 1))))
def f_X5_back (N : Nat) (mem : zMem) (a1 : Int32) : Option (Int32 × zMem) :=
    zb (f_X5_in N mem a1 (0 : Int32) (1 : Int32)) (fun r630 mem630 =>
    (if r630 = 0 then
    some ((-2 : Int32), mem630)
    else
    zgd (zin a1 2) ((if (mem630 51 a1.toNatClampNeg) = 0 then
    some ((-4 : Int32), mem630)
    else
    f_X5_back_26 N N mem630 a1 (0 : Int32)))))
def f_X5_stops_9 (N : Nat) : Nat → zMem → Int32 → Int32 → Int32 → Option (Int32 × zMem)
  | 0, _, _, _, _ => none
  | n + 1, mem, x1, x2, x3 =>
    (if (mem 46 (0 : Int32).toNatClampNeg) ≤ x3 then
    zb (f_X5_lead N mem) (fun r635 mem635 =>
    zb (f_X5_hangs N mem635 x1 r635) (fun r636 mem636 =>
    (if r636 = 0 then
    some ((-1 : Int32), mem636)
    else
    some (x2, mem636))))
    else
    zb (f_X5_lead N mem) (fun r638 mem638 =>
    zb (f_X5_hangs N mem638 x1 r638) (fun r639 mem639 =>
    (if r639 = 0 then
    (if (((mem639 48 (7 : Int32).toNatClampNeg) >>> (x3 &&& 31)) &&& (1 : Int32)) = 0 then
    zb (f_X5_ounces N mem639 x3 (mem639 48 (6 : Int32).toNatClampNeg)) (fun r642 mem642 =>
    f_X5_stops_9 N n mem642 (x1 + r642) (x2 + 1) (x3 + 1))
    else
    f_X5_stops_9 N n mem639 x1 x2 (x3 + 1))
    else
    some (x2, mem639)))))
def f_X5_stops (N : Nat) (mem : zMem) : Option (Int32 × zMem) :=
    zb (f_X5_sermon N mem) (fun r643 mem643 =>
    f_X5_stops_9 N N mem643 r643 (0 : Int32) (0 : Int32))
def f_X5_minutesOf_4 (N : Nat) : Nat → zMem → Int32 → Int32 → Int32 → Option (Int32 × zMem)
  | 0, _, _, _, _ => none
  | n + 1, mem, x1, x2, x3 =>
    (if (mem 46 (0 : Int32).toNatClampNeg) ≤ x3 then
    some (x2, mem)
    else
    (if ((x1 >>> (x3 &&& 31)) &&& (1 : Int32)) = (1 : Int32) then
    zgd (zin ((21 : Int32) + x3) 35) (f_X5_minutesOf_4 N n mem x1 (x2 + (mem 46 ((21 : Int32) + x3).toNatClampNeg)) (x3 + 1))
    else
    f_X5_minutesOf_4 N n mem x1 (x2 + (0 : Int32)) (x3 + 1)))
def f_X5_minutesOf (N : Nat) (mem : zMem) (a1 : Int32) : Option (Int32 × zMem) :=
    f_X5_minutesOf_4 N N mem a1 (0 : Int32) (0 : Int32)
def f_X5_ones_4 (N : Nat) : Nat → zMem → Int32 → Int32 → Int32 → Option (Int32 × zMem)
  | 0, _, _, _, _ => none
  | n + 1, mem, x0, x1, x2 =>
    (if (8 : Int32) ≤ x2 then
    some (x1, mem)
    else
    f_X5_ones_4 N n mem x0 (x1 + ((x0 >>> (x2 &&& 31)) &&& (1 : Int32))) (x2 + 1))
def f_X5_ones (N : Nat) (mem : zMem) (a1 : Int32) : Option (Int32 × zMem) :=
    f_X5_ones_4 N N mem a1 (0 : Int32) (0 : Int32)
def f_X5_would (N : Nat) (mem : zMem) (a1 : Int32) (a2 : Int32) : Option (Int32 × zMem) :=
    (if (a1 &&& (mem 48 (7 : Int32).toNatClampNeg)) = 0 then
    zb (f_X5_sermon N mem) (fun r649 mem649 =>
    zb (f_X5_ouncesOf N mem649 a1 (mem649 48 (6 : Int32).toNatClampNeg)) (fun r650 mem650 =>
    zb (f_X5_hangs N mem650 (r649 + r650) a2) (fun r651 mem651 =>
    (if r651 = 0 then
    some ((0 : Int32), mem651)
    else
    some ((1 : Int32), mem651)))))
    else
    some ((0 : Int32), mem))
def f_X5_soonest_22 (N : Nat) : Nat → zMem → Int32 → Int32 → Int32 → Int32 → Option (Int32 × zMem)
  | 0, _, _, _, _, _ => none
  | n + 1, mem, x1, x2, x3, x4 =>
    (if ((1 : Int32) <<< ((mem 46 (0 : Int32).toNatClampNeg) &&& 31)) ≤ x4 then
    (if x1 = 0 then
    some (x2, mem)
    else
    (if x2 = (-1 : Int32) then
    some (x2, mem)
    else
    zb (f_X5_minutesOf N mem x2) (fun r656 mem656 =>
    some (r656, mem656))))
    else
    zb (f_X5_would N mem x4 x3) (fun r657 mem657 =>
    (if r657 = 0 then
    f_X5_soonest_22 N n mem657 x1 x2 x3 (x4 + 1)
    else
    (if x2 = (-1 : Int32) then
    (if (-1 : Int32) < 0 then
    f_X5_soonest_22 N n mem657 x1 x4 x3 (x4 + 1)
    else
    (if (-1 : Int32) = 0 then
    zb (f_X5_ones N mem657 x4) (fun r669 mem669 =>
    zb (f_X5_ones N mem669 x2) (fun r670 mem670 =>
    (if r670 ≤ r669 then
    f_X5_soonest_22 N n mem670 x1 x2 x3 (x4 + 1)
    else
    f_X5_soonest_22 N n mem670 x1 x4 x3 (x4 + 1))))
    else
    f_X5_soonest_22 N n mem657 x1 x2 x3 (x4 + 1)))
    else
    zb (f_X5_minutesOf N mem657 x4) (fun r660 mem660 =>
    zb (f_X5_minutesOf N mem660 x2) (fun r661 mem661 =>
    (if (r660 - r661) < 0 then
    f_X5_soonest_22 N n mem661 x1 x4 x3 (x4 + 1)
    else
    (if (r660 - r661) = 0 then
    zb (f_X5_ones N mem661 x4) (fun r664 mem664 =>
    zb (f_X5_ones N mem664 x2) (fun r665 mem665 =>
    (if r665 ≤ r664 then
    f_X5_soonest_22 N n mem665 x1 x2 x3 (x4 + 1)
    else
    f_X5_soonest_22 N n mem665 x1 x4 x3 (x4 + 1))))
    else
    f_X5_soonest_22 N n mem661 x1 x2 x3 (x4 + 1)))))))))
def f_X5_soonest (N : Nat) (mem : zMem) (a1 : Int32) : Option (Int32 × zMem) :=
    zb (f_X5_in N mem a1 (0 : Int32) (1 : Int32)) (fun r672 mem672 =>
    (if r672 = 0 then
    some ((-3 : Int32), mem672)
    else
    zb (f_X5_lead N mem672) (fun r674 mem674 =>
    f_X5_soonest_22 N N mem674 a1 (-1 : Int32) r674 (0 : Int32))))
def f_X5_never_17 (N : Nat) : Nat → zMem → Int32 → Int32 → Int32 → Option (Int32 × zMem)
  | 0, _, _, _, _ => none
  | n + 1, mem, x1, x2, x3 =>
    (if ((1 : Int32) <<< ((mem 46 (0 : Int32).toNatClampNeg) &&& 31)) ≤ x3 then
    (if x2 = 0 then
    some ((1 : Int32), mem)
    else
    some ((0 : Int32), mem))
    else
    (if x2 = 0 then
    zb (f_X5_would N mem x3 x1) (fun r678 mem678 =>
    (if r678 = 0 then
    f_X5_never_17 N n mem678 x1 (0 : Int32) (x3 + 1)
    else
    f_X5_never_17 N n mem678 x1 (1 : Int32) (x3 + 1)))
    else
    f_X5_never_17 N n mem x1 (1 : Int32) (x3 + 1)))
def f_X5_never (N : Nat) (mem : zMem) (a1 : Int32) : Option (Int32 × zMem) :=
    zb (f_X5_in N mem a1 (0 : Int32) (99 : Int32)) (fun r680 mem680 =>
    (if r680 = 0 then
    some ((-3 : Int32), mem680)
    else
    f_X5_never_17 N N mem680 a1 (0 : Int32) (0 : Int32)))
def f_X5_seen (N : Nat) (mem : zMem) (a1 : Int32) (a2 : Int32) (a3 : Int32) : Option (Int32 × zMem) :=
    zb (f_X5_isSet N mem a1) (fun r682 mem682 =>
    (if r682 = 0 then
    some ((-2 : Int32), mem682)
    else
    zb (f_X5_in N mem682 a2 (0 : Int32) (9 : Int32)) (fun r684 mem684 =>
    (if r684 = 0 then
    some ((-3 : Int32), mem684)
    else
    zb (f_X5_in N mem684 a3 (0 : Int32) (255 : Int32)) (fun r686 mem686 =>
    (if r686 = 0 then
    some ((-3 : Int32), mem686)
    else
    (if (mem686 44 10) = (6 : Int32) then
    some ((-5 : Int32), mem686)
    else
    zgd (zin ((3 : Int32) * (mem686 44 10)) 18) (zgd (zin (((3 : Int32) * ((wr mem686 52 ((3 : Int32) * (mem686 44 10)).toNatClampNeg a1) 44 10)) + (1 : Int32)) 18) (zgd (zin (((3 : Int32) * ((wr (wr mem686 52 ((3 : Int32) * (mem686 44 10)).toNatClampNeg a1) 52 (((3 : Int32) * ((wr mem686 52 ((3 : Int32) * (mem686 44 10)).toNatClampNeg a1) 44 10)) + (1 : Int32)).toNatClampNeg a2) 44 10)) + (2 : Int32)) 18) (some (((wr (wr (wr (wr mem686 52 ((3 : Int32) * (mem686 44 10)).toNatClampNeg a1) 52 (((3 : Int32) * ((wr mem686 52 ((3 : Int32) * (mem686 44 10)).toNatClampNeg a1) 44 10)) + (1 : Int32)).toNatClampNeg a2) 52 (((3 : Int32) * ((wr (wr mem686 52 ((3 : Int32) * (mem686 44 10)).toNatClampNeg a1) 52 (((3 : Int32) * ((wr mem686 52 ((3 : Int32) * (mem686 44 10)).toNatClampNeg a1) 44 10)) + (1 : Int32)).toNatClampNeg a2) 44 10)) + (2 : Int32)).toNatClampNeg a3) 44 10 (((wr (wr (wr mem686 52 ((3 : Int32) * (mem686 44 10)).toNatClampNeg a1) 52 (((3 : Int32) * ((wr mem686 52 ((3 : Int32) * (mem686 44 10)).toNatClampNeg a1) 44 10)) + (1 : Int32)).toNatClampNeg a2) 52 (((3 : Int32) * ((wr (wr mem686 52 ((3 : Int32) * (mem686 44 10)).toNatClampNeg a1) 52 (((3 : Int32) * ((wr mem686 52 ((3 : Int32) * (mem686 44 10)).toNatClampNeg a1) 44 10)) + (1 : Int32)).toNatClampNeg a2) 44 10)) + (2 : Int32)).toNatClampNeg a3) 44 10) + (1 : Int32))) 44 10), (wr (wr (wr (wr mem686 52 ((3 : Int32) * (mem686 44 10)).toNatClampNeg a1) 52 (((3 : Int32) * ((wr mem686 52 ((3 : Int32) * (mem686 44 10)).toNatClampNeg a1) 44 10)) + (1 : Int32)).toNatClampNeg a2) 52 (((3 : Int32) * ((wr (wr mem686 52 ((3 : Int32) * (mem686 44 10)).toNatClampNeg a1) 52 (((3 : Int32) * ((wr mem686 52 ((3 : Int32) * (mem686 44 10)).toNatClampNeg a1) 44 10)) + (1 : Int32)).toNatClampNeg a2) 44 10)) + (2 : Int32)).toNatClampNeg a3) 44 10 (((wr (wr (wr mem686 52 ((3 : Int32) * (mem686 44 10)).toNatClampNeg a1) 52 (((3 : Int32) * ((wr mem686 52 ((3 : Int32) * (mem686 44 10)).toNatClampNeg a1) 44 10)) + (1 : Int32)).toNatClampNeg a2) 52 (((3 : Int32) * ((wr (wr mem686 52 ((3 : Int32) * (mem686 44 10)).toNatClampNeg a1) 52 (((3 : Int32) * ((wr mem686 52 ((3 : Int32) * (mem686 44 10)).toNatClampNeg a1) 44 10)) + (1 : Int32)).toNatClampNeg a2) 44 10)) + (2 : Int32)).toNatClampNeg a3) 44 10) + (1 : Int32))))))))))))))
def f_X5_heard (N : Nat) (mem : zMem) (a1 : Int32) (a2 : Int32) (a3 : Int32) : Option (Int32 × zMem) :=
    zb (f_X5_isSet N mem a1) (fun r692 mem692 =>
    (if r692 = 0 then
    some ((-2 : Int32), mem692)
    else
    zb (f_X5_in N mem692 a2 (0 : Int32) (99 : Int32)) (fun r694 mem694 =>
    (if r694 = 0 then
    some ((-3 : Int32), mem694)
    else
    zb (f_X5_in N mem694 a3 (0 : Int32) (1 : Int32)) (fun r696 mem696 =>
    (if r696 = 0 then
    some ((-3 : Int32), mem696)
    else
    (if (mem696 44 12) = (6 : Int32) then
    some ((-5 : Int32), mem696)
    else
    zgd (zin ((3 : Int32) * (mem696 44 12)) 18) (zgd (zin (((3 : Int32) * ((wr mem696 53 ((3 : Int32) * (mem696 44 12)).toNatClampNeg a1) 44 12)) + (1 : Int32)) 18) (zgd (zin (((3 : Int32) * ((wr (wr mem696 53 ((3 : Int32) * (mem696 44 12)).toNatClampNeg a1) 53 (((3 : Int32) * ((wr mem696 53 ((3 : Int32) * (mem696 44 12)).toNatClampNeg a1) 44 12)) + (1 : Int32)).toNatClampNeg a2) 44 12)) + (2 : Int32)) 18) (some (((wr (wr (wr (wr mem696 53 ((3 : Int32) * (mem696 44 12)).toNatClampNeg a1) 53 (((3 : Int32) * ((wr mem696 53 ((3 : Int32) * (mem696 44 12)).toNatClampNeg a1) 44 12)) + (1 : Int32)).toNatClampNeg a2) 53 (((3 : Int32) * ((wr (wr mem696 53 ((3 : Int32) * (mem696 44 12)).toNatClampNeg a1) 53 (((3 : Int32) * ((wr mem696 53 ((3 : Int32) * (mem696 44 12)).toNatClampNeg a1) 44 12)) + (1 : Int32)).toNatClampNeg a2) 44 12)) + (2 : Int32)).toNatClampNeg a3) 44 12 (((wr (wr (wr mem696 53 ((3 : Int32) * (mem696 44 12)).toNatClampNeg a1) 53 (((3 : Int32) * ((wr mem696 53 ((3 : Int32) * (mem696 44 12)).toNatClampNeg a1) 44 12)) + (1 : Int32)).toNatClampNeg a2) 53 (((3 : Int32) * ((wr (wr mem696 53 ((3 : Int32) * (mem696 44 12)).toNatClampNeg a1) 53 (((3 : Int32) * ((wr mem696 53 ((3 : Int32) * (mem696 44 12)).toNatClampNeg a1) 44 12)) + (1 : Int32)).toNatClampNeg a2) 44 12)) + (2 : Int32)).toNatClampNeg a3) 44 12) + (1 : Int32))) 44 12), (wr (wr (wr (wr mem696 53 ((3 : Int32) * (mem696 44 12)).toNatClampNeg a1) 53 (((3 : Int32) * ((wr mem696 53 ((3 : Int32) * (mem696 44 12)).toNatClampNeg a1) 44 12)) + (1 : Int32)).toNatClampNeg a2) 53 (((3 : Int32) * ((wr (wr mem696 53 ((3 : Int32) * (mem696 44 12)).toNatClampNeg a1) 53 (((3 : Int32) * ((wr mem696 53 ((3 : Int32) * (mem696 44 12)).toNatClampNeg a1) 44 12)) + (1 : Int32)).toNatClampNeg a2) 44 12)) + (2 : Int32)).toNatClampNeg a3) 44 12 (((wr (wr (wr mem696 53 ((3 : Int32) * (mem696 44 12)).toNatClampNeg a1) 53 (((3 : Int32) * ((wr mem696 53 ((3 : Int32) * (mem696 44 12)).toNatClampNeg a1) 44 12)) + (1 : Int32)).toNatClampNeg a2) 53 (((3 : Int32) * ((wr (wr mem696 53 ((3 : Int32) * (mem696 44 12)).toNatClampNeg a1) 53 (((3 : Int32) * ((wr mem696 53 ((3 : Int32) * (mem696 44 12)).toNatClampNeg a1) 44 12)) + (1 : Int32)).toNatClampNeg a2) 44 12)) + (2 : Int32)).toNatClampNeg a3) 44 12) + (1 : Int32))))))))))))))
def f_X5_forget (N : Nat) (mem : zMem) : Option (Int32 × zMem) :=
    some (((mem 44 10) + (mem 44 12)), (wr (wr mem 44 10 (0 : Int32)) 44 12 (0 : Int32)))
def f_X5_weights_27 (k : zMem → Int32 → Int32 → Int32 → Int32 → Option (Int32 × zMem)) (N : Nat) : Nat → zMem → Int32 → Int32 → Int32 → Int32 → Int32 → Option (Int32 × zMem)
  | 0, _, _, _, _, _, _ => none
  | n + 1, mem, x1, x2, x3, x4, x5 =>
    (if (mem 44 10) ≤ x5 then
    k mem x1 x2 x3 x4
    else
    zgd (zin ((3 : Int32) * x5) 18) (zgd (zin (((3 : Int32) * x5) + (1 : Int32)) 18) (zb (f_X5_ouncesOf N mem ((mem 52 ((3 : Int32) * x5).toNatClampNeg) &&& (((1 : Int32) <<< (x1 &&& 31)) ^^^ (-1 : Int32))) (mem 52 (((3 : Int32) * x5) + (1 : Int32)).toNatClampNeg)) (fun r705 mem705 =>
    (if (((mem 52 ((3 : Int32) * x5).toNatClampNeg) >>> (x1 &&& 31)) &&& (1 : Int32)) = (1 : Int32) then
    zgd (zin ((5 : Int32) + x1) 35) (zb (f_X5_weighs N mem705 (mem705 46 ((5 : Int32) + x1).toNatClampNeg) x3 (mem 52 (((3 : Int32) * x5) + (1 : Int32)).toNatClampNeg)) (fun r711 mem711 =>
    (if x4 = 0 then
    f_X5_weights_27 k N n mem711 x1 x2 x3 (0 : Int32) (x5 + 1)
    else
    zgd (zin (((3 : Int32) * x5) + (2 : Int32)) 18) ((if (r705 + r711) = (mem711 52 (((3 : Int32) * x5) + (2 : Int32)).toNatClampNeg) then
    f_X5_weights_27 k N n mem711 x1 x2 x3 (1 : Int32) (x5 + 1)
    else
    f_X5_weights_27 k N n mem711 x1 x2 x3 (0 : Int32) (x5 + 1))))))
    else
    (if x4 = 0 then
    f_X5_weights_27 k N n mem705 x1 x2 x3 (0 : Int32) (x5 + 1)
    else
    zgd (zin (((3 : Int32) * x5) + (2 : Int32)) 18) ((if (r705 + (0 : Int32)) = (mem705 52 (((3 : Int32) * x5) + (2 : Int32)).toNatClampNeg) then
    f_X5_weights_27 k N n mem705 x1 x2 x3 (1 : Int32) (x5 + 1)
    else
    f_X5_weights_27 k N n mem705 x1 x2 x3 (0 : Int32) (x5 + 1)))))))))
def f_X5_weights_15 (N : Nat) : Nat → zMem → Int32 → Int32 → Int32 → Option (Int32 × zMem)
  | 0, _, _, _, _ => none
  | n + 1, mem, x1, x2, x3 =>
    (if (21 : Int32) ≤ x3 then
    some (x2, mem)
    else
    f_X5_weights_27 (fun mem_716 x1_716 x2_716 x3_716 x4_716 =>
    (if x4_716 = 0 then
    f_X5_weights_15 N n mem_716 x1_716 (x2_716 ||| (0 : Int32)) (x3_716 + 1)
    else
    f_X5_weights_15 N n mem_716 x1_716 (x2_716 ||| ((1 : Int32) <<< (x3_716 &&& 31))) (x3_716 + 1))) N N mem x1 x2 x3 (1 : Int32) (0 : Int32))
def f_X5_weights (N : Nat) (mem : zMem) (a1 : Int32) : Option (Int32 × zMem) :=
    zb (f_X5_isPart N mem a1) (fun r718 mem718 =>
    (if r718 = 0 then
    some ((-2 : Int32), mem718)
    else
    f_X5_weights_15 N N mem718 a1 (0 : Int32) (0 : Int32)))
def f_X5_thumbs_15 (k : zMem → Int32 → Int32 → Int32 → Option (Int32 × zMem)) (N : Nat) : Nat → zMem → Int32 → Int32 → Int32 → Int32 → Option (Int32 × zMem)
  | 0, _, _, _, _, _ => none
  | n + 1, mem, x1, x2, x3, x4 =>
    (if (mem 44 12) ≤ x4 then
    k mem x1 x2 x3
    else
    zgd (zin ((3 : Int32) * x4) 18) (zb (f_X5_ouncesOf N mem (mem 53 ((3 : Int32) * x4).toNatClampNeg) (mem 48 (6 : Int32).toNatClampNeg)) (fun r722 mem722 =>
    (if x3 = 0 then
    f_X5_thumbs_15 k N n mem722 x1 x2 (0 : Int32) (x4 + 1)
    else
    zgd (zin (((3 : Int32) * x4) + (1 : Int32)) 18) (zb (f_X5_hangs N mem722 (x2 + r722) (mem722 53 (((3 : Int32) * x4) + (1 : Int32)).toNatClampNeg)) (fun r725 mem725 =>
    zgd (zin (((3 : Int32) * x4) + (2 : Int32)) 18) ((if (mem725 53 (((3 : Int32) * x4) + (2 : Int32)).toNatClampNeg) = (1 : Int32) then
    (if r725 = (1 : Int32) then
    f_X5_thumbs_15 k N n mem725 x1 x2 (1 : Int32) (x4 + 1)
    else
    f_X5_thumbs_15 k N n mem725 x1 x2 (0 : Int32) (x4 + 1))
    else
    (if r725 = (0 : Int32) then
    f_X5_thumbs_15 k N n mem725 x1 x2 (1 : Int32) (x4 + 1)
    else
    f_X5_thumbs_15 k N n mem725 x1 x2 (0 : Int32) (x4 + 1))))))))))
def f_X5_thumbs_4 (N : Nat) : Nat → zMem → Int32 → Int32 → Option (Int32 × zMem)
  | 0, _, _, _ => none
  | n + 1, mem, x1, x2 =>
    (if (10 : Int32) ≤ x2 then
    some (x1, mem)
    else
    f_X5_thumbs_15 (fun mem_731 x1_731 x2_731 x3_731 =>
    (if x3_731 = 0 then
    f_X5_thumbs_4 N n mem_731 (x1_731 ||| (0 : Int32)) (x2_731 + 1)
    else
    f_X5_thumbs_4 N n mem_731 (x1_731 ||| ((1 : Int32) <<< (x2_731 &&& 31))) (x2_731 + 1))) N N mem x1 x2 (1 : Int32) (0 : Int32))
def f_X5_thumbs (N : Nat) (mem : zMem) : Option (Int32 × zMem) :=
    f_X5_thumbs_4 N N mem (0 : Int32) (0 : Int32)
def f_X5_confessed_212 (N : Nat) : Nat → zMem → Int32 → Int32 → Int32 → Int32 → Int32 → Option (Int32 × zMem)
  | 0, _, _, _, _, _, _ => none
  | n + 1, mem, x2, x3, x4, x5, x6 =>
    (if x6 ≤ 0 then
    (if x2 = 0 then
    zgd (znz x5) (some ((x3 / x5), mem))
    else
    zgd (znz x5) (some ((x4 / x5), mem)))
    else
    zgd (znz x6) (f_X5_confessed_212 N n mem x2 x3 x4 x6 (x5 - x5 / x6 * x6)))
def f_X5_confessed_79 (k : zMem → Int32 → Int32 → Int32 → Int32 → Int32 → Int32 → Int32 → Option (Int32 × zMem)) (N : Nat) : Nat → zMem → Int32 → Int32 → Int32 → Int32 → Int32 → Int32 → Int32 → Int32 → Option (Int32 × zMem)
  | 0, _, _, _, _, _, _, _, _, _ => none
  | n + 1, mem, x1, x2, x3, x4, x5, x6, x7, x8 =>
    (if (mem 46 (1 : Int32).toNatClampNeg) ≤ x8 then
    k mem x1 x2 x3 x4 x5 x6 x7
    else
    (if ((x5 >>> (x8 &&& 31)) &&& (1 : Int32)) = (1 : Int32) then
    (if (1 : Int32) = 0 then
    (if (1 : Int32) = 0 then
    zgd (zin x8 12) (f_X5_confessed_79 k N n mem x1 x2 x3 x4 x5 (x6 * ((10 : Int32) - x1)) (x7 + (mem 48 x8.toNatClampNeg)) (x8 + 1))
    else
    f_X5_confessed_79 k N n mem x1 x2 x3 x4 x5 (x6 * ((10 : Int32) - x1)) (x7 + (0 : Int32)) (x8 + 1))
    else
    (if (1 : Int32) = 0 then
    zgd (zin x8 12) (f_X5_confessed_79 k N n mem x1 x2 x3 x4 x5 (x6 * x1) (x7 + (mem 48 x8.toNatClampNeg)) (x8 + 1))
    else
    f_X5_confessed_79 k N n mem x1 x2 x3 x4 x5 (x6 * x1) (x7 + (0 : Int32)) (x8 + 1)))
    else
    (if (0 : Int32) = 0 then
    (if (0 : Int32) = 0 then
    zgd (zin x8 12) (f_X5_confessed_79 k N n mem x1 x2 x3 x4 x5 (x6 * ((10 : Int32) - x1)) (x7 + (mem 48 x8.toNatClampNeg)) (x8 + 1))
    else
    f_X5_confessed_79 k N n mem x1 x2 x3 x4 x5 (x6 * ((10 : Int32) - x1)) (x7 + (0 : Int32)) (x8 + 1))
    else
    (if (0 : Int32) = 0 then
    zgd (zin x8 12) (f_X5_confessed_79 k N n mem x1 x2 x3 x4 x5 (x6 * x1) (x7 + (mem 48 x8.toNatClampNeg)) (x8 + 1))
    else
    f_X5_confessed_79 k N n mem x1 x2 x3 x4 x5 (x6 * x1) (x7 + (0 : Int32)) (x8 + 1)))))
def f_X5_confessed_57 (N : Nat) : Nat → zMem → Int32 → Int32 → Int32 → Int32 → Int32 → Option (Int32 × zMem)
  | 0, _, _, _, _, _, _ => none
  | n + 1, mem, x1, x2, x3, x4, x5 =>
    (if ((1 : Int32) <<< ((mem 46 (1 : Int32).toNatClampNeg) &&& 31)) ≤ x5 then
    f_X5_confessed_212 N N mem x2 x3 x4 x3 x4
    else
    f_X5_confessed_79 (fun mem_751 x1_751 x2_751 x3_751 x4_751 x5_751 x6_751 x7_751 =>
    zb (f_X5_sermon N mem_751) (fun r752 mem752 =>
    (if x7_751 ≤ (mem752 48 (8 : Int32).toNatClampNeg) then
    zb (f_X5_hangs N mem752 r752 (0 : Int32)) (fun r754 mem754 =>
    (if r754 = 0 then
    f_X5_confessed_57 N n mem754 x1_751 x2_751 (x3_751 + (0 : Int32)) x4_751 (x5_751 + 1)
    else
    f_X5_confessed_57 N n mem754 x1_751 x2_751 (x3_751 + x6_751) x4_751 (x5_751 + 1)))
    else
    zb (f_X5_hangs N mem752 r752 (x7_751 - (mem752 48 (8 : Int32).toNatClampNeg))) (fun r756 mem756 =>
    (if r756 = 0 then
    f_X5_confessed_57 N n mem756 x1_751 x2_751 (x3_751 + (0 : Int32)) x4_751 (x5_751 + 1)
    else
    f_X5_confessed_57 N n mem756 x1_751 x2_751 (x3_751 + x6_751) x4_751 (x5_751 + 1)))))) N N mem x1 x2 x3 x4 x5 (1 : Int32) (0 : Int32) (0 : Int32))
def f_X5_confessed_30 (N : Nat) : Nat → zMem → Int32 → Int32 → Int32 → Int32 → Int32 → Option (Int32 × zMem)
  | 0, _, _, _, _, _, _ => none
  | n + 1, mem, x1, x2, x3, x4, x5 =>
    (if (mem 46 (1 : Int32).toNatClampNeg) ≤ x5 then
    f_X5_confessed_57 N N mem x1 x2 x3 x4 (0 : Int32)
    else
    f_X5_confessed_30 N n mem x1 x2 x3 (x4 * (10 : Int32)) (x5 + 1))
def f_X5_confessed (N : Nat) (mem : zMem) (a1 : Int32) (a2 : Int32) : Option (Int32 × zMem) :=
    zb (f_X5_in N mem a1 (0 : Int32) (10 : Int32)) (fun r759 mem759 =>
    (if r759 = 0 then
    some ((-3 : Int32), mem759)
    else
    zb (f_X5_in N mem759 a2 (0 : Int32) (1 : Int32)) (fun r761 mem761 =>
    (if r761 = 0 then
    some ((-3 : Int32), mem761)
    else
    f_X5_confessed_30 N N mem761 a1 a2 (0 : Int32) (1 : Int32) (0 : Int32)))))
def f_X5_count (N : Nat) (mem : zMem) (a1 : Int32) : Option (Int32 × zMem) :=
    (if a1 = 0 then
    some ((mem 46 (0 : Int32).toNatClampNeg), mem)
    else
(if a1 = 1 then
    some ((mem 46 (1 : Int32).toNatClampNeg), mem)
    else
(if a1 = 2 then
    some ((mem 48 (9 : Int32).toNatClampNeg), mem)
    else
(if a1 = 3 then
    zb (f_X5_sermon N mem) (fun r767 mem767 =>
    some (r767, mem767))
    else
(if a1 = 4 then
    zb (f_X5_lead N mem) (fun r769 mem769 =>
    some (r769, mem769))
    else
(if a1 = 5 then
    zb (f_X5_isLevel N mem) (fun r771 mem771 =>
    (if r771 = 0 then
    some ((0 : Int32), mem771)
    else
    some ((1 : Int32), mem771)))
    else
(if a1 = 6 then
    some ((mem 48 (7 : Int32).toNatClampNeg), mem)
    else
(if a1 = 7 then
    some ((mem 48 (10 : Int32).toNatClampNeg), mem)
    else
(if a1 = 8 then
    some ((mem 48 (11 : Int32).toNatClampNeg), mem)
    else
(if a1 = 9 then
    some ((mem 48 (8 : Int32).toNatClampNeg), mem)
    else
(if a1 = 10 then
    some ((mem 48 (6 : Int32).toNatClampNeg), mem)
    else
(if a1 = 11 then
    some ((mem 44 10), mem)
    else
(if a1 = 12 then
    some ((mem 44 12), mem)
    else
(if a1 = 13 then
    some ((mem 44 6), mem)
    else
(if a1 = 14 then
    some ((mem 44 1), mem)
    else
    some ((-3 : Int32), mem))))))))))))))))
end
section
theorem z_end : True := trivial
end
