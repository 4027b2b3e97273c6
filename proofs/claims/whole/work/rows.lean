section
-- ===== PART A: goes FIRST, ahead of the names: the tables' words, and 'selects' of the private methods out of them =====
/-- a private method of a class that the tables say can be made, by its rows of tables_1 -/
def lw_okq (q : MethodName × Nat) : Prop := (q.1.cls ≠ "java/lang/invoke/MethodHandle" ∧ q.1.cls ≠ "java/lang/invoke/VarHandle") ∧ Cond.instantiable q.1.cls q.2 ∈ tables_1 ∧ Cond.privateMethod q.1 ∈ tables_1 ∧ Cond.instanceMethod q.1 ∈ tables_1
theorem lw_p0 : lw_okq (⟨"FixupVolume$Sheet", "encodeName", "([I)I"⟩, 8) := ⟨⟨by decide +kernel, by decide +kernel⟩, List.mem_of_getElem? (i := 42) (by decide +kernel), List.mem_of_getElem? (i := 140) (by decide +kernel), List.mem_of_getElem? (i := 141) (by decide +kernel)⟩
theorem lw_p1 : lw_okq (⟨"FixupVolume$Sheet", "encodeData", "([II)I"⟩, 8) := ⟨⟨by decide +kernel, by decide +kernel⟩, List.mem_of_getElem? (i := 42) (by decide +kernel), List.mem_of_getElem? (i := 147) (by decide +kernel), List.mem_of_getElem? (i := 148) (by decide +kernel)⟩
theorem lw_p2 : lw_okq (⟨"FixupVolume$Sheet", "setAside", "([III)V"⟩, 8) := ⟨⟨by decide +kernel, by decide +kernel⟩, List.mem_of_getElem? (i := 42) (by decide +kernel), List.mem_of_getElem? (i := 159) (by decide +kernel), List.mem_of_getElem? (i := 160) (by decide +kernel)⟩
theorem lw_p3 : lw_okq (⟨"FixupVolume", "isDirectory", "(I)Z"⟩, 9) := ⟨⟨by decide +kernel, by decide +kernel⟩, List.mem_of_getElem? (i := 17) (by decide +kernel), List.mem_of_getElem? (i := 220) (by decide +kernel), List.mem_of_getElem? (i := 221) (by decide +kernel)⟩
theorem lw_p4 : lw_okq (⟨"FixupVolume", "isUsed", "(I)Z"⟩, 9) := ⟨⟨by decide +kernel, by decide +kernel⟩, List.mem_of_getElem? (i := 17) (by decide +kernel), List.mem_of_getElem? (i := 224) (by decide +kernel), List.mem_of_getElem? (i := 225) (by decide +kernel)⟩
theorem lw_p5 : lw_okq (⟨"FixupVolume", "entryNamed", "(ILFixupVolume$Name;)I"⟩, 9) := ⟨⟨by decide +kernel, by decide +kernel⟩, List.mem_of_getElem? (i := 17) (by decide +kernel), List.mem_of_getElem? (i := 228) (by decide +kernel), List.mem_of_getElem? (i := 229) (by decide +kernel)⟩
theorem lw_p6 : lw_okq (⟨"FixupVolume", "isFile", "(I)Z"⟩, 9) := ⟨⟨by decide +kernel, by decide +kernel⟩, List.mem_of_getElem? (i := 17) (by decide +kernel), List.mem_of_getElem? (i := 283) (by decide +kernel), List.mem_of_getElem? (i := 284) (by decide +kernel)⟩
theorem lw_p7 : lw_okq (⟨"FixupVolume", "requireRunning", "()V"⟩, 9) := ⟨⟨by decide +kernel, by decide +kernel⟩, List.mem_of_getElem? (i := 17) (by decide +kernel), List.mem_of_getElem? (i := 319) (by decide +kernel), List.mem_of_getElem? (i := 320) (by decide +kernel)⟩
theorem lw_p8 : lw_okq (⟨"java/lang/Throwable", "fillInStackTrace", "(I)Ljava/lang/Throwable;"⟩, 6) := ⟨⟨by decide +kernel, by decide +kernel⟩, List.mem_of_getElem? (i := 361) (by decide +kernel), List.mem_of_getElem? (i := 359) (by decide +kernel), List.mem_of_getElem? (i := 360) (by decide +kernel)⟩
theorem lw_p9 : lw_okq (⟨"FixupVolume", "lowestFreeRecord", "()I"⟩, 9) := ⟨⟨by decide +kernel, by decide +kernel⟩, List.mem_of_getElem? (i := 17) (by decide +kernel), List.mem_of_getElem? (i := 410) (by decide +kernel), List.mem_of_getElem? (i := 411) (by decide +kernel)⟩
theorem lw_p10 : lw_okq (⟨"FixupVolume", "store", "(I)V"⟩, 9) := ⟨⟨by decide +kernel, by decide +kernel⟩, List.mem_of_getElem? (i := 17) (by decide +kernel), List.mem_of_getElem? (i := 430) (by decide +kernel), List.mem_of_getElem? (i := 431) (by decide +kernel)⟩
theorem lw_p11 : lw_okq (⟨"FixupVolume", "storeSector", "(II)V"⟩, 9) := ⟨⟨by decide +kernel, by decide +kernel⟩, List.mem_of_getElem? (i := 17) (by decide +kernel), List.mem_of_getElem? (i := 434) (by decide +kernel), List.mem_of_getElem? (i := 435) (by decide +kernel)⟩
theorem lw_p12 : lw_okq (⟨"FixupVolume", "enter", "(II)V"⟩, 9) := ⟨⟨by decide +kernel, by decide +kernel⟩, List.mem_of_getElem? (i := 17) (by decide +kernel), List.mem_of_getElem? (i := 443) (by decide +kernel), List.mem_of_getElem? (i := 444) (by decide +kernel)⟩
theorem lw_p13 : lw_okq (⟨"FixupVolume", "insertByName", "([III)I"⟩, 9) := ⟨⟨by decide +kernel, by decide +kernel⟩, List.mem_of_getElem? (i := 17) (by decide +kernel), List.mem_of_getElem? (i := 447) (by decide +kernel), List.mem_of_getElem? (i := 448) (by decide +kernel)⟩
theorem lw_p14 : lw_okq (⟨"FixupVolume", "makePlan", "(LFixupVolume$Sheet;III)Z"⟩, 9) := ⟨⟨by decide +kernel, by decide +kernel⟩, List.mem_of_getElem? (i := 17) (by decide +kernel), List.mem_of_getElem? (i := 469) (by decide +kernel), List.mem_of_getElem? (i := 470) (by decide +kernel)⟩
theorem lw_p15 : lw_okq (⟨"FixupVolume", "lowestFreeCluster", "(I)I"⟩, 9) := ⟨⟨by decide +kernel, by decide +kernel⟩, List.mem_of_getElem? (i := 17) (by decide +kernel), List.mem_of_getElem? (i := 479) (by decide +kernel), List.mem_of_getElem? (i := 480) (by decide +kernel)⟩
def lw_privs_1 : List (MethodName × Nat) := [(⟨"FixupVolume$Sheet", "encodeName", "([I)I"⟩, 8), (⟨"FixupVolume$Sheet", "encodeData", "([II)I"⟩, 8), (⟨"FixupVolume$Sheet", "setAside", "([III)V"⟩, 8), (⟨"FixupVolume", "isDirectory", "(I)Z"⟩, 9), (⟨"FixupVolume", "isUsed", "(I)Z"⟩, 9), (⟨"FixupVolume", "entryNamed", "(ILFixupVolume$Name;)I"⟩, 9), (⟨"FixupVolume", "isFile", "(I)Z"⟩, 9), (⟨"FixupVolume", "requireRunning", "()V"⟩, 9), (⟨"java/lang/Throwable", "fillInStackTrace", "(I)Ljava/lang/Throwable;"⟩, 6), (⟨"FixupVolume", "lowestFreeRecord", "()I"⟩, 9), (⟨"FixupVolume", "store", "(I)V"⟩, 9), (⟨"FixupVolume", "storeSector", "(II)V"⟩, 9), (⟨"FixupVolume", "enter", "(II)V"⟩, 9), (⟨"FixupVolume", "insertByName", "([III)I"⟩, 9), (⟨"FixupVolume", "makePlan", "(LFixupVolume$Sheet;III)Z"⟩, 9), (⟨"FixupVolume", "lowestFreeCluster", "(I)I"⟩, 9)]
theorem lw_r1 : ∀ q ∈ lw_privs_1, lw_okq q := List.forall_mem_cons.mpr ⟨lw_p0, List.forall_mem_cons.mpr ⟨lw_p1, List.forall_mem_cons.mpr ⟨lw_p2, List.forall_mem_cons.mpr ⟨lw_p3, List.forall_mem_cons.mpr ⟨lw_p4, List.forall_mem_cons.mpr ⟨lw_p5, List.forall_mem_cons.mpr ⟨lw_p6, List.forall_mem_cons.mpr ⟨lw_p7, List.forall_mem_cons.mpr ⟨lw_p8, List.forall_mem_cons.mpr ⟨lw_p9, List.forall_mem_cons.mpr ⟨lw_p10, List.forall_mem_cons.mpr ⟨lw_p11, List.forall_mem_cons.mpr ⟨lw_p12, List.forall_mem_cons.mpr ⟨lw_p13, List.forall_mem_cons.mpr ⟨lw_p14, List.forall_mem_cons.mpr ⟨lw_p15, fun _ h => absurd h List.not_mem_nil⟩⟩⟩⟩⟩⟩⟩⟩⟩⟩⟩⟩⟩⟩⟩⟩
theorem lw_p16 : lw_okq (⟨"FixupVolume", "putOutside", "(LFixupVolume$Sheet;IIII)V"⟩, 9) := ⟨⟨by decide +kernel, by decide +kernel⟩, List.mem_of_getElem? (i := 17) (by decide +kernel), List.mem_of_getElem? (i := 490) (by decide +kernel), List.mem_of_getElem? (i := 491) (by decide +kernel)⟩
theorem lw_p17 : lw_okq (⟨"FixupVolume", "takePlanned", "()V"⟩, 9) := ⟨⟨by decide +kernel, by decide +kernel⟩, List.mem_of_getElem? (i := 17) (by decide +kernel), List.mem_of_getElem? (i := 494) (by decide +kernel), List.mem_of_getElem? (i := 495) (by decide +kernel)⟩
theorem lw_p18 : lw_okq (⟨"FixupVolume", "releaseFrom", "(LFixupVolume$Layout;I)I"⟩, 9) := ⟨⟨by decide +kernel, by decide +kernel⟩, List.mem_of_getElem? (i := 17) (by decide +kernel), List.mem_of_getElem? (i := 523) (by decide +kernel), List.mem_of_getElem? (i := 524) (by decide +kernel)⟩
theorem lw_p19 : lw_okq (⟨"FixupVolume", "leave", "(II)V"⟩, 9) := ⟨⟨by decide +kernel, by decide +kernel⟩, List.mem_of_getElem? (i := 17) (by decide +kernel), List.mem_of_getElem? (i := 535) (by decide +kernel), List.mem_of_getElem? (i := 536) (by decide +kernel)⟩
theorem lw_p20 : lw_okq (⟨"FixupVolume", "isAtOrBelow", "(II)Z"⟩, 9) := ⟨⟨by decide +kernel, by decide +kernel⟩, List.mem_of_getElem? (i := 17) (by decide +kernel), List.mem_of_getElem? (i := 546) (by decide +kernel), List.mem_of_getElem? (i := 547) (by decide +kernel)⟩
theorem lw_p21 : lw_okq (⟨"FixupVolume$Sheet", "isTorn", "([I)Z"⟩, 8) := ⟨⟨by decide +kernel, by decide +kernel⟩, List.mem_of_getElem? (i := 42) (by decide +kernel), List.mem_of_getElem? (i := 565) (by decide +kernel), List.mem_of_getElem? (i := 566) (by decide +kernel)⟩
theorem lw_p22 : lw_okq (⟨"FixupVolume$Sheet", "decodeAttributes", "([I)V"⟩, 8) := ⟨⟨by decide +kernel, by decide +kernel⟩, List.mem_of_getElem? (i := 42) (by decide +kernel), List.mem_of_getElem? (i := 570) (by decide +kernel), List.mem_of_getElem? (i := 571) (by decide +kernel)⟩
theorem lw_p23 : lw_okq (⟨"FixupVolume$Sheet", "decodeAttribute", "([III)V"⟩, 8) := ⟨⟨by decide +kernel, by decide +kernel⟩, List.mem_of_getElem? (i := 42) (by decide +kernel), List.mem_of_getElem? (i := 576) (by decide +kernel), List.mem_of_getElem? (i := 577) (by decide +kernel)⟩
theorem lw_p24 : lw_okq (⟨"FixupVolume", "restoreRoot", "()I"⟩, 9) := ⟨⟨by decide +kernel, by decide +kernel⟩, List.mem_of_getElem? (i := 17) (by decide +kernel), List.mem_of_getElem? (i := 586) (by decide +kernel), List.mem_of_getElem? (i := 587) (by decide +kernel)⟩
theorem lw_p25 : lw_okq (⟨"FixupVolume", "adoptStrays", "()I"⟩, 9) := ⟨⟨by decide +kernel, by decide +kernel⟩, List.mem_of_getElem? (i := 17) (by decide +kernel), List.mem_of_getElem? (i := 590) (by decide +kernel), List.mem_of_getElem? (i := 591) (by decide +kernel)⟩
theorem lw_p26 : lw_okq (⟨"FixupVolume", "leadsToRoot", "(I)Z"⟩, 9) := ⟨⟨by decide +kernel, by decide +kernel⟩, List.mem_of_getElem? (i := 17) (by decide +kernel), List.mem_of_getElem? (i := 594) (by decide +kernel), List.mem_of_getElem? (i := 595) (by decide +kernel)⟩
theorem lw_p27 : lw_okq (⟨"FixupVolume", "mendLists", "()I"⟩, 9) := ⟨⟨by decide +kernel, by decide +kernel⟩, List.mem_of_getElem? (i := 17) (by decide +kernel), List.mem_of_getElem? (i := 598) (by decide +kernel), List.mem_of_getElem? (i := 599) (by decide +kernel)⟩
theorem lw_p28 : lw_okq (⟨"FixupVolume", "collectEntries", "(I)I"⟩, 9) := ⟨⟨by decide +kernel, by decide +kernel⟩, List.mem_of_getElem? (i := 17) (by decide +kernel), List.mem_of_getElem? (i := 602) (by decide +kernel), List.mem_of_getElem? (i := 603) (by decide +kernel)⟩
theorem lw_p29 : lw_okq (⟨"FixupVolume", "noteTaken", "()V"⟩, 9) := ⟨⟨by decide +kernel, by decide +kernel⟩, List.mem_of_getElem? (i := 17) (by decide +kernel), List.mem_of_getElem? (i := 614) (by decide +kernel), List.mem_of_getElem? (i := 615) (by decide +kernel)⟩
theorem lw_p30 : lw_okq (⟨"FixupVolumeModel", "begin", "(II)V"⟩, 17) := ⟨⟨by decide +kernel, by decide +kernel⟩, List.mem_of_getElem? (i := 618) (by decide +kernel), List.mem_of_getElem? (i := 624) (by decide +kernel), List.mem_of_getElem? (i := 625) (by decide +kernel)⟩
theorem lw_p31 : lw_okq (⟨"FixupVolumeModel", "putList", "()V"⟩, 17) := ⟨⟨by decide +kernel, by decide +kernel⟩, List.mem_of_getElem? (i := 618) (by decide +kernel), List.mem_of_getElem? (i := 628) (by decide +kernel), List.mem_of_getElem? (i := 629) (by decide +kernel)⟩
def lw_privs_2 : List (MethodName × Nat) := [(⟨"FixupVolume", "putOutside", "(LFixupVolume$Sheet;IIII)V"⟩, 9), (⟨"FixupVolume", "takePlanned", "()V"⟩, 9), (⟨"FixupVolume", "releaseFrom", "(LFixupVolume$Layout;I)I"⟩, 9), (⟨"FixupVolume", "leave", "(II)V"⟩, 9), (⟨"FixupVolume", "isAtOrBelow", "(II)Z"⟩, 9), (⟨"FixupVolume$Sheet", "isTorn", "([I)Z"⟩, 8), (⟨"FixupVolume$Sheet", "decodeAttributes", "([I)V"⟩, 8), (⟨"FixupVolume$Sheet", "decodeAttribute", "([III)V"⟩, 8), (⟨"FixupVolume", "restoreRoot", "()I"⟩, 9), (⟨"FixupVolume", "adoptStrays", "()I"⟩, 9), (⟨"FixupVolume", "leadsToRoot", "(I)Z"⟩, 9), (⟨"FixupVolume", "mendLists", "()I"⟩, 9), (⟨"FixupVolume", "collectEntries", "(I)I"⟩, 9), (⟨"FixupVolume", "noteTaken", "()V"⟩, 9), (⟨"FixupVolumeModel", "begin", "(II)V"⟩, 17), (⟨"FixupVolumeModel", "putList", "()V"⟩, 17)]
theorem lw_r2 : ∀ q ∈ lw_privs_2, lw_okq q := List.forall_mem_cons.mpr ⟨lw_p16, List.forall_mem_cons.mpr ⟨lw_p17, List.forall_mem_cons.mpr ⟨lw_p18, List.forall_mem_cons.mpr ⟨lw_p19, List.forall_mem_cons.mpr ⟨lw_p20, List.forall_mem_cons.mpr ⟨lw_p21, List.forall_mem_cons.mpr ⟨lw_p22, List.forall_mem_cons.mpr ⟨lw_p23, List.forall_mem_cons.mpr ⟨lw_p24, List.forall_mem_cons.mpr ⟨lw_p25, List.forall_mem_cons.mpr ⟨lw_p26, List.forall_mem_cons.mpr ⟨lw_p27, List.forall_mem_cons.mpr ⟨lw_p28, List.forall_mem_cons.mpr ⟨lw_p29, List.forall_mem_cons.mpr ⟨lw_p30, List.forall_mem_cons.mpr ⟨lw_p31, fun _ h => absurd h List.not_mem_nil⟩⟩⟩⟩⟩⟩⟩⟩⟩⟩⟩⟩⟩⟩⟩⟩
theorem lw_p32 : lw_okq (⟨"FixupVolumeModel", "put", "(I)V"⟩, 17) := ⟨⟨by decide +kernel, by decide +kernel⟩, List.mem_of_getElem? (i := 618) (by decide +kernel), List.mem_of_getElem? (i := 632) (by decide +kernel), List.mem_of_getElem? (i := 633) (by decide +kernel)⟩
theorem lw_p33 : lw_okq (⟨"FixupVolumeModel", "store", "(I)Z"⟩, 17) := ⟨⟨by decide +kernel, by decide +kernel⟩, List.mem_of_getElem? (i := 618) (by decide +kernel), List.mem_of_getElem? (i := 636) (by decide +kernel), List.mem_of_getElem? (i := 637) (by decide +kernel)⟩
theorem lw_p34 : lw_okq (⟨"FixupVolumeModel", "wordAt", "(I)I"⟩, 17) := ⟨⟨by decide +kernel, by decide +kernel⟩, List.mem_of_getElem? (i := 618) (by decide +kernel), List.mem_of_getElem? (i := 640) (by decide +kernel), List.mem_of_getElem? (i := 641) (by decide +kernel)⟩
theorem lw_p35 : lw_okq (⟨"FixupVolumeModel", "sector", "(II)Z"⟩, 17) := ⟨⟨by decide +kernel, by decide +kernel⟩, List.mem_of_getElem? (i := 618) (by decide +kernel), List.mem_of_getElem? (i := 645) (by decide +kernel), List.mem_of_getElem? (i := 646) (by decide +kernel)⟩
theorem lw_p36 : lw_okq (⟨"FixupVolumeModel", "makeRecord", "(IZ)I"⟩, 17) := ⟨⟨by decide +kernel, by decide +kernel⟩, List.mem_of_getElem? (i := 618) (by decide +kernel), List.mem_of_getElem? (i := 714) (by decide +kernel), List.mem_of_getElem? (i := 715) (by decide +kernel)⟩
theorem lw_p37 : lw_okq (⟨"FixupVolumeModel", "refuse", "(I)I"⟩, 17) := ⟨⟨by decide +kernel, by decide +kernel⟩, List.mem_of_getElem? (i := 618) (by decide +kernel), List.mem_of_getElem? (i := 718) (by decide +kernel), List.mem_of_getElem? (i := 719) (by decide +kernel)⟩
theorem lw_p38 : lw_okq (⟨"FixupVolumeModel", "isKind", "(II)Z"⟩, 17) := ⟨⟨by decide +kernel, by decide +kernel⟩, List.mem_of_getElem? (i := 618) (by decide +kernel), List.mem_of_getElem? (i := 722) (by decide +kernel), List.mem_of_getElem? (i := 723) (by decide +kernel)⟩
theorem lw_p39 : lw_okq (⟨"FixupVolumeModel", "isRecord", "(I)Z"⟩, 17) := ⟨⟨by decide +kernel, by decide +kernel⟩, List.mem_of_getElem? (i := 618) (by decide +kernel), List.mem_of_getElem? (i := 726) (by decide +kernel), List.mem_of_getElem? (i := 727) (by decide +kernel)⟩
theorem lw_p40 : lw_okq (⟨"FixupVolumeModel", "byteOf", "(II)I"⟩, 17) := ⟨⟨by decide +kernel, by decide +kernel⟩, List.mem_of_getElem? (i := 618) (by decide +kernel), List.mem_of_getElem? (i := 730) (by decide +kernel), List.mem_of_getElem? (i := 731) (by decide +kernel)⟩
theorem lw_p41 : lw_okq (⟨"FixupVolumeModel", "findDraft", "(I)I"⟩, 17) := ⟨⟨by decide +kernel, by decide +kernel⟩, List.mem_of_getElem? (i := 618) (by decide +kernel), List.mem_of_getElem? (i := 734) (by decide +kernel), List.mem_of_getElem? (i := 735) (by decide +kernel)⟩
theorem lw_p42 : lw_okq (⟨"FixupVolumeModel", "listLength", "(I)I"⟩, 17) := ⟨⟨by decide +kernel, by decide +kernel⟩, List.mem_of_getElem? (i := 618) (by decide +kernel), List.mem_of_getElem? (i := 738) (by decide +kernel), List.mem_of_getElem? (i := 739) (by decide +kernel)⟩
theorem lw_p43 : lw_okq (⟨"FixupVolumeModel", "attribute", "(II)I"⟩, 17) := ⟨⟨by decide +kernel, by decide +kernel⟩, List.mem_of_getElem? (i := 618) (by decide +kernel), List.mem_of_getElem? (i := 742) (by decide +kernel), List.mem_of_getElem? (i := 743) (by decide +kernel)⟩
theorem lw_p44 : lw_okq (⟨"FixupVolumeModel", "entry", "(II)I"⟩, 17) := ⟨⟨by decide +kernel, by decide +kernel⟩, List.mem_of_getElem? (i := 618) (by decide +kernel), List.mem_of_getElem? (i := 746) (by decide +kernel), List.mem_of_getElem? (i := 747) (by decide +kernel)⟩
theorem lw_p45 : lw_okq (⟨"FixupVolumeModel", "isDraft", "(I)Z"⟩, 17) := ⟨⟨by decide +kernel, by decide +kernel⟩, List.mem_of_getElem? (i := 618) (by decide +kernel), List.mem_of_getElem? (i := 750) (by decide +kernel), List.mem_of_getElem? (i := 751) (by decide +kernel)⟩
theorem lw_p46 : lw_okq (⟨"FixupVolumeModel", "nameLength", "(I)I"⟩, 17) := ⟨⟨by decide +kernel, by decide +kernel⟩, List.mem_of_getElem? (i := 618) (by decide +kernel), List.mem_of_getElem? (i := 754) (by decide +kernel), List.mem_of_getElem? (i := 755) (by decide +kernel)⟩
theorem lw_p47 : lw_okq (⟨"FixupVolumeModel", "nameAt", "(II)I"⟩, 17) := ⟨⟨by decide +kernel, by decide +kernel⟩, List.mem_of_getElem? (i := 618) (by decide +kernel), List.mem_of_getElem? (i := 758) (by decide +kernel), List.mem_of_getElem? (i := 759) (by decide +kernel)⟩
def lw_privs_3 : List (MethodName × Nat) := [(⟨"FixupVolumeModel", "put", "(I)V"⟩, 17), (⟨"FixupVolumeModel", "store", "(I)Z"⟩, 17), (⟨"FixupVolumeModel", "wordAt", "(I)I"⟩, 17), (⟨"FixupVolumeModel", "sector", "(II)Z"⟩, 17), (⟨"FixupVolumeModel", "makeRecord", "(IZ)I"⟩, 17), (⟨"FixupVolumeModel", "refuse", "(I)I"⟩, 17), (⟨"FixupVolumeModel", "isKind", "(II)Z"⟩, 17), (⟨"FixupVolumeModel", "isRecord", "(I)Z"⟩, 17), (⟨"FixupVolumeModel", "byteOf", "(II)I"⟩, 17), (⟨"FixupVolumeModel", "findDraft", "(I)I"⟩, 17), (⟨"FixupVolumeModel", "listLength", "(I)I"⟩, 17), (⟨"FixupVolumeModel", "attribute", "(II)I"⟩, 17), (⟨"FixupVolumeModel", "entry", "(II)I"⟩, 17), (⟨"FixupVolumeModel", "isDraft", "(I)Z"⟩, 17), (⟨"FixupVolumeModel", "nameLength", "(I)I"⟩, 17), (⟨"FixupVolumeModel", "nameAt", "(II)I"⟩, 17)]
theorem lw_r3 : ∀ q ∈ lw_privs_3, lw_okq q := List.forall_mem_cons.mpr ⟨lw_p32, List.forall_mem_cons.mpr ⟨lw_p33, List.forall_mem_cons.mpr ⟨lw_p34, List.forall_mem_cons.mpr ⟨lw_p35, List.forall_mem_cons.mpr ⟨lw_p36, List.forall_mem_cons.mpr ⟨lw_p37, List.forall_mem_cons.mpr ⟨lw_p38, List.forall_mem_cons.mpr ⟨lw_p39, List.forall_mem_cons.mpr ⟨lw_p40, List.forall_mem_cons.mpr ⟨lw_p41, List.forall_mem_cons.mpr ⟨lw_p42, List.forall_mem_cons.mpr ⟨lw_p43, List.forall_mem_cons.mpr ⟨lw_p44, List.forall_mem_cons.mpr ⟨lw_p45, List.forall_mem_cons.mpr ⟨lw_p46, List.forall_mem_cons.mpr ⟨lw_p47, fun _ h => absurd h List.not_mem_nil⟩⟩⟩⟩⟩⟩⟩⟩⟩⟩⟩⟩⟩⟩⟩⟩
theorem lw_p48 : lw_okq (⟨"FixupVolumeModel", "putDraft", "()V"⟩, 17) := ⟨⟨by decide +kernel, by decide +kernel⟩, List.mem_of_getElem? (i := 618) (by decide +kernel), List.mem_of_getElem? (i := 762) (by decide +kernel), List.mem_of_getElem? (i := 763) (by decide +kernel)⟩
theorem lw_p49 : lw_okq (⟨"FixupVolumeModel", "putInside", "(I)V"⟩, 17) := ⟨⟨by decide +kernel, by decide +kernel⟩, List.mem_of_getElem? (i := 618) (by decide +kernel), List.mem_of_getElem? (i := 766) (by decide +kernel), List.mem_of_getElem? (i := 767) (by decide +kernel)⟩
theorem lw_p50 : lw_okq (⟨"FixupVolumeModel", "takeList", "(II)V"⟩, 17) := ⟨⟨by decide +kernel, by decide +kernel⟩, List.mem_of_getElem? (i := 618) (by decide +kernel), List.mem_of_getElem? (i := 770) (by decide +kernel), List.mem_of_getElem? (i := 771) (by decide +kernel)⟩
theorem lw_p51 : lw_okq (⟨"FixupVolumeModel", "join", "(I)V"⟩, 17) := ⟨⟨by decide +kernel, by decide +kernel⟩, List.mem_of_getElem? (i := 618) (by decide +kernel), List.mem_of_getElem? (i := 774) (by decide +kernel), List.mem_of_getElem? (i := 775) (by decide +kernel)⟩
theorem lw_p52 : lw_okq (⟨"FixupVolumeModel", "compareNames", "(II)I"⟩, 17) := ⟨⟨by decide +kernel, by decide +kernel⟩, List.mem_of_getElem? (i := 618) (by decide +kernel), List.mem_of_getElem? (i := 778) (by decide +kernel), List.mem_of_getElem? (i := 779) (by decide +kernel)⟩
theorem lw_p53 : lw_okq (⟨"FixupVolumeModel", "storeList", "(II)Z"⟩, 17) := ⟨⟨by decide +kernel, by decide +kernel⟩, List.mem_of_getElem? (i := 618) (by decide +kernel), List.mem_of_getElem? (i := 782) (by decide +kernel), List.mem_of_getElem? (i := 783) (by decide +kernel)⟩
theorem lw_p54 : lw_okq (⟨"FixupVolumeModel", "putName", "(I)V"⟩, 17) := ⟨⟨by decide +kernel, by decide +kernel⟩, List.mem_of_getElem? (i := 618) (by decide +kernel), List.mem_of_getElem? (i := 786) (by decide +kernel), List.mem_of_getElem? (i := 787) (by decide +kernel)⟩
theorem lw_p55 : lw_okq (⟨"FixupVolumeModel", "loadMap", "(I)V"⟩, 17) := ⟨⟨by decide +kernel, by decide +kernel⟩, List.mem_of_getElem? (i := 618) (by decide +kernel), List.mem_of_getElem? (i := 794) (by decide +kernel), List.mem_of_getElem? (i := 795) (by decide +kernel)⟩
theorem lw_p56 : lw_okq (⟨"FixupVolumeModel", "release", "(I)I"⟩, 17) := ⟨⟨by decide +kernel, by decide +kernel⟩, List.mem_of_getElem? (i := 618) (by decide +kernel), List.mem_of_getElem? (i := 798) (by decide +kernel), List.mem_of_getElem? (i := 799) (by decide +kernel)⟩
theorem lw_p57 : lw_okq (⟨"FixupVolumeModel", "isBelow", "(II)Z"⟩, 17) := ⟨⟨by decide +kernel, by decide +kernel⟩, List.mem_of_getElem? (i := 618) (by decide +kernel), List.mem_of_getElem? (i := 806) (by decide +kernel), List.mem_of_getElem? (i := 807) (by decide +kernel)⟩
theorem lw_p58 : lw_okq (⟨"FixupVolumeModel", "hasName", "(II)Z"⟩, 17) := ⟨⟨by decide +kernel, by decide +kernel⟩, List.mem_of_getElem? (i := 618) (by decide +kernel), List.mem_of_getElem? (i := 810) (by decide +kernel), List.mem_of_getElem? (i := 811) (by decide +kernel)⟩
theorem lw_p59 : lw_okq (⟨"FixupVolumeModel", "sizeOf", "(I)I"⟩, 17) := ⟨⟨by decide +kernel, by decide +kernel⟩, List.mem_of_getElem? (i := 618) (by decide +kernel), List.mem_of_getElem? (i := 818) (by decide +kernel), List.mem_of_getElem? (i := 819) (by decide +kernel)⟩
theorem lw_p60 : lw_okq (⟨"FixupVolumeModel", "isInside", "(I)Z"⟩, 17) := ⟨⟨by decide +kernel, by decide +kernel⟩, List.mem_of_getElem? (i := 618) (by decide +kernel), List.mem_of_getElem? (i := 822) (by decide +kernel), List.mem_of_getElem? (i := 823) (by decide +kernel)⟩
theorem lw_p61 : lw_okq (⟨"FixupVolumeModel", "writeOutside", "(IIII)I"⟩, 17) := ⟨⟨by decide +kernel, by decide +kernel⟩, List.mem_of_getElem? (i := 618) (by decide +kernel), List.mem_of_getElem? (i := 826) (by decide +kernel), List.mem_of_getElem? (i := 827) (by decide +kernel)⟩
theorem lw_p62 : lw_okq (⟨"FixupVolumeModel", "give", "(III)Z"⟩, 17) := ⟨⟨by decide +kernel, by decide +kernel⟩, List.mem_of_getElem? (i := 618) (by decide +kernel), List.mem_of_getElem? (i := 833) (by decide +kernel), List.mem_of_getElem? (i := 834) (by decide +kernel)⟩
theorem lw_p63 : lw_okq (⟨"FixupVolumeModel", "freeClusters", "()I"⟩, 17) := ⟨⟨by decide +kernel, by decide +kernel⟩, List.mem_of_getElem? (i := 618) (by decide +kernel), List.mem_of_getElem? (i := 840) (by decide +kernel), List.mem_of_getElem? (i := 841) (by decide +kernel)⟩
def lw_privs_4 : List (MethodName × Nat) := [(⟨"FixupVolumeModel", "putDraft", "()V"⟩, 17), (⟨"FixupVolumeModel", "putInside", "(I)V"⟩, 17), (⟨"FixupVolumeModel", "takeList", "(II)V"⟩, 17), (⟨"FixupVolumeModel", "join", "(I)V"⟩, 17), (⟨"FixupVolumeModel", "compareNames", "(II)I"⟩, 17), (⟨"FixupVolumeModel", "storeList", "(II)Z"⟩, 17), (⟨"FixupVolumeModel", "putName", "(I)V"⟩, 17), (⟨"FixupVolumeModel", "loadMap", "(I)V"⟩, 17), (⟨"FixupVolumeModel", "release", "(I)I"⟩, 17), (⟨"FixupVolumeModel", "isBelow", "(II)Z"⟩, 17), (⟨"FixupVolumeModel", "hasName", "(II)Z"⟩, 17), (⟨"FixupVolumeModel", "sizeOf", "(I)I"⟩, 17), (⟨"FixupVolumeModel", "isInside", "(I)Z"⟩, 17), (⟨"FixupVolumeModel", "writeOutside", "(IIII)I"⟩, 17), (⟨"FixupVolumeModel", "give", "(III)Z"⟩, 17), (⟨"FixupVolumeModel", "freeClusters", "()I"⟩, 17)]
theorem lw_r4 : ∀ q ∈ lw_privs_4, lw_okq q := List.forall_mem_cons.mpr ⟨lw_p48, List.forall_mem_cons.mpr ⟨lw_p49, List.forall_mem_cons.mpr ⟨lw_p50, List.forall_mem_cons.mpr ⟨lw_p51, List.forall_mem_cons.mpr ⟨lw_p52, List.forall_mem_cons.mpr ⟨lw_p53, List.forall_mem_cons.mpr ⟨lw_p54, List.forall_mem_cons.mpr ⟨lw_p55, List.forall_mem_cons.mpr ⟨lw_p56, List.forall_mem_cons.mpr ⟨lw_p57, List.forall_mem_cons.mpr ⟨lw_p58, List.forall_mem_cons.mpr ⟨lw_p59, List.forall_mem_cons.mpr ⟨lw_p60, List.forall_mem_cons.mpr ⟨lw_p61, List.forall_mem_cons.mpr ⟨lw_p62, List.forall_mem_cons.mpr ⟨lw_p63, fun _ h => absurd h List.not_mem_nil⟩⟩⟩⟩⟩⟩⟩⟩⟩⟩⟩⟩⟩⟩⟩⟩
theorem lw_p64 : lw_okq (⟨"FixupVolumeModel", "lowestFree", "()I"⟩, 17) := ⟨⟨by decide +kernel, by decide +kernel⟩, List.mem_of_getElem? (i := 618) (by decide +kernel), List.mem_of_getElem? (i := 844) (by decide +kernel), List.mem_of_getElem? (i := 845) (by decide +kernel)⟩
theorem lw_p65 : lw_okq (⟨"FixupVolumeModel", "putOutside", "(I)V"⟩, 17) := ⟨⟨by decide +kernel, by decide +kernel⟩, List.mem_of_getElem? (i := 618) (by decide +kernel), List.mem_of_getElem? (i := 848) (by decide +kernel), List.mem_of_getElem? (i := 849) (by decide +kernel)⟩
theorem lw_p66 : lw_okq (⟨"FixupVolumeModel", "takeBack", "()V"⟩, 17) := ⟨⟨by decide +kernel, by decide +kernel⟩, List.mem_of_getElem? (i := 618) (by decide +kernel), List.mem_of_getElem? (i := 852) (by decide +kernel), List.mem_of_getElem? (i := 853) (by decide +kernel)⟩
theorem lw_p67 : lw_okq (⟨"FixupVolumeModel", "place", "(II)V"⟩, 17) := ⟨⟨by decide +kernel, by decide +kernel⟩, List.mem_of_getElem? (i := 618) (by decide +kernel), List.mem_of_getElem? (i := 856) (by decide +kernel), List.mem_of_getElem? (i := 857) (by decide +kernel)⟩
theorem lw_p68 : lw_okq (⟨"FixupVolumeModel", "isTorn", "(I)Z"⟩, 17) := ⟨⟨by decide +kernel, by decide +kernel⟩, List.mem_of_getElem? (i := 618) (by decide +kernel), List.mem_of_getElem? (i := 872) (by decide +kernel), List.mem_of_getElem? (i := 873) (by decide +kernel)⟩
theorem lw_p69 : lw_okq (⟨"FixupVolumeModel", "mendRoot", "()Z"⟩, 17) := ⟨⟨by decide +kernel, by decide +kernel⟩, List.mem_of_getElem? (i := 618) (by decide +kernel), List.mem_of_getElem? (i := 876) (by decide +kernel), List.mem_of_getElem? (i := 877) (by decide +kernel)⟩
theorem lw_p70 : lw_okq (⟨"FixupVolumeModel", "mendParents", "()Z"⟩, 17) := ⟨⟨by decide +kernel, by decide +kernel⟩, List.mem_of_getElem? (i := 618) (by decide +kernel), List.mem_of_getElem? (i := 880) (by decide +kernel), List.mem_of_getElem? (i := 881) (by decide +kernel)⟩
theorem lw_p71 : lw_okq (⟨"FixupVolumeModel", "leadsUp", "(I)Z"⟩, 17) := ⟨⟨by decide +kernel, by decide +kernel⟩, List.mem_of_getElem? (i := 618) (by decide +kernel), List.mem_of_getElem? (i := 884) (by decide +kernel), List.mem_of_getElem? (i := 885) (by decide +kernel)⟩
theorem lw_p72 : lw_okq (⟨"FixupVolumeModel", "mendLists", "()Z"⟩, 17) := ⟨⟨by decide +kernel, by decide +kernel⟩, List.mem_of_getElem? (i := 618) (by decide +kernel), List.mem_of_getElem? (i := 888) (by decide +kernel), List.mem_of_getElem? (i := 889) (by decide +kernel)⟩
theorem lw_p73 : lw_okq (⟨"FixupVolumeModel", "runsOf", "(I)I"⟩, 17) := ⟨⟨by decide +kernel, by decide +kernel⟩, List.mem_of_getElem? (i := 618) (by decide +kernel), List.mem_of_getElem? (i := 904) (by decide +kernel), List.mem_of_getElem? (i := 905) (by decide +kernel)⟩
def lw_privs_5 : List (MethodName × Nat) := [(⟨"FixupVolumeModel", "lowestFree", "()I"⟩, 17), (⟨"FixupVolumeModel", "putOutside", "(I)V"⟩, 17), (⟨"FixupVolumeModel", "takeBack", "()V"⟩, 17), (⟨"FixupVolumeModel", "place", "(II)V"⟩, 17), (⟨"FixupVolumeModel", "isTorn", "(I)Z"⟩, 17), (⟨"FixupVolumeModel", "mendRoot", "()Z"⟩, 17), (⟨"FixupVolumeModel", "mendParents", "()Z"⟩, 17), (⟨"FixupVolumeModel", "leadsUp", "(I)Z"⟩, 17), (⟨"FixupVolumeModel", "mendLists", "()Z"⟩, 17), (⟨"FixupVolumeModel", "runsOf", "(I)I"⟩, 17)]
theorem lw_r5 : ∀ q ∈ lw_privs_5, lw_okq q := List.forall_mem_cons.mpr ⟨lw_p64, List.forall_mem_cons.mpr ⟨lw_p65, List.forall_mem_cons.mpr ⟨lw_p66, List.forall_mem_cons.mpr ⟨lw_p67, List.forall_mem_cons.mpr ⟨lw_p68, List.forall_mem_cons.mpr ⟨lw_p69, List.forall_mem_cons.mpr ⟨lw_p70, List.forall_mem_cons.mpr ⟨lw_p71, List.forall_mem_cons.mpr ⟨lw_p72, List.forall_mem_cons.mpr ⟨lw_p73, fun _ h => absurd h List.not_mem_nil⟩⟩⟩⟩⟩⟩⟩⟩⟩⟩
def lw_privs : List (MethodName × Nat) := lw_privs_1 ++ (lw_privs_2 ++ (lw_privs_3 ++ (lw_privs_4 ++ (lw_privs_5))))
def lw_tbl : List Cond := k2_sels lw_privs ++ tables_1
theorem lw_privs_ok : ∀ q ∈ lw_privs, lw_okq q := by
  show ∀ q ∈ lw_privs_1 ++ (lw_privs_2 ++ (lw_privs_3 ++ (lw_privs_4 ++ (lw_privs_5)))), lw_okq q
  exact List.forall_mem_append.mpr ⟨lw_r1, List.forall_mem_append.mpr ⟨lw_r2, List.forall_mem_append.mpr ⟨lw_r3, List.forall_mem_append.mpr ⟨lw_r4, lw_r5⟩⟩⟩⟩
end
section
/-! names (by program, out of javap's listing and the Statement's rows) -/
abbrev fx_M0 : Type := MethodName × ByteArray × Nat × Option FieldType × List (Nat × Nat × Nat × Nat)
def rr_D : String := "FixupVolume$Disk"
def tt_D : u_T := fun k => match k with
  | 0 => ("FixupVolume$Disk", "cells", "[I", true)
  | _ => ("FixupVolume$Disk", "sectorsToCut", "I", false)
def ty_D : Nat → FieldType := fun k => match k with
  | 0 => .array .int
  | _ => .int
theorem nm_D : ∀ a, a < 2 → ∀ b, b < 2 → a ≠ b → (tt_D a).2.1 ≠ (tt_D b).2.1 := by decide +kernel
theorem to_D : ∀ k, k < 2 → parseFieldDescriptor (tt_D k).2.2.1 = some (ty_D k) := by decide +kernel
def rr_Y : String := "FixupVolume$Layout"
def tt_Y : u_T := fun k => match k with
  | 0 => ("FixupVolume$Layout", "places", "[I", true)
  | _ => ("FixupVolume$Layout", "count", "I", false)
def ty_Y : Nat → FieldType := fun k => match k with
  | 0 => .array .int
  | _ => .int
theorem nm_Y : ∀ a, a < 2 → ∀ b, b < 2 → a ≠ b → (tt_Y a).2.1 ≠ (tt_Y b).2.1 := by decide +kernel
theorem to_Y : ∀ k, k < 2 → parseFieldDescriptor (tt_Y k).2.2.1 = some (ty_Y k) := by decide +kernel
def rr_N : String := "FixupVolume$Name"
def tt_N : u_T := fun k => match k with
  | 0 => ("FixupVolume$Name", "letters", "[I", true)
  | _ => ("FixupVolume$Name", "length", "I", false)
def ty_N : Nat → FieldType := fun k => match k with
  | 0 => .array .int
  | _ => .int
theorem nm_N : ∀ a, a < 2 → ∀ b, b < 2 → a ≠ b → (tt_N a).2.1 ≠ (tt_N b).2.1 := by decide +kernel
theorem to_N : ∀ k, k < 2 → parseFieldDescriptor (tt_N k).2.2.1 = some (ty_N k) := by decide +kernel
def rr_H : String := "FixupVolume$Sheet"
def tt_H : u_T := fun k => match k with
  | 0 => ("FixupVolume$Sheet", "state", "I", false)
  | 1 => ("FixupVolume$Sheet", "parent", "I", false)
  | 2 => ("FixupVolume$Sheet", "number", "I", false)
  | 3 => ("FixupVolume$Sheet", "kind", "I", false)
  | 4 => ("FixupVolume$Sheet", "size", "I", false)
  | 5 => ("FixupVolume$Sheet", "name", "LFixupVolume$Name;", true)
  | 6 => ("FixupVolume$Sheet", "held", "[I", true)
  | _ => ("FixupVolume$Sheet", "layout", "LFixupVolume$Layout;", true)
def ty_H : Nat → FieldType := fun k => match k with
  | 0 => .int
  | 1 => .int
  | 2 => .int
  | 3 => .int
  | 4 => .int
  | 5 => .object "FixupVolume$Name"
  | 6 => .array .int
  | _ => .object "FixupVolume$Layout"
theorem nm_H : ∀ a, a < 8 → ∀ b, b < 8 → a ≠ b → (tt_H a).2.1 ≠ (tt_H b).2.1 := by decide +kernel
theorem to_H : ∀ k, k < 8 → parseFieldDescriptor (tt_H k).2.2.1 = some (ty_H k) := by decide +kernel
def rr_V : String := "FixupVolume"
def tt_V : u_T := fun k => match k with
  | 0 => ("FixupVolume", "disk", "LFixupVolume$Disk;", true)
  | 1 => ("FixupVolume", "sheets", "[LFixupVolume$Sheet;", true)
  | 2 => ("FixupVolume", "taken", "[Z", true)
  | 3 => ("FixupVolume", "draft", "LFixupVolume$Name;", true)
  | 4 => ("FixupVolume", "running", "Z", false)
  | 5 => ("FixupVolume", "givenName", "LFixupVolume$Name;", true)
  | 6 => ("FixupVolume", "plan", "LFixupVolume$Layout;", true)
  | 7 => ("FixupVolume", "image", "[I", true)
  | _ => ("FixupVolume", "entries", "[I", true)
def ty_V : Nat → FieldType := fun k => match k with
  | 0 => .object "FixupVolume$Disk"
  | 1 => .array (.object "FixupVolume$Sheet")
  | 2 => .array .boolean
  | 3 => .object "FixupVolume$Name"
  | 4 => .boolean
  | 5 => .object "FixupVolume$Name"
  | 6 => .object "FixupVolume$Layout"
  | 7 => .array .int
  | _ => .array .int
theorem nm_V : ∀ a, a < 9 → ∀ b, b < 9 → a ≠ b → (tt_V a).2.1 ≠ (tt_V b).2.1 := by decide +kernel
theorem to_V : ∀ k, k < 9 → parseFieldDescriptor (tt_V k).2.2.1 = some (ty_V k) := by decide +kernel
def rr_M : String := "FixupVolumeModel"
def tt_M : u_T := fun k => match k with
  | 0 => ("FixupVolumeModel", "code", "I", false)
  | 1 => ("FixupVolumeModel", "disk", "[I", true)
  | 2 => ("FixupVolumeModel", "inUse", "[Z", true)
  | 3 => ("FixupVolumeModel", "taken", "[Z", true)
  | 4 => ("FixupVolumeModel", "on", "Z", false)
  | 5 => ("FixupVolumeModel", "told", "I", false)
  | 6 => ("FixupVolumeModel", "typed", "I", false)
  | 7 => ("FixupVolumeModel", "draft", "[C", true)
  | 8 => ("FixupVolumeModel", "buffer", "[I", true)
  | 9 => ("FixupVolumeModel", "pos", "I", false)
  | 10 => ("FixupVolumeModel", "clusters", "I", false)
  | 11 => ("FixupVolumeModel", "map", "[I", true)
  | 12 => ("FixupVolumeModel", "fresh", "[Z", true)
  | 13 => ("FixupVolumeModel", "bytes", "[I", true)
  | 14 => ("FixupVolumeModel", "members", "I", false)
  | 15 => ("FixupVolumeModel", "member", "[I", true)
  | _ => ("FixupVolumeModel", "mended", "I", false)
def ty_M : Nat → FieldType := fun k => match k with
  | 0 => .int
  | 1 => .array .int
  | 2 => .array .boolean
  | 3 => .array .boolean
  | 4 => .boolean
  | 5 => .int
  | 6 => .int
  | 7 => .array .char
  | 8 => .array .int
  | 9 => .int
  | 10 => .int
  | 11 => .array .int
  | 12 => .array .boolean
  | 13 => .array .int
  | 14 => .int
  | 15 => .array .int
  | _ => .int
theorem nm_M : ∀ a, a < 17 → ∀ b, b < 17 → a ≠ b → (tt_M a).2.1 ≠ (tt_M b).2.1 := by decide +kernel
theorem to_M : ∀ k, k < 17 → parseFieldDescriptor (tt_M k).2.2.1 = some (ty_M k) := by decide +kernel
def rr_L : String := "FixupVolumeLaw"
def rr_A : String := "java/util/Arrays"
abbrev vwCl : List vw_C := [(rr_D, tt_D, 2), (rr_Y, tt_Y, 2), (rr_N, tt_N, 2), (rr_H, tt_H, 8), (rr_V, tt_V, 9), (rr_M, tt_M, 17)]
abbrev bb_V_init : ByteArray := prog_1_method_1_code
def yy_V_init : MethodName := ⟨rr_V, "<init>", "()V"⟩
abbrev mm_V_init : fx_M0 := (yy_V_init, bb_V_init, 2, none, [])
abbrev bb_D_init : ByteArray := prog_2_method_1_code
def yy_D_init : MethodName := ⟨rr_D, "<init>", "()V"⟩
abbrev mm_D_init : fx_M0 := (yy_D_init, bb_D_init, 1, none, [])
abbrev bb_H_init : ByteArray := prog_5_method_1_code
def yy_H_init : MethodName := ⟨rr_H, "<init>", "()V"⟩
abbrev mm_H_init : fx_M0 := (yy_H_init, bb_H_init, 1, none, [])
abbrev bb_N_init : ByteArray := prog_4_method_1_code
def yy_N_init : MethodName := ⟨rr_N, "<init>", "()V"⟩
abbrev mm_N_init : fx_M0 := (yy_N_init, bb_N_init, 1, none, [])
abbrev bb_Y_init : ByteArray := prog_3_method_1_code
def yy_Y_init : MethodName := ⟨rr_Y, "<init>", "()V"⟩
abbrev mm_Y_init : fx_M0 := (yy_Y_init, bb_Y_init, 1, none, [])
abbrev bb_H_become : ByteArray := prog_5_method_2_code
def yy_H_become : MethodName := ⟨rr_H, "become", "(II)V"⟩
abbrev mm_H_become : fx_M0 := (yy_H_become, bb_H_become, 3, none, [])
abbrev bb_N_clear : ByteArray := prog_4_method_3_code
def yy_N_clear : MethodName := ⟨rr_N, "clear", "()V"⟩
abbrev mm_N_clear : fx_M0 := (yy_N_clear, bb_N_clear, 1, none, [])
abbrev bb_H_takeNextNumber : ByteArray := prog_5_method_3_code
def yy_H_takeNextNumber : MethodName := ⟨rr_H, "takeNextNumber", "()V"⟩
abbrev mm_H_takeNextNumber : fx_M0 := (yy_H_takeNextNumber, bb_H_takeNextNumber, 1, none, [])
abbrev bb_H_encode : ByteArray := prog_5_method_11_code
def yy_H_encode : MethodName := ⟨rr_H, "encode", "([I)V"⟩
abbrev mm_H_encode : fx_M0 := (yy_H_encode, bb_H_encode, 3, none, [])
abbrev bb_A_fill : ByteArray := prog_17_method_103_code
def yy_A_fill : MethodName := ⟨rr_A, "fill", "([II)V"⟩
abbrev mm_A_fill : fx_M0 := (yy_A_fill, bb_A_fill, 4, none, [])
abbrev bb_V_putWord : ByteArray := prog_1_method_46_code
def yy_V_putWord : MethodName := ⟨rr_V, "putWord", "([III)V"⟩
abbrev mm_V_putWord : fx_M0 := (yy_V_putWord, bb_V_putWord, 3, none, [])
abbrev bb_H_encodeName : ByteArray := prog_5_method_12_code
def yy_H_encodeName : MethodName := ⟨rr_H, "encodeName", "([I)I"⟩
abbrev mm_H_encodeName : fx_M0 := (yy_H_encodeName, bb_H_encodeName, 2, (some .int), [])
abbrev bb_H_encodeData : ByteArray := prog_5_method_13_code
def yy_H_encodeData : MethodName := ⟨rr_H, "encodeData", "([II)I"⟩
abbrev mm_H_encodeData : fx_M0 := (yy_H_encodeData, bb_H_encodeData, 4, (some .int), [])
abbrev bb_Y_encode : ByteArray := prog_3_method_10_code
def yy_Y_encode : MethodName := ⟨rr_Y, "encode", "([II)I"⟩
abbrev mm_Y_encode : fx_M0 := (yy_Y_encode, bb_Y_encode, 7, (some .int), [])
abbrev bb_Y_startsRun : ByteArray := prog_3_method_5_code
def yy_Y_startsRun : MethodName := ⟨rr_Y, "startsRun", "(I)Z"⟩
abbrev mm_Y_startsRun : fx_M0 := (yy_Y_startsRun, bb_Y_startsRun, 2, (some .boolean), [])
abbrev bb_H_setAside : ByteArray := prog_5_method_14_code
def yy_H_setAside : MethodName := ⟨rr_H, "setAside", "([III)V"⟩
abbrev mm_H_setAside : fx_M0 := (yy_H_setAside, bb_H_setAside, 4, none, [])
abbrev bb_V_wordAt : ByteArray := prog_1_method_45_code
def yy_V_wordAt : MethodName := ⟨rr_V, "wordAt", "([II)I"⟩
abbrev mm_V_wordAt : fx_M0 := (yy_V_wordAt, bb_V_wordAt, 2, (some .int), [])
abbrev bb_D_laySector : ByteArray := prog_2_method_3_code
def yy_D_laySector : MethodName := ⟨rr_D, "laySector", "(II[I)V"⟩
abbrev mm_D_laySector : fx_M0 := (yy_D_laySector, bb_D_laySector, 5, none, [])
abbrev bb_V_type : ByteArray := prog_1_method_2_code
def yy_V_type : MethodName := ⟨rr_V, "type", "(C)Z"⟩
abbrev mm_V_type : fx_M0 := (yy_V_type, bb_V_type, 2, (some .boolean), [])
abbrev bb_N_append : ByteArray := prog_4_method_2_code
def yy_N_append : MethodName := ⟨rr_N, "append", "(I)Z"⟩
abbrev mm_N_append : fx_M0 := (yy_N_append, bb_N_append, 3, (some .boolean), [])
abbrev bb_V_fail : ByteArray := prog_1_method_8_code
def yy_V_fail : MethodName := ⟨rr_V, "fail", "(I)Z"⟩
abbrev mm_V_fail : fx_M0 := (yy_V_fail, bb_V_fail, 2, (some .boolean), [])
abbrev bb_V_on : ByteArray := prog_1_method_10_code
def yy_V_on : MethodName := ⟨rr_V, "on", "()Z"⟩
abbrev mm_V_on : fx_M0 := (yy_V_on, bb_V_on, 1, (some .boolean), [])
abbrev bb_V_find : ByteArray := prog_1_method_11_code
def yy_V_find : MethodName := ⟨rr_V, "find", "(I)I"⟩
abbrev mm_V_find : fx_M0 := (yy_V_find, bb_V_find, 3, (some .int), [])
abbrev bb_V_isDirectory : ByteArray := prog_1_method_21_code
def yy_V_isDirectory : MethodName := ⟨rr_V, "isDirectory", "(I)Z"⟩
abbrev mm_V_isDirectory : fx_M0 := (yy_V_isDirectory, bb_V_isDirectory, 2, (some .boolean), [])
abbrev bb_V_isUsed : ByteArray := prog_1_method_19_code
def yy_V_isUsed : MethodName := ⟨rr_V, "isUsed", "(I)Z"⟩
abbrev mm_V_isUsed : fx_M0 := (yy_V_isUsed, bb_V_isUsed, 2, (some .boolean), [])
abbrev bb_V_entryNamed : ByteArray := prog_1_method_26_code
def yy_V_entryNamed : MethodName := ⟨rr_V, "entryNamed", "(ILFixupVolume$Name;)I"⟩
abbrev mm_V_entryNamed : fx_M0 := (yy_V_entryNamed, bb_V_entryNamed, 5, (some .int), [])
abbrev bb_N_compare : ByteArray := prog_4_method_5_code
def yy_N_compare : MethodName := ⟨rr_N, "compare", "(LFixupVolume$Name;)I"⟩
abbrev mm_N_compare : fx_M0 := (yy_N_compare, bb_N_compare, 4, (some .int), [])
abbrev bb_V_record : ByteArray := prog_1_method_12_code
def yy_V_record : MethodName := ⟨rr_V, "record", "(II)I"⟩
abbrev mm_V_record : fx_M0 := (yy_V_record, bb_V_record, 4, (some .int), [])
abbrev bb_H_attributeBytes : ByteArray := prog_5_method_6_code
def yy_H_attributeBytes : MethodName := ⟨rr_H, "attributeBytes", "()I"⟩
abbrev mm_H_attributeBytes : fx_M0 := (yy_H_attributeBytes, bb_H_attributeBytes, 1, (some .int), [])
abbrev bb_H_nameBytes : ByteArray := prog_5_method_4_code
def yy_H_nameBytes : MethodName := ⟨rr_H, "nameBytes", "()I"⟩
abbrev mm_H_nameBytes : fx_M0 := (yy_H_nameBytes, bb_H_nameBytes, 1, (some .int), [])
abbrev bb_H_dataBytes : ByteArray := prog_5_method_5_code
def yy_H_dataBytes : MethodName := ⟨rr_H, "dataBytes", "()I"⟩
abbrev mm_H_dataBytes : fx_M0 := (yy_H_dataBytes, bb_H_dataBytes, 1, (some .int), [])
abbrev bb_Y_attributeBytes : ByteArray := prog_3_method_9_code
def yy_Y_attributeBytes : MethodName := ⟨rr_Y, "attributeBytes", "()I"⟩
abbrev mm_Y_attributeBytes : fx_M0 := (yy_Y_attributeBytes, bb_Y_attributeBytes, 3, (some .int), [])
abbrev bb_Y_runCount : ByteArray := prog_3_method_6_code
def yy_Y_runCount : MethodName := ⟨rr_Y, "runCount", "()I"⟩
abbrev mm_Y_runCount : fx_M0 := (yy_Y_runCount, bb_Y_runCount, 3, (some .int), [])
abbrev bb_V_read : ByteArray := prog_1_method_13_code
def yy_V_read : MethodName := ⟨rr_V, "read", "(II)I"⟩
abbrev mm_V_read : fx_M0 := (yy_V_read, bb_V_read, 4, (some .int), [])
abbrev bb_D_fileByte : ByteArray := prog_2_method_5_code
def yy_D_fileByte : MethodName := ⟨rr_D, "fileByte", "(LFixupVolume$Layout;I)I"⟩
abbrev mm_D_fileByte : fx_M0 := (yy_D_fileByte, bb_D_fileByte, 4, (some .int), [])
abbrev bb_Y_placeOf : ByteArray := prog_3_method_2_code
def yy_Y_placeOf : MethodName := ⟨rr_Y, "placeOf", "(I)I"⟩
abbrev mm_Y_placeOf : fx_M0 := (yy_Y_placeOf, bb_Y_placeOf, 2, (some .int), [])
abbrev bb_V_isDataCluster : ByteArray := prog_1_method_42_code
def yy_V_isDataCluster : MethodName := ⟨rr_V, "isDataCluster", "(I)Z"⟩
abbrev mm_V_isDataCluster : fx_M0 := (yy_V_isDataCluster, bb_V_isDataCluster, 1, (some .boolean), [])
abbrev bb_V_run : ByteArray := prog_1_method_14_code
def yy_V_run : MethodName := ⟨rr_V, "run", "(III)I"⟩
abbrev mm_V_run : fx_M0 := (yy_V_run, bb_V_run, 6, (some .int), [])
abbrev bb_V_isFile : ByteArray := prog_1_method_20_code
def yy_V_isFile : MethodName := ⟨rr_V, "isFile", "(I)Z"⟩
abbrev mm_V_isFile : fx_M0 := (yy_V_isFile, bb_V_isFile, 2, (some .boolean), [])
abbrev bb_Y_startOfRun : ByteArray := prog_3_method_7_code
def yy_Y_startOfRun : MethodName := ⟨rr_Y, "startOfRun", "(I)I"⟩
abbrev mm_Y_startOfRun : fx_M0 := (yy_Y_startOfRun, bb_Y_startOfRun, 4, (some .int), [])
abbrev bb_Y_lengthOfRun : ByteArray := prog_3_method_8_code
def yy_Y_lengthOfRun : MethodName := ⟨rr_Y, "lengthOfRun", "(I)I"⟩
abbrev mm_Y_lengthOfRun : fx_M0 := (yy_Y_lengthOfRun, bb_Y_lengthOfRun, 3, (some .int), [])
abbrev bb_V_free : ByteArray := prog_1_method_15_code
def yy_V_free : MethodName := ⟨rr_V, "free", "()I"⟩
abbrev mm_V_free : fx_M0 := (yy_V_free, bb_V_free, 3, (some .int), [])
abbrev bb_V_at : ByteArray := prog_1_method_16_code
def yy_V_at : MethodName := ⟨rr_V, "at", "(I)I"⟩
abbrev mm_V_at : fx_M0 := (yy_V_at, bb_V_at, 2, (some .int), [])
abbrev bb_L_create : ByteArray := method_3_code
def yy_L_create : MethodName := ⟨rr_L, "create", "(LFixupVolume;IZ[J)I"⟩
abbrev mm_L_create : fx_M0 := (yy_L_create, bb_L_create, 5, (some .int), [(0, 10, 13, 13), (0, 10, 17, 15), (0, 10, 21, 17)])
abbrev bb_V_create : ByteArray := prog_1_method_3_code
def yy_V_create : MethodName := ⟨rr_V, "create", "(IZ)I"⟩
abbrev mm_V_create : fx_M0 := (yy_V_create, bb_V_create, 4, (some .int), [])
abbrev bb_N_copyFrom : ByteArray := prog_4_method_4_code
def yy_N_copyFrom : MethodName := ⟨rr_N, "copyFrom", "(LFixupVolume$Name;)V"⟩
abbrev mm_N_copyFrom : fx_M0 := (yy_N_copyFrom, bb_N_copyFrom, 2, none, [])
abbrev bb_V_requireRunning : ByteArray := prog_1_method_17_code
def yy_V_requireRunning : MethodName := ⟨rr_V, "requireRunning", "()V"⟩
abbrev mm_V_requireRunning : fx_M0 := (yy_V_requireRunning, bb_V_requireRunning, 1, none, [])
abbrev bb_V_require : ByteArray := prog_1_method_18_code
def yy_V_require : MethodName := ⟨rr_V, "require", "(Z)V"⟩
abbrev mm_V_require : fx_M0 := (yy_V_require, bb_V_require, 1, none, [])
abbrev bb_V_lowestFreeRecord : ByteArray := prog_1_method_22_code
def yy_V_lowestFreeRecord : MethodName := ⟨rr_V, "lowestFreeRecord", "()I"⟩
abbrev mm_V_lowestFreeRecord : fx_M0 := (yy_V_lowestFreeRecord, bb_V_lowestFreeRecord, 2, (some .int), [])
abbrev bb_V_store : ByteArray := prog_1_method_30_code
def yy_V_store : MethodName := ⟨rr_V, "store", "(I)V"⟩
abbrev mm_V_store : fx_M0 := (yy_V_store, bb_V_store, 2, none, [])
abbrev bb_V_storeSector : ByteArray := prog_1_method_31_code
def yy_V_storeSector : MethodName := ⟨rr_V, "storeSector", "(II)V"⟩
abbrev mm_V_storeSector : fx_M0 := (yy_V_storeSector, bb_V_storeSector, 3, none, [])
abbrev bb_D_isCutNow : ByteArray := prog_2_method_2_code
def yy_D_isCutNow : MethodName := ⟨rr_D, "isCutNow", "()Z"⟩
abbrev mm_D_isCutNow : fx_M0 := (yy_D_isCutNow, bb_D_isCutNow, 1, (some .boolean), [])
abbrev bb_V_enter : ByteArray := prog_1_method_27_code
def yy_V_enter : MethodName := ⟨rr_V, "enter", "(II)V"⟩
abbrev mm_V_enter : fx_M0 := (yy_V_enter, bb_V_enter, 4, none, [])
abbrev bb_V_insertByName : ByteArray := prog_1_method_28_code
def yy_V_insertByName : MethodName := ⟨rr_V, "insertByName", "([III)I"⟩
abbrev mm_V_insertByName : fx_M0 := (yy_V_insertByName, bb_V_insertByName, 5, (some .int), [])
abbrev bb_L_write : ByteArray := method_4_code
def yy_L_write : MethodName := ⟨rr_L, "write", "(LFixupVolume;IIII[J)I"⟩
abbrev mm_L_write : fx_M0 := (yy_L_write, bb_L_write, 7, (some .int), [(0, 14, 17, 13), (0, 14, 21, 15), (0, 14, 25, 17)])
abbrev bb_V_write : ByteArray := prog_1_method_4_code
def yy_V_write : MethodName := ⟨rr_V, "write", "(IIII)I"⟩
abbrev mm_V_write : fx_M0 := (yy_V_write, bb_V_write, 7, (some .int), [])
abbrev bb_H_mostInside : ByteArray := prog_5_method_7_code
def yy_H_mostInside : MethodName := ⟨rr_H, "mostInside", "()I"⟩
abbrev mm_H_mostInside : fx_M0 := (yy_H_mostInside, bb_H_mostInside, 1, (some .int), [])
abbrev bb_H_putInside : ByteArray := prog_5_method_8_code
def yy_H_putInside : MethodName := ⟨rr_H, "putInside", "(IIII)V"⟩
abbrev mm_H_putInside : fx_M0 := (yy_H_putInside, bb_H_putInside, 6, none, [])
abbrev bb_V_makePlan : ByteArray := prog_1_method_32_code
def yy_V_makePlan : MethodName := ⟨rr_V, "makePlan", "(LFixupVolume$Sheet;III)Z"⟩
abbrev mm_V_makePlan : fx_M0 := (yy_V_makePlan, bb_V_makePlan, 8, (some .boolean), [])
abbrev bb_V_clustersFor : ByteArray := prog_1_method_43_code
def yy_V_clustersFor : MethodName := ⟨rr_V, "clustersFor", "(I)I"⟩
abbrev mm_V_clustersFor : fx_M0 := (yy_V_clustersFor, bb_V_clustersFor, 1, (some .int), [])
abbrev bb_V_needsCluster : ByteArray := prog_1_method_33_code
def yy_V_needsCluster : MethodName := ⟨rr_V, "needsCluster", "(LFixupVolume$Sheet;III)Z"⟩
abbrev mm_V_needsCluster : fx_M0 := (yy_V_needsCluster, bb_V_needsCluster, 5, (some .boolean), [])
abbrev bb_V_lowestFreeCluster : ByteArray := prog_1_method_23_code
def yy_V_lowestFreeCluster : MethodName := ⟨rr_V, "lowestFreeCluster", "(I)I"⟩
abbrev mm_V_lowestFreeCluster : fx_M0 := (yy_V_lowestFreeCluster, bb_V_lowestFreeCluster, 3, (some .int), [])
abbrev bb_Y_append : ByteArray := prog_3_method_3_code
def yy_Y_append : MethodName := ⟨rr_Y, "append", "(II)V"⟩
abbrev mm_Y_append : fx_M0 := (yy_Y_append, bb_Y_append, 4, none, [])
abbrev bb_V_putOutside : ByteArray := prog_1_method_34_code
def yy_V_putOutside : MethodName := ⟨rr_V, "putOutside", "(LFixupVolume$Sheet;IIII)V"⟩
abbrev mm_V_putOutside : fx_M0 := (yy_V_putOutside, bb_V_putOutside, 7, none, [])
abbrev bb_V_takePlanned : ByteArray := prog_1_method_35_code
def yy_V_takePlanned : MethodName := ⟨rr_V, "takePlanned", "()V"⟩
abbrev mm_V_takePlanned : fx_M0 := (yy_V_takePlanned, bb_V_takePlanned, 3, none, [])
abbrev bb_D_clearFile : ByteArray := prog_2_method_7_code
def yy_D_clearFile : MethodName := ⟨rr_D, "clearFile", "(LFixupVolume$Layout;II)V"⟩
abbrev mm_D_clearFile : fx_M0 := (yy_D_clearFile, bb_D_clearFile, 5, none, [])
abbrev bb_D_putFileByte : ByteArray := prog_2_method_6_code
def yy_D_putFileByte : MethodName := ⟨rr_D, "putFileByte", "(LFixupVolume$Layout;II)V"⟩
abbrev mm_D_putFileByte : fx_M0 := (yy_D_putFileByte, bb_D_putFileByte, 5, none, [])
abbrev bb_V_endOfLastCluster : ByteArray := prog_1_method_44_code
def yy_V_endOfLastCluster : MethodName := ⟨rr_V, "endOfLastCluster", "(I)I"⟩
abbrev mm_V_endOfLastCluster : fx_M0 := (yy_V_endOfLastCluster, bb_V_endOfLastCluster, 1, (some .int), [])
abbrev bb_Y_copyFrom : ByteArray := prog_3_method_4_code
def yy_Y_copyFrom : MethodName := ⟨rr_Y, "copyFrom", "(LFixupVolume$Layout;)V"⟩
abbrev mm_Y_copyFrom : fx_M0 := (yy_Y_copyFrom, bb_Y_copyFrom, 2, none, [])
abbrev bb_L_cut : ByteArray := method_5_code
def yy_L_cut : MethodName := ⟨rr_L, "cut", "(LFixupVolume;II[J)I"⟩
abbrev mm_L_cut : fx_M0 := (yy_L_cut, bb_L_cut, 5, (some .int), [(0, 10, 13, 13), (0, 10, 17, 15)])
abbrev bb_V_cut : ByteArray := prog_1_method_5_code
def yy_V_cut : MethodName := ⟨rr_V, "cut", "(II)I"⟩
abbrev mm_V_cut : fx_M0 := (yy_V_cut, bb_V_cut, 5, (some .int), [])
abbrev bb_V_releaseFrom : ByteArray := prog_1_method_36_code
def yy_V_releaseFrom : MethodName := ⟨rr_V, "releaseFrom", "(LFixupVolume$Layout;I)I"⟩
abbrev mm_V_releaseFrom : fx_M0 := (yy_V_releaseFrom, bb_V_releaseFrom, 5, (some .int), [])
abbrev bb_L_remove : ByteArray := method_6_code
def yy_L_remove : MethodName := ⟨rr_L, "remove", "(LFixupVolume;I[J)I"⟩
abbrev mm_L_remove : fx_M0 := (yy_L_remove, bb_L_remove, 4, (some .int), [(0, 9, 12, 13), (0, 9, 15, 15)])
abbrev bb_V_remove : ByteArray := prog_1_method_6_code
def yy_V_remove : MethodName := ⟨rr_V, "remove", "(I)I"⟩
abbrev mm_V_remove : fx_M0 := (yy_V_remove, bb_V_remove, 5, (some .int), [])
abbrev bb_V_leave : ByteArray := prog_1_method_29_code
def yy_V_leave : MethodName := ⟨rr_V, "leave", "(II)V"⟩
abbrev mm_V_leave : fx_M0 := (yy_V_leave, bb_V_leave, 6, none, [])
abbrev bb_L_move : ByteArray := method_7_code
def yy_L_move : MethodName := ⟨rr_L, "move", "(LFixupVolume;II)I"⟩
abbrev mm_L_move : fx_M0 := (yy_L_move, bb_L_move, 4, (some .int), [(0, 6, 9, 13), (0, 6, 12, 15)])
abbrev bb_V_move : ByteArray := prog_1_method_7_code
def yy_V_move : MethodName := ⟨rr_V, "move", "(II)V"⟩
abbrev mm_V_move : fx_M0 := (yy_V_move, bb_V_move, 4, none, [])
abbrev bb_V_isAtOrBelow : ByteArray := prog_1_method_24_code
def yy_V_isAtOrBelow : MethodName := ⟨rr_V, "isAtOrBelow", "(II)Z"⟩
abbrev mm_V_isAtOrBelow : fx_M0 := (yy_V_isAtOrBelow, bb_V_isAtOrBelow, 5, (some .boolean), [])
abbrev bb_L_mount : ByteArray := method_8_code
def yy_L_mount : MethodName := ⟨rr_L, "mount", "(LFixupVolume;[J)I"⟩
abbrev mm_L_mount : fx_M0 := (yy_L_mount, bb_L_mount, 3, (some .int), [(0, 8, 11, 13)])
abbrev bb_V_mount : ByteArray := prog_1_method_9_code
def yy_V_mount : MethodName := ⟨rr_V, "mount", "()I"⟩
abbrev mm_V_mount : fx_M0 := (yy_V_mount, bb_V_mount, 2, (some .int), [])
abbrev bb_D_liftRecord : ByteArray := prog_2_method_4_code
def yy_D_liftRecord : MethodName := ⟨rr_D, "liftRecord", "(I[I)V"⟩
abbrev mm_D_liftRecord : fx_M0 := (yy_D_liftRecord, bb_D_liftRecord, 3, none, [])
abbrev bb_H_decode : ByteArray := prog_5_method_15_code
def yy_H_decode : MethodName := ⟨rr_H, "decode", "([I)V"⟩
abbrev mm_H_decode : fx_M0 := (yy_H_decode, bb_H_decode, 3, none, [])
abbrev bb_H_isTorn : ByteArray := prog_5_method_16_code
def yy_H_isTorn : MethodName := ⟨rr_H, "isTorn", "([I)Z"⟩
abbrev mm_H_isTorn : fx_M0 := (yy_H_isTorn, bb_H_isTorn, 2, (some .boolean), [])
abbrev bb_H_decodeAttributes : ByteArray := prog_5_method_17_code
def yy_H_decodeAttributes : MethodName := ⟨rr_H, "decodeAttributes", "([I)V"⟩
abbrev mm_H_decodeAttributes : fx_M0 := (yy_H_decodeAttributes, bb_H_decodeAttributes, 5, none, [])
abbrev bb_H_decodeAttribute : ByteArray := prog_5_method_18_code
def yy_H_decodeAttribute : MethodName := ⟨rr_H, "decodeAttribute", "([III)V"⟩
abbrev mm_H_decodeAttribute : fx_M0 := (yy_H_decodeAttribute, bb_H_decodeAttribute, 6, none, [])
abbrev bb_Y_decode : ByteArray := prog_3_method_11_code
def yy_Y_decode : MethodName := ⟨rr_Y, "decode", "([III)V"⟩
abbrev mm_Y_decode : fx_M0 := (yy_Y_decode, bb_Y_decode, 6, none, [])
abbrev bb_V_restoreRoot : ByteArray := prog_1_method_37_code
def yy_V_restoreRoot : MethodName := ⟨rr_V, "restoreRoot", "()I"⟩
abbrev mm_V_restoreRoot : fx_M0 := (yy_V_restoreRoot, bb_V_restoreRoot, 1, (some .int), [])
abbrev bb_V_adoptStrays : ByteArray := prog_1_method_38_code
def yy_V_adoptStrays : MethodName := ⟨rr_V, "adoptStrays", "()I"⟩
abbrev mm_V_adoptStrays : fx_M0 := (yy_V_adoptStrays, bb_V_adoptStrays, 3, (some .int), [])
abbrev bb_V_leadsToRoot : ByteArray := prog_1_method_25_code
def yy_V_leadsToRoot : MethodName := ⟨rr_V, "leadsToRoot", "(I)Z"⟩
abbrev mm_V_leadsToRoot : fx_M0 := (yy_V_leadsToRoot, bb_V_leadsToRoot, 4, (some .boolean), [])
abbrev bb_V_mendLists : ByteArray := prog_1_method_39_code
def yy_V_mendLists : MethodName := ⟨rr_V, "mendLists", "()I"⟩
abbrev mm_V_mendLists : fx_M0 := (yy_V_mendLists, bb_V_mendLists, 4, (some .int), [])
abbrev bb_V_collectEntries : ByteArray := prog_1_method_40_code
def yy_V_collectEntries : MethodName := ⟨rr_V, "collectEntries", "(I)I"⟩
abbrev mm_V_collectEntries : fx_M0 := (yy_V_collectEntries, bb_V_collectEntries, 4, (some .int), [])
abbrev bb_H_hasList : ByteArray := prog_5_method_9_code
def yy_H_hasList : MethodName := ⟨rr_H, "hasList", "([II)Z"⟩
abbrev mm_H_hasList : fx_M0 := (yy_H_hasList, bb_H_hasList, 4, (some .boolean), [])
abbrev bb_H_setList : ByteArray := prog_5_method_10_code
def yy_H_setList : MethodName := ⟨rr_H, "setList", "([II)V"⟩
abbrev mm_H_setList : fx_M0 := (yy_H_setList, bb_H_setList, 3, none, [])
abbrev bb_V_noteTaken : ByteArray := prog_1_method_41_code
def yy_V_noteTaken : MethodName := ⟨rr_V, "noteTaken", "()V"⟩
abbrev mm_V_noteTaken : fx_M0 := (yy_V_noteTaken, bb_V_noteTaken, 4, none, [])
abbrev bb_M_init : ByteArray := prog_7_method_1_code
def yy_M_init : MethodName := ⟨rr_M, "<init>", "()V"⟩
abbrev mm_M_init : fx_M0 := (yy_M_init, bb_M_init, 2, none, [])
abbrev bb_M_begin : ByteArray := prog_7_method_18_code
def yy_M_begin : MethodName := ⟨rr_M, "begin", "(II)V"⟩
abbrev mm_M_begin : fx_M0 := (yy_M_begin, bb_M_begin, 4, none, [])
abbrev bb_M_putList : ByteArray := prog_7_method_22_code
def yy_M_putList : MethodName := ⟨rr_M, "putList", "()V"⟩
abbrev mm_M_putList : fx_M0 := (yy_M_putList, bb_M_putList, 2, none, [])
abbrev bb_M_put : ByteArray := prog_7_method_19_code
def yy_M_put : MethodName := ⟨rr_M, "put", "(I)V"⟩
abbrev mm_M_put : fx_M0 := (yy_M_put, bb_M_put, 2, none, [])
abbrev bb_M_store : ByteArray := prog_7_method_26_code
def yy_M_store : MethodName := ⟨rr_M, "store", "(I)Z"⟩
abbrev mm_M_store : fx_M0 := (yy_M_store, bb_M_store, 5, (some .boolean), [])
abbrev bb_M_wordAt : ByteArray := prog_7_method_5_code
def yy_M_wordAt : MethodName := ⟨rr_M, "wordAt", "(I)I"⟩
abbrev mm_M_wordAt : fx_M0 := (yy_M_wordAt, bb_M_wordAt, 2, (some .int), [])
abbrev bb_M_sector : ByteArray := prog_7_method_25_code
def yy_M_sector : MethodName := ⟨rr_M, "sector", "(II)Z"⟩
abbrev mm_M_sector : fx_M0 := (yy_M_sector, bb_M_sector, 4, (some .boolean), [])
abbrev bb_M_thrown : ByteArray := prog_7_method_2_code
def yy_M_thrown : MethodName := ⟨rr_M, "thrown", "()I"⟩
abbrev mm_M_thrown : fx_M0 := (yy_M_thrown, bb_M_thrown, 1, (some .int), [])
abbrev bb_M_type : ByteArray := prog_7_method_31_code
def yy_M_type : MethodName := ⟨rr_M, "type", "(C)Z"⟩
abbrev mm_M_type : fx_M0 := (yy_M_type, bb_M_type, 3, (some .boolean), [])
abbrev bb_M_create : ByteArray := prog_7_method_33_code
def yy_M_create : MethodName := ⟨rr_M, "create", "(IZ)I"⟩
abbrev mm_M_create : fx_M0 := (yy_M_create, bb_M_create, 4, (some .int), [])
abbrev bb_M_makeRecord : ByteArray := prog_7_method_32_code
def yy_M_makeRecord : MethodName := ⟨rr_M, "makeRecord", "(IZ)I"⟩
abbrev mm_M_makeRecord : fx_M0 := (yy_M_makeRecord, bb_M_makeRecord, 4, (some .int), [])
abbrev bb_M_refuse : ByteArray := prog_7_method_3_code
def yy_M_refuse : MethodName := ⟨rr_M, "refuse", "(I)I"⟩
abbrev mm_M_refuse : fx_M0 := (yy_M_refuse, bb_M_refuse, 2, (some .int), [])
abbrev bb_M_isKind : ByteArray := prog_7_method_8_code
def yy_M_isKind : MethodName := ⟨rr_M, "isKind", "(II)Z"⟩
abbrev mm_M_isKind : fx_M0 := (yy_M_isKind, bb_M_isKind, 3, (some .boolean), [])
abbrev bb_M_isRecord : ByteArray := prog_7_method_7_code
def yy_M_isRecord : MethodName := ⟨rr_M, "isRecord", "(I)Z"⟩
abbrev mm_M_isRecord : fx_M0 := (yy_M_isRecord, bb_M_isRecord, 2, (some .boolean), [])
abbrev bb_M_byteOf : ByteArray := prog_7_method_4_code
def yy_M_byteOf : MethodName := ⟨rr_M, "byteOf", "(II)I"⟩
abbrev mm_M_byteOf : fx_M0 := (yy_M_byteOf, bb_M_byteOf, 4, (some .int), [])
abbrev bb_M_findDraft : ByteArray := prog_7_method_30_code
def yy_M_findDraft : MethodName := ⟨rr_M, "findDraft", "(I)I"⟩
abbrev mm_M_findDraft : fx_M0 := (yy_M_findDraft, bb_M_findDraft, 3, (some .int), [])
abbrev bb_M_listLength : ByteArray := prog_7_method_14_code
def yy_M_listLength : MethodName := ⟨rr_M, "listLength", "(I)I"⟩
abbrev mm_M_listLength : fx_M0 := (yy_M_listLength, bb_M_listLength, 2, (some .int), [])
abbrev bb_M_attribute : ByteArray := prog_7_method_9_code
def yy_M_attribute : MethodName := ⟨rr_M, "attribute", "(II)I"⟩
abbrev mm_M_attribute : fx_M0 := (yy_M_attribute, bb_M_attribute, 5, (some .int), [])
abbrev bb_M_entry : ByteArray := prog_7_method_15_code
def yy_M_entry : MethodName := ⟨rr_M, "entry", "(II)I"⟩
abbrev mm_M_entry : fx_M0 := (yy_M_entry, bb_M_entry, 3, (some .int), [])
abbrev bb_M_isDraft : ByteArray := prog_7_method_13_code
def yy_M_isDraft : MethodName := ⟨rr_M, "isDraft", "(I)Z"⟩
abbrev mm_M_isDraft : fx_M0 := (yy_M_isDraft, bb_M_isDraft, 4, (some .boolean), [])
abbrev bb_M_nameLength : ByteArray := prog_7_method_10_code
def yy_M_nameLength : MethodName := ⟨rr_M, "nameLength", "(I)I"⟩
abbrev mm_M_nameLength : fx_M0 := (yy_M_nameLength, bb_M_nameLength, 2, (some .int), [])
abbrev bb_M_nameAt : ByteArray := prog_7_method_11_code
def yy_M_nameAt : MethodName := ⟨rr_M, "nameAt", "(II)I"⟩
abbrev mm_M_nameAt : fx_M0 := (yy_M_nameAt, bb_M_nameAt, 3, (some .int), [])
abbrev bb_M_putDraft : ByteArray := prog_7_method_21_code
def yy_M_putDraft : MethodName := ⟨rr_M, "putDraft", "()V"⟩
abbrev mm_M_putDraft : fx_M0 := (yy_M_putDraft, bb_M_putDraft, 2, none, [])
abbrev bb_M_putInside : ByteArray := prog_7_method_23_code
def yy_M_putInside : MethodName := ⟨rr_M, "putInside", "(I)V"⟩
abbrev mm_M_putInside : fx_M0 := (yy_M_putInside, bb_M_putInside, 3, none, [])
abbrev bb_M_takeList : ByteArray := prog_7_method_29_code
def yy_M_takeList : MethodName := ⟨rr_M, "takeList", "(II)V"⟩
abbrev mm_M_takeList : fx_M0 := (yy_M_takeList, bb_M_takeList, 4, none, [])
abbrev bb_M_join : ByteArray := prog_7_method_28_code
def yy_M_join : MethodName := ⟨rr_M, "join", "(I)V"⟩
abbrev mm_M_join : fx_M0 := (yy_M_join, bb_M_join, 3, none, [])
abbrev bb_M_compareNames : ByteArray := prog_7_method_12_code
def yy_M_compareNames : MethodName := ⟨rr_M, "compareNames", "(II)I"⟩
abbrev mm_M_compareNames : fx_M0 := (yy_M_compareNames, bb_M_compareNames, 4, (some .int), [])
abbrev bb_M_storeList : ByteArray := prog_7_method_27_code
def yy_M_storeList : MethodName := ⟨rr_M, "storeList", "(II)Z"⟩
abbrev mm_M_storeList : fx_M0 := (yy_M_storeList, bb_M_storeList, 3, (some .boolean), [])
abbrev bb_M_putName : ByteArray := prog_7_method_20_code
def yy_M_putName : MethodName := ⟨rr_M, "putName", "(I)V"⟩
abbrev mm_M_putName : fx_M0 := (yy_M_putName, bb_M_putName, 4, none, [])
abbrev bb_M_remove : ByteArray := prog_7_method_35_code
def yy_M_remove : MethodName := ⟨rr_M, "remove", "(I)I"⟩
abbrev mm_M_remove : fx_M0 := (yy_M_remove, bb_M_remove, 3, (some .int), [])
abbrev bb_M_loadMap : ByteArray := prog_7_method_34_code
def yy_M_loadMap : MethodName := ⟨rr_M, "loadMap", "(I)V"⟩
abbrev mm_M_loadMap : fx_M0 := (yy_M_loadMap, bb_M_loadMap, 7, none, [])
abbrev bb_M_release : ByteArray := prog_7_method_36_code
def yy_M_release : MethodName := ⟨rr_M, "release", "(I)I"⟩
abbrev mm_M_release : fx_M0 := (yy_M_release, bb_M_release, 4, (some .int), [])
abbrev bb_M_move : ByteArray := prog_7_method_39_code
def yy_M_move : MethodName := ⟨rr_M, "move", "(II)V"⟩
abbrev mm_M_move : fx_M0 := (yy_M_move, bb_M_move, 6, none, [])
abbrev bb_M_isBelow : ByteArray := prog_7_method_37_code
def yy_M_isBelow : MethodName := ⟨rr_M, "isBelow", "(II)Z"⟩
abbrev mm_M_isBelow : fx_M0 := (yy_M_isBelow, bb_M_isBelow, 4, (some .boolean), [])
abbrev bb_M_hasName : ByteArray := prog_7_method_38_code
def yy_M_hasName : MethodName := ⟨rr_M, "hasName", "(II)Z"⟩
abbrev mm_M_hasName : fx_M0 := (yy_M_hasName, bb_M_hasName, 5, (some .boolean), [])
abbrev bb_M_write : ByteArray := prog_7_method_48_code
def yy_M_write : MethodName := ⟨rr_M, "write", "(IIII)I"⟩
abbrev mm_M_write : fx_M0 := (yy_M_write, bb_M_write, 10, (some .int), [])
abbrev bb_M_sizeOf : ByteArray := prog_7_method_17_code
def yy_M_sizeOf : MethodName := ⟨rr_M, "sizeOf", "(I)I"⟩
abbrev mm_M_sizeOf : fx_M0 := (yy_M_sizeOf, bb_M_sizeOf, 3, (some .int), [])
abbrev bb_M_isInside : ByteArray := prog_7_method_16_code
def yy_M_isInside : MethodName := ⟨rr_M, "isInside", "(I)Z"⟩
abbrev mm_M_isInside : fx_M0 := (yy_M_isInside, bb_M_isInside, 2, (some .boolean), [])
abbrev bb_M_writeOutside : ByteArray := prog_7_method_47_code
def yy_M_writeOutside : MethodName := ⟨rr_M, "writeOutside", "(IIII)I"⟩
abbrev mm_M_writeOutside : fx_M0 := (yy_M_writeOutside, bb_M_writeOutside, 11, (some .int), [])
abbrev bb_M_clustersOf : ByteArray := prog_7_method_42_code
def yy_M_clustersOf : MethodName := ⟨rr_M, "clustersOf", "(I)I"⟩
abbrev mm_M_clustersOf : fx_M0 := (yy_M_clustersOf, bb_M_clustersOf, 1, (some .int), [])
abbrev bb_M_give : ByteArray := prog_7_method_44_code
def yy_M_give : MethodName := ⟨rr_M, "give", "(III)Z"⟩
abbrev mm_M_give : fx_M0 := (yy_M_give, bb_M_give, 6, (some .boolean), [])
abbrev bb_M_meets : ByteArray := prog_7_method_43_code
def yy_M_meets : MethodName := ⟨rr_M, "meets", "(III)Z"⟩
abbrev mm_M_meets : fx_M0 := (yy_M_meets, bb_M_meets, 3, (some .boolean), [])
abbrev bb_M_freeClusters : ByteArray := prog_7_method_41_code
def yy_M_freeClusters : MethodName := ⟨rr_M, "freeClusters", "()I"⟩
abbrev mm_M_freeClusters : fx_M0 := (yy_M_freeClusters, bb_M_freeClusters, 3, (some .int), [])
abbrev bb_M_lowestFree : ByteArray := prog_7_method_40_code
def yy_M_lowestFree : MethodName := ⟨rr_M, "lowestFree", "()I"⟩
abbrev mm_M_lowestFree : fx_M0 := (yy_M_lowestFree, bb_M_lowestFree, 2, (some .int), [])
abbrev bb_M_putOutside : ByteArray := prog_7_method_24_code
def yy_M_putOutside : MethodName := ⟨rr_M, "putOutside", "(I)V"⟩
abbrev mm_M_putOutside : fx_M0 := (yy_M_putOutside, bb_M_putOutside, 6, none, [])
abbrev bb_M_takeBack : ByteArray := prog_7_method_45_code
def yy_M_takeBack : MethodName := ⟨rr_M, "takeBack", "()V"⟩
abbrev mm_M_takeBack : fx_M0 := (yy_M_takeBack, bb_M_takeBack, 2, none, [])
abbrev bb_M_place : ByteArray := prog_7_method_46_code
def yy_M_place : MethodName := ⟨rr_M, "place", "(II)V"⟩
abbrev mm_M_place : fx_M0 := (yy_M_place, bb_M_place, 3, none, [])
abbrev bb_M_cut : ByteArray := prog_7_method_49_code
def yy_M_cut : MethodName := ⟨rr_M, "cut", "(II)I"⟩
abbrev mm_M_cut : fx_M0 := (yy_M_cut, bb_M_cut, 8, (some .int), [])
abbrev bb_M_fail : ByteArray := prog_7_method_50_code
def yy_M_fail : MethodName := ⟨rr_M, "fail", "(I)Z"⟩
abbrev mm_M_fail : fx_M0 := (yy_M_fail, bb_M_fail, 2, (some .boolean), [])
abbrev bb_M_mount : ByteArray := prog_7_method_55_code
def yy_M_mount : MethodName := ⟨rr_M, "mount", "()I"⟩
abbrev mm_M_mount : fx_M0 := (yy_M_mount, bb_M_mount, 3, (some .int), [])
abbrev bb_M_isTorn : ByteArray := prog_7_method_6_code
def yy_M_isTorn : MethodName := ⟨rr_M, "isTorn", "(I)Z"⟩
abbrev mm_M_isTorn : fx_M0 := (yy_M_isTorn, bb_M_isTorn, 3, (some .boolean), [])
abbrev bb_M_mendRoot : ByteArray := prog_7_method_52_code
def yy_M_mendRoot : MethodName := ⟨rr_M, "mendRoot", "()Z"⟩
abbrev mm_M_mendRoot : fx_M0 := (yy_M_mendRoot, bb_M_mendRoot, 1, (some .boolean), [])
abbrev bb_M_mendParents : ByteArray := prog_7_method_53_code
def yy_M_mendParents : MethodName := ⟨rr_M, "mendParents", "()Z"⟩
abbrev mm_M_mendParents : fx_M0 := (yy_M_mendParents, bb_M_mendParents, 3, (some .boolean), [])
abbrev bb_M_leadsUp : ByteArray := prog_7_method_51_code
def yy_M_leadsUp : MethodName := ⟨rr_M, "leadsUp", "(I)Z"⟩
abbrev mm_M_leadsUp : fx_M0 := (yy_M_leadsUp, bb_M_leadsUp, 4, (some .boolean), [])
abbrev bb_M_mendLists : ByteArray := prog_7_method_54_code
def yy_M_mendLists : MethodName := ⟨rr_M, "mendLists", "()Z"⟩
abbrev mm_M_mendLists : fx_M0 := (yy_M_mendLists, bb_M_mendLists, 4, (some .boolean), [])
abbrev bb_M_on : ByteArray := prog_7_method_56_code
def yy_M_on : MethodName := ⟨rr_M, "on", "()Z"⟩
abbrev mm_M_on : fx_M0 := (yy_M_on, bb_M_on, 1, (some .boolean), [])
abbrev bb_M_find : ByteArray := prog_7_method_57_code
def yy_M_find : MethodName := ⟨rr_M, "find", "(I)I"⟩
abbrev mm_M_find : fx_M0 := (yy_M_find, bb_M_find, 3, (some .int), [])
abbrev bb_M_record : ByteArray := prog_7_method_59_code
def yy_M_record : MethodName := ⟨rr_M, "record", "(II)I"⟩
abbrev mm_M_record : fx_M0 := (yy_M_record, bb_M_record, 4, (some .int), [])
abbrev bb_M_runsOf : ByteArray := prog_7_method_58_code
def yy_M_runsOf : MethodName := ⟨rr_M, "runsOf", "(I)I"⟩
abbrev mm_M_runsOf : fx_M0 := (yy_M_runsOf, bb_M_runsOf, 4, (some .int), [])
abbrev bb_M_read : ByteArray := prog_7_method_60_code
def yy_M_read : MethodName := ⟨rr_M, "read", "(II)I"⟩
abbrev mm_M_read : fx_M0 := (yy_M_read, bb_M_read, 3, (some .int), [])
abbrev bb_M_run : ByteArray := prog_7_method_61_code
def yy_M_run : MethodName := ⟨rr_M, "run", "(III)I"⟩
abbrev mm_M_run : fx_M0 := (yy_M_run, bb_M_run, 8, (some .int), [])
abbrev bb_M_free : ByteArray := prog_7_method_62_code
def yy_M_free : MethodName := ⟨rr_M, "free", "()I"⟩
abbrev mm_M_free : fx_M0 := (yy_M_free, bb_M_free, 1, (some .int), [])
abbrev bb_M_at : ByteArray := prog_7_method_63_code
def yy_M_at : MethodName := ⟨rr_M, "at", "(I)I"⟩
abbrev mm_M_at : fx_M0 := (yy_M_at, bb_M_at, 2, (some .int), [])
def yy_L_law : MethodName := ⟨rr_L, "law", "([I)Z"⟩
abbrev bb_L_law : ByteArray := code
abbrev mm_L_law : fx_M0 := (yy_L_law, code, maxLocals, (some .boolean), [])
end
section
theorem dd_V_init_0 : decode bb_V_init 0 = .ok (.aload_n 0, 1) := by decide +kernel
theorem dd_V_init_1 : decode bb_V_init 1 = .ok (.invokespecial 3, 3) := by decide +kernel
theorem dd_V_init_4 : decode bb_V_init 4 = .ok (.aload_n 0, 1) := by decide +kernel
theorem dd_V_init_5 : decode bb_V_init 5 = .ok (.new 9, 3) := by decide +kernel
theorem dd_V_init_8 : decode bb_V_init 8 = .ok (.dup, 1) := by decide +kernel
theorem dd_V_init_9 : decode bb_V_init 9 = .ok (.invokespecial 11, 3) := by decide +kernel
theorem dd_V_init_12 : decode bb_V_init 12 = .ok (.putfield 12, 3) := by decide +kernel
theorem dd_V_init_15 : decode bb_V_init 15 = .ok (.aload_n 0, 1) := by decide +kernel
theorem dd_V_init_16 : decode bb_V_init 16 = .ok (.bipush 12, 2) := by decide +kernel
theorem dd_V_init_18 : decode bb_V_init 18 = .ok (.anewarray 16, 3) := by decide +kernel
theorem dd_V_init_21 : decode bb_V_init 21 = .ok (.putfield 18, 3) := by decide +kernel
theorem dd_V_init_24 : decode bb_V_init 24 = .ok (.iconst 0, 1) := by decide +kernel
theorem dd_V_init_25 : decode bb_V_init 25 = .ok (.istore_n 1, 1) := by decide +kernel
theorem dd_V_init_26 : decode bb_V_init 26 = .ok (.iload_n 1, 1) := by decide +kernel
theorem dd_V_init_27 : decode bb_V_init 27 = .ok (.bipush 12, 2) := by decide +kernel
theorem dd_V_init_29 : decode bb_V_init 29 = .ok (.if_icmp .ge 22, 3) := by decide +kernel
theorem dd_V_init_32 : decode bb_V_init 32 = .ok (.aload_n 0, 1) := by decide +kernel
theorem dd_V_init_33 : decode bb_V_init 33 = .ok (.getfield 18, 3) := by decide +kernel
theorem dd_V_init_36 : decode bb_V_init 36 = .ok (.iload_n 1, 1) := by decide +kernel
theorem dd_V_init_37 : decode bb_V_init 37 = .ok (.new 16, 3) := by decide +kernel
theorem dd_V_init_40 : decode bb_V_init 40 = .ok (.dup, 1) := by decide +kernel
theorem dd_V_init_41 : decode bb_V_init 41 = .ok (.invokespecial 22, 3) := by decide +kernel
theorem dd_V_init_44 : decode bb_V_init 44 = .ok (.aastore, 1) := by decide +kernel
theorem dd_V_init_45 : decode bb_V_init 45 = .ok (.iinc 1 1, 3) := by decide +kernel
theorem dd_V_init_48 : decode bb_V_init 48 = .ok (.goto (-22), 3) := by decide +kernel
theorem dd_V_init_51 : decode bb_V_init 51 = .ok (.aload_n 0, 1) := by decide +kernel
theorem dd_V_init_52 : decode bb_V_init 52 = .ok (.sipush 128, 3) := by decide +kernel
theorem dd_V_init_55 : decode bb_V_init 55 = .ok (.newarray .boolean, 2) := by decide +kernel
theorem dd_V_init_57 : decode bb_V_init 57 = .ok (.putfield 23, 3) := by decide +kernel
theorem dd_V_init_60 : decode bb_V_init 60 = .ok (.aload_n 0, 1) := by decide +kernel
theorem dd_V_init_61 : decode bb_V_init 61 = .ok (.new 27, 3) := by decide +kernel
theorem dd_V_init_64 : decode bb_V_init 64 = .ok (.dup, 1) := by decide +kernel
theorem dd_V_init_65 : decode bb_V_init 65 = .ok (.invokespecial 29, 3) := by decide +kernel
theorem dd_V_init_68 : decode bb_V_init 68 = .ok (.putfield 30, 3) := by decide +kernel
theorem dd_V_init_71 : decode bb_V_init 71 = .ok (.aload_n 0, 1) := by decide +kernel
theorem dd_V_init_72 : decode bb_V_init 72 = .ok (.new 27, 3) := by decide +kernel
theorem dd_V_init_75 : decode bb_V_init 75 = .ok (.dup, 1) := by decide +kernel
theorem dd_V_init_76 : decode bb_V_init 76 = .ok (.invokespecial 29, 3) := by decide +kernel
theorem dd_V_init_79 : decode bb_V_init 79 = .ok (.putfield 34, 3) := by decide +kernel
theorem dd_V_init_82 : decode bb_V_init 82 = .ok (.aload_n 0, 1) := by decide +kernel
theorem dd_V_init_83 : decode bb_V_init 83 = .ok (.new 37, 3) := by decide +kernel
theorem dd_V_init_86 : decode bb_V_init 86 = .ok (.dup, 1) := by decide +kernel
theorem dd_V_init_87 : decode bb_V_init 87 = .ok (.invokespecial 39, 3) := by decide +kernel
theorem dd_V_init_90 : decode bb_V_init 90 = .ok (.putfield 40, 3) := by decide +kernel
theorem dd_V_init_93 : decode bb_V_init 93 = .ok (.aload_n 0, 1) := by decide +kernel
theorem dd_V_init_94 : decode bb_V_init 94 = .ok (.bipush 64, 2) := by decide +kernel
theorem dd_V_init_96 : decode bb_V_init 96 = .ok (.newarray .int, 2) := by decide +kernel
theorem dd_V_init_98 : decode bb_V_init 98 = .ok (.putfield 44, 3) := by decide +kernel
theorem dd_V_init_101 : decode bb_V_init 101 = .ok (.aload_n 0, 1) := by decide +kernel
theorem dd_V_init_102 : decode bb_V_init 102 = .ok (.bipush 12, 2) := by decide +kernel
theorem dd_V_init_104 : decode bb_V_init 104 = .ok (.newarray .int, 2) := by decide +kernel
theorem dd_V_init_106 : decode bb_V_init 106 = .ok (.putfield 48, 3) := by decide +kernel
theorem dd_V_init_109 : decode bb_V_init 109 = .ok (.aload_n 0, 1) := by decide +kernel
theorem dd_V_init_110 : decode bb_V_init 110 = .ok (.getfield 18, 3) := by decide +kernel
theorem dd_V_init_113 : decode bb_V_init 113 = .ok (.iconst 0, 1) := by decide +kernel
theorem dd_V_init_114 : decode bb_V_init 114 = .ok (.aaload, 1) := by decide +kernel
theorem dd_V_init_115 : decode bb_V_init 115 = .ok (.iconst 2, 1) := by decide +kernel
theorem dd_V_init_116 : decode bb_V_init 116 = .ok (.iconst 0, 1) := by decide +kernel
theorem dd_V_init_117 : decode bb_V_init 117 = .ok (.invokevirtual 51, 3) := by decide +kernel
theorem dd_V_init_120 : decode bb_V_init 120 = .ok (.aload_n 0, 1) := by decide +kernel
theorem dd_V_init_121 : decode bb_V_init 121 = .ok (.getfield 18, 3) := by decide +kernel
theorem dd_V_init_124 : decode bb_V_init 124 = .ok (.iconst 0, 1) := by decide +kernel
theorem dd_V_init_125 : decode bb_V_init 125 = .ok (.aaload, 1) := by decide +kernel
theorem dd_V_init_126 : decode bb_V_init 126 = .ok (.invokevirtual 55, 3) := by decide +kernel
theorem dd_V_init_129 : decode bb_V_init 129 = .ok (.aload_n 0, 1) := by decide +kernel
theorem dd_V_init_130 : decode bb_V_init 130 = .ok (.getfield 18, 3) := by decide +kernel
theorem dd_V_init_133 : decode bb_V_init 133 = .ok (.iconst 0, 1) := by decide +kernel
theorem dd_V_init_134 : decode bb_V_init 134 = .ok (.aaload, 1) := by decide +kernel
theorem dd_V_init_135 : decode bb_V_init 135 = .ok (.aload_n 0, 1) := by decide +kernel
theorem dd_V_init_136 : decode bb_V_init 136 = .ok (.getfield 44, 3) := by decide +kernel
theorem dd_V_init_139 : decode bb_V_init 139 = .ok (.invokevirtual 58, 3) := by decide +kernel
theorem dd_V_init_142 : decode bb_V_init 142 = .ok (.aload_n 0, 1) := by decide +kernel
theorem dd_V_init_143 : decode bb_V_init 143 = .ok (.getfield 12, 3) := by decide +kernel
theorem dd_V_init_146 : decode bb_V_init 146 = .ok (.iconst 0, 1) := by decide +kernel
theorem dd_V_init_147 : decode bb_V_init 147 = .ok (.iconst 0, 1) := by decide +kernel
theorem dd_V_init_148 : decode bb_V_init 148 = .ok (.aload_n 0, 1) := by decide +kernel
theorem dd_V_init_149 : decode bb_V_init 149 = .ok (.getfield 44, 3) := by decide +kernel
theorem dd_V_init_152 : decode bb_V_init 152 = .ok (.invokevirtual 62, 3) := by decide +kernel
theorem dd_V_init_155 : decode bb_V_init 155 = .ok (.aload_n 0, 1) := by decide +kernel
theorem dd_V_init_156 : decode bb_V_init 156 = .ok (.getfield 12, 3) := by decide +kernel
theorem dd_V_init_159 : decode bb_V_init 159 = .ok (.iconst 0, 1) := by decide +kernel
theorem dd_V_init_160 : decode bb_V_init 160 = .ok (.iconst 1, 1) := by decide +kernel
theorem dd_V_init_161 : decode bb_V_init 161 = .ok (.aload_n 0, 1) := by decide +kernel
theorem dd_V_init_162 : decode bb_V_init 162 = .ok (.getfield 44, 3) := by decide +kernel
theorem dd_V_init_165 : decode bb_V_init 165 = .ok (.invokevirtual 62, 3) := by decide +kernel
theorem dd_V_init_168 : decode bb_V_init 168 = .ok (.aload_n 0, 1) := by decide +kernel
theorem dd_V_init_169 : decode bb_V_init 169 = .ok (.iconst 1, 1) := by decide +kernel
theorem dd_V_init_170 : decode bb_V_init 170 = .ok (.putfield 66, 3) := by decide +kernel
theorem dd_V_init_173 : decode bb_V_init 173 = .ok (.return_, 1) := by decide +kernel
theorem dd_V_type_0 : decode bb_V_type 0 = .ok (.aload_n 0, 1) := by decide +kernel
theorem dd_V_type_1 : decode bb_V_type 1 = .ok (.getfield 30, 3) := by decide +kernel
theorem dd_V_type_4 : decode bb_V_type 4 = .ok (.iload_n 1, 1) := by decide +kernel
theorem dd_V_type_5 : decode bb_V_type 5 = .ok (.invokevirtual 70, 3) := by decide +kernel
theorem dd_V_type_8 : decode bb_V_type 8 = .ok (.ireturn, 1) := by decide +kernel
theorem dd_V_create_0 : decode bb_V_create 0 = .ok (.aload_n 0, 1) := by decide +kernel
theorem dd_V_create_1 : decode bb_V_create 1 = .ok (.getfield 34, 3) := by decide +kernel
theorem dd_V_create_4 : decode bb_V_create 4 = .ok (.aload_n 0, 1) := by decide +kernel
theorem dd_V_create_5 : decode bb_V_create 5 = .ok (.getfield 30, 3) := by decide +kernel
theorem dd_V_create_8 : decode bb_V_create 8 = .ok (.invokevirtual 74, 3) := by decide +kernel
theorem dd_V_create_11 : decode bb_V_create 11 = .ok (.aload_n 0, 1) := by decide +kernel
theorem dd_V_create_12 : decode bb_V_create 12 = .ok (.getfield 30, 3) := by decide +kernel
theorem dd_V_create_15 : decode bb_V_create 15 = .ok (.invokevirtual 78, 3) := by decide +kernel
theorem dd_V_create_18 : decode bb_V_create 18 = .ok (.aload_n 0, 1) := by decide +kernel
theorem dd_V_create_19 : decode bb_V_create 19 = .ok (.invokevirtual 81, 3) := by decide +kernel
theorem dd_V_create_22 : decode bb_V_create 22 = .ok (.aload_n 0, 1) := by decide +kernel
theorem dd_V_create_23 : decode bb_V_create 23 = .ok (.iload_n 1, 1) := by decide +kernel
theorem dd_V_create_24 : decode bb_V_create 24 = .ok (.invokevirtual 84, 3) := by decide +kernel
theorem dd_V_create_27 : decode bb_V_create 27 = .ok (.ifCond .eq 30, 3) := by decide +kernel
theorem dd_V_create_30 : decode bb_V_create 30 = .ok (.aload_n 0, 1) := by decide +kernel
theorem dd_V_create_31 : decode bb_V_create 31 = .ok (.getfield 34, 3) := by decide +kernel
theorem dd_V_create_34 : decode bb_V_create 34 = .ok (.getfield 87, 3) := by decide +kernel
theorem dd_V_create_37 : decode bb_V_create 37 = .ok (.ifCond .le 20, 3) := by decide +kernel
theorem dd_V_create_40 : decode bb_V_create 40 = .ok (.aload_n 0, 1) := by decide +kernel
theorem dd_V_create_41 : decode bb_V_create 41 = .ok (.iload_n 1, 1) := by decide +kernel
theorem dd_V_create_42 : decode bb_V_create 42 = .ok (.aload_n 0, 1) := by decide +kernel
theorem dd_V_create_43 : decode bb_V_create 43 = .ok (.getfield 34, 3) := by decide +kernel
theorem dd_V_create_46 : decode bb_V_create 46 = .ok (.invokevirtual 91, 3) := by decide +kernel
theorem dd_V_create_49 : decode bb_V_create 49 = .ok (.iconst (-1), 1) := by decide +kernel
theorem dd_V_create_50 : decode bb_V_create 50 = .ok (.if_icmp .ne 7, 3) := by decide +kernel
theorem dd_V_create_53 : decode bb_V_create 53 = .ok (.iconst 1, 1) := by decide +kernel
theorem dd_V_create_54 : decode bb_V_create 54 = .ok (.goto 4, 3) := by decide +kernel
theorem dd_V_create_57 : decode bb_V_create 57 = .ok (.iconst 0, 1) := by decide +kernel
theorem dd_V_create_58 : decode bb_V_create 58 = .ok (.invokestatic 95, 3) := by decide +kernel
theorem dd_V_create_61 : decode bb_V_create 61 = .ok (.aload_n 0, 1) := by decide +kernel
theorem dd_V_create_62 : decode bb_V_create 62 = .ok (.invokevirtual 99, 3) := by decide +kernel
theorem dd_V_create_65 : decode bb_V_create 65 = .ok (.istore_n 3, 1) := by decide +kernel
theorem dd_V_create_66 : decode bb_V_create 66 = .ok (.iload_n 3, 1) := by decide +kernel
theorem dd_V_create_67 : decode bb_V_create 67 = .ok (.iconst (-1), 1) := by decide +kernel
theorem dd_V_create_68 : decode bb_V_create 68 = .ok (.if_icmp .ne 13, 3) := by decide +kernel
theorem dd_V_create_71 : decode bb_V_create 71 = .ok (.new 103, 3) := by decide +kernel
theorem dd_V_create_74 : decode bb_V_create 74 = .ok (.dup, 1) := by decide +kernel
theorem dd_V_create_75 : decode bb_V_create 75 = .ok (.ldc 105, 2) := by decide +kernel
theorem dd_V_create_77 : decode bb_V_create 77 = .ok (.invokespecial 107, 3) := by decide +kernel
theorem dd_V_create_80 : decode bb_V_create 80 = .ok (.athrow, 1) := by decide +kernel
theorem dd_V_create_81 : decode bb_V_create 81 = .ok (.aload_n 0, 1) := by decide +kernel
theorem dd_V_create_82 : decode bb_V_create 82 = .ok (.getfield 18, 3) := by decide +kernel
theorem dd_V_create_85 : decode bb_V_create 85 = .ok (.iload_n 3, 1) := by decide +kernel
theorem dd_V_create_86 : decode bb_V_create 86 = .ok (.aaload, 1) := by decide +kernel
theorem dd_V_create_87 : decode bb_V_create 87 = .ok (.iload_n 2, 1) := by decide +kernel
theorem dd_V_create_88 : decode bb_V_create 88 = .ok (.ifCond .eq 7, 3) := by decide +kernel
theorem dd_V_create_91 : decode bb_V_create 91 = .ok (.iconst 1, 1) := by decide +kernel
theorem dd_V_create_92 : decode bb_V_create 92 = .ok (.goto 4, 3) := by decide +kernel
theorem dd_V_create_95 : decode bb_V_create 95 = .ok (.iconst 2, 1) := by decide +kernel
theorem dd_V_create_96 : decode bb_V_create 96 = .ok (.iload_n 1, 1) := by decide +kernel
theorem dd_V_create_97 : decode bb_V_create 97 = .ok (.invokevirtual 51, 3) := by decide +kernel
theorem dd_V_create_100 : decode bb_V_create 100 = .ok (.aload_n 0, 1) := by decide +kernel
theorem dd_V_create_101 : decode bb_V_create 101 = .ok (.getfield 18, 3) := by decide +kernel
theorem dd_V_create_104 : decode bb_V_create 104 = .ok (.iload_n 3, 1) := by decide +kernel
theorem dd_V_create_105 : decode bb_V_create 105 = .ok (.aaload, 1) := by decide +kernel
theorem dd_V_create_106 : decode bb_V_create 106 = .ok (.getfield 110, 3) := by decide +kernel
theorem dd_V_create_109 : decode bb_V_create 109 = .ok (.aload_n 0, 1) := by decide +kernel
theorem dd_V_create_110 : decode bb_V_create 110 = .ok (.getfield 34, 3) := by decide +kernel
theorem dd_V_create_113 : decode bb_V_create 113 = .ok (.invokevirtual 74, 3) := by decide +kernel
theorem dd_V_create_116 : decode bb_V_create 116 = .ok (.aload_n 0, 1) := by decide +kernel
theorem dd_V_create_117 : decode bb_V_create 117 = .ok (.iload_n 3, 1) := by decide +kernel
theorem dd_V_create_118 : decode bb_V_create 118 = .ok (.invokevirtual 113, 3) := by decide +kernel
theorem dd_V_create_121 : decode bb_V_create 121 = .ok (.aload_n 0, 1) := by decide +kernel
theorem dd_V_create_122 : decode bb_V_create 122 = .ok (.iload_n 1, 1) := by decide +kernel
theorem dd_V_create_123 : decode bb_V_create 123 = .ok (.iload_n 3, 1) := by decide +kernel
theorem dd_V_create_124 : decode bb_V_create 124 = .ok (.invokevirtual 117, 3) := by decide +kernel
theorem dd_V_create_127 : decode bb_V_create 127 = .ok (.aload_n 0, 1) := by decide +kernel
theorem dd_V_create_128 : decode bb_V_create 128 = .ok (.iload_n 1, 1) := by decide +kernel
theorem dd_V_create_129 : decode bb_V_create 129 = .ok (.invokevirtual 113, 3) := by decide +kernel
theorem dd_V_create_132 : decode bb_V_create 132 = .ok (.iload_n 3, 1) := by decide +kernel
theorem dd_V_create_133 : decode bb_V_create 133 = .ok (.ireturn, 1) := by decide +kernel
theorem dd_V_write_0 : decode bb_V_write 0 = .ok (.aload_n 0, 1) := by decide +kernel
theorem dd_V_write_1 : decode bb_V_write 1 = .ok (.invokevirtual 81, 3) := by decide +kernel
theorem dd_V_write_4 : decode bb_V_write 4 = .ok (.aload_n 0, 1) := by decide +kernel
theorem dd_V_write_5 : decode bb_V_write 5 = .ok (.iload_n 1, 1) := by decide +kernel
theorem dd_V_write_6 : decode bb_V_write 6 = .ok (.invokevirtual 120, 3) := by decide +kernel
theorem dd_V_write_9 : decode bb_V_write 9 = .ok (.ifCond .eq 38, 3) := by decide +kernel
theorem dd_V_write_12 : decode bb_V_write 12 = .ok (.iload_n 2, 1) := by decide +kernel
theorem dd_V_write_13 : decode bb_V_write 13 = .ok (.ifCond .lt 34, 3) := by decide +kernel
theorem dd_V_write_16 : decode bb_V_write 16 = .ok (.iload_n 2, 1) := by decide +kernel
theorem dd_V_write_17 : decode bb_V_write 17 = .ok (.sipush 1000, 3) := by decide +kernel
theorem dd_V_write_20 : decode bb_V_write 20 = .ok (.if_icmp .gt 27, 3) := by decide +kernel
theorem dd_V_write_23 : decode bb_V_write 23 = .ok (.iload_n 3, 1) := by decide +kernel
theorem dd_V_write_24 : decode bb_V_write 24 = .ok (.iconst 1, 1) := by decide +kernel
theorem dd_V_write_25 : decode bb_V_write 25 = .ok (.if_icmp .lt 22, 3) := by decide +kernel
theorem dd_V_write_28 : decode bb_V_write 28 = .ok (.iload_n 3, 1) := by decide +kernel
theorem dd_V_write_29 : decode bb_V_write 29 = .ok (.bipush 60, 2) := by decide +kernel
theorem dd_V_write_31 : decode bb_V_write 31 = .ok (.if_icmp .gt 16, 3) := by decide +kernel
theorem dd_V_write_34 : decode bb_V_write 34 = .ok (.iload_n 2, 1) := by decide +kernel
theorem dd_V_write_35 : decode bb_V_write 35 = .ok (.iload_n 3, 1) := by decide +kernel
theorem dd_V_write_36 : decode bb_V_write 36 = .ok (.iadd, 1) := by decide +kernel
theorem dd_V_write_37 : decode bb_V_write 37 = .ok (.sipush 1000, 3) := by decide +kernel
theorem dd_V_write_40 : decode bb_V_write 40 = .ok (.if_icmp .gt 7, 3) := by decide +kernel
theorem dd_V_write_43 : decode bb_V_write 43 = .ok (.iconst 1, 1) := by decide +kernel
theorem dd_V_write_44 : decode bb_V_write 44 = .ok (.goto 4, 3) := by decide +kernel
theorem dd_V_write_47 : decode bb_V_write 47 = .ok (.iconst 0, 1) := by decide +kernel
theorem dd_V_write_48 : decode bb_V_write 48 = .ok (.invokestatic 95, 3) := by decide +kernel
theorem dd_V_write_51 : decode bb_V_write 51 = .ok (.aload_n 0, 1) := by decide +kernel
theorem dd_V_write_52 : decode bb_V_write 52 = .ok (.getfield 18, 3) := by decide +kernel
theorem dd_V_write_55 : decode bb_V_write 55 = .ok (.iload_n 1, 1) := by decide +kernel
theorem dd_V_write_56 : decode bb_V_write 56 = .ok (.aaload, 1) := by decide +kernel
theorem dd_V_write_57 : decode bb_V_write 57 = .ok (.astore 5, 2) := by decide +kernel
theorem dd_V_write_59 : decode bb_V_write 59 = .ok (.aload 5, 2) := by decide +kernel
theorem dd_V_write_61 : decode bb_V_write 61 = .ok (.getfield 123, 3) := by decide +kernel
theorem dd_V_write_64 : decode bb_V_write 64 = .ok (.iload_n 2, 1) := by decide +kernel
theorem dd_V_write_65 : decode bb_V_write 65 = .ok (.iload_n 3, 1) := by decide +kernel
theorem dd_V_write_66 : decode bb_V_write 66 = .ok (.iadd, 1) := by decide +kernel
theorem dd_V_write_67 : decode bb_V_write 67 = .ok (.invokestatic 126, 3) := by decide +kernel
theorem dd_V_write_70 : decode bb_V_write 70 = .ok (.istore 6, 2) := by decide +kernel
theorem dd_V_write_72 : decode bb_V_write 72 = .ok (.aload 5, 2) := by decide +kernel
theorem dd_V_write_74 : decode bb_V_write 74 = .ok (.getfield 132, 3) := by decide +kernel
theorem dd_V_write_77 : decode bb_V_write 77 = .ok (.iconst 2, 1) := by decide +kernel
theorem dd_V_write_78 : decode bb_V_write 78 = .ok (.if_icmp .ne 27, 3) := by decide +kernel
theorem dd_V_write_81 : decode bb_V_write 81 = .ok (.iload 6, 2) := by decide +kernel
theorem dd_V_write_83 : decode bb_V_write 83 = .ok (.aload 5, 2) := by decide +kernel
theorem dd_V_write_85 : decode bb_V_write 85 = .ok (.invokevirtual 135, 3) := by decide +kernel
theorem dd_V_write_88 : decode bb_V_write 88 = .ok (.if_icmp .gt 17, 3) := by decide +kernel
theorem dd_V_write_91 : decode bb_V_write 91 = .ok (.aload 5, 2) := by decide +kernel
theorem dd_V_write_93 : decode bb_V_write 93 = .ok (.iload_n 2, 1) := by decide +kernel
theorem dd_V_write_94 : decode bb_V_write 94 = .ok (.iload_n 3, 1) := by decide +kernel
theorem dd_V_write_95 : decode bb_V_write 95 = .ok (.iload 4, 2) := by decide +kernel
theorem dd_V_write_97 : decode bb_V_write 97 = .ok (.iload 6, 2) := by decide +kernel
theorem dd_V_write_99 : decode bb_V_write 99 = .ok (.invokevirtual 138, 3) := by decide +kernel
theorem dd_V_write_102 : decode bb_V_write 102 = .ok (.goto 38, 3) := by decide +kernel
theorem dd_V_write_105 : decode bb_V_write 105 = .ok (.aload_n 0, 1) := by decide +kernel
theorem dd_V_write_106 : decode bb_V_write 106 = .ok (.aload 5, 2) := by decide +kernel
theorem dd_V_write_108 : decode bb_V_write 108 = .ok (.iload_n 2, 1) := by decide +kernel
theorem dd_V_write_109 : decode bb_V_write 109 = .ok (.iload_n 3, 1) := by decide +kernel
theorem dd_V_write_110 : decode bb_V_write 110 = .ok (.iload 6, 2) := by decide +kernel
theorem dd_V_write_112 : decode bb_V_write 112 = .ok (.invokevirtual 142, 3) := by decide +kernel
theorem dd_V_write_115 : decode bb_V_write 115 = .ok (.ifCond .ne 13, 3) := by decide +kernel
theorem dd_V_write_118 : decode bb_V_write 118 = .ok (.new 103, 3) := by decide +kernel
theorem dd_V_write_121 : decode bb_V_write 121 = .ok (.dup, 1) := by decide +kernel
theorem dd_V_write_122 : decode bb_V_write 122 = .ok (.ldc 146, 2) := by decide +kernel
theorem dd_V_write_124 : decode bb_V_write 124 = .ok (.invokespecial 107, 3) := by decide +kernel
theorem dd_V_write_127 : decode bb_V_write 127 = .ok (.athrow, 1) := by decide +kernel
theorem dd_V_write_128 : decode bb_V_write 128 = .ok (.aload_n 0, 1) := by decide +kernel
theorem dd_V_write_129 : decode bb_V_write 129 = .ok (.aload 5, 2) := by decide +kernel
theorem dd_V_write_131 : decode bb_V_write 131 = .ok (.iload_n 2, 1) := by decide +kernel
theorem dd_V_write_132 : decode bb_V_write 132 = .ok (.iload_n 3, 1) := by decide +kernel
theorem dd_V_write_133 : decode bb_V_write 133 = .ok (.iload 4, 2) := by decide +kernel
theorem dd_V_write_135 : decode bb_V_write 135 = .ok (.iload 6, 2) := by decide +kernel
theorem dd_V_write_137 : decode bb_V_write 137 = .ok (.invokevirtual 148, 3) := by decide +kernel
theorem dd_V_write_140 : decode bb_V_write 140 = .ok (.aload_n 0, 1) := by decide +kernel
theorem dd_V_write_141 : decode bb_V_write 141 = .ok (.iload_n 1, 1) := by decide +kernel
theorem dd_V_write_142 : decode bb_V_write 142 = .ok (.invokevirtual 113, 3) := by decide +kernel
theorem dd_V_write_145 : decode bb_V_write 145 = .ok (.iload 6, 2) := by decide +kernel
theorem dd_V_write_147 : decode bb_V_write 147 = .ok (.ireturn, 1) := by decide +kernel
theorem dd_V_cut_0 : decode bb_V_cut 0 = .ok (.aload_n 0, 1) := by decide +kernel
theorem dd_V_cut_1 : decode bb_V_cut 1 = .ok (.invokevirtual 81, 3) := by decide +kernel
theorem dd_V_cut_4 : decode bb_V_cut 4 = .ok (.aload_n 0, 1) := by decide +kernel
theorem dd_V_cut_5 : decode bb_V_cut 5 = .ok (.iload_n 1, 1) := by decide +kernel
theorem dd_V_cut_6 : decode bb_V_cut 6 = .ok (.invokevirtual 120, 3) := by decide +kernel
theorem dd_V_cut_9 : decode bb_V_cut 9 = .ok (.ifCond .eq 24, 3) := by decide +kernel
theorem dd_V_cut_12 : decode bb_V_cut 12 = .ok (.iload_n 2, 1) := by decide +kernel
theorem dd_V_cut_13 : decode bb_V_cut 13 = .ok (.ifCond .lt 20, 3) := by decide +kernel
theorem dd_V_cut_16 : decode bb_V_cut 16 = .ok (.iload_n 2, 1) := by decide +kernel
theorem dd_V_cut_17 : decode bb_V_cut 17 = .ok (.aload_n 0, 1) := by decide +kernel
theorem dd_V_cut_18 : decode bb_V_cut 18 = .ok (.getfield 18, 3) := by decide +kernel
theorem dd_V_cut_21 : decode bb_V_cut 21 = .ok (.iload_n 1, 1) := by decide +kernel
theorem dd_V_cut_22 : decode bb_V_cut 22 = .ok (.aaload, 1) := by decide +kernel
theorem dd_V_cut_23 : decode bb_V_cut 23 = .ok (.getfield 123, 3) := by decide +kernel
theorem dd_V_cut_26 : decode bb_V_cut 26 = .ok (.if_icmp .gt 7, 3) := by decide +kernel
theorem dd_V_cut_29 : decode bb_V_cut 29 = .ok (.iconst 1, 1) := by decide +kernel
theorem dd_V_cut_30 : decode bb_V_cut 30 = .ok (.goto 4, 3) := by decide +kernel
theorem dd_V_cut_33 : decode bb_V_cut 33 = .ok (.iconst 0, 1) := by decide +kernel
theorem dd_V_cut_34 : decode bb_V_cut 34 = .ok (.invokestatic 95, 3) := by decide +kernel
theorem dd_V_cut_37 : decode bb_V_cut 37 = .ok (.aload_n 0, 1) := by decide +kernel
theorem dd_V_cut_38 : decode bb_V_cut 38 = .ok (.getfield 18, 3) := by decide +kernel
theorem dd_V_cut_41 : decode bb_V_cut 41 = .ok (.iload_n 1, 1) := by decide +kernel
theorem dd_V_cut_42 : decode bb_V_cut 42 = .ok (.aaload, 1) := by decide +kernel
theorem dd_V_cut_43 : decode bb_V_cut 43 = .ok (.astore_n 3, 1) := by decide +kernel
theorem dd_V_cut_44 : decode bb_V_cut 44 = .ok (.aload_n 3, 1) := by decide +kernel
theorem dd_V_cut_45 : decode bb_V_cut 45 = .ok (.getfield 123, 3) := by decide +kernel
theorem dd_V_cut_48 : decode bb_V_cut 48 = .ok (.istore 4, 2) := by decide +kernel
theorem dd_V_cut_50 : decode bb_V_cut 50 = .ok (.aload_n 3, 1) := by decide +kernel
theorem dd_V_cut_51 : decode bb_V_cut 51 = .ok (.iload_n 2, 1) := by decide +kernel
theorem dd_V_cut_52 : decode bb_V_cut 52 = .ok (.putfield 123, 3) := by decide +kernel
theorem dd_V_cut_55 : decode bb_V_cut 55 = .ok (.aload_n 3, 1) := by decide +kernel
theorem dd_V_cut_56 : decode bb_V_cut 56 = .ok (.getfield 132, 3) := by decide +kernel
theorem dd_V_cut_59 : decode bb_V_cut 59 = .ok (.iconst 3, 1) := by decide +kernel
theorem dd_V_cut_60 : decode bb_V_cut 60 = .ok (.if_icmp .ne 41, 3) := by decide +kernel
theorem dd_V_cut_63 : decode bb_V_cut 63 = .ok (.aload_n 0, 1) := by decide +kernel
theorem dd_V_cut_64 : decode bb_V_cut 64 = .ok (.aload_n 3, 1) := by decide +kernel
theorem dd_V_cut_65 : decode bb_V_cut 65 = .ok (.getfield 152, 3) := by decide +kernel
theorem dd_V_cut_68 : decode bb_V_cut 68 = .ok (.iload_n 2, 1) := by decide +kernel
theorem dd_V_cut_69 : decode bb_V_cut 69 = .ok (.invokestatic 155, 3) := by decide +kernel
theorem dd_V_cut_72 : decode bb_V_cut 72 = .ok (.invokevirtual 159, 3) := by decide +kernel
theorem dd_V_cut_75 : decode bb_V_cut 75 = .ok (.pop, 1) := by decide +kernel
theorem dd_V_cut_76 : decode bb_V_cut 76 = .ok (.aload_n 0, 1) := by decide +kernel
theorem dd_V_cut_77 : decode bb_V_cut 77 = .ok (.getfield 12, 3) := by decide +kernel
theorem dd_V_cut_80 : decode bb_V_cut 80 = .ok (.aload_n 3, 1) := by decide +kernel
theorem dd_V_cut_81 : decode bb_V_cut 81 = .ok (.getfield 152, 3) := by decide +kernel
theorem dd_V_cut_84 : decode bb_V_cut 84 = .ok (.iload_n 2, 1) := by decide +kernel
theorem dd_V_cut_85 : decode bb_V_cut 85 = .ok (.iload_n 2, 1) := by decide +kernel
theorem dd_V_cut_86 : decode bb_V_cut 86 = .ok (.invokestatic 163, 3) := by decide +kernel
theorem dd_V_cut_89 : decode bb_V_cut 89 = .ok (.invokevirtual 166, 3) := by decide +kernel
theorem dd_V_cut_92 : decode bb_V_cut 92 = .ok (.iload_n 2, 1) := by decide +kernel
theorem dd_V_cut_93 : decode bb_V_cut 93 = .ok (.ifCond .ne 8, 3) := by decide +kernel
theorem dd_V_cut_96 : decode bb_V_cut 96 = .ok (.aload_n 3, 1) := by decide +kernel
theorem dd_V_cut_97 : decode bb_V_cut 97 = .ok (.iconst 2, 1) := by decide +kernel
theorem dd_V_cut_98 : decode bb_V_cut 98 = .ok (.putfield 132, 3) := by decide +kernel
theorem dd_V_cut_101 : decode bb_V_cut 101 = .ok (.aload_n 0, 1) := by decide +kernel
theorem dd_V_cut_102 : decode bb_V_cut 102 = .ok (.iload_n 1, 1) := by decide +kernel
theorem dd_V_cut_103 : decode bb_V_cut 103 = .ok (.invokevirtual 113, 3) := by decide +kernel
theorem dd_V_cut_106 : decode bb_V_cut 106 = .ok (.iload 4, 2) := by decide +kernel
theorem dd_V_cut_108 : decode bb_V_cut 108 = .ok (.ireturn, 1) := by decide +kernel
theorem dd_V_remove_0 : decode bb_V_remove 0 = .ok (.aload_n 0, 1) := by decide +kernel
theorem dd_V_remove_1 : decode bb_V_remove 1 = .ok (.invokevirtual 81, 3) := by decide +kernel
theorem dd_V_remove_4 : decode bb_V_remove 4 = .ok (.aload_n 0, 1) := by decide +kernel
theorem dd_V_remove_5 : decode bb_V_remove 5 = .ok (.iload_n 1, 1) := by decide +kernel
theorem dd_V_remove_6 : decode bb_V_remove 6 = .ok (.invokevirtual 170, 3) := by decide +kernel
theorem dd_V_remove_9 : decode bb_V_remove 9 = .ok (.ifCond .eq 31, 3) := by decide +kernel
theorem dd_V_remove_12 : decode bb_V_remove 12 = .ok (.iload_n 1, 1) := by decide +kernel
theorem dd_V_remove_13 : decode bb_V_remove 13 = .ok (.ifCond .eq 27, 3) := by decide +kernel
theorem dd_V_remove_16 : decode bb_V_remove 16 = .ok (.aload_n 0, 1) := by decide +kernel
theorem dd_V_remove_17 : decode bb_V_remove 17 = .ok (.iload_n 1, 1) := by decide +kernel
theorem dd_V_remove_18 : decode bb_V_remove 18 = .ok (.invokevirtual 84, 3) := by decide +kernel
theorem dd_V_remove_21 : decode bb_V_remove 21 = .ok (.ifCond .eq 15, 3) := by decide +kernel
theorem dd_V_remove_24 : decode bb_V_remove 24 = .ok (.aload_n 0, 1) := by decide +kernel
theorem dd_V_remove_25 : decode bb_V_remove 25 = .ok (.getfield 18, 3) := by decide +kernel
theorem dd_V_remove_28 : decode bb_V_remove 28 = .ok (.iload_n 1, 1) := by decide +kernel
theorem dd_V_remove_29 : decode bb_V_remove 29 = .ok (.aaload, 1) := by decide +kernel
theorem dd_V_remove_30 : decode bb_V_remove 30 = .ok (.getfield 123, 3) := by decide +kernel
theorem dd_V_remove_33 : decode bb_V_remove 33 = .ok (.ifCond .gt 7, 3) := by decide +kernel
theorem dd_V_remove_36 : decode bb_V_remove 36 = .ok (.iconst 1, 1) := by decide +kernel
theorem dd_V_remove_37 : decode bb_V_remove 37 = .ok (.goto 4, 3) := by decide +kernel
theorem dd_V_remove_40 : decode bb_V_remove 40 = .ok (.iconst 0, 1) := by decide +kernel
theorem dd_V_remove_41 : decode bb_V_remove 41 = .ok (.invokestatic 95, 3) := by decide +kernel
theorem dd_V_remove_44 : decode bb_V_remove 44 = .ok (.aload_n 0, 1) := by decide +kernel
theorem dd_V_remove_45 : decode bb_V_remove 45 = .ok (.getfield 18, 3) := by decide +kernel
theorem dd_V_remove_48 : decode bb_V_remove 48 = .ok (.iload_n 1, 1) := by decide +kernel
theorem dd_V_remove_49 : decode bb_V_remove 49 = .ok (.aaload, 1) := by decide +kernel
theorem dd_V_remove_50 : decode bb_V_remove 50 = .ok (.astore_n 2, 1) := by decide +kernel
theorem dd_V_remove_51 : decode bb_V_remove 51 = .ok (.aload_n 2, 1) := by decide +kernel
theorem dd_V_remove_52 : decode bb_V_remove 52 = .ok (.getfield 173, 3) := by decide +kernel
theorem dd_V_remove_55 : decode bb_V_remove 55 = .ok (.istore_n 3, 1) := by decide +kernel
theorem dd_V_remove_56 : decode bb_V_remove 56 = .ok (.aload_n 0, 1) := by decide +kernel
theorem dd_V_remove_57 : decode bb_V_remove 57 = .ok (.iload_n 3, 1) := by decide +kernel
theorem dd_V_remove_58 : decode bb_V_remove 58 = .ok (.iload_n 1, 1) := by decide +kernel
theorem dd_V_remove_59 : decode bb_V_remove 59 = .ok (.invokevirtual 176, 3) := by decide +kernel
theorem dd_V_remove_62 : decode bb_V_remove 62 = .ok (.aload_n 0, 1) := by decide +kernel
theorem dd_V_remove_63 : decode bb_V_remove 63 = .ok (.iload_n 3, 1) := by decide +kernel
theorem dd_V_remove_64 : decode bb_V_remove 64 = .ok (.invokevirtual 113, 3) := by decide +kernel
theorem dd_V_remove_67 : decode bb_V_remove 67 = .ok (.aload_n 0, 1) := by decide +kernel
theorem dd_V_remove_68 : decode bb_V_remove 68 = .ok (.aload_n 2, 1) := by decide +kernel
theorem dd_V_remove_69 : decode bb_V_remove 69 = .ok (.getfield 152, 3) := by decide +kernel
theorem dd_V_remove_72 : decode bb_V_remove 72 = .ok (.iconst 0, 1) := by decide +kernel
theorem dd_V_remove_73 : decode bb_V_remove 73 = .ok (.invokevirtual 159, 3) := by decide +kernel
theorem dd_V_remove_76 : decode bb_V_remove 76 = .ok (.istore 4, 2) := by decide +kernel
theorem dd_V_remove_78 : decode bb_V_remove 78 = .ok (.aload_n 2, 1) := by decide +kernel
theorem dd_V_remove_79 : decode bb_V_remove 79 = .ok (.iconst 0, 1) := by decide +kernel
theorem dd_V_remove_80 : decode bb_V_remove 80 = .ok (.iconst 0, 1) := by decide +kernel
theorem dd_V_remove_81 : decode bb_V_remove 81 = .ok (.invokevirtual 51, 3) := by decide +kernel
theorem dd_V_remove_84 : decode bb_V_remove 84 = .ok (.aload_n 0, 1) := by decide +kernel
theorem dd_V_remove_85 : decode bb_V_remove 85 = .ok (.iload_n 1, 1) := by decide +kernel
theorem dd_V_remove_86 : decode bb_V_remove 86 = .ok (.invokevirtual 113, 3) := by decide +kernel
theorem dd_V_remove_89 : decode bb_V_remove 89 = .ok (.iload 4, 2) := by decide +kernel
theorem dd_V_remove_91 : decode bb_V_remove 91 = .ok (.ireturn, 1) := by decide +kernel
theorem dd_V_move_0 : decode bb_V_move 0 = .ok (.aload_n 0, 1) := by decide +kernel
theorem dd_V_move_1 : decode bb_V_move 1 = .ok (.invokevirtual 81, 3) := by decide +kernel
theorem dd_V_move_4 : decode bb_V_move 4 = .ok (.aload_n 0, 1) := by decide +kernel
theorem dd_V_move_5 : decode bb_V_move 5 = .ok (.iload_n 1, 1) := by decide +kernel
theorem dd_V_move_6 : decode bb_V_move 6 = .ok (.invokevirtual 170, 3) := by decide +kernel
theorem dd_V_move_9 : decode bb_V_move 9 = .ok (.ifCond .eq 46, 3) := by decide +kernel
theorem dd_V_move_12 : decode bb_V_move 12 = .ok (.iload_n 1, 1) := by decide +kernel
theorem dd_V_move_13 : decode bb_V_move 13 = .ok (.ifCond .eq 42, 3) := by decide +kernel
theorem dd_V_move_16 : decode bb_V_move 16 = .ok (.aload_n 0, 1) := by decide +kernel
theorem dd_V_move_17 : decode bb_V_move 17 = .ok (.iload_n 2, 1) := by decide +kernel
theorem dd_V_move_18 : decode bb_V_move 18 = .ok (.invokevirtual 84, 3) := by decide +kernel
theorem dd_V_move_21 : decode bb_V_move 21 = .ok (.ifCond .eq 34, 3) := by decide +kernel
theorem dd_V_move_24 : decode bb_V_move 24 = .ok (.aload_n 0, 1) := by decide +kernel
theorem dd_V_move_25 : decode bb_V_move 25 = .ok (.iload_n 2, 1) := by decide +kernel
theorem dd_V_move_26 : decode bb_V_move 26 = .ok (.iload_n 1, 1) := by decide +kernel
theorem dd_V_move_27 : decode bb_V_move 27 = .ok (.invokevirtual 179, 3) := by decide +kernel
theorem dd_V_move_30 : decode bb_V_move 30 = .ok (.ifCond .ne 25, 3) := by decide +kernel
theorem dd_V_move_33 : decode bb_V_move 33 = .ok (.aload_n 0, 1) := by decide +kernel
theorem dd_V_move_34 : decode bb_V_move 34 = .ok (.iload_n 2, 1) := by decide +kernel
theorem dd_V_move_35 : decode bb_V_move 35 = .ok (.aload_n 0, 1) := by decide +kernel
theorem dd_V_move_36 : decode bb_V_move 36 = .ok (.getfield 18, 3) := by decide +kernel
theorem dd_V_move_39 : decode bb_V_move 39 = .ok (.iload_n 1, 1) := by decide +kernel
theorem dd_V_move_40 : decode bb_V_move 40 = .ok (.aaload, 1) := by decide +kernel
theorem dd_V_move_41 : decode bb_V_move 41 = .ok (.getfield 110, 3) := by decide +kernel
theorem dd_V_move_44 : decode bb_V_move 44 = .ok (.invokevirtual 91, 3) := by decide +kernel
theorem dd_V_move_47 : decode bb_V_move 47 = .ok (.iconst (-1), 1) := by decide +kernel
theorem dd_V_move_48 : decode bb_V_move 48 = .ok (.if_icmp .ne 7, 3) := by decide +kernel
theorem dd_V_move_51 : decode bb_V_move 51 = .ok (.iconst 1, 1) := by decide +kernel
theorem dd_V_move_52 : decode bb_V_move 52 = .ok (.goto 4, 3) := by decide +kernel
theorem dd_V_move_55 : decode bb_V_move 55 = .ok (.iconst 0, 1) := by decide +kernel
theorem dd_V_move_56 : decode bb_V_move 56 = .ok (.invokestatic 95, 3) := by decide +kernel
theorem dd_V_move_59 : decode bb_V_move 59 = .ok (.aload_n 0, 1) := by decide +kernel
theorem dd_V_move_60 : decode bb_V_move 60 = .ok (.getfield 18, 3) := by decide +kernel
theorem dd_V_move_63 : decode bb_V_move 63 = .ok (.iload_n 1, 1) := by decide +kernel
theorem dd_V_move_64 : decode bb_V_move 64 = .ok (.aaload, 1) := by decide +kernel
theorem dd_V_move_65 : decode bb_V_move 65 = .ok (.getfield 173, 3) := by decide +kernel
theorem dd_V_move_68 : decode bb_V_move 68 = .ok (.istore_n 3, 1) := by decide +kernel
theorem dd_V_move_69 : decode bb_V_move 69 = .ok (.aload_n 0, 1) := by decide +kernel
theorem dd_V_move_70 : decode bb_V_move 70 = .ok (.getfield 18, 3) := by decide +kernel
theorem dd_V_move_73 : decode bb_V_move 73 = .ok (.iload_n 1, 1) := by decide +kernel
theorem dd_V_move_74 : decode bb_V_move 74 = .ok (.aaload, 1) := by decide +kernel
theorem dd_V_move_75 : decode bb_V_move 75 = .ok (.iload_n 2, 1) := by decide +kernel
theorem dd_V_move_76 : decode bb_V_move 76 = .ok (.putfield 173, 3) := by decide +kernel
theorem dd_V_move_79 : decode bb_V_move 79 = .ok (.aload_n 0, 1) := by decide +kernel
theorem dd_V_move_80 : decode bb_V_move 80 = .ok (.iload_n 1, 1) := by decide +kernel
theorem dd_V_move_81 : decode bb_V_move 81 = .ok (.invokevirtual 113, 3) := by decide +kernel
theorem dd_V_move_84 : decode bb_V_move 84 = .ok (.aload_n 0, 1) := by decide +kernel
theorem dd_V_move_85 : decode bb_V_move 85 = .ok (.iload_n 3, 1) := by decide +kernel
theorem dd_V_move_86 : decode bb_V_move 86 = .ok (.iload_n 1, 1) := by decide +kernel
theorem dd_V_move_87 : decode bb_V_move 87 = .ok (.invokevirtual 176, 3) := by decide +kernel
theorem dd_V_move_90 : decode bb_V_move 90 = .ok (.aload_n 0, 1) := by decide +kernel
theorem dd_V_move_91 : decode bb_V_move 91 = .ok (.iload_n 3, 1) := by decide +kernel
theorem dd_V_move_92 : decode bb_V_move 92 = .ok (.invokevirtual 113, 3) := by decide +kernel
theorem dd_V_move_95 : decode bb_V_move 95 = .ok (.aload_n 0, 1) := by decide +kernel
theorem dd_V_move_96 : decode bb_V_move 96 = .ok (.iload_n 2, 1) := by decide +kernel
theorem dd_V_move_97 : decode bb_V_move 97 = .ok (.iload_n 1, 1) := by decide +kernel
theorem dd_V_move_98 : decode bb_V_move 98 = .ok (.invokevirtual 117, 3) := by decide +kernel
theorem dd_V_move_101 : decode bb_V_move 101 = .ok (.aload_n 0, 1) := by decide +kernel
theorem dd_V_move_102 : decode bb_V_move 102 = .ok (.iload_n 2, 1) := by decide +kernel
theorem dd_V_move_103 : decode bb_V_move 103 = .ok (.invokevirtual 113, 3) := by decide +kernel
theorem dd_V_move_106 : decode bb_V_move 106 = .ok (.return_, 1) := by decide +kernel
theorem dd_V_fail_0 : decode bb_V_fail 0 = .ok (.iload_n 1, 1) := by decide +kernel
theorem dd_V_fail_1 : decode bb_V_fail 1 = .ok (.ifCond .lt 9, 3) := by decide +kernel
theorem dd_V_fail_4 : decode bb_V_fail 4 = .ok (.iload_n 1, 1) := by decide +kernel
theorem dd_V_fail_5 : decode bb_V_fail 5 = .ok (.bipush 20, 2) := by decide +kernel
theorem dd_V_fail_7 : decode bb_V_fail 7 = .ok (.if_icmp .le 5, 3) := by decide +kernel
theorem dd_V_fail_10 : decode bb_V_fail 10 = .ok (.iconst 0, 1) := by decide +kernel
theorem dd_V_fail_11 : decode bb_V_fail 11 = .ok (.ireturn, 1) := by decide +kernel
theorem dd_V_fail_12 : decode bb_V_fail 12 = .ok (.aload_n 0, 1) := by decide +kernel
theorem dd_V_fail_13 : decode bb_V_fail 13 = .ok (.getfield 12, 3) := by decide +kernel
theorem dd_V_fail_16 : decode bb_V_fail 16 = .ok (.iload_n 1, 1) := by decide +kernel
theorem dd_V_fail_17 : decode bb_V_fail 17 = .ok (.putfield 183, 3) := by decide +kernel
theorem dd_V_fail_20 : decode bb_V_fail 20 = .ok (.iconst 1, 1) := by decide +kernel
theorem dd_V_fail_21 : decode bb_V_fail 21 = .ok (.ireturn, 1) := by decide +kernel
theorem dd_V_mount_0 : decode bb_V_mount 0 = .ok (.iconst 0, 1) := by decide +kernel
theorem dd_V_mount_1 : decode bb_V_mount 1 = .ok (.istore_n 1, 1) := by decide +kernel
theorem dd_V_mount_2 : decode bb_V_mount 2 = .ok (.iload_n 1, 1) := by decide +kernel
theorem dd_V_mount_3 : decode bb_V_mount 3 = .ok (.bipush 12, 2) := by decide +kernel
theorem dd_V_mount_5 : decode bb_V_mount 5 = .ok (.if_icmp .ge 34, 3) := by decide +kernel
theorem dd_V_mount_8 : decode bb_V_mount 8 = .ok (.aload_n 0, 1) := by decide +kernel
theorem dd_V_mount_9 : decode bb_V_mount 9 = .ok (.getfield 12, 3) := by decide +kernel
theorem dd_V_mount_12 : decode bb_V_mount 12 = .ok (.iload_n 1, 1) := by decide +kernel
theorem dd_V_mount_13 : decode bb_V_mount 13 = .ok (.aload_n 0, 1) := by decide +kernel
theorem dd_V_mount_14 : decode bb_V_mount 14 = .ok (.getfield 44, 3) := by decide +kernel
theorem dd_V_mount_17 : decode bb_V_mount 17 = .ok (.invokevirtual 186, 3) := by decide +kernel
theorem dd_V_mount_20 : decode bb_V_mount 20 = .ok (.aload_n 0, 1) := by decide +kernel
theorem dd_V_mount_21 : decode bb_V_mount 21 = .ok (.getfield 18, 3) := by decide +kernel
theorem dd_V_mount_24 : decode bb_V_mount 24 = .ok (.iload_n 1, 1) := by decide +kernel
theorem dd_V_mount_25 : decode bb_V_mount 25 = .ok (.aaload, 1) := by decide +kernel
theorem dd_V_mount_26 : decode bb_V_mount 26 = .ok (.aload_n 0, 1) := by decide +kernel
theorem dd_V_mount_27 : decode bb_V_mount 27 = .ok (.getfield 44, 3) := by decide +kernel
theorem dd_V_mount_30 : decode bb_V_mount 30 = .ok (.invokevirtual 190, 3) := by decide +kernel
theorem dd_V_mount_33 : decode bb_V_mount 33 = .ok (.iinc 1 1, 3) := by decide +kernel
theorem dd_V_mount_36 : decode bb_V_mount 36 = .ok (.goto (-34), 3) := by decide +kernel
theorem dd_V_mount_39 : decode bb_V_mount 39 = .ok (.aload_n 0, 1) := by decide +kernel
theorem dd_V_mount_40 : decode bb_V_mount 40 = .ok (.invokevirtual 193, 3) := by decide +kernel
theorem dd_V_mount_43 : decode bb_V_mount 43 = .ok (.istore_n 1, 1) := by decide +kernel
theorem dd_V_mount_44 : decode bb_V_mount 44 = .ok (.iload_n 1, 1) := by decide +kernel
theorem dd_V_mount_45 : decode bb_V_mount 45 = .ok (.aload_n 0, 1) := by decide +kernel
theorem dd_V_mount_46 : decode bb_V_mount 46 = .ok (.invokevirtual 196, 3) := by decide +kernel
theorem dd_V_mount_49 : decode bb_V_mount 49 = .ok (.iadd, 1) := by decide +kernel
theorem dd_V_mount_50 : decode bb_V_mount 50 = .ok (.istore_n 1, 1) := by decide +kernel
theorem dd_V_mount_51 : decode bb_V_mount 51 = .ok (.iload_n 1, 1) := by decide +kernel
theorem dd_V_mount_52 : decode bb_V_mount 52 = .ok (.aload_n 0, 1) := by decide +kernel
theorem dd_V_mount_53 : decode bb_V_mount 53 = .ok (.invokevirtual 199, 3) := by decide +kernel
theorem dd_V_mount_56 : decode bb_V_mount 56 = .ok (.iadd, 1) := by decide +kernel
theorem dd_V_mount_57 : decode bb_V_mount 57 = .ok (.istore_n 1, 1) := by decide +kernel
theorem dd_V_mount_58 : decode bb_V_mount 58 = .ok (.aload_n 0, 1) := by decide +kernel
theorem dd_V_mount_59 : decode bb_V_mount 59 = .ok (.invokevirtual 202, 3) := by decide +kernel
theorem dd_V_mount_62 : decode bb_V_mount 62 = .ok (.aload_n 0, 1) := by decide +kernel
theorem dd_V_mount_63 : decode bb_V_mount 63 = .ok (.iconst 1, 1) := by decide +kernel
theorem dd_V_mount_64 : decode bb_V_mount 64 = .ok (.putfield 66, 3) := by decide +kernel
theorem dd_V_mount_67 : decode bb_V_mount 67 = .ok (.iload_n 1, 1) := by decide +kernel
theorem dd_V_mount_68 : decode bb_V_mount 68 = .ok (.ireturn, 1) := by decide +kernel
theorem dd_V_on_0 : decode bb_V_on 0 = .ok (.aload_n 0, 1) := by decide +kernel
theorem dd_V_on_1 : decode bb_V_on 1 = .ok (.getfield 66, 3) := by decide +kernel
theorem dd_V_on_4 : decode bb_V_on 4 = .ok (.ireturn, 1) := by decide +kernel
theorem dd_V_find_0 : decode bb_V_find 0 = .ok (.aload_n 0, 1) := by decide +kernel
theorem dd_V_find_1 : decode bb_V_find 1 = .ok (.getfield 66, 3) := by decide +kernel
theorem dd_V_find_4 : decode bb_V_find 4 = .ok (.ifCond .eq 23, 3) := by decide +kernel
theorem dd_V_find_7 : decode bb_V_find 7 = .ok (.aload_n 0, 1) := by decide +kernel
theorem dd_V_find_8 : decode bb_V_find 8 = .ok (.iload_n 1, 1) := by decide +kernel
theorem dd_V_find_9 : decode bb_V_find 9 = .ok (.invokevirtual 84, 3) := by decide +kernel
theorem dd_V_find_12 : decode bb_V_find 12 = .ok (.ifCond .eq 15, 3) := by decide +kernel
theorem dd_V_find_15 : decode bb_V_find 15 = .ok (.aload_n 0, 1) := by decide +kernel
theorem dd_V_find_16 : decode bb_V_find 16 = .ok (.iload_n 1, 1) := by decide +kernel
theorem dd_V_find_17 : decode bb_V_find 17 = .ok (.aload_n 0, 1) := by decide +kernel
theorem dd_V_find_18 : decode bb_V_find 18 = .ok (.getfield 30, 3) := by decide +kernel
theorem dd_V_find_21 : decode bb_V_find 21 = .ok (.invokevirtual 91, 3) := by decide +kernel
theorem dd_V_find_24 : decode bb_V_find 24 = .ok (.goto 4, 3) := by decide +kernel
theorem dd_V_find_27 : decode bb_V_find 27 = .ok (.iconst (-1), 1) := by decide +kernel
theorem dd_V_find_28 : decode bb_V_find 28 = .ok (.istore_n 2, 1) := by decide +kernel
theorem dd_V_find_29 : decode bb_V_find 29 = .ok (.aload_n 0, 1) := by decide +kernel
theorem dd_V_find_30 : decode bb_V_find 30 = .ok (.getfield 30, 3) := by decide +kernel
theorem dd_V_find_33 : decode bb_V_find 33 = .ok (.invokevirtual 78, 3) := by decide +kernel
theorem dd_V_find_36 : decode bb_V_find 36 = .ok (.iload_n 2, 1) := by decide +kernel
theorem dd_V_find_37 : decode bb_V_find 37 = .ok (.ireturn, 1) := by decide +kernel
theorem dd_V_record_0 : decode bb_V_record 0 = .ok (.aload_n 0, 1) := by decide +kernel
theorem dd_V_record_1 : decode bb_V_record 1 = .ok (.getfield 66, 3) := by decide +kernel
theorem dd_V_record_4 : decode bb_V_record 4 = .ok (.ifCond .eq 11, 3) := by decide +kernel
theorem dd_V_record_7 : decode bb_V_record 7 = .ok (.aload_n 0, 1) := by decide +kernel
theorem dd_V_record_8 : decode bb_V_record 8 = .ok (.iload_n 1, 1) := by decide +kernel
theorem dd_V_record_9 : decode bb_V_record 9 = .ok (.invokevirtual 170, 3) := by decide +kernel
theorem dd_V_record_12 : decode bb_V_record 12 = .ok (.ifCond .ne 5, 3) := by decide +kernel
theorem dd_V_record_15 : decode bb_V_record 15 = .ok (.iconst (-1), 1) := by decide +kernel
theorem dd_V_record_16 : decode bb_V_record 16 = .ok (.ireturn, 1) := by decide +kernel
theorem dd_V_record_17 : decode bb_V_record 17 = .ok (.aload_n 0, 1) := by decide +kernel
theorem dd_V_record_18 : decode bb_V_record 18 = .ok (.getfield 18, 3) := by decide +kernel
theorem dd_V_record_21 : decode bb_V_record 21 = .ok (.iload_n 1, 1) := by decide +kernel
theorem dd_V_record_22 : decode bb_V_record 22 = .ok (.aaload, 1) := by decide +kernel
theorem dd_V_record_23 : decode bb_V_record 23 = .ok (.astore_n 3, 1) := by decide +kernel
theorem dd_V_record_24 : decode bb_V_record 24 = .ok (.iload_n 2, 1) := by decide +kernel
theorem dd_V_record_25 : decode bb_V_record 25 = .ok (.tableswitch 81 0 6 #[43, 48, 53, 58, 63, 68, 73], 43) := by decide +kernel
theorem dd_V_record_68 : decode bb_V_record 68 = .ok (.aload_n 3, 1) := by decide +kernel
theorem dd_V_record_69 : decode bb_V_record 69 = .ok (.getfield 205, 3) := by decide +kernel
theorem dd_V_record_72 : decode bb_V_record 72 = .ok (.ireturn, 1) := by decide +kernel
theorem dd_V_record_73 : decode bb_V_record 73 = .ok (.aload_n 3, 1) := by decide +kernel
theorem dd_V_record_74 : decode bb_V_record 74 = .ok (.getfield 173, 3) := by decide +kernel
theorem dd_V_record_77 : decode bb_V_record 77 = .ok (.ireturn, 1) := by decide +kernel
theorem dd_V_record_78 : decode bb_V_record 78 = .ok (.aload_n 3, 1) := by decide +kernel
theorem dd_V_record_79 : decode bb_V_record 79 = .ok (.getfield 208, 3) := by decide +kernel
theorem dd_V_record_82 : decode bb_V_record 82 = .ok (.ireturn, 1) := by decide +kernel
theorem dd_V_record_83 : decode bb_V_record 83 = .ok (.aload_n 3, 1) := by decide +kernel
theorem dd_V_record_84 : decode bb_V_record 84 = .ok (.invokevirtual 211, 3) := by decide +kernel
theorem dd_V_record_87 : decode bb_V_record 87 = .ok (.ireturn, 1) := by decide +kernel
theorem dd_V_record_88 : decode bb_V_record 88 = .ok (.aload_n 3, 1) := by decide +kernel
theorem dd_V_record_89 : decode bb_V_record 89 = .ok (.getfield 123, 3) := by decide +kernel
theorem dd_V_record_92 : decode bb_V_record 92 = .ok (.ireturn, 1) := by decide +kernel
theorem dd_V_record_93 : decode bb_V_record 93 = .ok (.aload_n 3, 1) := by decide +kernel
theorem dd_V_record_94 : decode bb_V_record 94 = .ok (.getfield 132, 3) := by decide +kernel
theorem dd_V_record_97 : decode bb_V_record 97 = .ok (.ireturn, 1) := by decide +kernel
theorem dd_V_record_98 : decode bb_V_record 98 = .ok (.aload_n 3, 1) := by decide +kernel
theorem dd_V_record_99 : decode bb_V_record 99 = .ok (.getfield 152, 3) := by decide +kernel
theorem dd_V_record_102 : decode bb_V_record 102 = .ok (.invokevirtual 214, 3) := by decide +kernel
theorem dd_V_record_105 : decode bb_V_record 105 = .ok (.ireturn, 1) := by decide +kernel
theorem dd_V_record_106 : decode bb_V_record 106 = .ok (.iconst (-1), 1) := by decide +kernel
theorem dd_V_record_107 : decode bb_V_record 107 = .ok (.ireturn, 1) := by decide +kernel
theorem dd_V_read_0 : decode bb_V_read 0 = .ok (.aload_n 0, 1) := by decide +kernel
theorem dd_V_read_1 : decode bb_V_read 1 = .ok (.getfield 66, 3) := by decide +kernel
theorem dd_V_read_4 : decode bb_V_read 4 = .ok (.ifCond .eq 28, 3) := by decide +kernel
theorem dd_V_read_7 : decode bb_V_read 7 = .ok (.aload_n 0, 1) := by decide +kernel
theorem dd_V_read_8 : decode bb_V_read 8 = .ok (.iload_n 1, 1) := by decide +kernel
theorem dd_V_read_9 : decode bb_V_read 9 = .ok (.invokevirtual 170, 3) := by decide +kernel
theorem dd_V_read_12 : decode bb_V_read 12 = .ok (.ifCond .eq 20, 3) := by decide +kernel
theorem dd_V_read_15 : decode bb_V_read 15 = .ok (.iload_n 2, 1) := by decide +kernel
theorem dd_V_read_16 : decode bb_V_read 16 = .ok (.ifCond .lt 16, 3) := by decide +kernel
theorem dd_V_read_19 : decode bb_V_read 19 = .ok (.iload_n 2, 1) := by decide +kernel
theorem dd_V_read_20 : decode bb_V_read 20 = .ok (.aload_n 0, 1) := by decide +kernel
theorem dd_V_read_21 : decode bb_V_read 21 = .ok (.getfield 18, 3) := by decide +kernel
theorem dd_V_read_24 : decode bb_V_read 24 = .ok (.iload_n 1, 1) := by decide +kernel
theorem dd_V_read_25 : decode bb_V_read 25 = .ok (.aaload, 1) := by decide +kernel
theorem dd_V_read_26 : decode bb_V_read 26 = .ok (.getfield 123, 3) := by decide +kernel
theorem dd_V_read_29 : decode bb_V_read 29 = .ok (.if_icmp .lt 5, 3) := by decide +kernel
theorem dd_V_read_32 : decode bb_V_read 32 = .ok (.iconst (-1), 1) := by decide +kernel
theorem dd_V_read_33 : decode bb_V_read 33 = .ok (.ireturn, 1) := by decide +kernel
theorem dd_V_read_34 : decode bb_V_read 34 = .ok (.aload_n 0, 1) := by decide +kernel
theorem dd_V_read_35 : decode bb_V_read 35 = .ok (.getfield 18, 3) := by decide +kernel
theorem dd_V_read_38 : decode bb_V_read 38 = .ok (.iload_n 1, 1) := by decide +kernel
theorem dd_V_read_39 : decode bb_V_read 39 = .ok (.aaload, 1) := by decide +kernel
theorem dd_V_read_40 : decode bb_V_read 40 = .ok (.astore_n 3, 1) := by decide +kernel
theorem dd_V_read_41 : decode bb_V_read 41 = .ok (.aload_n 3, 1) := by decide +kernel
theorem dd_V_read_42 : decode bb_V_read 42 = .ok (.getfield 132, 3) := by decide +kernel
theorem dd_V_read_45 : decode bb_V_read 45 = .ok (.iconst 3, 1) := by decide +kernel
theorem dd_V_read_46 : decode bb_V_read 46 = .ok (.if_icmp .ne 18, 3) := by decide +kernel
theorem dd_V_read_49 : decode bb_V_read 49 = .ok (.aload_n 0, 1) := by decide +kernel
theorem dd_V_read_50 : decode bb_V_read 50 = .ok (.getfield 12, 3) := by decide +kernel
theorem dd_V_read_53 : decode bb_V_read 53 = .ok (.aload_n 3, 1) := by decide +kernel
theorem dd_V_read_54 : decode bb_V_read 54 = .ok (.getfield 152, 3) := by decide +kernel
theorem dd_V_read_57 : decode bb_V_read 57 = .ok (.iload_n 2, 1) := by decide +kernel
theorem dd_V_read_58 : decode bb_V_read 58 = .ok (.invokevirtual 217, 3) := by decide +kernel
theorem dd_V_read_61 : decode bb_V_read 61 = .ok (.goto 9, 3) := by decide +kernel
theorem dd_V_read_64 : decode bb_V_read 64 = .ok (.aload_n 3, 1) := by decide +kernel
theorem dd_V_read_65 : decode bb_V_read 65 = .ok (.getfield 220, 3) := by decide +kernel
theorem dd_V_read_68 : decode bb_V_read 68 = .ok (.iload_n 2, 1) := by decide +kernel
theorem dd_V_read_69 : decode bb_V_read 69 = .ok (.iaload, 1) := by decide +kernel
theorem dd_V_read_70 : decode bb_V_read 70 = .ok (.ireturn, 1) := by decide +kernel
theorem dd_V_run_0 : decode bb_V_run 0 = .ok (.aload_n 0, 1) := by decide +kernel
theorem dd_V_run_1 : decode bb_V_run 1 = .ok (.getfield 66, 3) := by decide +kernel
theorem dd_V_run_4 : decode bb_V_run 4 = .ok (.ifCond .eq 11, 3) := by decide +kernel
theorem dd_V_run_7 : decode bb_V_run 7 = .ok (.aload_n 0, 1) := by decide +kernel
theorem dd_V_run_8 : decode bb_V_run 8 = .ok (.iload_n 1, 1) := by decide +kernel
theorem dd_V_run_9 : decode bb_V_run 9 = .ok (.invokevirtual 120, 3) := by decide +kernel
theorem dd_V_run_12 : decode bb_V_run 12 = .ok (.ifCond .ne 5, 3) := by decide +kernel
theorem dd_V_run_15 : decode bb_V_run 15 = .ok (.iconst (-1), 1) := by decide +kernel
theorem dd_V_run_16 : decode bb_V_run 16 = .ok (.ireturn, 1) := by decide +kernel
theorem dd_V_run_17 : decode bb_V_run 17 = .ok (.aload_n 0, 1) := by decide +kernel
theorem dd_V_run_18 : decode bb_V_run 18 = .ok (.getfield 18, 3) := by decide +kernel
theorem dd_V_run_21 : decode bb_V_run 21 = .ok (.iload_n 1, 1) := by decide +kernel
theorem dd_V_run_22 : decode bb_V_run 22 = .ok (.aaload, 1) := by decide +kernel
theorem dd_V_run_23 : decode bb_V_run 23 = .ok (.getfield 152, 3) := by decide +kernel
theorem dd_V_run_26 : decode bb_V_run 26 = .ok (.astore 4, 2) := by decide +kernel
theorem dd_V_run_28 : decode bb_V_run 28 = .ok (.aload 4, 2) := by decide +kernel
theorem dd_V_run_30 : decode bb_V_run 30 = .ok (.iload_n 2, 1) := by decide +kernel
theorem dd_V_run_31 : decode bb_V_run 31 = .ok (.invokevirtual 223, 3) := by decide +kernel
theorem dd_V_run_34 : decode bb_V_run 34 = .ok (.istore 5, 2) := by decide +kernel
theorem dd_V_run_36 : decode bb_V_run 36 = .ok (.iload 5, 2) := by decide +kernel
theorem dd_V_run_38 : decode bb_V_run 38 = .ok (.iconst (-1), 1) := by decide +kernel
theorem dd_V_run_39 : decode bb_V_run 39 = .ok (.if_icmp .ne 5, 3) := by decide +kernel
theorem dd_V_run_42 : decode bb_V_run 42 = .ok (.iconst (-1), 1) := by decide +kernel
theorem dd_V_run_43 : decode bb_V_run 43 = .ok (.ireturn, 1) := by decide +kernel
theorem dd_V_run_44 : decode bb_V_run 44 = .ok (.iload_n 3, 1) := by decide +kernel
theorem dd_V_run_45 : decode bb_V_run 45 = .ok (.lookupswitch 58 #[(0, 27), (1, 35)], 27) := by decide +kernel
theorem dd_V_run_72 : decode bb_V_run 72 = .ok (.aload 4, 2) := by decide +kernel
theorem dd_V_run_74 : decode bb_V_run 74 = .ok (.iload 5, 2) := by decide +kernel
theorem dd_V_run_76 : decode bb_V_run 76 = .ok (.invokevirtual 226, 3) := by decide +kernel
theorem dd_V_run_79 : decode bb_V_run 79 = .ok (.ireturn, 1) := by decide +kernel
theorem dd_V_run_80 : decode bb_V_run 80 = .ok (.aload 4, 2) := by decide +kernel
theorem dd_V_run_82 : decode bb_V_run 82 = .ok (.iload 5, 2) := by decide +kernel
theorem dd_V_run_84 : decode bb_V_run 84 = .ok (.invokevirtual 229, 3) := by decide +kernel
theorem dd_V_run_87 : decode bb_V_run 87 = .ok (.iconst (-1), 1) := by decide +kernel
theorem dd_V_run_88 : decode bb_V_run 88 = .ok (.if_icmp .ne 7, 3) := by decide +kernel
theorem dd_V_run_91 : decode bb_V_run 91 = .ok (.iconst (-1), 1) := by decide +kernel
theorem dd_V_run_92 : decode bb_V_run 92 = .ok (.goto 10, 3) := by decide +kernel
theorem dd_V_run_95 : decode bb_V_run 95 = .ok (.aload 4, 2) := by decide +kernel
theorem dd_V_run_97 : decode bb_V_run 97 = .ok (.iload 5, 2) := by decide +kernel
theorem dd_V_run_99 : decode bb_V_run 99 = .ok (.invokevirtual 229, 3) := by decide +kernel
theorem dd_V_run_102 : decode bb_V_run 102 = .ok (.ireturn, 1) := by decide +kernel
theorem dd_V_run_103 : decode bb_V_run 103 = .ok (.iconst (-1), 1) := by decide +kernel
theorem dd_V_run_104 : decode bb_V_run 104 = .ok (.ireturn, 1) := by decide +kernel
theorem dd_V_free_0 : decode bb_V_free 0 = .ok (.aload_n 0, 1) := by decide +kernel
theorem dd_V_free_1 : decode bb_V_free 1 = .ok (.getfield 66, 3) := by decide +kernel
theorem dd_V_free_4 : decode bb_V_free 4 = .ok (.ifCond .ne 5, 3) := by decide +kernel
theorem dd_V_free_7 : decode bb_V_free 7 = .ok (.iconst 0, 1) := by decide +kernel
theorem dd_V_free_8 : decode bb_V_free 8 = .ok (.ireturn, 1) := by decide +kernel
theorem dd_V_free_9 : decode bb_V_free 9 = .ok (.iconst 0, 1) := by decide +kernel
theorem dd_V_free_10 : decode bb_V_free 10 = .ok (.istore_n 1, 1) := by decide +kernel
theorem dd_V_free_11 : decode bb_V_free 11 = .ok (.bipush 48, 2) := by decide +kernel
theorem dd_V_free_13 : decode bb_V_free 13 = .ok (.istore_n 2, 1) := by decide +kernel
theorem dd_V_free_14 : decode bb_V_free 14 = .ok (.iload_n 2, 1) := by decide +kernel
theorem dd_V_free_15 : decode bb_V_free 15 = .ok (.sipush 128, 3) := by decide +kernel
theorem dd_V_free_18 : decode bb_V_free 18 = .ok (.if_icmp .ge 21, 3) := by decide +kernel
theorem dd_V_free_21 : decode bb_V_free 21 = .ok (.aload_n 0, 1) := by decide +kernel
theorem dd_V_free_22 : decode bb_V_free 22 = .ok (.getfield 23, 3) := by decide +kernel
theorem dd_V_free_25 : decode bb_V_free 25 = .ok (.iload_n 2, 1) := by decide +kernel
theorem dd_V_free_26 : decode bb_V_free 26 = .ok (.baload, 1) := by decide +kernel
theorem dd_V_free_27 : decode bb_V_free 27 = .ok (.ifCond .ne 6, 3) := by decide +kernel
theorem dd_V_free_30 : decode bb_V_free 30 = .ok (.iinc 1 1, 3) := by decide +kernel
theorem dd_V_free_33 : decode bb_V_free 33 = .ok (.iinc 2 1, 3) := by decide +kernel
theorem dd_V_free_36 : decode bb_V_free 36 = .ok (.goto (-22), 3) := by decide +kernel
theorem dd_V_free_39 : decode bb_V_free 39 = .ok (.iload_n 1, 1) := by decide +kernel
theorem dd_V_free_40 : decode bb_V_free 40 = .ok (.ireturn, 1) := by decide +kernel
theorem dd_V_at_0 : decode bb_V_at 0 = .ok (.iload_n 1, 1) := by decide +kernel
theorem dd_V_at_1 : decode bb_V_at 1 = .ok (.ifCond .lt 27, 3) := by decide +kernel
theorem dd_V_at_4 : decode bb_V_at 4 = .ok (.iload_n 1, 1) := by decide +kernel
theorem dd_V_at_5 : decode bb_V_at 5 = .ok (.aload_n 0, 1) := by decide +kernel
theorem dd_V_at_6 : decode bb_V_at 6 = .ok (.getfield 12, 3) := by decide +kernel
theorem dd_V_at_9 : decode bb_V_at 9 = .ok (.getfield 232, 3) := by decide +kernel
theorem dd_V_at_12 : decode bb_V_at 12 = .ok (.arraylength, 1) := by decide +kernel
theorem dd_V_at_13 : decode bb_V_at 13 = .ok (.if_icmp .ge 15, 3) := by decide +kernel
theorem dd_V_at_16 : decode bb_V_at 16 = .ok (.aload_n 0, 1) := by decide +kernel
theorem dd_V_at_17 : decode bb_V_at 17 = .ok (.getfield 12, 3) := by decide +kernel
theorem dd_V_at_20 : decode bb_V_at 20 = .ok (.getfield 232, 3) := by decide +kernel
theorem dd_V_at_23 : decode bb_V_at 23 = .ok (.iload_n 1, 1) := by decide +kernel
theorem dd_V_at_24 : decode bb_V_at 24 = .ok (.iaload, 1) := by decide +kernel
theorem dd_V_at_25 : decode bb_V_at 25 = .ok (.goto 4, 3) := by decide +kernel
theorem dd_V_at_28 : decode bb_V_at 28 = .ok (.iconst (-1), 1) := by decide +kernel
theorem dd_V_at_29 : decode bb_V_at 29 = .ok (.ireturn, 1) := by decide +kernel
theorem dd_V_requireRunning_0 : decode bb_V_requireRunning 0 = .ok (.aload_n 0, 1) := by decide +kernel
theorem dd_V_requireRunning_1 : decode bb_V_requireRunning 1 = .ok (.getfield 66, 3) := by decide +kernel
theorem dd_V_requireRunning_4 : decode bb_V_requireRunning 4 = .ok (.ifCond .ne 13, 3) := by decide +kernel
theorem dd_V_requireRunning_7 : decode bb_V_requireRunning 7 = .ok (.new 235, 3) := by decide +kernel
theorem dd_V_requireRunning_10 : decode bb_V_requireRunning 10 = .ok (.dup, 1) := by decide +kernel
theorem dd_V_requireRunning_11 : decode bb_V_requireRunning 11 = .ok (.ldc 237, 2) := by decide +kernel
theorem dd_V_requireRunning_13 : decode bb_V_requireRunning 13 = .ok (.invokespecial 239, 3) := by decide +kernel
theorem dd_V_requireRunning_16 : decode bb_V_requireRunning 16 = .ok (.athrow, 1) := by decide +kernel
theorem dd_V_requireRunning_17 : decode bb_V_requireRunning 17 = .ok (.return_, 1) := by decide +kernel
theorem dd_V_require_0 : decode bb_V_require 0 = .ok (.iload_n 0, 1) := by decide +kernel
theorem dd_V_require_1 : decode bb_V_require 1 = .ok (.ifCond .ne 13, 3) := by decide +kernel
theorem dd_V_require_4 : decode bb_V_require 4 = .ok (.new 240, 3) := by decide +kernel
theorem dd_V_require_7 : decode bb_V_require 7 = .ok (.dup, 1) := by decide +kernel
theorem dd_V_require_8 : decode bb_V_require 8 = .ok (.ldc 242, 2) := by decide +kernel
theorem dd_V_require_10 : decode bb_V_require 10 = .ok (.invokespecial 244, 3) := by decide +kernel
theorem dd_V_require_13 : decode bb_V_require 13 = .ok (.athrow, 1) := by decide +kernel
theorem dd_V_require_14 : decode bb_V_require 14 = .ok (.return_, 1) := by decide +kernel
theorem dd_V_isUsed_0 : decode bb_V_isUsed 0 = .ok (.iload_n 1, 1) := by decide +kernel
theorem dd_V_isUsed_1 : decode bb_V_isUsed 1 = .ok (.ifCond .lt 25, 3) := by decide +kernel
theorem dd_V_isUsed_4 : decode bb_V_isUsed 4 = .ok (.iload_n 1, 1) := by decide +kernel
theorem dd_V_isUsed_5 : decode bb_V_isUsed 5 = .ok (.bipush 12, 2) := by decide +kernel
theorem dd_V_isUsed_7 : decode bb_V_isUsed 7 = .ok (.if_icmp .ge 19, 3) := by decide +kernel
theorem dd_V_isUsed_10 : decode bb_V_isUsed 10 = .ok (.aload_n 0, 1) := by decide +kernel
theorem dd_V_isUsed_11 : decode bb_V_isUsed 11 = .ok (.getfield 18, 3) := by decide +kernel
theorem dd_V_isUsed_14 : decode bb_V_isUsed 14 = .ok (.iload_n 1, 1) := by decide +kernel
theorem dd_V_isUsed_15 : decode bb_V_isUsed 15 = .ok (.aaload, 1) := by decide +kernel
theorem dd_V_isUsed_16 : decode bb_V_isUsed 16 = .ok (.getfield 205, 3) := by decide +kernel
theorem dd_V_isUsed_19 : decode bb_V_isUsed 19 = .ok (.ifCond .eq 7, 3) := by decide +kernel
theorem dd_V_isUsed_22 : decode bb_V_isUsed 22 = .ok (.iconst 1, 1) := by decide +kernel
theorem dd_V_isUsed_23 : decode bb_V_isUsed 23 = .ok (.goto 4, 3) := by decide +kernel
theorem dd_V_isUsed_26 : decode bb_V_isUsed 26 = .ok (.iconst 0, 1) := by decide +kernel
theorem dd_V_isUsed_27 : decode bb_V_isUsed 27 = .ok (.ireturn, 1) := by decide +kernel
theorem dd_V_isFile_0 : decode bb_V_isFile 0 = .ok (.aload_n 0, 1) := by decide +kernel
theorem dd_V_isFile_1 : decode bb_V_isFile 1 = .ok (.iload_n 1, 1) := by decide +kernel
theorem dd_V_isFile_2 : decode bb_V_isFile 2 = .ok (.invokevirtual 170, 3) := by decide +kernel
theorem dd_V_isFile_5 : decode bb_V_isFile 5 = .ok (.ifCond .eq 20, 3) := by decide +kernel
theorem dd_V_isFile_8 : decode bb_V_isFile 8 = .ok (.aload_n 0, 1) := by decide +kernel
theorem dd_V_isFile_9 : decode bb_V_isFile 9 = .ok (.getfield 18, 3) := by decide +kernel
theorem dd_V_isFile_12 : decode bb_V_isFile 12 = .ok (.iload_n 1, 1) := by decide +kernel
theorem dd_V_isFile_13 : decode bb_V_isFile 13 = .ok (.aaload, 1) := by decide +kernel
theorem dd_V_isFile_14 : decode bb_V_isFile 14 = .ok (.getfield 205, 3) := by decide +kernel
theorem dd_V_isFile_17 : decode bb_V_isFile 17 = .ok (.iconst 1, 1) := by decide +kernel
theorem dd_V_isFile_18 : decode bb_V_isFile 18 = .ok (.if_icmp .ne 7, 3) := by decide +kernel
theorem dd_V_isFile_21 : decode bb_V_isFile 21 = .ok (.iconst 1, 1) := by decide +kernel
theorem dd_V_isFile_22 : decode bb_V_isFile 22 = .ok (.goto 4, 3) := by decide +kernel
theorem dd_V_isFile_25 : decode bb_V_isFile 25 = .ok (.iconst 0, 1) := by decide +kernel
theorem dd_V_isFile_26 : decode bb_V_isFile 26 = .ok (.ireturn, 1) := by decide +kernel
theorem dd_V_isDirectory_0 : decode bb_V_isDirectory 0 = .ok (.aload_n 0, 1) := by decide +kernel
theorem dd_V_isDirectory_1 : decode bb_V_isDirectory 1 = .ok (.iload_n 1, 1) := by decide +kernel
theorem dd_V_isDirectory_2 : decode bb_V_isDirectory 2 = .ok (.invokevirtual 170, 3) := by decide +kernel
theorem dd_V_isDirectory_5 : decode bb_V_isDirectory 5 = .ok (.ifCond .eq 20, 3) := by decide +kernel
theorem dd_V_isDirectory_8 : decode bb_V_isDirectory 8 = .ok (.aload_n 0, 1) := by decide +kernel
theorem dd_V_isDirectory_9 : decode bb_V_isDirectory 9 = .ok (.getfield 18, 3) := by decide +kernel
theorem dd_V_isDirectory_12 : decode bb_V_isDirectory 12 = .ok (.iload_n 1, 1) := by decide +kernel
theorem dd_V_isDirectory_13 : decode bb_V_isDirectory 13 = .ok (.aaload, 1) := by decide +kernel
theorem dd_V_isDirectory_14 : decode bb_V_isDirectory 14 = .ok (.getfield 205, 3) := by decide +kernel
theorem dd_V_isDirectory_17 : decode bb_V_isDirectory 17 = .ok (.iconst 2, 1) := by decide +kernel
theorem dd_V_isDirectory_18 : decode bb_V_isDirectory 18 = .ok (.if_icmp .ne 7, 3) := by decide +kernel
theorem dd_V_isDirectory_21 : decode bb_V_isDirectory 21 = .ok (.iconst 1, 1) := by decide +kernel
theorem dd_V_isDirectory_22 : decode bb_V_isDirectory 22 = .ok (.goto 4, 3) := by decide +kernel
theorem dd_V_isDirectory_25 : decode bb_V_isDirectory 25 = .ok (.iconst 0, 1) := by decide +kernel
theorem dd_V_isDirectory_26 : decode bb_V_isDirectory 26 = .ok (.ireturn, 1) := by decide +kernel
theorem dd_V_lowestFreeRecord_0 : decode bb_V_lowestFreeRecord 0 = .ok (.iconst 0, 1) := by decide +kernel
theorem dd_V_lowestFreeRecord_1 : decode bb_V_lowestFreeRecord 1 = .ok (.istore_n 1, 1) := by decide +kernel
theorem dd_V_lowestFreeRecord_2 : decode bb_V_lowestFreeRecord 2 = .ok (.iload_n 1, 1) := by decide +kernel
theorem dd_V_lowestFreeRecord_3 : decode bb_V_lowestFreeRecord 3 = .ok (.bipush 12, 2) := by decide +kernel
theorem dd_V_lowestFreeRecord_5 : decode bb_V_lowestFreeRecord 5 = .ok (.if_icmp .ge 19, 3) := by decide +kernel
theorem dd_V_lowestFreeRecord_8 : decode bb_V_lowestFreeRecord 8 = .ok (.aload_n 0, 1) := by decide +kernel
theorem dd_V_lowestFreeRecord_9 : decode bb_V_lowestFreeRecord 9 = .ok (.iload_n 1, 1) := by decide +kernel
theorem dd_V_lowestFreeRecord_10 : decode bb_V_lowestFreeRecord 10 = .ok (.invokevirtual 170, 3) := by decide +kernel
theorem dd_V_lowestFreeRecord_13 : decode bb_V_lowestFreeRecord 13 = .ok (.ifCond .ne 5, 3) := by decide +kernel
theorem dd_V_lowestFreeRecord_16 : decode bb_V_lowestFreeRecord 16 = .ok (.iload_n 1, 1) := by decide +kernel
theorem dd_V_lowestFreeRecord_17 : decode bb_V_lowestFreeRecord 17 = .ok (.ireturn, 1) := by decide +kernel
theorem dd_V_lowestFreeRecord_18 : decode bb_V_lowestFreeRecord 18 = .ok (.iinc 1 1, 3) := by decide +kernel
theorem dd_V_lowestFreeRecord_21 : decode bb_V_lowestFreeRecord 21 = .ok (.goto (-19), 3) := by decide +kernel
theorem dd_V_lowestFreeRecord_24 : decode bb_V_lowestFreeRecord 24 = .ok (.iconst (-1), 1) := by decide +kernel
theorem dd_V_lowestFreeRecord_25 : decode bb_V_lowestFreeRecord 25 = .ok (.ireturn, 1) := by decide +kernel
theorem dd_V_lowestFreeCluster_0 : decode bb_V_lowestFreeCluster 0 = .ok (.iload_n 1, 1) := by decide +kernel
theorem dd_V_lowestFreeCluster_1 : decode bb_V_lowestFreeCluster 1 = .ok (.istore_n 2, 1) := by decide +kernel
theorem dd_V_lowestFreeCluster_2 : decode bb_V_lowestFreeCluster 2 = .ok (.iload_n 2, 1) := by decide +kernel
theorem dd_V_lowestFreeCluster_3 : decode bb_V_lowestFreeCluster 3 = .ok (.sipush 128, 3) := by decide +kernel
theorem dd_V_lowestFreeCluster_6 : decode bb_V_lowestFreeCluster 6 = .ok (.if_icmp .ge 20, 3) := by decide +kernel
theorem dd_V_lowestFreeCluster_9 : decode bb_V_lowestFreeCluster 9 = .ok (.aload_n 0, 1) := by decide +kernel
theorem dd_V_lowestFreeCluster_10 : decode bb_V_lowestFreeCluster 10 = .ok (.getfield 23, 3) := by decide +kernel
theorem dd_V_lowestFreeCluster_13 : decode bb_V_lowestFreeCluster 13 = .ok (.iload_n 2, 1) := by decide +kernel
theorem dd_V_lowestFreeCluster_14 : decode bb_V_lowestFreeCluster 14 = .ok (.baload, 1) := by decide +kernel
theorem dd_V_lowestFreeCluster_15 : decode bb_V_lowestFreeCluster 15 = .ok (.ifCond .ne 5, 3) := by decide +kernel
theorem dd_V_lowestFreeCluster_18 : decode bb_V_lowestFreeCluster 18 = .ok (.iload_n 2, 1) := by decide +kernel
theorem dd_V_lowestFreeCluster_19 : decode bb_V_lowestFreeCluster 19 = .ok (.ireturn, 1) := by decide +kernel
theorem dd_V_lowestFreeCluster_20 : decode bb_V_lowestFreeCluster 20 = .ok (.iinc 2 1, 3) := by decide +kernel
theorem dd_V_lowestFreeCluster_23 : decode bb_V_lowestFreeCluster 23 = .ok (.goto (-21), 3) := by decide +kernel
theorem dd_V_lowestFreeCluster_26 : decode bb_V_lowestFreeCluster 26 = .ok (.iconst (-1), 1) := by decide +kernel
theorem dd_V_lowestFreeCluster_27 : decode bb_V_lowestFreeCluster 27 = .ok (.ireturn, 1) := by decide +kernel
end
section
theorem dd_V_isAtOrBelow_0 : decode bb_V_isAtOrBelow 0 = .ok (.iload_n 1, 1) := by decide +kernel
theorem dd_V_isAtOrBelow_1 : decode bb_V_isAtOrBelow 1 = .ok (.istore_n 3, 1) := by decide +kernel
theorem dd_V_isAtOrBelow_2 : decode bb_V_isAtOrBelow 2 = .ok (.iconst 0, 1) := by decide +kernel
theorem dd_V_isAtOrBelow_3 : decode bb_V_isAtOrBelow 3 = .ok (.istore 4, 2) := by decide +kernel
theorem dd_V_isAtOrBelow_5 : decode bb_V_isAtOrBelow 5 = .ok (.iload 4, 2) := by decide +kernel
theorem dd_V_isAtOrBelow_7 : decode bb_V_isAtOrBelow 7 = .ok (.bipush 12, 2) := by decide +kernel
theorem dd_V_isAtOrBelow_9 : decode bb_V_isAtOrBelow 9 = .ok (.if_icmp .ge 34, 3) := by decide +kernel
theorem dd_V_isAtOrBelow_12 : decode bb_V_isAtOrBelow 12 = .ok (.aload_n 0, 1) := by decide +kernel
theorem dd_V_isAtOrBelow_13 : decode bb_V_isAtOrBelow 13 = .ok (.iload_n 3, 1) := by decide +kernel
theorem dd_V_isAtOrBelow_14 : decode bb_V_isAtOrBelow 14 = .ok (.invokevirtual 170, 3) := by decide +kernel
theorem dd_V_isAtOrBelow_17 : decode bb_V_isAtOrBelow 17 = .ok (.ifCond .eq 26, 3) := by decide +kernel
theorem dd_V_isAtOrBelow_20 : decode bb_V_isAtOrBelow 20 = .ok (.iload_n 3, 1) := by decide +kernel
theorem dd_V_isAtOrBelow_21 : decode bb_V_isAtOrBelow 21 = .ok (.iload_n 2, 1) := by decide +kernel
theorem dd_V_isAtOrBelow_22 : decode bb_V_isAtOrBelow 22 = .ok (.if_icmp .ne 5, 3) := by decide +kernel
theorem dd_V_isAtOrBelow_25 : decode bb_V_isAtOrBelow 25 = .ok (.iconst 1, 1) := by decide +kernel
theorem dd_V_isAtOrBelow_26 : decode bb_V_isAtOrBelow 26 = .ok (.ireturn, 1) := by decide +kernel
theorem dd_V_isAtOrBelow_27 : decode bb_V_isAtOrBelow 27 = .ok (.aload_n 0, 1) := by decide +kernel
theorem dd_V_isAtOrBelow_28 : decode bb_V_isAtOrBelow 28 = .ok (.getfield 18, 3) := by decide +kernel
theorem dd_V_isAtOrBelow_31 : decode bb_V_isAtOrBelow 31 = .ok (.iload_n 3, 1) := by decide +kernel
theorem dd_V_isAtOrBelow_32 : decode bb_V_isAtOrBelow 32 = .ok (.aaload, 1) := by decide +kernel
theorem dd_V_isAtOrBelow_33 : decode bb_V_isAtOrBelow 33 = .ok (.getfield 173, 3) := by decide +kernel
theorem dd_V_isAtOrBelow_36 : decode bb_V_isAtOrBelow 36 = .ok (.istore_n 3, 1) := by decide +kernel
theorem dd_V_isAtOrBelow_37 : decode bb_V_isAtOrBelow 37 = .ok (.iinc 4 1, 3) := by decide +kernel
theorem dd_V_isAtOrBelow_40 : decode bb_V_isAtOrBelow 40 = .ok (.goto (-35), 3) := by decide +kernel
theorem dd_V_isAtOrBelow_43 : decode bb_V_isAtOrBelow 43 = .ok (.iconst 0, 1) := by decide +kernel
theorem dd_V_isAtOrBelow_44 : decode bb_V_isAtOrBelow 44 = .ok (.ireturn, 1) := by decide +kernel
theorem dd_V_leadsToRoot_0 : decode bb_V_leadsToRoot 0 = .ok (.aload_n 0, 1) := by decide +kernel
theorem dd_V_leadsToRoot_1 : decode bb_V_leadsToRoot 1 = .ok (.getfield 18, 3) := by decide +kernel
theorem dd_V_leadsToRoot_4 : decode bb_V_leadsToRoot 4 = .ok (.iload_n 1, 1) := by decide +kernel
theorem dd_V_leadsToRoot_5 : decode bb_V_leadsToRoot 5 = .ok (.aaload, 1) := by decide +kernel
theorem dd_V_leadsToRoot_6 : decode bb_V_leadsToRoot 6 = .ok (.getfield 173, 3) := by decide +kernel
theorem dd_V_leadsToRoot_9 : decode bb_V_leadsToRoot 9 = .ok (.istore_n 2, 1) := by decide +kernel
theorem dd_V_leadsToRoot_10 : decode bb_V_leadsToRoot 10 = .ok (.iconst 0, 1) := by decide +kernel
theorem dd_V_leadsToRoot_11 : decode bb_V_leadsToRoot 11 = .ok (.istore_n 3, 1) := by decide +kernel
theorem dd_V_leadsToRoot_12 : decode bb_V_leadsToRoot 12 = .ok (.iload_n 3, 1) := by decide +kernel
theorem dd_V_leadsToRoot_13 : decode bb_V_leadsToRoot 13 = .ok (.bipush 12, 2) := by decide +kernel
theorem dd_V_leadsToRoot_15 : decode bb_V_leadsToRoot 15 = .ok (.if_icmp .ge 33, 3) := by decide +kernel
theorem dd_V_leadsToRoot_18 : decode bb_V_leadsToRoot 18 = .ok (.aload_n 0, 1) := by decide +kernel
theorem dd_V_leadsToRoot_19 : decode bb_V_leadsToRoot 19 = .ok (.iload_n 2, 1) := by decide +kernel
theorem dd_V_leadsToRoot_20 : decode bb_V_leadsToRoot 20 = .ok (.invokevirtual 84, 3) := by decide +kernel
theorem dd_V_leadsToRoot_23 : decode bb_V_leadsToRoot 23 = .ok (.ifCond .eq 25, 3) := by decide +kernel
theorem dd_V_leadsToRoot_26 : decode bb_V_leadsToRoot 26 = .ok (.iload_n 2, 1) := by decide +kernel
theorem dd_V_leadsToRoot_27 : decode bb_V_leadsToRoot 27 = .ok (.ifCond .ne 5, 3) := by decide +kernel
theorem dd_V_leadsToRoot_30 : decode bb_V_leadsToRoot 30 = .ok (.iconst 1, 1) := by decide +kernel
theorem dd_V_leadsToRoot_31 : decode bb_V_leadsToRoot 31 = .ok (.ireturn, 1) := by decide +kernel
theorem dd_V_leadsToRoot_32 : decode bb_V_leadsToRoot 32 = .ok (.aload_n 0, 1) := by decide +kernel
theorem dd_V_leadsToRoot_33 : decode bb_V_leadsToRoot 33 = .ok (.getfield 18, 3) := by decide +kernel
theorem dd_V_leadsToRoot_36 : decode bb_V_leadsToRoot 36 = .ok (.iload_n 2, 1) := by decide +kernel
theorem dd_V_leadsToRoot_37 : decode bb_V_leadsToRoot 37 = .ok (.aaload, 1) := by decide +kernel
theorem dd_V_leadsToRoot_38 : decode bb_V_leadsToRoot 38 = .ok (.getfield 173, 3) := by decide +kernel
theorem dd_V_leadsToRoot_41 : decode bb_V_leadsToRoot 41 = .ok (.istore_n 2, 1) := by decide +kernel
theorem dd_V_leadsToRoot_42 : decode bb_V_leadsToRoot 42 = .ok (.iinc 3 1, 3) := by decide +kernel
theorem dd_V_leadsToRoot_45 : decode bb_V_leadsToRoot 45 = .ok (.goto (-33), 3) := by decide +kernel
theorem dd_V_leadsToRoot_48 : decode bb_V_leadsToRoot 48 = .ok (.iconst 0, 1) := by decide +kernel
theorem dd_V_leadsToRoot_49 : decode bb_V_leadsToRoot 49 = .ok (.ireturn, 1) := by decide +kernel
theorem dd_V_entryNamed_0 : decode bb_V_entryNamed 0 = .ok (.aload_n 0, 1) := by decide +kernel
theorem dd_V_entryNamed_1 : decode bb_V_entryNamed 1 = .ok (.getfield 18, 3) := by decide +kernel
theorem dd_V_entryNamed_4 : decode bb_V_entryNamed 4 = .ok (.iload_n 1, 1) := by decide +kernel
theorem dd_V_entryNamed_5 : decode bb_V_entryNamed 5 = .ok (.aaload, 1) := by decide +kernel
theorem dd_V_entryNamed_6 : decode bb_V_entryNamed 6 = .ok (.astore_n 3, 1) := by decide +kernel
theorem dd_V_entryNamed_7 : decode bb_V_entryNamed 7 = .ok (.iconst 0, 1) := by decide +kernel
theorem dd_V_entryNamed_8 : decode bb_V_entryNamed 8 = .ok (.istore 4, 2) := by decide +kernel
theorem dd_V_entryNamed_10 : decode bb_V_entryNamed 10 = .ok (.iload 4, 2) := by decide +kernel
theorem dd_V_entryNamed_12 : decode bb_V_entryNamed 12 = .ok (.aload_n 3, 1) := by decide +kernel
theorem dd_V_entryNamed_13 : decode bb_V_entryNamed 13 = .ok (.getfield 123, 3) := by decide +kernel
theorem dd_V_entryNamed_16 : decode bb_V_entryNamed 16 = .ok (.if_icmp .ge 39, 3) := by decide +kernel
theorem dd_V_entryNamed_19 : decode bb_V_entryNamed 19 = .ok (.aload_n 0, 1) := by decide +kernel
theorem dd_V_entryNamed_20 : decode bb_V_entryNamed 20 = .ok (.getfield 18, 3) := by decide +kernel
theorem dd_V_entryNamed_23 : decode bb_V_entryNamed 23 = .ok (.aload_n 3, 1) := by decide +kernel
theorem dd_V_entryNamed_24 : decode bb_V_entryNamed 24 = .ok (.getfield 220, 3) := by decide +kernel
theorem dd_V_entryNamed_27 : decode bb_V_entryNamed 27 = .ok (.iload 4, 2) := by decide +kernel
theorem dd_V_entryNamed_29 : decode bb_V_entryNamed 29 = .ok (.iaload, 1) := by decide +kernel
theorem dd_V_entryNamed_30 : decode bb_V_entryNamed 30 = .ok (.aaload, 1) := by decide +kernel
theorem dd_V_entryNamed_31 : decode bb_V_entryNamed 31 = .ok (.getfield 110, 3) := by decide +kernel
theorem dd_V_entryNamed_34 : decode bb_V_entryNamed 34 = .ok (.aload_n 2, 1) := by decide +kernel
theorem dd_V_entryNamed_35 : decode bb_V_entryNamed 35 = .ok (.invokevirtual 245, 3) := by decide +kernel
theorem dd_V_entryNamed_38 : decode bb_V_entryNamed 38 = .ok (.ifCond .ne 11, 3) := by decide +kernel
theorem dd_V_entryNamed_41 : decode bb_V_entryNamed 41 = .ok (.aload_n 3, 1) := by decide +kernel
theorem dd_V_entryNamed_42 : decode bb_V_entryNamed 42 = .ok (.getfield 220, 3) := by decide +kernel
theorem dd_V_entryNamed_45 : decode bb_V_entryNamed 45 = .ok (.iload 4, 2) := by decide +kernel
theorem dd_V_entryNamed_47 : decode bb_V_entryNamed 47 = .ok (.iaload, 1) := by decide +kernel
theorem dd_V_entryNamed_48 : decode bb_V_entryNamed 48 = .ok (.ireturn, 1) := by decide +kernel
theorem dd_V_entryNamed_49 : decode bb_V_entryNamed 49 = .ok (.iinc 4 1, 3) := by decide +kernel
theorem dd_V_entryNamed_52 : decode bb_V_entryNamed 52 = .ok (.goto (-42), 3) := by decide +kernel
theorem dd_V_entryNamed_55 : decode bb_V_entryNamed 55 = .ok (.iconst (-1), 1) := by decide +kernel
theorem dd_V_entryNamed_56 : decode bb_V_entryNamed 56 = .ok (.ireturn, 1) := by decide +kernel
theorem dd_V_enter_0 : decode bb_V_enter 0 = .ok (.aload_n 0, 1) := by decide +kernel
theorem dd_V_enter_1 : decode bb_V_enter 1 = .ok (.getfield 18, 3) := by decide +kernel
theorem dd_V_enter_4 : decode bb_V_enter 4 = .ok (.iload_n 1, 1) := by decide +kernel
theorem dd_V_enter_5 : decode bb_V_enter 5 = .ok (.aaload, 1) := by decide +kernel
theorem dd_V_enter_6 : decode bb_V_enter 6 = .ok (.astore_n 3, 1) := by decide +kernel
theorem dd_V_enter_7 : decode bb_V_enter 7 = .ok (.aload_n 3, 1) := by decide +kernel
theorem dd_V_enter_8 : decode bb_V_enter 8 = .ok (.aload_n 0, 1) := by decide +kernel
theorem dd_V_enter_9 : decode bb_V_enter 9 = .ok (.aload_n 3, 1) := by decide +kernel
theorem dd_V_enter_10 : decode bb_V_enter 10 = .ok (.getfield 220, 3) := by decide +kernel
theorem dd_V_enter_13 : decode bb_V_enter 13 = .ok (.aload_n 3, 1) := by decide +kernel
theorem dd_V_enter_14 : decode bb_V_enter 14 = .ok (.getfield 123, 3) := by decide +kernel
theorem dd_V_enter_17 : decode bb_V_enter 17 = .ok (.iload_n 2, 1) := by decide +kernel
theorem dd_V_enter_18 : decode bb_V_enter 18 = .ok (.invokevirtual 249, 3) := by decide +kernel
theorem dd_V_enter_21 : decode bb_V_enter 21 = .ok (.putfield 123, 3) := by decide +kernel
theorem dd_V_enter_24 : decode bb_V_enter 24 = .ok (.return_, 1) := by decide +kernel
theorem dd_V_insertByName_0 : decode bb_V_insertByName 0 = .ok (.iload_n 2, 1) := by decide +kernel
theorem dd_V_insertByName_1 : decode bb_V_insertByName 1 = .ok (.bipush 12, 2) := by decide +kernel
theorem dd_V_insertByName_3 : decode bb_V_insertByName 3 = .ok (.if_icmp .lt 5, 3) := by decide +kernel
theorem dd_V_insertByName_6 : decode bb_V_insertByName 6 = .ok (.iload_n 2, 1) := by decide +kernel
theorem dd_V_insertByName_7 : decode bb_V_insertByName 7 = .ok (.ireturn, 1) := by decide +kernel
theorem dd_V_insertByName_8 : decode bb_V_insertByName 8 = .ok (.iload_n 2, 1) := by decide +kernel
theorem dd_V_insertByName_9 : decode bb_V_insertByName 9 = .ok (.istore 4, 2) := by decide +kernel
theorem dd_V_insertByName_11 : decode bb_V_insertByName 11 = .ok (.iload 4, 2) := by decide +kernel
theorem dd_V_insertByName_13 : decode bb_V_insertByName 13 = .ok (.ifCond .le 48, 3) := by decide +kernel
theorem dd_V_insertByName_16 : decode bb_V_insertByName 16 = .ok (.aload_n 0, 1) := by decide +kernel
theorem dd_V_insertByName_17 : decode bb_V_insertByName 17 = .ok (.getfield 18, 3) := by decide +kernel
theorem dd_V_insertByName_20 : decode bb_V_insertByName 20 = .ok (.aload_n 1, 1) := by decide +kernel
theorem dd_V_insertByName_21 : decode bb_V_insertByName 21 = .ok (.iload 4, 2) := by decide +kernel
theorem dd_V_insertByName_23 : decode bb_V_insertByName 23 = .ok (.iconst 1, 1) := by decide +kernel
theorem dd_V_insertByName_24 : decode bb_V_insertByName 24 = .ok (.isub, 1) := by decide +kernel
theorem dd_V_insertByName_25 : decode bb_V_insertByName 25 = .ok (.iaload, 1) := by decide +kernel
theorem dd_V_insertByName_26 : decode bb_V_insertByName 26 = .ok (.aaload, 1) := by decide +kernel
theorem dd_V_insertByName_27 : decode bb_V_insertByName 27 = .ok (.getfield 110, 3) := by decide +kernel
theorem dd_V_insertByName_30 : decode bb_V_insertByName 30 = .ok (.aload_n 0, 1) := by decide +kernel
theorem dd_V_insertByName_31 : decode bb_V_insertByName 31 = .ok (.getfield 18, 3) := by decide +kernel
theorem dd_V_insertByName_34 : decode bb_V_insertByName 34 = .ok (.iload_n 3, 1) := by decide +kernel
theorem dd_V_insertByName_35 : decode bb_V_insertByName 35 = .ok (.aaload, 1) := by decide +kernel
theorem dd_V_insertByName_36 : decode bb_V_insertByName 36 = .ok (.getfield 110, 3) := by decide +kernel
theorem dd_V_insertByName_39 : decode bb_V_insertByName 39 = .ok (.invokevirtual 245, 3) := by decide +kernel
theorem dd_V_insertByName_42 : decode bb_V_insertByName 42 = .ok (.ifCond .le 19, 3) := by decide +kernel
theorem dd_V_insertByName_45 : decode bb_V_insertByName 45 = .ok (.aload_n 1, 1) := by decide +kernel
theorem dd_V_insertByName_46 : decode bb_V_insertByName 46 = .ok (.iload 4, 2) := by decide +kernel
theorem dd_V_insertByName_48 : decode bb_V_insertByName 48 = .ok (.aload_n 1, 1) := by decide +kernel
theorem dd_V_insertByName_49 : decode bb_V_insertByName 49 = .ok (.iload 4, 2) := by decide +kernel
theorem dd_V_insertByName_51 : decode bb_V_insertByName 51 = .ok (.iconst 1, 1) := by decide +kernel
theorem dd_V_insertByName_52 : decode bb_V_insertByName 52 = .ok (.isub, 1) := by decide +kernel
theorem dd_V_insertByName_53 : decode bb_V_insertByName 53 = .ok (.iaload, 1) := by decide +kernel
theorem dd_V_insertByName_54 : decode bb_V_insertByName 54 = .ok (.iastore, 1) := by decide +kernel
theorem dd_V_insertByName_55 : decode bb_V_insertByName 55 = .ok (.iinc 4 (-1), 3) := by decide +kernel
theorem dd_V_insertByName_58 : decode bb_V_insertByName 58 = .ok (.goto (-47), 3) := by decide +kernel
theorem dd_V_insertByName_61 : decode bb_V_insertByName 61 = .ok (.aload_n 1, 1) := by decide +kernel
theorem dd_V_insertByName_62 : decode bb_V_insertByName 62 = .ok (.iload 4, 2) := by decide +kernel
theorem dd_V_insertByName_64 : decode bb_V_insertByName 64 = .ok (.iload_n 3, 1) := by decide +kernel
theorem dd_V_insertByName_65 : decode bb_V_insertByName 65 = .ok (.iastore, 1) := by decide +kernel
theorem dd_V_insertByName_66 : decode bb_V_insertByName 66 = .ok (.iload_n 2, 1) := by decide +kernel
theorem dd_V_insertByName_67 : decode bb_V_insertByName 67 = .ok (.iconst 1, 1) := by decide +kernel
theorem dd_V_insertByName_68 : decode bb_V_insertByName 68 = .ok (.iadd, 1) := by decide +kernel
theorem dd_V_insertByName_69 : decode bb_V_insertByName 69 = .ok (.ireturn, 1) := by decide +kernel
theorem dd_V_leave_0 : decode bb_V_leave 0 = .ok (.aload_n 0, 1) := by decide +kernel
theorem dd_V_leave_1 : decode bb_V_leave 1 = .ok (.getfield 18, 3) := by decide +kernel
theorem dd_V_leave_4 : decode bb_V_leave 4 = .ok (.iload_n 1, 1) := by decide +kernel
theorem dd_V_leave_5 : decode bb_V_leave 5 = .ok (.aaload, 1) := by decide +kernel
theorem dd_V_leave_6 : decode bb_V_leave 6 = .ok (.astore_n 3, 1) := by decide +kernel
theorem dd_V_leave_7 : decode bb_V_leave 7 = .ok (.iconst 0, 1) := by decide +kernel
theorem dd_V_leave_8 : decode bb_V_leave 8 = .ok (.istore 4, 2) := by decide +kernel
theorem dd_V_leave_10 : decode bb_V_leave 10 = .ok (.iconst 0, 1) := by decide +kernel
theorem dd_V_leave_11 : decode bb_V_leave 11 = .ok (.istore 5, 2) := by decide +kernel
theorem dd_V_leave_13 : decode bb_V_leave 13 = .ok (.iload 5, 2) := by decide +kernel
theorem dd_V_leave_15 : decode bb_V_leave 15 = .ok (.aload_n 3, 1) := by decide +kernel
theorem dd_V_leave_16 : decode bb_V_leave 16 = .ok (.getfield 123, 3) := by decide +kernel
theorem dd_V_leave_19 : decode bb_V_leave 19 = .ok (.if_icmp .ge 37, 3) := by decide +kernel
theorem dd_V_leave_22 : decode bb_V_leave 22 = .ok (.aload_n 3, 1) := by decide +kernel
theorem dd_V_leave_23 : decode bb_V_leave 23 = .ok (.getfield 220, 3) := by decide +kernel
theorem dd_V_leave_26 : decode bb_V_leave 26 = .ok (.iload 5, 2) := by decide +kernel
theorem dd_V_leave_28 : decode bb_V_leave 28 = .ok (.iaload, 1) := by decide +kernel
theorem dd_V_leave_29 : decode bb_V_leave 29 = .ok (.iload_n 2, 1) := by decide +kernel
theorem dd_V_leave_30 : decode bb_V_leave 30 = .ok (.if_icmp .eq 20, 3) := by decide +kernel
theorem dd_V_leave_33 : decode bb_V_leave 33 = .ok (.aload_n 3, 1) := by decide +kernel
theorem dd_V_leave_34 : decode bb_V_leave 34 = .ok (.getfield 220, 3) := by decide +kernel
theorem dd_V_leave_37 : decode bb_V_leave 37 = .ok (.iload 4, 2) := by decide +kernel
theorem dd_V_leave_39 : decode bb_V_leave 39 = .ok (.aload_n 3, 1) := by decide +kernel
theorem dd_V_leave_40 : decode bb_V_leave 40 = .ok (.getfield 220, 3) := by decide +kernel
theorem dd_V_leave_43 : decode bb_V_leave 43 = .ok (.iload 5, 2) := by decide +kernel
theorem dd_V_leave_45 : decode bb_V_leave 45 = .ok (.iaload, 1) := by decide +kernel
theorem dd_V_leave_46 : decode bb_V_leave 46 = .ok (.iastore, 1) := by decide +kernel
theorem dd_V_leave_47 : decode bb_V_leave 47 = .ok (.iinc 4 1, 3) := by decide +kernel
theorem dd_V_leave_50 : decode bb_V_leave 50 = .ok (.iinc 5 1, 3) := by decide +kernel
theorem dd_V_leave_53 : decode bb_V_leave 53 = .ok (.goto (-40), 3) := by decide +kernel
theorem dd_V_leave_56 : decode bb_V_leave 56 = .ok (.aload_n 3, 1) := by decide +kernel
theorem dd_V_leave_57 : decode bb_V_leave 57 = .ok (.iload 4, 2) := by decide +kernel
theorem dd_V_leave_59 : decode bb_V_leave 59 = .ok (.putfield 123, 3) := by decide +kernel
theorem dd_V_leave_62 : decode bb_V_leave 62 = .ok (.return_, 1) := by decide +kernel
theorem dd_V_store_0 : decode bb_V_store 0 = .ok (.aload_n 0, 1) := by decide +kernel
theorem dd_V_store_1 : decode bb_V_store 1 = .ok (.getfield 18, 3) := by decide +kernel
theorem dd_V_store_4 : decode bb_V_store 4 = .ok (.iload_n 1, 1) := by decide +kernel
theorem dd_V_store_5 : decode bb_V_store 5 = .ok (.aaload, 1) := by decide +kernel
theorem dd_V_store_6 : decode bb_V_store 6 = .ok (.invokevirtual 55, 3) := by decide +kernel
theorem dd_V_store_9 : decode bb_V_store 9 = .ok (.aload_n 0, 1) := by decide +kernel
theorem dd_V_store_10 : decode bb_V_store 10 = .ok (.getfield 18, 3) := by decide +kernel
theorem dd_V_store_13 : decode bb_V_store 13 = .ok (.iload_n 1, 1) := by decide +kernel
theorem dd_V_store_14 : decode bb_V_store 14 = .ok (.aaload, 1) := by decide +kernel
theorem dd_V_store_15 : decode bb_V_store 15 = .ok (.aload_n 0, 1) := by decide +kernel
theorem dd_V_store_16 : decode bb_V_store 16 = .ok (.getfield 44, 3) := by decide +kernel
theorem dd_V_store_19 : decode bb_V_store 19 = .ok (.invokevirtual 58, 3) := by decide +kernel
theorem dd_V_store_22 : decode bb_V_store 22 = .ok (.aload_n 0, 1) := by decide +kernel
theorem dd_V_store_23 : decode bb_V_store 23 = .ok (.iload_n 1, 1) := by decide +kernel
theorem dd_V_store_24 : decode bb_V_store 24 = .ok (.iconst 0, 1) := by decide +kernel
theorem dd_V_store_25 : decode bb_V_store 25 = .ok (.invokevirtual 253, 3) := by decide +kernel
theorem dd_V_store_28 : decode bb_V_store 28 = .ok (.aload_n 0, 1) := by decide +kernel
theorem dd_V_store_29 : decode bb_V_store 29 = .ok (.iload_n 1, 1) := by decide +kernel
theorem dd_V_store_30 : decode bb_V_store 30 = .ok (.iconst 1, 1) := by decide +kernel
theorem dd_V_store_31 : decode bb_V_store 31 = .ok (.invokevirtual 253, 3) := by decide +kernel
theorem dd_V_store_34 : decode bb_V_store 34 = .ok (.return_, 1) := by decide +kernel
theorem dd_V_storeSector_0 : decode bb_V_storeSector 0 = .ok (.aload_n 0, 1) := by decide +kernel
theorem dd_V_storeSector_1 : decode bb_V_storeSector 1 = .ok (.getfield 12, 3) := by decide +kernel
theorem dd_V_storeSector_4 : decode bb_V_storeSector 4 = .ok (.invokevirtual 256, 3) := by decide +kernel
theorem dd_V_storeSector_7 : decode bb_V_storeSector 7 = .ok (.ifCond .eq 19, 3) := by decide +kernel
theorem dd_V_storeSector_10 : decode bb_V_storeSector 10 = .ok (.aload_n 0, 1) := by decide +kernel
theorem dd_V_storeSector_11 : decode bb_V_storeSector 11 = .ok (.iconst 0, 1) := by decide +kernel
theorem dd_V_storeSector_12 : decode bb_V_storeSector 12 = .ok (.putfield 66, 3) := by decide +kernel
theorem dd_V_storeSector_15 : decode bb_V_storeSector 15 = .ok (.new 235, 3) := by decide +kernel
theorem dd_V_storeSector_18 : decode bb_V_storeSector 18 = .ok (.dup, 1) := by decide +kernel
theorem dd_V_storeSector_19 : decode bb_V_storeSector 19 = .ok (.ldc_w 260, 3) := by decide +kernel
theorem dd_V_storeSector_22 : decode bb_V_storeSector 22 = .ok (.invokespecial 239, 3) := by decide +kernel
theorem dd_V_storeSector_25 : decode bb_V_storeSector 25 = .ok (.athrow, 1) := by decide +kernel
theorem dd_V_storeSector_26 : decode bb_V_storeSector 26 = .ok (.aload_n 0, 1) := by decide +kernel
theorem dd_V_storeSector_27 : decode bb_V_storeSector 27 = .ok (.getfield 12, 3) := by decide +kernel
theorem dd_V_storeSector_30 : decode bb_V_storeSector 30 = .ok (.iload_n 1, 1) := by decide +kernel
theorem dd_V_storeSector_31 : decode bb_V_storeSector 31 = .ok (.iload_n 2, 1) := by decide +kernel
theorem dd_V_storeSector_32 : decode bb_V_storeSector 32 = .ok (.aload_n 0, 1) := by decide +kernel
theorem dd_V_storeSector_33 : decode bb_V_storeSector 33 = .ok (.getfield 44, 3) := by decide +kernel
theorem dd_V_storeSector_36 : decode bb_V_storeSector 36 = .ok (.invokevirtual 62, 3) := by decide +kernel
theorem dd_V_storeSector_39 : decode bb_V_storeSector 39 = .ok (.return_, 1) := by decide +kernel
theorem dd_V_makePlan_0 : decode bb_V_makePlan 0 = .ok (.bipush 48, 2) := by decide +kernel
theorem dd_V_makePlan_2 : decode bb_V_makePlan 2 = .ok (.istore 5, 2) := by decide +kernel
theorem dd_V_makePlan_4 : decode bb_V_makePlan 4 = .ok (.aload_n 0, 1) := by decide +kernel
theorem dd_V_makePlan_5 : decode bb_V_makePlan 5 = .ok (.getfield 40, 3) := by decide +kernel
theorem dd_V_makePlan_8 : decode bb_V_makePlan 8 = .ok (.iconst 0, 1) := by decide +kernel
theorem dd_V_makePlan_9 : decode bb_V_makePlan 9 = .ok (.putfield 262, 3) := by decide +kernel
theorem dd_V_makePlan_12 : decode bb_V_makePlan 12 = .ok (.iconst 0, 1) := by decide +kernel
theorem dd_V_makePlan_13 : decode bb_V_makePlan 13 = .ok (.istore 6, 2) := by decide +kernel
theorem dd_V_makePlan_15 : decode bb_V_makePlan 15 = .ok (.iload 6, 2) := by decide +kernel
theorem dd_V_makePlan_17 : decode bb_V_makePlan 17 = .ok (.iload 4, 2) := by decide +kernel
theorem dd_V_makePlan_19 : decode bb_V_makePlan 19 = .ok (.invokestatic 155, 3) := by decide +kernel
theorem dd_V_makePlan_22 : decode bb_V_makePlan 22 = .ok (.if_icmp .ge 69, 3) := by decide +kernel
theorem dd_V_makePlan_25 : decode bb_V_makePlan 25 = .ok (.aload_n 1, 1) := by decide +kernel
theorem dd_V_makePlan_26 : decode bb_V_makePlan 26 = .ok (.getfield 152, 3) := by decide +kernel
theorem dd_V_makePlan_29 : decode bb_V_makePlan 29 = .ok (.iload 6, 2) := by decide +kernel
theorem dd_V_makePlan_31 : decode bb_V_makePlan 31 = .ok (.invokevirtual 229, 3) := by decide +kernel
theorem dd_V_makePlan_34 : decode bb_V_makePlan 34 = .ok (.istore 7, 2) := by decide +kernel
theorem dd_V_makePlan_36 : decode bb_V_makePlan 36 = .ok (.iload 7, 2) := by decide +kernel
theorem dd_V_makePlan_38 : decode bb_V_makePlan 38 = .ok (.iconst (-1), 1) := by decide +kernel
theorem dd_V_makePlan_39 : decode bb_V_makePlan 39 = .ok (.if_icmp .ne 36, 3) := by decide +kernel
theorem dd_V_makePlan_42 : decode bb_V_makePlan 42 = .ok (.aload_n 1, 1) := by decide +kernel
theorem dd_V_makePlan_43 : decode bb_V_makePlan 43 = .ok (.iload 6, 2) := by decide +kernel
theorem dd_V_makePlan_45 : decode bb_V_makePlan 45 = .ok (.iload_n 2, 1) := by decide +kernel
theorem dd_V_makePlan_46 : decode bb_V_makePlan 46 = .ok (.iload_n 3, 1) := by decide +kernel
theorem dd_V_makePlan_47 : decode bb_V_makePlan 47 = .ok (.invokestatic 265, 3) := by decide +kernel
theorem dd_V_makePlan_50 : decode bb_V_makePlan 50 = .ok (.ifCond .eq 25, 3) := by decide +kernel
theorem dd_V_makePlan_53 : decode bb_V_makePlan 53 = .ok (.aload_n 0, 1) := by decide +kernel
theorem dd_V_makePlan_54 : decode bb_V_makePlan 54 = .ok (.iload 5, 2) := by decide +kernel
theorem dd_V_makePlan_56 : decode bb_V_makePlan 56 = .ok (.invokevirtual 268, 3) := by decide +kernel
theorem dd_V_makePlan_59 : decode bb_V_makePlan 59 = .ok (.istore 7, 2) := by decide +kernel
theorem dd_V_makePlan_61 : decode bb_V_makePlan 61 = .ok (.iload 7, 2) := by decide +kernel
theorem dd_V_makePlan_63 : decode bb_V_makePlan 63 = .ok (.iconst (-1), 1) := by decide +kernel
theorem dd_V_makePlan_64 : decode bb_V_makePlan 64 = .ok (.if_icmp .ne 5, 3) := by decide +kernel
theorem dd_V_makePlan_67 : decode bb_V_makePlan 67 = .ok (.iconst 0, 1) := by decide +kernel
theorem dd_V_makePlan_68 : decode bb_V_makePlan 68 = .ok (.ireturn, 1) := by decide +kernel
theorem dd_V_makePlan_69 : decode bb_V_makePlan 69 = .ok (.iload 7, 2) := by decide +kernel
theorem dd_V_makePlan_71 : decode bb_V_makePlan 71 = .ok (.iconst 1, 1) := by decide +kernel
theorem dd_V_makePlan_72 : decode bb_V_makePlan 72 = .ok (.iadd, 1) := by decide +kernel
theorem dd_V_makePlan_73 : decode bb_V_makePlan 73 = .ok (.istore 5, 2) := by decide +kernel
theorem dd_V_makePlan_75 : decode bb_V_makePlan 75 = .ok (.aload_n 0, 1) := by decide +kernel
theorem dd_V_makePlan_76 : decode bb_V_makePlan 76 = .ok (.getfield 40, 3) := by decide +kernel
theorem dd_V_makePlan_79 : decode bb_V_makePlan 79 = .ok (.iload 7, 2) := by decide +kernel
theorem dd_V_makePlan_81 : decode bb_V_makePlan 81 = .ok (.iconst 1, 1) := by decide +kernel
theorem dd_V_makePlan_82 : decode bb_V_makePlan 82 = .ok (.invokevirtual 271, 3) := by decide +kernel
theorem dd_V_makePlan_85 : decode bb_V_makePlan 85 = .ok (.iinc 6 1, 3) := by decide +kernel
theorem dd_V_makePlan_88 : decode bb_V_makePlan 88 = .ok (.goto (-73), 3) := by decide +kernel
theorem dd_V_makePlan_91 : decode bb_V_makePlan 91 = .ok (.aload_n 1, 1) := by decide +kernel
theorem dd_V_makePlan_92 : decode bb_V_makePlan 92 = .ok (.invokevirtual 273, 3) := by decide +kernel
theorem dd_V_makePlan_95 : decode bb_V_makePlan 95 = .ok (.aload_n 0, 1) := by decide +kernel
theorem dd_V_makePlan_96 : decode bb_V_makePlan 96 = .ok (.getfield 40, 3) := by decide +kernel
theorem dd_V_makePlan_99 : decode bb_V_makePlan 99 = .ok (.invokevirtual 276, 3) := by decide +kernel
theorem dd_V_makePlan_102 : decode bb_V_makePlan 102 = .ok (.iadd, 1) := by decide +kernel
theorem dd_V_makePlan_103 : decode bb_V_makePlan 103 = .ok (.bipush 54, 2) := by decide +kernel
theorem dd_V_makePlan_105 : decode bb_V_makePlan 105 = .ok (.if_icmp .gt 7, 3) := by decide +kernel
theorem dd_V_makePlan_108 : decode bb_V_makePlan 108 = .ok (.iconst 1, 1) := by decide +kernel
theorem dd_V_makePlan_109 : decode bb_V_makePlan 109 = .ok (.goto 4, 3) := by decide +kernel
theorem dd_V_makePlan_112 : decode bb_V_makePlan 112 = .ok (.iconst 0, 1) := by decide +kernel
theorem dd_V_makePlan_113 : decode bb_V_makePlan 113 = .ok (.ireturn, 1) := by decide +kernel
theorem dd_V_needsCluster_0 : decode bb_V_needsCluster 0 = .ok (.iload_n 1, 1) := by decide +kernel
theorem dd_V_needsCluster_1 : decode bb_V_needsCluster 1 = .ok (.iload_n 2, 1) := by decide +kernel
theorem dd_V_needsCluster_2 : decode bb_V_needsCluster 2 = .ok (.bipush 16, 2) := by decide +kernel
theorem dd_V_needsCluster_4 : decode bb_V_needsCluster 4 = .ok (.idiv, 1) := by decide +kernel
theorem dd_V_needsCluster_5 : decode bb_V_needsCluster 5 = .ok (.if_icmp .lt 19, 3) := by decide +kernel
theorem dd_V_needsCluster_8 : decode bb_V_needsCluster 8 = .ok (.iload_n 1, 1) := by decide +kernel
theorem dd_V_needsCluster_9 : decode bb_V_needsCluster 9 = .ok (.iload_n 2, 1) := by decide +kernel
theorem dd_V_needsCluster_10 : decode bb_V_needsCluster 10 = .ok (.iload_n 3, 1) := by decide +kernel
theorem dd_V_needsCluster_11 : decode bb_V_needsCluster 11 = .ok (.iadd, 1) := by decide +kernel
theorem dd_V_needsCluster_12 : decode bb_V_needsCluster 12 = .ok (.iconst 1, 1) := by decide +kernel
theorem dd_V_needsCluster_13 : decode bb_V_needsCluster 13 = .ok (.isub, 1) := by decide +kernel
theorem dd_V_needsCluster_14 : decode bb_V_needsCluster 14 = .ok (.bipush 16, 2) := by decide +kernel
theorem dd_V_needsCluster_16 : decode bb_V_needsCluster 16 = .ok (.idiv, 1) := by decide +kernel
theorem dd_V_needsCluster_17 : decode bb_V_needsCluster 17 = .ok (.if_icmp .gt 7, 3) := by decide +kernel
theorem dd_V_needsCluster_20 : decode bb_V_needsCluster 20 = .ok (.iconst 1, 1) := by decide +kernel
theorem dd_V_needsCluster_21 : decode bb_V_needsCluster 21 = .ok (.goto 4, 3) := by decide +kernel
theorem dd_V_needsCluster_24 : decode bb_V_needsCluster 24 = .ok (.iconst 0, 1) := by decide +kernel
theorem dd_V_needsCluster_25 : decode bb_V_needsCluster 25 = .ok (.istore 4, 2) := by decide +kernel
theorem dd_V_needsCluster_27 : decode bb_V_needsCluster 27 = .ok (.iload 4, 2) := by decide +kernel
theorem dd_V_needsCluster_29 : decode bb_V_needsCluster 29 = .ok (.ifCond .ne 22, 3) := by decide +kernel
theorem dd_V_needsCluster_32 : decode bb_V_needsCluster 32 = .ok (.aload_n 0, 1) := by decide +kernel
theorem dd_V_needsCluster_33 : decode bb_V_needsCluster 33 = .ok (.getfield 132, 3) := by decide +kernel
theorem dd_V_needsCluster_36 : decode bb_V_needsCluster 36 = .ok (.iconst 2, 1) := by decide +kernel
theorem dd_V_needsCluster_37 : decode bb_V_needsCluster 37 = .ok (.if_icmp .ne 18, 3) := by decide +kernel
theorem dd_V_needsCluster_40 : decode bb_V_needsCluster 40 = .ok (.iload_n 1, 1) := by decide +kernel
theorem dd_V_needsCluster_41 : decode bb_V_needsCluster 41 = .ok (.aload_n 0, 1) := by decide +kernel
theorem dd_V_needsCluster_42 : decode bb_V_needsCluster 42 = .ok (.getfield 123, 3) := by decide +kernel
theorem dd_V_needsCluster_45 : decode bb_V_needsCluster 45 = .ok (.invokestatic 155, 3) := by decide +kernel
theorem dd_V_needsCluster_48 : decode bb_V_needsCluster 48 = .ok (.if_icmp .ge 7, 3) := by decide +kernel
theorem dd_V_needsCluster_51 : decode bb_V_needsCluster 51 = .ok (.iconst 1, 1) := by decide +kernel
theorem dd_V_needsCluster_52 : decode bb_V_needsCluster 52 = .ok (.goto 4, 3) := by decide +kernel
theorem dd_V_needsCluster_55 : decode bb_V_needsCluster 55 = .ok (.iconst 0, 1) := by decide +kernel
theorem dd_V_needsCluster_56 : decode bb_V_needsCluster 56 = .ok (.ireturn, 1) := by decide +kernel
theorem dd_V_putOutside_0 : decode bb_V_putOutside 0 = .ok (.aload_n 0, 1) := by decide +kernel
theorem dd_V_putOutside_1 : decode bb_V_putOutside 1 = .ok (.invokevirtual 277, 3) := by decide +kernel
theorem dd_V_putOutside_4 : decode bb_V_putOutside 4 = .ok (.aload_n 1, 1) := by decide +kernel
theorem dd_V_putOutside_5 : decode bb_V_putOutside 5 = .ok (.getfield 132, 3) := by decide +kernel
theorem dd_V_putOutside_8 : decode bb_V_putOutside 8 = .ok (.iconst 2, 1) := by decide +kernel
theorem dd_V_putOutside_9 : decode bb_V_putOutside 9 = .ok (.if_icmp .ne 41, 3) := by decide +kernel
theorem dd_V_putOutside_12 : decode bb_V_putOutside 12 = .ok (.iconst 0, 1) := by decide +kernel
theorem dd_V_putOutside_13 : decode bb_V_putOutside 13 = .ok (.istore 6, 2) := by decide +kernel
theorem dd_V_putOutside_15 : decode bb_V_putOutside 15 = .ok (.iload 6, 2) := by decide +kernel
theorem dd_V_putOutside_17 : decode bb_V_putOutside 17 = .ok (.aload_n 1, 1) := by decide +kernel
theorem dd_V_putOutside_18 : decode bb_V_putOutside 18 = .ok (.getfield 123, 3) := by decide +kernel
theorem dd_V_putOutside_21 : decode bb_V_putOutside 21 = .ok (.if_icmp .ge 29, 3) := by decide +kernel
theorem dd_V_putOutside_24 : decode bb_V_putOutside 24 = .ok (.aload_n 0, 1) := by decide +kernel
theorem dd_V_putOutside_25 : decode bb_V_putOutside 25 = .ok (.getfield 12, 3) := by decide +kernel
theorem dd_V_putOutside_28 : decode bb_V_putOutside 28 = .ok (.aload_n 0, 1) := by decide +kernel
theorem dd_V_putOutside_29 : decode bb_V_putOutside 29 = .ok (.getfield 40, 3) := by decide +kernel
theorem dd_V_putOutside_32 : decode bb_V_putOutside 32 = .ok (.iload 6, 2) := by decide +kernel
theorem dd_V_putOutside_34 : decode bb_V_putOutside 34 = .ok (.aload_n 1, 1) := by decide +kernel
theorem dd_V_putOutside_35 : decode bb_V_putOutside 35 = .ok (.getfield 220, 3) := by decide +kernel
theorem dd_V_putOutside_38 : decode bb_V_putOutside 38 = .ok (.iload 6, 2) := by decide +kernel
theorem dd_V_putOutside_40 : decode bb_V_putOutside 40 = .ok (.iaload, 1) := by decide +kernel
theorem dd_V_putOutside_41 : decode bb_V_putOutside 41 = .ok (.invokevirtual 280, 3) := by decide +kernel
theorem dd_V_putOutside_44 : decode bb_V_putOutside 44 = .ok (.iinc 6 1, 3) := by decide +kernel
theorem dd_V_putOutside_47 : decode bb_V_putOutside 47 = .ok (.goto (-32), 3) := by decide +kernel
theorem dd_V_putOutside_50 : decode bb_V_putOutside 50 = .ok (.aload_n 0, 1) := by decide +kernel
theorem dd_V_putOutside_51 : decode bb_V_putOutside 51 = .ok (.getfield 12, 3) := by decide +kernel
theorem dd_V_putOutside_54 : decode bb_V_putOutside 54 = .ok (.aload_n 0, 1) := by decide +kernel
theorem dd_V_putOutside_55 : decode bb_V_putOutside 55 = .ok (.getfield 40, 3) := by decide +kernel
theorem dd_V_putOutside_58 : decode bb_V_putOutside 58 = .ok (.aload_n 1, 1) := by decide +kernel
theorem dd_V_putOutside_59 : decode bb_V_putOutside 59 = .ok (.getfield 123, 3) := by decide +kernel
theorem dd_V_putOutside_62 : decode bb_V_putOutside 62 = .ok (.iload_n 2, 1) := by decide +kernel
theorem dd_V_putOutside_63 : decode bb_V_putOutside 63 = .ok (.invokevirtual 166, 3) := by decide +kernel
theorem dd_V_putOutside_66 : decode bb_V_putOutside 66 = .ok (.iconst 0, 1) := by decide +kernel
theorem dd_V_putOutside_67 : decode bb_V_putOutside 67 = .ok (.istore 6, 2) := by decide +kernel
theorem dd_V_putOutside_69 : decode bb_V_putOutside 69 = .ok (.iload 6, 2) := by decide +kernel
theorem dd_V_putOutside_71 : decode bb_V_putOutside 71 = .ok (.iload_n 3, 1) := by decide +kernel
theorem dd_V_putOutside_72 : decode bb_V_putOutside 72 = .ok (.if_icmp .ge 33, 3) := by decide +kernel
theorem dd_V_putOutside_75 : decode bb_V_putOutside 75 = .ok (.aload_n 0, 1) := by decide +kernel
theorem dd_V_putOutside_76 : decode bb_V_putOutside 76 = .ok (.getfield 12, 3) := by decide +kernel
theorem dd_V_putOutside_79 : decode bb_V_putOutside 79 = .ok (.aload_n 0, 1) := by decide +kernel
theorem dd_V_putOutside_80 : decode bb_V_putOutside 80 = .ok (.getfield 40, 3) := by decide +kernel
theorem dd_V_putOutside_83 : decode bb_V_putOutside 83 = .ok (.iload_n 2, 1) := by decide +kernel
theorem dd_V_putOutside_84 : decode bb_V_putOutside 84 = .ok (.iload 6, 2) := by decide +kernel
theorem dd_V_putOutside_86 : decode bb_V_putOutside 86 = .ok (.iadd, 1) := by decide +kernel
theorem dd_V_putOutside_87 : decode bb_V_putOutside 87 = .ok (.iload 4, 2) := by decide +kernel
theorem dd_V_putOutside_89 : decode bb_V_putOutside 89 = .ok (.iload 6, 2) := by decide +kernel
theorem dd_V_putOutside_91 : decode bb_V_putOutside 91 = .ok (.iadd, 1) := by decide +kernel
theorem dd_V_putOutside_92 : decode bb_V_putOutside 92 = .ok (.sipush 255, 3) := by decide +kernel
theorem dd_V_putOutside_95 : decode bb_V_putOutside 95 = .ok (.iand, 1) := by decide +kernel
theorem dd_V_putOutside_96 : decode bb_V_putOutside 96 = .ok (.invokevirtual 280, 3) := by decide +kernel
theorem dd_V_putOutside_99 : decode bb_V_putOutside 99 = .ok (.iinc 6 1, 3) := by decide +kernel
theorem dd_V_putOutside_102 : decode bb_V_putOutside 102 = .ok (.goto (-33), 3) := by decide +kernel
theorem dd_V_putOutside_105 : decode bb_V_putOutside 105 = .ok (.aload_n 0, 1) := by decide +kernel
theorem dd_V_putOutside_106 : decode bb_V_putOutside 106 = .ok (.getfield 12, 3) := by decide +kernel
theorem dd_V_putOutside_109 : decode bb_V_putOutside 109 = .ok (.aload_n 0, 1) := by decide +kernel
theorem dd_V_putOutside_110 : decode bb_V_putOutside 110 = .ok (.getfield 40, 3) := by decide +kernel
theorem dd_V_putOutside_113 : decode bb_V_putOutside 113 = .ok (.iload 5, 2) := by decide +kernel
theorem dd_V_putOutside_115 : decode bb_V_putOutside 115 = .ok (.iload 5, 2) := by decide +kernel
theorem dd_V_putOutside_117 : decode bb_V_putOutside 117 = .ok (.invokestatic 163, 3) := by decide +kernel
theorem dd_V_putOutside_120 : decode bb_V_putOutside 120 = .ok (.invokevirtual 166, 3) := by decide +kernel
theorem dd_V_putOutside_123 : decode bb_V_putOutside 123 = .ok (.aload_n 1, 1) := by decide +kernel
theorem dd_V_putOutside_124 : decode bb_V_putOutside 124 = .ok (.iconst 3, 1) := by decide +kernel
theorem dd_V_putOutside_125 : decode bb_V_putOutside 125 = .ok (.putfield 132, 3) := by decide +kernel
theorem dd_V_putOutside_128 : decode bb_V_putOutside 128 = .ok (.aload_n 1, 1) := by decide +kernel
theorem dd_V_putOutside_129 : decode bb_V_putOutside 129 = .ok (.iload 5, 2) := by decide +kernel
theorem dd_V_putOutside_131 : decode bb_V_putOutside 131 = .ok (.putfield 123, 3) := by decide +kernel
theorem dd_V_putOutside_134 : decode bb_V_putOutside 134 = .ok (.aload_n 1, 1) := by decide +kernel
theorem dd_V_putOutside_135 : decode bb_V_putOutside 135 = .ok (.getfield 152, 3) := by decide +kernel
theorem dd_V_putOutside_138 : decode bb_V_putOutside 138 = .ok (.aload_n 0, 1) := by decide +kernel
theorem dd_V_putOutside_139 : decode bb_V_putOutside 139 = .ok (.getfield 40, 3) := by decide +kernel
theorem dd_V_putOutside_142 : decode bb_V_putOutside 142 = .ok (.invokevirtual 283, 3) := by decide +kernel
theorem dd_V_putOutside_145 : decode bb_V_putOutside 145 = .ok (.return_, 1) := by decide +kernel
theorem dd_V_takePlanned_0 : decode bb_V_takePlanned 0 = .ok (.iconst 0, 1) := by decide +kernel
theorem dd_V_takePlanned_1 : decode bb_V_takePlanned 1 = .ok (.istore_n 1, 1) := by decide +kernel
theorem dd_V_takePlanned_2 : decode bb_V_takePlanned 2 = .ok (.iload_n 1, 1) := by decide +kernel
theorem dd_V_takePlanned_3 : decode bb_V_takePlanned 3 = .ok (.aload_n 0, 1) := by decide +kernel
theorem dd_V_takePlanned_4 : decode bb_V_takePlanned 4 = .ok (.getfield 40, 3) := by decide +kernel
theorem dd_V_takePlanned_7 : decode bb_V_takePlanned 7 = .ok (.getfield 262, 3) := by decide +kernel
theorem dd_V_takePlanned_10 : decode bb_V_takePlanned 10 = .ok (.if_icmp .ge 63, 3) := by decide +kernel
theorem dd_V_takePlanned_13 : decode bb_V_takePlanned 13 = .ok (.aload_n 0, 1) := by decide +kernel
theorem dd_V_takePlanned_14 : decode bb_V_takePlanned 14 = .ok (.getfield 40, 3) := by decide +kernel
theorem dd_V_takePlanned_17 : decode bb_V_takePlanned 17 = .ok (.getfield 286, 3) := by decide +kernel
theorem dd_V_takePlanned_20 : decode bb_V_takePlanned 20 = .ok (.iload_n 1, 1) := by decide +kernel
theorem dd_V_takePlanned_21 : decode bb_V_takePlanned 21 = .ok (.iaload, 1) := by decide +kernel
theorem dd_V_takePlanned_22 : decode bb_V_takePlanned 22 = .ok (.istore_n 2, 1) := by decide +kernel
theorem dd_V_takePlanned_23 : decode bb_V_takePlanned 23 = .ok (.iload_n 2, 1) := by decide +kernel
theorem dd_V_takePlanned_24 : decode bb_V_takePlanned 24 = .ok (.invokestatic 289, 3) := by decide +kernel
theorem dd_V_takePlanned_27 : decode bb_V_takePlanned 27 = .ok (.ifCond .eq 40, 3) := by decide +kernel
theorem dd_V_takePlanned_30 : decode bb_V_takePlanned 30 = .ok (.aload_n 0, 1) := by decide +kernel
theorem dd_V_takePlanned_31 : decode bb_V_takePlanned 31 = .ok (.getfield 23, 3) := by decide +kernel
theorem dd_V_takePlanned_34 : decode bb_V_takePlanned 34 = .ok (.iload_n 2, 1) := by decide +kernel
theorem dd_V_takePlanned_35 : decode bb_V_takePlanned 35 = .ok (.baload, 1) := by decide +kernel
theorem dd_V_takePlanned_36 : decode bb_V_takePlanned 36 = .ok (.ifCond .ne 31, 3) := by decide +kernel
theorem dd_V_takePlanned_39 : decode bb_V_takePlanned 39 = .ok (.aload_n 0, 1) := by decide +kernel
theorem dd_V_takePlanned_40 : decode bb_V_takePlanned 40 = .ok (.getfield 23, 3) := by decide +kernel
theorem dd_V_takePlanned_43 : decode bb_V_takePlanned 43 = .ok (.iload_n 2, 1) := by decide +kernel
theorem dd_V_takePlanned_44 : decode bb_V_takePlanned 44 = .ok (.iconst 1, 1) := by decide +kernel
theorem dd_V_takePlanned_45 : decode bb_V_takePlanned 45 = .ok (.bastore, 1) := by decide +kernel
theorem dd_V_takePlanned_46 : decode bb_V_takePlanned 46 = .ok (.aload_n 0, 1) := by decide +kernel
theorem dd_V_takePlanned_47 : decode bb_V_takePlanned 47 = .ok (.getfield 12, 3) := by decide +kernel
theorem dd_V_takePlanned_50 : decode bb_V_takePlanned 50 = .ok (.aload_n 0, 1) := by decide +kernel
theorem dd_V_takePlanned_51 : decode bb_V_takePlanned 51 = .ok (.getfield 40, 3) := by decide +kernel
theorem dd_V_takePlanned_54 : decode bb_V_takePlanned 54 = .ok (.iload_n 1, 1) := by decide +kernel
theorem dd_V_takePlanned_55 : decode bb_V_takePlanned 55 = .ok (.bipush 16, 2) := by decide +kernel
theorem dd_V_takePlanned_57 : decode bb_V_takePlanned 57 = .ok (.imul, 1) := by decide +kernel
theorem dd_V_takePlanned_58 : decode bb_V_takePlanned 58 = .ok (.iload_n 1, 1) := by decide +kernel
theorem dd_V_takePlanned_59 : decode bb_V_takePlanned 59 = .ok (.iconst 1, 1) := by decide +kernel
theorem dd_V_takePlanned_60 : decode bb_V_takePlanned 60 = .ok (.iadd, 1) := by decide +kernel
theorem dd_V_takePlanned_61 : decode bb_V_takePlanned 61 = .ok (.bipush 16, 2) := by decide +kernel
theorem dd_V_takePlanned_63 : decode bb_V_takePlanned 63 = .ok (.imul, 1) := by decide +kernel
theorem dd_V_takePlanned_64 : decode bb_V_takePlanned 64 = .ok (.invokevirtual 166, 3) := by decide +kernel
theorem dd_V_takePlanned_67 : decode bb_V_takePlanned 67 = .ok (.iinc 1 1, 3) := by decide +kernel
theorem dd_V_takePlanned_70 : decode bb_V_takePlanned 70 = .ok (.goto (-68), 3) := by decide +kernel
theorem dd_V_takePlanned_73 : decode bb_V_takePlanned 73 = .ok (.return_, 1) := by decide +kernel
theorem dd_V_releaseFrom_0 : decode bb_V_releaseFrom 0 = .ok (.iconst 0, 1) := by decide +kernel
theorem dd_V_releaseFrom_1 : decode bb_V_releaseFrom 1 = .ok (.istore_n 3, 1) := by decide +kernel
theorem dd_V_releaseFrom_2 : decode bb_V_releaseFrom 2 = .ok (.iload_n 2, 1) := by decide +kernel
theorem dd_V_releaseFrom_3 : decode bb_V_releaseFrom 3 = .ok (.istore 4, 2) := by decide +kernel
theorem dd_V_releaseFrom_5 : decode bb_V_releaseFrom 5 = .ok (.iload 4, 2) := by decide +kernel
theorem dd_V_releaseFrom_7 : decode bb_V_releaseFrom 7 = .ok (.aload_n 1, 1) := by decide +kernel
theorem dd_V_releaseFrom_8 : decode bb_V_releaseFrom 8 = .ok (.getfield 262, 3) := by decide +kernel
theorem dd_V_releaseFrom_11 : decode bb_V_releaseFrom 11 = .ok (.if_icmp .ge 38, 3) := by decide +kernel
theorem dd_V_releaseFrom_14 : decode bb_V_releaseFrom 14 = .ok (.aload_n 1, 1) := by decide +kernel
theorem dd_V_releaseFrom_15 : decode bb_V_releaseFrom 15 = .ok (.getfield 286, 3) := by decide +kernel
theorem dd_V_releaseFrom_18 : decode bb_V_releaseFrom 18 = .ok (.iload 4, 2) := by decide +kernel
theorem dd_V_releaseFrom_20 : decode bb_V_releaseFrom 20 = .ok (.iaload, 1) := by decide +kernel
theorem dd_V_releaseFrom_21 : decode bb_V_releaseFrom 21 = .ok (.invokestatic 289, 3) := by decide +kernel
theorem dd_V_releaseFrom_24 : decode bb_V_releaseFrom 24 = .ok (.ifCond .eq 19, 3) := by decide +kernel
theorem dd_V_releaseFrom_27 : decode bb_V_releaseFrom 27 = .ok (.aload_n 0, 1) := by decide +kernel
theorem dd_V_releaseFrom_28 : decode bb_V_releaseFrom 28 = .ok (.getfield 23, 3) := by decide +kernel
theorem dd_V_releaseFrom_31 : decode bb_V_releaseFrom 31 = .ok (.aload_n 1, 1) := by decide +kernel
theorem dd_V_releaseFrom_32 : decode bb_V_releaseFrom 32 = .ok (.getfield 286, 3) := by decide +kernel
theorem dd_V_releaseFrom_35 : decode bb_V_releaseFrom 35 = .ok (.iload 4, 2) := by decide +kernel
theorem dd_V_releaseFrom_37 : decode bb_V_releaseFrom 37 = .ok (.iaload, 1) := by decide +kernel
theorem dd_V_releaseFrom_38 : decode bb_V_releaseFrom 38 = .ok (.iconst 0, 1) := by decide +kernel
theorem dd_V_releaseFrom_39 : decode bb_V_releaseFrom 39 = .ok (.bastore, 1) := by decide +kernel
theorem dd_V_releaseFrom_40 : decode bb_V_releaseFrom 40 = .ok (.iinc 3 1, 3) := by decide +kernel
theorem dd_V_releaseFrom_43 : decode bb_V_releaseFrom 43 = .ok (.iinc 4 1, 3) := by decide +kernel
theorem dd_V_releaseFrom_46 : decode bb_V_releaseFrom 46 = .ok (.goto (-41), 3) := by decide +kernel
theorem dd_V_releaseFrom_49 : decode bb_V_releaseFrom 49 = .ok (.aload_n 1, 1) := by decide +kernel
theorem dd_V_releaseFrom_50 : decode bb_V_releaseFrom 50 = .ok (.aload_n 1, 1) := by decide +kernel
theorem dd_V_releaseFrom_51 : decode bb_V_releaseFrom 51 = .ok (.getfield 262, 3) := by decide +kernel
theorem dd_V_releaseFrom_54 : decode bb_V_releaseFrom 54 = .ok (.iload_n 2, 1) := by decide +kernel
theorem dd_V_releaseFrom_55 : decode bb_V_releaseFrom 55 = .ok (.invokestatic 292, 3) := by decide +kernel
theorem dd_V_releaseFrom_58 : decode bb_V_releaseFrom 58 = .ok (.putfield 262, 3) := by decide +kernel
theorem dd_V_releaseFrom_61 : decode bb_V_releaseFrom 61 = .ok (.iload_n 3, 1) := by decide +kernel
theorem dd_V_releaseFrom_62 : decode bb_V_releaseFrom 62 = .ok (.ireturn, 1) := by decide +kernel
theorem dd_V_restoreRoot_0 : decode bb_V_restoreRoot 0 = .ok (.aload_n 0, 1) := by decide +kernel
theorem dd_V_restoreRoot_1 : decode bb_V_restoreRoot 1 = .ok (.iconst 0, 1) := by decide +kernel
theorem dd_V_restoreRoot_2 : decode bb_V_restoreRoot 2 = .ok (.invokevirtual 170, 3) := by decide +kernel
theorem dd_V_restoreRoot_5 : decode bb_V_restoreRoot 5 = .ok (.ifCond .eq 5, 3) := by decide +kernel
theorem dd_V_restoreRoot_8 : decode bb_V_restoreRoot 8 = .ok (.iconst 0, 1) := by decide +kernel
theorem dd_V_restoreRoot_9 : decode bb_V_restoreRoot 9 = .ok (.ireturn, 1) := by decide +kernel
theorem dd_V_restoreRoot_10 : decode bb_V_restoreRoot 10 = .ok (.aload_n 0, 1) := by decide +kernel
theorem dd_V_restoreRoot_11 : decode bb_V_restoreRoot 11 = .ok (.getfield 18, 3) := by decide +kernel
theorem dd_V_restoreRoot_14 : decode bb_V_restoreRoot 14 = .ok (.iconst 0, 1) := by decide +kernel
theorem dd_V_restoreRoot_15 : decode bb_V_restoreRoot 15 = .ok (.aaload, 1) := by decide +kernel
theorem dd_V_restoreRoot_16 : decode bb_V_restoreRoot 16 = .ok (.iconst 2, 1) := by decide +kernel
theorem dd_V_restoreRoot_17 : decode bb_V_restoreRoot 17 = .ok (.iconst 0, 1) := by decide +kernel
theorem dd_V_restoreRoot_18 : decode bb_V_restoreRoot 18 = .ok (.invokevirtual 51, 3) := by decide +kernel
theorem dd_V_restoreRoot_21 : decode bb_V_restoreRoot 21 = .ok (.aload_n 0, 1) := by decide +kernel
theorem dd_V_restoreRoot_22 : decode bb_V_restoreRoot 22 = .ok (.iconst 0, 1) := by decide +kernel
theorem dd_V_restoreRoot_23 : decode bb_V_restoreRoot 23 = .ok (.invokevirtual 113, 3) := by decide +kernel
theorem dd_V_restoreRoot_26 : decode bb_V_restoreRoot 26 = .ok (.iconst 1, 1) := by decide +kernel
theorem dd_V_restoreRoot_27 : decode bb_V_restoreRoot 27 = .ok (.ireturn, 1) := by decide +kernel
theorem dd_V_adoptStrays_0 : decode bb_V_adoptStrays 0 = .ok (.iconst 0, 1) := by decide +kernel
theorem dd_V_adoptStrays_1 : decode bb_V_adoptStrays 1 = .ok (.istore_n 1, 1) := by decide +kernel
theorem dd_V_adoptStrays_2 : decode bb_V_adoptStrays 2 = .ok (.iconst 0, 1) := by decide +kernel
theorem dd_V_adoptStrays_3 : decode bb_V_adoptStrays 3 = .ok (.istore_n 2, 1) := by decide +kernel
theorem dd_V_adoptStrays_4 : decode bb_V_adoptStrays 4 = .ok (.iload_n 2, 1) := by decide +kernel
theorem dd_V_adoptStrays_5 : decode bb_V_adoptStrays 5 = .ok (.bipush 12, 2) := by decide +kernel
theorem dd_V_adoptStrays_7 : decode bb_V_adoptStrays 7 = .ok (.if_icmp .ge 43, 3) := by decide +kernel
theorem dd_V_adoptStrays_10 : decode bb_V_adoptStrays 10 = .ok (.aload_n 0, 1) := by decide +kernel
theorem dd_V_adoptStrays_11 : decode bb_V_adoptStrays 11 = .ok (.iload_n 2, 1) := by decide +kernel
theorem dd_V_adoptStrays_12 : decode bb_V_adoptStrays 12 = .ok (.invokevirtual 170, 3) := by decide +kernel
theorem dd_V_adoptStrays_15 : decode bb_V_adoptStrays 15 = .ok (.ifCond .eq 29, 3) := by decide +kernel
theorem dd_V_adoptStrays_18 : decode bb_V_adoptStrays 18 = .ok (.aload_n 0, 1) := by decide +kernel
theorem dd_V_adoptStrays_19 : decode bb_V_adoptStrays 19 = .ok (.iload_n 2, 1) := by decide +kernel
theorem dd_V_adoptStrays_20 : decode bb_V_adoptStrays 20 = .ok (.invokevirtual 295, 3) := by decide +kernel
theorem dd_V_adoptStrays_23 : decode bb_V_adoptStrays 23 = .ok (.ifCond .ne 21, 3) := by decide +kernel
theorem dd_V_adoptStrays_26 : decode bb_V_adoptStrays 26 = .ok (.aload_n 0, 1) := by decide +kernel
theorem dd_V_adoptStrays_27 : decode bb_V_adoptStrays 27 = .ok (.getfield 18, 3) := by decide +kernel
theorem dd_V_adoptStrays_30 : decode bb_V_adoptStrays 30 = .ok (.iload_n 2, 1) := by decide +kernel
theorem dd_V_adoptStrays_31 : decode bb_V_adoptStrays 31 = .ok (.aaload, 1) := by decide +kernel
theorem dd_V_adoptStrays_32 : decode bb_V_adoptStrays 32 = .ok (.iconst 0, 1) := by decide +kernel
theorem dd_V_adoptStrays_33 : decode bb_V_adoptStrays 33 = .ok (.putfield 173, 3) := by decide +kernel
theorem dd_V_adoptStrays_36 : decode bb_V_adoptStrays 36 = .ok (.aload_n 0, 1) := by decide +kernel
theorem dd_V_adoptStrays_37 : decode bb_V_adoptStrays 37 = .ok (.iload_n 2, 1) := by decide +kernel
theorem dd_V_adoptStrays_38 : decode bb_V_adoptStrays 38 = .ok (.invokevirtual 113, 3) := by decide +kernel
theorem dd_V_adoptStrays_41 : decode bb_V_adoptStrays 41 = .ok (.iinc 1 1, 3) := by decide +kernel
theorem dd_V_adoptStrays_44 : decode bb_V_adoptStrays 44 = .ok (.iinc 2 1, 3) := by decide +kernel
theorem dd_V_adoptStrays_47 : decode bb_V_adoptStrays 47 = .ok (.goto (-43), 3) := by decide +kernel
theorem dd_V_adoptStrays_50 : decode bb_V_adoptStrays 50 = .ok (.iload_n 1, 1) := by decide +kernel
theorem dd_V_adoptStrays_51 : decode bb_V_adoptStrays 51 = .ok (.ireturn, 1) := by decide +kernel
theorem dd_V_mendLists_0 : decode bb_V_mendLists 0 = .ok (.iconst 0, 1) := by decide +kernel
theorem dd_V_mendLists_1 : decode bb_V_mendLists 1 = .ok (.istore_n 1, 1) := by decide +kernel
theorem dd_V_mendLists_2 : decode bb_V_mendLists 2 = .ok (.iconst 0, 1) := by decide +kernel
theorem dd_V_mendLists_3 : decode bb_V_mendLists 3 = .ok (.istore_n 2, 1) := by decide +kernel
theorem dd_V_mendLists_4 : decode bb_V_mendLists 4 = .ok (.iload_n 2, 1) := by decide +kernel
theorem dd_V_mendLists_5 : decode bb_V_mendLists 5 = .ok (.bipush 12, 2) := by decide +kernel
theorem dd_V_mendLists_7 : decode bb_V_mendLists 7 = .ok (.if_icmp .ge 62, 3) := by decide +kernel
theorem dd_V_mendLists_10 : decode bb_V_mendLists 10 = .ok (.aload_n 0, 1) := by decide +kernel
theorem dd_V_mendLists_11 : decode bb_V_mendLists 11 = .ok (.iload_n 2, 1) := by decide +kernel
theorem dd_V_mendLists_12 : decode bb_V_mendLists 12 = .ok (.invokevirtual 84, 3) := by decide +kernel
theorem dd_V_mendLists_15 : decode bb_V_mendLists 15 = .ok (.ifCond .eq 48, 3) := by decide +kernel
theorem dd_V_mendLists_18 : decode bb_V_mendLists 18 = .ok (.aload_n 0, 1) := by decide +kernel
theorem dd_V_mendLists_19 : decode bb_V_mendLists 19 = .ok (.iload_n 2, 1) := by decide +kernel
theorem dd_V_mendLists_20 : decode bb_V_mendLists 20 = .ok (.invokevirtual 298, 3) := by decide +kernel
theorem dd_V_mendLists_23 : decode bb_V_mendLists 23 = .ok (.istore_n 3, 1) := by decide +kernel
theorem dd_V_mendLists_24 : decode bb_V_mendLists 24 = .ok (.aload_n 0, 1) := by decide +kernel
theorem dd_V_mendLists_25 : decode bb_V_mendLists 25 = .ok (.getfield 18, 3) := by decide +kernel
theorem dd_V_mendLists_28 : decode bb_V_mendLists 28 = .ok (.iload_n 2, 1) := by decide +kernel
theorem dd_V_mendLists_29 : decode bb_V_mendLists 29 = .ok (.aaload, 1) := by decide +kernel
theorem dd_V_mendLists_30 : decode bb_V_mendLists 30 = .ok (.aload_n 0, 1) := by decide +kernel
theorem dd_V_mendLists_31 : decode bb_V_mendLists 31 = .ok (.getfield 48, 3) := by decide +kernel
theorem dd_V_mendLists_34 : decode bb_V_mendLists 34 = .ok (.iload_n 3, 1) := by decide +kernel
theorem dd_V_mendLists_35 : decode bb_V_mendLists 35 = .ok (.invokevirtual 301, 3) := by decide +kernel
theorem dd_V_mendLists_38 : decode bb_V_mendLists 38 = .ok (.ifCond .ne 25, 3) := by decide +kernel
theorem dd_V_mendLists_41 : decode bb_V_mendLists 41 = .ok (.aload_n 0, 1) := by decide +kernel
theorem dd_V_mendLists_42 : decode bb_V_mendLists 42 = .ok (.getfield 18, 3) := by decide +kernel
theorem dd_V_mendLists_45 : decode bb_V_mendLists 45 = .ok (.iload_n 2, 1) := by decide +kernel
theorem dd_V_mendLists_46 : decode bb_V_mendLists 46 = .ok (.aaload, 1) := by decide +kernel
theorem dd_V_mendLists_47 : decode bb_V_mendLists 47 = .ok (.aload_n 0, 1) := by decide +kernel
theorem dd_V_mendLists_48 : decode bb_V_mendLists 48 = .ok (.getfield 48, 3) := by decide +kernel
theorem dd_V_mendLists_51 : decode bb_V_mendLists 51 = .ok (.iload_n 3, 1) := by decide +kernel
theorem dd_V_mendLists_52 : decode bb_V_mendLists 52 = .ok (.invokevirtual 305, 3) := by decide +kernel
theorem dd_V_mendLists_55 : decode bb_V_mendLists 55 = .ok (.aload_n 0, 1) := by decide +kernel
theorem dd_V_mendLists_56 : decode bb_V_mendLists 56 = .ok (.iload_n 2, 1) := by decide +kernel
theorem dd_V_mendLists_57 : decode bb_V_mendLists 57 = .ok (.invokevirtual 113, 3) := by decide +kernel
theorem dd_V_mendLists_60 : decode bb_V_mendLists 60 = .ok (.iinc 1 1, 3) := by decide +kernel
theorem dd_V_mendLists_63 : decode bb_V_mendLists 63 = .ok (.iinc 2 1, 3) := by decide +kernel
theorem dd_V_mendLists_66 : decode bb_V_mendLists 66 = .ok (.goto (-62), 3) := by decide +kernel
theorem dd_V_mendLists_69 : decode bb_V_mendLists 69 = .ok (.iload_n 1, 1) := by decide +kernel
theorem dd_V_mendLists_70 : decode bb_V_mendLists 70 = .ok (.ireturn, 1) := by decide +kernel
theorem dd_V_collectEntries_0 : decode bb_V_collectEntries 0 = .ok (.iconst 0, 1) := by decide +kernel
theorem dd_V_collectEntries_1 : decode bb_V_collectEntries 1 = .ok (.istore_n 2, 1) := by decide +kernel
theorem dd_V_collectEntries_2 : decode bb_V_collectEntries 2 = .ok (.iconst 1, 1) := by decide +kernel
theorem dd_V_collectEntries_3 : decode bb_V_collectEntries 3 = .ok (.istore_n 3, 1) := by decide +kernel
theorem dd_V_collectEntries_4 : decode bb_V_collectEntries 4 = .ok (.iload_n 3, 1) := by decide +kernel
theorem dd_V_collectEntries_5 : decode bb_V_collectEntries 5 = .ok (.bipush 12, 2) := by decide +kernel
theorem dd_V_collectEntries_7 : decode bb_V_collectEntries 7 = .ok (.if_icmp .ge 41, 3) := by decide +kernel
theorem dd_V_collectEntries_10 : decode bb_V_collectEntries 10 = .ok (.aload_n 0, 1) := by decide +kernel
theorem dd_V_collectEntries_11 : decode bb_V_collectEntries 11 = .ok (.iload_n 3, 1) := by decide +kernel
theorem dd_V_collectEntries_12 : decode bb_V_collectEntries 12 = .ok (.invokevirtual 170, 3) := by decide +kernel
theorem dd_V_collectEntries_15 : decode bb_V_collectEntries 15 = .ok (.ifCond .eq 27, 3) := by decide +kernel
theorem dd_V_collectEntries_18 : decode bb_V_collectEntries 18 = .ok (.aload_n 0, 1) := by decide +kernel
theorem dd_V_collectEntries_19 : decode bb_V_collectEntries 19 = .ok (.getfield 18, 3) := by decide +kernel
theorem dd_V_collectEntries_22 : decode bb_V_collectEntries 22 = .ok (.iload_n 3, 1) := by decide +kernel
theorem dd_V_collectEntries_23 : decode bb_V_collectEntries 23 = .ok (.aaload, 1) := by decide +kernel
theorem dd_V_collectEntries_24 : decode bb_V_collectEntries 24 = .ok (.getfield 173, 3) := by decide +kernel
theorem dd_V_collectEntries_27 : decode bb_V_collectEntries 27 = .ok (.iload_n 1, 1) := by decide +kernel
theorem dd_V_collectEntries_28 : decode bb_V_collectEntries 28 = .ok (.if_icmp .ne 14, 3) := by decide +kernel
theorem dd_V_collectEntries_31 : decode bb_V_collectEntries 31 = .ok (.aload_n 0, 1) := by decide +kernel
theorem dd_V_collectEntries_32 : decode bb_V_collectEntries 32 = .ok (.aload_n 0, 1) := by decide +kernel
theorem dd_V_collectEntries_33 : decode bb_V_collectEntries 33 = .ok (.getfield 48, 3) := by decide +kernel
theorem dd_V_collectEntries_36 : decode bb_V_collectEntries 36 = .ok (.iload_n 2, 1) := by decide +kernel
theorem dd_V_collectEntries_37 : decode bb_V_collectEntries 37 = .ok (.iload_n 3, 1) := by decide +kernel
theorem dd_V_collectEntries_38 : decode bb_V_collectEntries 38 = .ok (.invokevirtual 249, 3) := by decide +kernel
theorem dd_V_collectEntries_41 : decode bb_V_collectEntries 41 = .ok (.istore_n 2, 1) := by decide +kernel
theorem dd_V_collectEntries_42 : decode bb_V_collectEntries 42 = .ok (.iinc 3 1, 3) := by decide +kernel
theorem dd_V_collectEntries_45 : decode bb_V_collectEntries 45 = .ok (.goto (-41), 3) := by decide +kernel
theorem dd_V_collectEntries_48 : decode bb_V_collectEntries 48 = .ok (.iload_n 2, 1) := by decide +kernel
theorem dd_V_collectEntries_49 : decode bb_V_collectEntries 49 = .ok (.ireturn, 1) := by decide +kernel
theorem dd_V_noteTaken_0 : decode bb_V_noteTaken 0 = .ok (.iconst 0, 1) := by decide +kernel
theorem dd_V_noteTaken_1 : decode bb_V_noteTaken 1 = .ok (.istore_n 1, 1) := by decide +kernel
theorem dd_V_noteTaken_2 : decode bb_V_noteTaken 2 = .ok (.iload_n 1, 1) := by decide +kernel
theorem dd_V_noteTaken_3 : decode bb_V_noteTaken 3 = .ok (.sipush 128, 3) := by decide +kernel
theorem dd_V_noteTaken_6 : decode bb_V_noteTaken 6 = .ok (.if_icmp .ge 16, 3) := by decide +kernel
theorem dd_V_noteTaken_9 : decode bb_V_noteTaken 9 = .ok (.aload_n 0, 1) := by decide +kernel
theorem dd_V_noteTaken_10 : decode bb_V_noteTaken 10 = .ok (.getfield 23, 3) := by decide +kernel
theorem dd_V_noteTaken_13 : decode bb_V_noteTaken 13 = .ok (.iload_n 1, 1) := by decide +kernel
theorem dd_V_noteTaken_14 : decode bb_V_noteTaken 14 = .ok (.iconst 0, 1) := by decide +kernel
theorem dd_V_noteTaken_15 : decode bb_V_noteTaken 15 = .ok (.bastore, 1) := by decide +kernel
theorem dd_V_noteTaken_16 : decode bb_V_noteTaken 16 = .ok (.iinc 1 1, 3) := by decide +kernel
theorem dd_V_noteTaken_19 : decode bb_V_noteTaken 19 = .ok (.goto (-17), 3) := by decide +kernel
theorem dd_V_noteTaken_22 : decode bb_V_noteTaken 22 = .ok (.iconst 0, 1) := by decide +kernel
theorem dd_V_noteTaken_23 : decode bb_V_noteTaken 23 = .ok (.istore_n 1, 1) := by decide +kernel
theorem dd_V_noteTaken_24 : decode bb_V_noteTaken 24 = .ok (.iload_n 1, 1) := by decide +kernel
theorem dd_V_noteTaken_25 : decode bb_V_noteTaken 25 = .ok (.bipush 12, 2) := by decide +kernel
theorem dd_V_noteTaken_27 : decode bb_V_noteTaken 27 = .ok (.if_icmp .ge 59, 3) := by decide +kernel
theorem dd_V_noteTaken_30 : decode bb_V_noteTaken 30 = .ok (.aload_n 0, 1) := by decide +kernel
theorem dd_V_noteTaken_31 : decode bb_V_noteTaken 31 = .ok (.getfield 18, 3) := by decide +kernel
theorem dd_V_noteTaken_34 : decode bb_V_noteTaken 34 = .ok (.iload_n 1, 1) := by decide +kernel
theorem dd_V_noteTaken_35 : decode bb_V_noteTaken 35 = .ok (.aaload, 1) := by decide +kernel
theorem dd_V_noteTaken_36 : decode bb_V_noteTaken 36 = .ok (.getfield 152, 3) := by decide +kernel
theorem dd_V_noteTaken_39 : decode bb_V_noteTaken 39 = .ok (.astore_n 2, 1) := by decide +kernel
theorem dd_V_noteTaken_40 : decode bb_V_noteTaken 40 = .ok (.iconst 0, 1) := by decide +kernel
theorem dd_V_noteTaken_41 : decode bb_V_noteTaken 41 = .ok (.istore_n 3, 1) := by decide +kernel
theorem dd_V_noteTaken_42 : decode bb_V_noteTaken 42 = .ok (.iload_n 3, 1) := by decide +kernel
theorem dd_V_noteTaken_43 : decode bb_V_noteTaken 43 = .ok (.aload_n 2, 1) := by decide +kernel
theorem dd_V_noteTaken_44 : decode bb_V_noteTaken 44 = .ok (.getfield 262, 3) := by decide +kernel
theorem dd_V_noteTaken_47 : decode bb_V_noteTaken 47 = .ok (.if_icmp .ge 33, 3) := by decide +kernel
theorem dd_V_noteTaken_50 : decode bb_V_noteTaken 50 = .ok (.aload_n 2, 1) := by decide +kernel
theorem dd_V_noteTaken_51 : decode bb_V_noteTaken 51 = .ok (.getfield 286, 3) := by decide +kernel
theorem dd_V_noteTaken_54 : decode bb_V_noteTaken 54 = .ok (.iload_n 3, 1) := by decide +kernel
theorem dd_V_noteTaken_55 : decode bb_V_noteTaken 55 = .ok (.iaload, 1) := by decide +kernel
theorem dd_V_noteTaken_56 : decode bb_V_noteTaken 56 = .ok (.invokestatic 289, 3) := by decide +kernel
theorem dd_V_noteTaken_59 : decode bb_V_noteTaken 59 = .ok (.ifCond .eq 15, 3) := by decide +kernel
theorem dd_V_noteTaken_62 : decode bb_V_noteTaken 62 = .ok (.aload_n 0, 1) := by decide +kernel
theorem dd_V_noteTaken_63 : decode bb_V_noteTaken 63 = .ok (.getfield 23, 3) := by decide +kernel
theorem dd_V_noteTaken_66 : decode bb_V_noteTaken 66 = .ok (.aload_n 2, 1) := by decide +kernel
theorem dd_V_noteTaken_67 : decode bb_V_noteTaken 67 = .ok (.getfield 286, 3) := by decide +kernel
theorem dd_V_noteTaken_70 : decode bb_V_noteTaken 70 = .ok (.iload_n 3, 1) := by decide +kernel
theorem dd_V_noteTaken_71 : decode bb_V_noteTaken 71 = .ok (.iaload, 1) := by decide +kernel
theorem dd_V_noteTaken_72 : decode bb_V_noteTaken 72 = .ok (.iconst 1, 1) := by decide +kernel
theorem dd_V_noteTaken_73 : decode bb_V_noteTaken 73 = .ok (.bastore, 1) := by decide +kernel
theorem dd_V_noteTaken_74 : decode bb_V_noteTaken 74 = .ok (.iinc 3 1, 3) := by decide +kernel
theorem dd_V_noteTaken_77 : decode bb_V_noteTaken 77 = .ok (.goto (-35), 3) := by decide +kernel
theorem dd_V_noteTaken_80 : decode bb_V_noteTaken 80 = .ok (.iinc 1 1, 3) := by decide +kernel
theorem dd_V_noteTaken_83 : decode bb_V_noteTaken 83 = .ok (.goto (-59), 3) := by decide +kernel
theorem dd_V_noteTaken_86 : decode bb_V_noteTaken 86 = .ok (.return_, 1) := by decide +kernel
theorem dd_V_isDataCluster_0 : decode bb_V_isDataCluster 0 = .ok (.iload_n 0, 1) := by decide +kernel
theorem dd_V_isDataCluster_1 : decode bb_V_isDataCluster 1 = .ok (.bipush 48, 2) := by decide +kernel
theorem dd_V_isDataCluster_3 : decode bb_V_isDataCluster 3 = .ok (.if_icmp .lt 14, 3) := by decide +kernel
theorem dd_V_isDataCluster_6 : decode bb_V_isDataCluster 6 = .ok (.iload_n 0, 1) := by decide +kernel
theorem dd_V_isDataCluster_7 : decode bb_V_isDataCluster 7 = .ok (.sipush 128, 3) := by decide +kernel
theorem dd_V_isDataCluster_10 : decode bb_V_isDataCluster 10 = .ok (.if_icmp .ge 7, 3) := by decide +kernel
theorem dd_V_isDataCluster_13 : decode bb_V_isDataCluster 13 = .ok (.iconst 1, 1) := by decide +kernel
theorem dd_V_isDataCluster_14 : decode bb_V_isDataCluster 14 = .ok (.goto 4, 3) := by decide +kernel
theorem dd_V_isDataCluster_17 : decode bb_V_isDataCluster 17 = .ok (.iconst 0, 1) := by decide +kernel
theorem dd_V_isDataCluster_18 : decode bb_V_isDataCluster 18 = .ok (.ireturn, 1) := by decide +kernel
theorem dd_V_clustersFor_0 : decode bb_V_clustersFor 0 = .ok (.iload_n 0, 1) := by decide +kernel
theorem dd_V_clustersFor_1 : decode bb_V_clustersFor 1 = .ok (.bipush 16, 2) := by decide +kernel
theorem dd_V_clustersFor_3 : decode bb_V_clustersFor 3 = .ok (.iadd, 1) := by decide +kernel
theorem dd_V_clustersFor_4 : decode bb_V_clustersFor 4 = .ok (.iconst 1, 1) := by decide +kernel
theorem dd_V_clustersFor_5 : decode bb_V_clustersFor 5 = .ok (.isub, 1) := by decide +kernel
theorem dd_V_clustersFor_6 : decode bb_V_clustersFor 6 = .ok (.bipush 16, 2) := by decide +kernel
theorem dd_V_clustersFor_8 : decode bb_V_clustersFor 8 = .ok (.idiv, 1) := by decide +kernel
theorem dd_V_clustersFor_9 : decode bb_V_clustersFor 9 = .ok (.ireturn, 1) := by decide +kernel
theorem dd_V_endOfLastCluster_0 : decode bb_V_endOfLastCluster 0 = .ok (.iload_n 0, 1) := by decide +kernel
theorem dd_V_endOfLastCluster_1 : decode bb_V_endOfLastCluster 1 = .ok (.invokestatic 155, 3) := by decide +kernel
theorem dd_V_endOfLastCluster_4 : decode bb_V_endOfLastCluster 4 = .ok (.bipush 16, 2) := by decide +kernel
theorem dd_V_endOfLastCluster_6 : decode bb_V_endOfLastCluster 6 = .ok (.imul, 1) := by decide +kernel
theorem dd_V_endOfLastCluster_7 : decode bb_V_endOfLastCluster 7 = .ok (.ireturn, 1) := by decide +kernel
theorem dd_V_wordAt_0 : decode bb_V_wordAt 0 = .ok (.aload_n 0, 1) := by decide +kernel
theorem dd_V_wordAt_1 : decode bb_V_wordAt 1 = .ok (.iload_n 1, 1) := by decide +kernel
theorem dd_V_wordAt_2 : decode bb_V_wordAt 2 = .ok (.iaload, 1) := by decide +kernel
theorem dd_V_wordAt_3 : decode bb_V_wordAt 3 = .ok (.sipush 256, 3) := by decide +kernel
theorem dd_V_wordAt_6 : decode bb_V_wordAt 6 = .ok (.aload_n 0, 1) := by decide +kernel
theorem dd_V_wordAt_7 : decode bb_V_wordAt 7 = .ok (.iload_n 1, 1) := by decide +kernel
theorem dd_V_wordAt_8 : decode bb_V_wordAt 8 = .ok (.iconst 1, 1) := by decide +kernel
theorem dd_V_wordAt_9 : decode bb_V_wordAt 9 = .ok (.iadd, 1) := by decide +kernel
theorem dd_V_wordAt_10 : decode bb_V_wordAt 10 = .ok (.iaload, 1) := by decide +kernel
theorem dd_V_wordAt_11 : decode bb_V_wordAt 11 = .ok (.imul, 1) := by decide +kernel
theorem dd_V_wordAt_12 : decode bb_V_wordAt 12 = .ok (.iadd, 1) := by decide +kernel
theorem dd_V_wordAt_13 : decode bb_V_wordAt 13 = .ok (.ireturn, 1) := by decide +kernel
theorem dd_V_putWord_0 : decode bb_V_putWord 0 = .ok (.aload_n 0, 1) := by decide +kernel
theorem dd_V_putWord_1 : decode bb_V_putWord 1 = .ok (.iload_n 1, 1) := by decide +kernel
theorem dd_V_putWord_2 : decode bb_V_putWord 2 = .ok (.iload_n 2, 1) := by decide +kernel
theorem dd_V_putWord_3 : decode bb_V_putWord 3 = .ok (.sipush 255, 3) := by decide +kernel
theorem dd_V_putWord_6 : decode bb_V_putWord 6 = .ok (.iand, 1) := by decide +kernel
theorem dd_V_putWord_7 : decode bb_V_putWord 7 = .ok (.iastore, 1) := by decide +kernel
theorem dd_V_putWord_8 : decode bb_V_putWord 8 = .ok (.aload_n 0, 1) := by decide +kernel
theorem dd_V_putWord_9 : decode bb_V_putWord 9 = .ok (.iload_n 1, 1) := by decide +kernel
theorem dd_V_putWord_10 : decode bb_V_putWord 10 = .ok (.iconst 1, 1) := by decide +kernel
theorem dd_V_putWord_11 : decode bb_V_putWord 11 = .ok (.iadd, 1) := by decide +kernel
theorem dd_V_putWord_12 : decode bb_V_putWord 12 = .ok (.iload_n 2, 1) := by decide +kernel
theorem dd_V_putWord_13 : decode bb_V_putWord 13 = .ok (.bipush 8, 2) := by decide +kernel
theorem dd_V_putWord_15 : decode bb_V_putWord 15 = .ok (.ishr, 1) := by decide +kernel
theorem dd_V_putWord_16 : decode bb_V_putWord 16 = .ok (.sipush 255, 3) := by decide +kernel
theorem dd_V_putWord_19 : decode bb_V_putWord 19 = .ok (.iand, 1) := by decide +kernel
theorem dd_V_putWord_20 : decode bb_V_putWord 20 = .ok (.iastore, 1) := by decide +kernel
theorem dd_V_putWord_21 : decode bb_V_putWord 21 = .ok (.return_, 1) := by decide +kernel
theorem dd_M_init_0 : decode bb_M_init 0 = .ok (.aload_n 0, 1) := by decide +kernel
theorem dd_M_init_1 : decode bb_M_init 1 = .ok (.invokespecial 1, 3) := by decide +kernel
theorem dd_M_init_4 : decode bb_M_init 4 = .ok (.aload_n 0, 1) := by decide +kernel
theorem dd_M_init_5 : decode bb_M_init 5 = .ok (.sipush 2048, 3) := by decide +kernel
theorem dd_M_init_8 : decode bb_M_init 8 = .ok (.newarray .int, 2) := by decide +kernel
theorem dd_M_init_10 : decode bb_M_init 10 = .ok (.putfield 7, 3) := by decide +kernel
theorem dd_M_init_13 : decode bb_M_init 13 = .ok (.aload_n 0, 1) := by decide +kernel
theorem dd_M_init_14 : decode bb_M_init 14 = .ok (.bipush 12, 2) := by decide +kernel
theorem dd_M_init_16 : decode bb_M_init 16 = .ok (.newarray .boolean, 2) := by decide +kernel
theorem dd_M_init_18 : decode bb_M_init 18 = .ok (.putfield 13, 3) := by decide +kernel
theorem dd_M_init_21 : decode bb_M_init 21 = .ok (.aload_n 0, 1) := by decide +kernel
theorem dd_M_init_22 : decode bb_M_init 22 = .ok (.sipush 128, 3) := by decide +kernel
theorem dd_M_init_25 : decode bb_M_init 25 = .ok (.newarray .boolean, 2) := by decide +kernel
theorem dd_M_init_27 : decode bb_M_init 27 = .ok (.putfield 17, 3) := by decide +kernel
theorem dd_M_init_30 : decode bb_M_init 30 = .ok (.aload_n 0, 1) := by decide +kernel
theorem dd_M_init_31 : decode bb_M_init 31 = .ok (.bipush 8, 2) := by decide +kernel
theorem dd_M_init_33 : decode bb_M_init 33 = .ok (.newarray .char, 2) := by decide +kernel
theorem dd_M_init_35 : decode bb_M_init 35 = .ok (.putfield 20, 3) := by decide +kernel
theorem dd_M_init_38 : decode bb_M_init 38 = .ok (.aload_n 0, 1) := by decide +kernel
theorem dd_M_init_39 : decode bb_M_init 39 = .ok (.bipush 64, 2) := by decide +kernel
theorem dd_M_init_41 : decode bb_M_init 41 = .ok (.newarray .int, 2) := by decide +kernel
theorem dd_M_init_43 : decode bb_M_init 43 = .ok (.putfield 24, 3) := by decide +kernel
theorem dd_M_init_46 : decode bb_M_init 46 = .ok (.aload_n 0, 1) := by decide +kernel
theorem dd_M_init_47 : decode bb_M_init 47 = .ok (.bipush 64, 2) := by decide +kernel
theorem dd_M_init_49 : decode bb_M_init 49 = .ok (.newarray .int, 2) := by decide +kernel
theorem dd_M_init_51 : decode bb_M_init 51 = .ok (.putfield 27, 3) := by decide +kernel
theorem dd_M_init_54 : decode bb_M_init 54 = .ok (.aload_n 0, 1) := by decide +kernel
theorem dd_M_init_55 : decode bb_M_init 55 = .ok (.bipush 64, 2) := by decide +kernel
theorem dd_M_init_57 : decode bb_M_init 57 = .ok (.newarray .boolean, 2) := by decide +kernel
theorem dd_M_init_59 : decode bb_M_init 59 = .ok (.putfield 30, 3) := by decide +kernel
theorem dd_M_init_62 : decode bb_M_init 62 = .ok (.aload_n 0, 1) := by decide +kernel
theorem dd_M_init_63 : decode bb_M_init 63 = .ok (.bipush 64, 2) := by decide +kernel
theorem dd_M_init_65 : decode bb_M_init 65 = .ok (.newarray .int, 2) := by decide +kernel
theorem dd_M_init_67 : decode bb_M_init 67 = .ok (.putfield 33, 3) := by decide +kernel
theorem dd_M_init_70 : decode bb_M_init 70 = .ok (.aload_n 0, 1) := by decide +kernel
theorem dd_M_init_71 : decode bb_M_init 71 = .ok (.bipush 12, 2) := by decide +kernel
theorem dd_M_init_73 : decode bb_M_init 73 = .ok (.newarray .int, 2) := by decide +kernel
theorem dd_M_init_75 : decode bb_M_init 75 = .ok (.putfield 36, 3) := by decide +kernel
theorem dd_M_init_78 : decode bb_M_init 78 = .ok (.iconst 0, 1) := by decide +kernel
theorem dd_M_init_79 : decode bb_M_init 79 = .ok (.istore_n 1, 1) := by decide +kernel
theorem dd_M_init_80 : decode bb_M_init 80 = .ok (.iload_n 1, 1) := by decide +kernel
theorem dd_M_init_81 : decode bb_M_init 81 = .ok (.bipush 12, 2) := by decide +kernel
theorem dd_M_init_83 : decode bb_M_init 83 = .ok (.if_icmp .ge 16, 3) := by decide +kernel
theorem dd_M_init_86 : decode bb_M_init 86 = .ok (.aload_n 0, 1) := by decide +kernel
theorem dd_M_init_87 : decode bb_M_init 87 = .ok (.getfield 13, 3) := by decide +kernel
theorem dd_M_init_90 : decode bb_M_init 90 = .ok (.iload_n 1, 1) := by decide +kernel
theorem dd_M_init_91 : decode bb_M_init 91 = .ok (.iconst 0, 1) := by decide +kernel
theorem dd_M_init_92 : decode bb_M_init 92 = .ok (.bastore, 1) := by decide +kernel
theorem dd_M_init_93 : decode bb_M_init 93 = .ok (.iinc 1 1, 3) := by decide +kernel
theorem dd_M_init_96 : decode bb_M_init 96 = .ok (.goto (-16), 3) := by decide +kernel
theorem dd_M_init_99 : decode bb_M_init 99 = .ok (.aload_n 0, 1) := by decide +kernel
theorem dd_M_init_100 : decode bb_M_init 100 = .ok (.iconst 2, 1) := by decide +kernel
theorem dd_M_init_101 : decode bb_M_init 101 = .ok (.iconst 0, 1) := by decide +kernel
theorem dd_M_init_102 : decode bb_M_init 102 = .ok (.invokevirtual 39, 3) := by decide +kernel
theorem dd_M_init_105 : decode bb_M_init 105 = .ok (.aload_n 0, 1) := by decide +kernel
theorem dd_M_init_106 : decode bb_M_init 106 = .ok (.invokevirtual 43, 3) := by decide +kernel
theorem dd_M_init_109 : decode bb_M_init 109 = .ok (.aload_n 0, 1) := by decide +kernel
theorem dd_M_init_110 : decode bb_M_init 110 = .ok (.iconst 0, 1) := by decide +kernel
theorem dd_M_init_111 : decode bb_M_init 111 = .ok (.invokevirtual 46, 3) := by decide +kernel
theorem dd_M_init_114 : decode bb_M_init 114 = .ok (.pop, 1) := by decide +kernel
theorem dd_M_init_115 : decode bb_M_init 115 = .ok (.aload_n 0, 1) := by decide +kernel
theorem dd_M_init_116 : decode bb_M_init 116 = .ok (.iconst 1, 1) := by decide +kernel
theorem dd_M_init_117 : decode bb_M_init 117 = .ok (.putfield 50, 3) := by decide +kernel
theorem dd_M_init_120 : decode bb_M_init 120 = .ok (.return_, 1) := by decide +kernel
theorem dd_M_thrown_0 : decode bb_M_thrown 0 = .ok (.aload_n 0, 1) := by decide +kernel
theorem dd_M_thrown_1 : decode bb_M_thrown 1 = .ok (.getfield 54, 3) := by decide +kernel
theorem dd_M_thrown_4 : decode bb_M_thrown 4 = .ok (.ireturn, 1) := by decide +kernel
theorem dd_M_refuse_0 : decode bb_M_refuse 0 = .ok (.aload_n 0, 1) := by decide +kernel
theorem dd_M_refuse_1 : decode bb_M_refuse 1 = .ok (.iload_n 1, 1) := by decide +kernel
theorem dd_M_refuse_2 : decode bb_M_refuse 2 = .ok (.putfield 54, 3) := by decide +kernel
theorem dd_M_refuse_5 : decode bb_M_refuse 5 = .ok (.iconst 0, 1) := by decide +kernel
theorem dd_M_refuse_6 : decode bb_M_refuse 6 = .ok (.ireturn, 1) := by decide +kernel
end
section
theorem dd_M_byteOf_0 : decode bb_M_byteOf 0 = .ok (.bipush 64, 2) := by decide +kernel
theorem dd_M_byteOf_2 : decode bb_M_byteOf 2 = .ok (.iload_n 1, 1) := by decide +kernel
theorem dd_M_byteOf_3 : decode bb_M_byteOf 3 = .ok (.imul, 1) := by decide +kernel
theorem dd_M_byteOf_4 : decode bb_M_byteOf 4 = .ok (.istore_n 3, 1) := by decide +kernel
theorem dd_M_byteOf_5 : decode bb_M_byteOf 5 = .ok (.iload_n 2, 1) := by decide +kernel
theorem dd_M_byteOf_6 : decode bb_M_byteOf 6 = .ok (.bipush 30, 2) := by decide +kernel
theorem dd_M_byteOf_8 : decode bb_M_byteOf 8 = .ok (.if_icmp .eq 9, 3) := by decide +kernel
theorem dd_M_byteOf_11 : decode bb_M_byteOf 11 = .ok (.iload_n 2, 1) := by decide +kernel
theorem dd_M_byteOf_12 : decode bb_M_byteOf 12 = .ok (.bipush 31, 2) := by decide +kernel
theorem dd_M_byteOf_14 : decode bb_M_byteOf 14 = .ok (.if_icmp .ne 15, 3) := by decide +kernel
theorem dd_M_byteOf_17 : decode bb_M_byteOf 17 = .ok (.aload_n 0, 1) := by decide +kernel
theorem dd_M_byteOf_18 : decode bb_M_byteOf 18 = .ok (.getfield 7, 3) := by decide +kernel
theorem dd_M_byteOf_21 : decode bb_M_byteOf 21 = .ok (.iload_n 3, 1) := by decide +kernel
theorem dd_M_byteOf_22 : decode bb_M_byteOf 22 = .ok (.iload_n 2, 1) := by decide +kernel
theorem dd_M_byteOf_23 : decode bb_M_byteOf 23 = .ok (.iadd, 1) := by decide +kernel
theorem dd_M_byteOf_24 : decode bb_M_byteOf 24 = .ok (.bipush 26, 2) := by decide +kernel
theorem dd_M_byteOf_26 : decode bb_M_byteOf 26 = .ok (.isub, 1) := by decide +kernel
theorem dd_M_byteOf_27 : decode bb_M_byteOf 27 = .ok (.iaload, 1) := by decide +kernel
theorem dd_M_byteOf_28 : decode bb_M_byteOf 28 = .ok (.ireturn, 1) := by decide +kernel
theorem dd_M_byteOf_29 : decode bb_M_byteOf 29 = .ok (.iload_n 2, 1) := by decide +kernel
theorem dd_M_byteOf_30 : decode bb_M_byteOf 30 = .ok (.bipush 62, 2) := by decide +kernel
theorem dd_M_byteOf_32 : decode bb_M_byteOf 32 = .ok (.if_icmp .eq 9, 3) := by decide +kernel
theorem dd_M_byteOf_35 : decode bb_M_byteOf 35 = .ok (.iload_n 2, 1) := by decide +kernel
theorem dd_M_byteOf_36 : decode bb_M_byteOf 36 = .ok (.bipush 63, 2) := by decide +kernel
theorem dd_M_byteOf_38 : decode bb_M_byteOf 38 = .ok (.if_icmp .ne 15, 3) := by decide +kernel
theorem dd_M_byteOf_41 : decode bb_M_byteOf 41 = .ok (.aload_n 0, 1) := by decide +kernel
theorem dd_M_byteOf_42 : decode bb_M_byteOf 42 = .ok (.getfield 7, 3) := by decide +kernel
theorem dd_M_byteOf_45 : decode bb_M_byteOf 45 = .ok (.iload_n 3, 1) := by decide +kernel
theorem dd_M_byteOf_46 : decode bb_M_byteOf 46 = .ok (.iload_n 2, 1) := by decide +kernel
theorem dd_M_byteOf_47 : decode bb_M_byteOf 47 = .ok (.iadd, 1) := by decide +kernel
theorem dd_M_byteOf_48 : decode bb_M_byteOf 48 = .ok (.bipush 56, 2) := by decide +kernel
theorem dd_M_byteOf_50 : decode bb_M_byteOf 50 = .ok (.isub, 1) := by decide +kernel
theorem dd_M_byteOf_51 : decode bb_M_byteOf 51 = .ok (.iaload, 1) := by decide +kernel
theorem dd_M_byteOf_52 : decode bb_M_byteOf 52 = .ok (.ireturn, 1) := by decide +kernel
theorem dd_M_byteOf_53 : decode bb_M_byteOf 53 = .ok (.iload_n 2, 1) := by decide +kernel
theorem dd_M_byteOf_54 : decode bb_M_byteOf 54 = .ok (.iconst 3, 1) := by decide +kernel
theorem dd_M_byteOf_55 : decode bb_M_byteOf 55 = .ok (.if_icmp .le 13, 3) := by decide +kernel
theorem dd_M_byteOf_58 : decode bb_M_byteOf 58 = .ok (.iload_n 2, 1) := by decide +kernel
theorem dd_M_byteOf_59 : decode bb_M_byteOf 59 = .ok (.bipush 8, 2) := by decide +kernel
theorem dd_M_byteOf_61 : decode bb_M_byteOf 61 = .ok (.if_icmp .ge 7, 3) := by decide +kernel
theorem dd_M_byteOf_64 : decode bb_M_byteOf 64 = .ok (.iconst 0, 1) := by decide +kernel
theorem dd_M_byteOf_65 : decode bb_M_byteOf 65 = .ok (.goto 11, 3) := by decide +kernel
theorem dd_M_byteOf_68 : decode bb_M_byteOf 68 = .ok (.aload_n 0, 1) := by decide +kernel
theorem dd_M_byteOf_69 : decode bb_M_byteOf 69 = .ok (.getfield 7, 3) := by decide +kernel
theorem dd_M_byteOf_72 : decode bb_M_byteOf 72 = .ok (.iload_n 3, 1) := by decide +kernel
theorem dd_M_byteOf_73 : decode bb_M_byteOf 73 = .ok (.iload_n 2, 1) := by decide +kernel
theorem dd_M_byteOf_74 : decode bb_M_byteOf 74 = .ok (.iadd, 1) := by decide +kernel
theorem dd_M_byteOf_75 : decode bb_M_byteOf 75 = .ok (.iaload, 1) := by decide +kernel
theorem dd_M_byteOf_76 : decode bb_M_byteOf 76 = .ok (.ireturn, 1) := by decide +kernel
theorem dd_M_wordAt_0 : decode bb_M_wordAt 0 = .ok (.aload_n 0, 1) := by decide +kernel
theorem dd_M_wordAt_1 : decode bb_M_wordAt 1 = .ok (.getfield 7, 3) := by decide +kernel
theorem dd_M_wordAt_4 : decode bb_M_wordAt 4 = .ok (.iload_n 1, 1) := by decide +kernel
theorem dd_M_wordAt_5 : decode bb_M_wordAt 5 = .ok (.iaload, 1) := by decide +kernel
theorem dd_M_wordAt_6 : decode bb_M_wordAt 6 = .ok (.sipush 256, 3) := by decide +kernel
theorem dd_M_wordAt_9 : decode bb_M_wordAt 9 = .ok (.aload_n 0, 1) := by decide +kernel
theorem dd_M_wordAt_10 : decode bb_M_wordAt 10 = .ok (.getfield 7, 3) := by decide +kernel
theorem dd_M_wordAt_13 : decode bb_M_wordAt 13 = .ok (.iload_n 1, 1) := by decide +kernel
theorem dd_M_wordAt_14 : decode bb_M_wordAt 14 = .ok (.iconst 1, 1) := by decide +kernel
theorem dd_M_wordAt_15 : decode bb_M_wordAt 15 = .ok (.iadd, 1) := by decide +kernel
theorem dd_M_wordAt_16 : decode bb_M_wordAt 16 = .ok (.iaload, 1) := by decide +kernel
theorem dd_M_wordAt_17 : decode bb_M_wordAt 17 = .ok (.imul, 1) := by decide +kernel
theorem dd_M_wordAt_18 : decode bb_M_wordAt 18 = .ok (.iadd, 1) := by decide +kernel
theorem dd_M_wordAt_19 : decode bb_M_wordAt 19 = .ok (.ireturn, 1) := by decide +kernel
theorem dd_M_isTorn_0 : decode bb_M_isTorn 0 = .ok (.aload_n 0, 1) := by decide +kernel
theorem dd_M_isTorn_1 : decode bb_M_isTorn 1 = .ok (.bipush 64, 2) := by decide +kernel
theorem dd_M_isTorn_3 : decode bb_M_isTorn 3 = .ok (.iload_n 1, 1) := by decide +kernel
theorem dd_M_isTorn_4 : decode bb_M_isTorn 4 = .ok (.imul, 1) := by decide +kernel
theorem dd_M_isTorn_5 : decode bb_M_isTorn 5 = .ok (.iconst 2, 1) := by decide +kernel
theorem dd_M_isTorn_6 : decode bb_M_isTorn 6 = .ok (.iadd, 1) := by decide +kernel
theorem dd_M_isTorn_7 : decode bb_M_isTorn 7 = .ok (.invokevirtual 58, 3) := by decide +kernel
theorem dd_M_isTorn_10 : decode bb_M_isTorn 10 = .ok (.istore_n 2, 1) := by decide +kernel
theorem dd_M_isTorn_11 : decode bb_M_isTorn 11 = .ok (.aload_n 0, 1) := by decide +kernel
theorem dd_M_isTorn_12 : decode bb_M_isTorn 12 = .ok (.bipush 64, 2) := by decide +kernel
theorem dd_M_isTorn_14 : decode bb_M_isTorn 14 = .ok (.iload_n 1, 1) := by decide +kernel
theorem dd_M_isTorn_15 : decode bb_M_isTorn 15 = .ok (.imul, 1) := by decide +kernel
theorem dd_M_isTorn_16 : decode bb_M_isTorn 16 = .ok (.bipush 30, 2) := by decide +kernel
theorem dd_M_isTorn_18 : decode bb_M_isTorn 18 = .ok (.iadd, 1) := by decide +kernel
theorem dd_M_isTorn_19 : decode bb_M_isTorn 19 = .ok (.invokevirtual 58, 3) := by decide +kernel
theorem dd_M_isTorn_22 : decode bb_M_isTorn 22 = .ok (.iload_n 2, 1) := by decide +kernel
theorem dd_M_isTorn_23 : decode bb_M_isTorn 23 = .ok (.if_icmp .ne 18, 3) := by decide +kernel
theorem dd_M_isTorn_26 : decode bb_M_isTorn 26 = .ok (.aload_n 0, 1) := by decide +kernel
theorem dd_M_isTorn_27 : decode bb_M_isTorn 27 = .ok (.bipush 64, 2) := by decide +kernel
theorem dd_M_isTorn_29 : decode bb_M_isTorn 29 = .ok (.iload_n 1, 1) := by decide +kernel
theorem dd_M_isTorn_30 : decode bb_M_isTorn 30 = .ok (.imul, 1) := by decide +kernel
theorem dd_M_isTorn_31 : decode bb_M_isTorn 31 = .ok (.bipush 62, 2) := by decide +kernel
theorem dd_M_isTorn_33 : decode bb_M_isTorn 33 = .ok (.iadd, 1) := by decide +kernel
theorem dd_M_isTorn_34 : decode bb_M_isTorn 34 = .ok (.invokevirtual 58, 3) := by decide +kernel
theorem dd_M_isTorn_37 : decode bb_M_isTorn 37 = .ok (.iload_n 2, 1) := by decide +kernel
theorem dd_M_isTorn_38 : decode bb_M_isTorn 38 = .ok (.if_icmp .eq 7, 3) := by decide +kernel
theorem dd_M_isTorn_41 : decode bb_M_isTorn 41 = .ok (.iconst 1, 1) := by decide +kernel
theorem dd_M_isTorn_42 : decode bb_M_isTorn 42 = .ok (.goto 4, 3) := by decide +kernel
theorem dd_M_isTorn_45 : decode bb_M_isTorn 45 = .ok (.iconst 0, 1) := by decide +kernel
theorem dd_M_isTorn_46 : decode bb_M_isTorn 46 = .ok (.ireturn, 1) := by decide +kernel
theorem dd_M_isRecord_0 : decode bb_M_isRecord 0 = .ok (.aload_n 0, 1) := by decide +kernel
theorem dd_M_isRecord_1 : decode bb_M_isRecord 1 = .ok (.getfield 50, 3) := by decide +kernel
theorem dd_M_isRecord_4 : decode bb_M_isRecord 4 = .ok (.ifCond .eq 26, 3) := by decide +kernel
theorem dd_M_isRecord_7 : decode bb_M_isRecord 7 = .ok (.iload_n 1, 1) := by decide +kernel
theorem dd_M_isRecord_8 : decode bb_M_isRecord 8 = .ok (.ifCond .lt 22, 3) := by decide +kernel
theorem dd_M_isRecord_11 : decode bb_M_isRecord 11 = .ok (.iload_n 1, 1) := by decide +kernel
theorem dd_M_isRecord_12 : decode bb_M_isRecord 12 = .ok (.bipush 12, 2) := by decide +kernel
theorem dd_M_isRecord_14 : decode bb_M_isRecord 14 = .ok (.if_icmp .ge 16, 3) := by decide +kernel
theorem dd_M_isRecord_17 : decode bb_M_isRecord 17 = .ok (.aload_n 0, 1) := by decide +kernel
theorem dd_M_isRecord_18 : decode bb_M_isRecord 18 = .ok (.getfield 13, 3) := by decide +kernel
theorem dd_M_isRecord_21 : decode bb_M_isRecord 21 = .ok (.iload_n 1, 1) := by decide +kernel
theorem dd_M_isRecord_22 : decode bb_M_isRecord 22 = .ok (.baload, 1) := by decide +kernel
theorem dd_M_isRecord_23 : decode bb_M_isRecord 23 = .ok (.ifCond .eq 7, 3) := by decide +kernel
theorem dd_M_isRecord_26 : decode bb_M_isRecord 26 = .ok (.iconst 1, 1) := by decide +kernel
theorem dd_M_isRecord_27 : decode bb_M_isRecord 27 = .ok (.goto 4, 3) := by decide +kernel
theorem dd_M_isRecord_30 : decode bb_M_isRecord 30 = .ok (.iconst 0, 1) := by decide +kernel
theorem dd_M_isRecord_31 : decode bb_M_isRecord 31 = .ok (.ireturn, 1) := by decide +kernel
theorem dd_M_isKind_0 : decode bb_M_isKind 0 = .ok (.aload_n 0, 1) := by decide +kernel
theorem dd_M_isKind_1 : decode bb_M_isKind 1 = .ok (.iload_n 1, 1) := by decide +kernel
theorem dd_M_isKind_2 : decode bb_M_isKind 2 = .ok (.invokevirtual 62, 3) := by decide +kernel
theorem dd_M_isKind_5 : decode bb_M_isKind 5 = .ok (.ifCond .eq 17, 3) := by decide +kernel
theorem dd_M_isKind_8 : decode bb_M_isKind 8 = .ok (.aload_n 0, 1) := by decide +kernel
theorem dd_M_isKind_9 : decode bb_M_isKind 9 = .ok (.iload_n 1, 1) := by decide +kernel
theorem dd_M_isKind_10 : decode bb_M_isKind 10 = .ok (.iconst 0, 1) := by decide +kernel
theorem dd_M_isKind_11 : decode bb_M_isKind 11 = .ok (.invokevirtual 65, 3) := by decide +kernel
theorem dd_M_isKind_14 : decode bb_M_isKind 14 = .ok (.iload_n 2, 1) := by decide +kernel
theorem dd_M_isKind_15 : decode bb_M_isKind 15 = .ok (.if_icmp .ne 7, 3) := by decide +kernel
theorem dd_M_isKind_18 : decode bb_M_isKind 18 = .ok (.iconst 1, 1) := by decide +kernel
theorem dd_M_isKind_19 : decode bb_M_isKind 19 = .ok (.goto 4, 3) := by decide +kernel
theorem dd_M_isKind_22 : decode bb_M_isKind 22 = .ok (.iconst 0, 1) := by decide +kernel
theorem dd_M_isKind_23 : decode bb_M_isKind 23 = .ok (.ireturn, 1) := by decide +kernel
theorem dd_M_attribute_0 : decode bb_M_attribute 0 = .ok (.bipush 10, 2) := by decide +kernel
theorem dd_M_attribute_2 : decode bb_M_attribute 2 = .ok (.istore_n 3, 1) := by decide +kernel
theorem dd_M_attribute_3 : decode bb_M_attribute 3 = .ok (.bipush 10, 2) := by decide +kernel
theorem dd_M_attribute_5 : decode bb_M_attribute 5 = .ok (.aload_n 0, 1) := by decide +kernel
theorem dd_M_attribute_6 : decode bb_M_attribute 6 = .ok (.iload_n 1, 1) := by decide +kernel
theorem dd_M_attribute_7 : decode bb_M_attribute 7 = .ok (.bipush 8, 2) := by decide +kernel
theorem dd_M_attribute_9 : decode bb_M_attribute 9 = .ok (.invokevirtual 65, 3) := by decide +kernel
theorem dd_M_attribute_12 : decode bb_M_attribute 12 = .ok (.iadd, 1) := by decide +kernel
theorem dd_M_attribute_13 : decode bb_M_attribute 13 = .ok (.istore 4, 2) := by decide +kernel
theorem dd_M_attribute_15 : decode bb_M_attribute 15 = .ok (.iload_n 3, 1) := by decide +kernel
theorem dd_M_attribute_16 : decode bb_M_attribute 16 = .ok (.iload 4, 2) := by decide +kernel
theorem dd_M_attribute_18 : decode bb_M_attribute 18 = .ok (.if_icmp .ge 29, 3) := by decide +kernel
theorem dd_M_attribute_21 : decode bb_M_attribute 21 = .ok (.aload_n 0, 1) := by decide +kernel
theorem dd_M_attribute_22 : decode bb_M_attribute 22 = .ok (.iload_n 1, 1) := by decide +kernel
theorem dd_M_attribute_23 : decode bb_M_attribute 23 = .ok (.iload_n 3, 1) := by decide +kernel
theorem dd_M_attribute_24 : decode bb_M_attribute 24 = .ok (.invokevirtual 65, 3) := by decide +kernel
theorem dd_M_attribute_27 : decode bb_M_attribute 27 = .ok (.iload_n 2, 1) := by decide +kernel
theorem dd_M_attribute_28 : decode bb_M_attribute 28 = .ok (.if_icmp .ne 5, 3) := by decide +kernel
theorem dd_M_attribute_31 : decode bb_M_attribute 31 = .ok (.iload_n 3, 1) := by decide +kernel
theorem dd_M_attribute_32 : decode bb_M_attribute 32 = .ok (.ireturn, 1) := by decide +kernel
theorem dd_M_attribute_33 : decode bb_M_attribute 33 = .ok (.iload_n 3, 1) := by decide +kernel
theorem dd_M_attribute_34 : decode bb_M_attribute 34 = .ok (.aload_n 0, 1) := by decide +kernel
theorem dd_M_attribute_35 : decode bb_M_attribute 35 = .ok (.iload_n 1, 1) := by decide +kernel
theorem dd_M_attribute_36 : decode bb_M_attribute 36 = .ok (.iload_n 3, 1) := by decide +kernel
theorem dd_M_attribute_37 : decode bb_M_attribute 37 = .ok (.iconst 1, 1) := by decide +kernel
theorem dd_M_attribute_38 : decode bb_M_attribute 38 = .ok (.iadd, 1) := by decide +kernel
theorem dd_M_attribute_39 : decode bb_M_attribute 39 = .ok (.invokevirtual 65, 3) := by decide +kernel
theorem dd_M_attribute_42 : decode bb_M_attribute 42 = .ok (.iadd, 1) := by decide +kernel
theorem dd_M_attribute_43 : decode bb_M_attribute 43 = .ok (.istore_n 3, 1) := by decide +kernel
theorem dd_M_attribute_44 : decode bb_M_attribute 44 = .ok (.goto (-29), 3) := by decide +kernel
theorem dd_M_attribute_47 : decode bb_M_attribute 47 = .ok (.iconst (-1), 1) := by decide +kernel
theorem dd_M_attribute_48 : decode bb_M_attribute 48 = .ok (.ireturn, 1) := by decide +kernel
theorem dd_M_nameLength_0 : decode bb_M_nameLength 0 = .ok (.aload_n 0, 1) := by decide +kernel
theorem dd_M_nameLength_1 : decode bb_M_nameLength 1 = .ok (.iload_n 1, 1) := by decide +kernel
theorem dd_M_nameLength_2 : decode bb_M_nameLength 2 = .ok (.iconst 1, 1) := by decide +kernel
theorem dd_M_nameLength_3 : decode bb_M_nameLength 3 = .ok (.invokevirtual 69, 3) := by decide +kernel
theorem dd_M_nameLength_6 : decode bb_M_nameLength 6 = .ok (.ifCond .ge 7, 3) := by decide +kernel
theorem dd_M_nameLength_9 : decode bb_M_nameLength 9 = .ok (.iconst 0, 1) := by decide +kernel
theorem dd_M_nameLength_10 : decode bb_M_nameLength 10 = .ok (.goto 12, 3) := by decide +kernel
theorem dd_M_nameLength_13 : decode bb_M_nameLength 13 = .ok (.aload_n 0, 1) := by decide +kernel
theorem dd_M_nameLength_14 : decode bb_M_nameLength 14 = .ok (.iload_n 1, 1) := by decide +kernel
theorem dd_M_nameLength_15 : decode bb_M_nameLength 15 = .ok (.bipush 11, 2) := by decide +kernel
theorem dd_M_nameLength_17 : decode bb_M_nameLength 17 = .ok (.invokevirtual 65, 3) := by decide +kernel
theorem dd_M_nameLength_20 : decode bb_M_nameLength 20 = .ok (.iconst 2, 1) := by decide +kernel
theorem dd_M_nameLength_21 : decode bb_M_nameLength 21 = .ok (.isub, 1) := by decide +kernel
theorem dd_M_nameLength_22 : decode bb_M_nameLength 22 = .ok (.ireturn, 1) := by decide +kernel
theorem dd_M_nameAt_0 : decode bb_M_nameAt 0 = .ok (.iload_n 2, 1) := by decide +kernel
theorem dd_M_nameAt_1 : decode bb_M_nameAt 1 = .ok (.aload_n 0, 1) := by decide +kernel
theorem dd_M_nameAt_2 : decode bb_M_nameAt 2 = .ok (.iload_n 1, 1) := by decide +kernel
theorem dd_M_nameAt_3 : decode bb_M_nameAt 3 = .ok (.invokevirtual 72, 3) := by decide +kernel
theorem dd_M_nameAt_6 : decode bb_M_nameAt 6 = .ok (.if_icmp .ge 15, 3) := by decide +kernel
theorem dd_M_nameAt_9 : decode bb_M_nameAt 9 = .ok (.aload_n 0, 1) := by decide +kernel
theorem dd_M_nameAt_10 : decode bb_M_nameAt 10 = .ok (.iload_n 1, 1) := by decide +kernel
theorem dd_M_nameAt_11 : decode bb_M_nameAt 11 = .ok (.bipush 12, 2) := by decide +kernel
theorem dd_M_nameAt_13 : decode bb_M_nameAt 13 = .ok (.iload_n 2, 1) := by decide +kernel
theorem dd_M_nameAt_14 : decode bb_M_nameAt 14 = .ok (.iadd, 1) := by decide +kernel
theorem dd_M_nameAt_15 : decode bb_M_nameAt 15 = .ok (.invokevirtual 65, 3) := by decide +kernel
theorem dd_M_nameAt_18 : decode bb_M_nameAt 18 = .ok (.goto 4, 3) := by decide +kernel
theorem dd_M_nameAt_21 : decode bb_M_nameAt 21 = .ok (.iconst 0, 1) := by decide +kernel
theorem dd_M_nameAt_22 : decode bb_M_nameAt 22 = .ok (.ireturn, 1) := by decide +kernel
theorem dd_M_compareNames_0 : decode bb_M_compareNames 0 = .ok (.iconst 0, 1) := by decide +kernel
theorem dd_M_compareNames_1 : decode bb_M_compareNames 1 = .ok (.istore_n 3, 1) := by decide +kernel
theorem dd_M_compareNames_2 : decode bb_M_compareNames 2 = .ok (.iload_n 3, 1) := by decide +kernel
theorem dd_M_compareNames_3 : decode bb_M_compareNames 3 = .ok (.bipush 8, 2) := by decide +kernel
theorem dd_M_compareNames_5 : decode bb_M_compareNames 5 = .ok (.if_icmp .ge 45, 3) := by decide +kernel
theorem dd_M_compareNames_8 : decode bb_M_compareNames 8 = .ok (.aload_n 0, 1) := by decide +kernel
theorem dd_M_compareNames_9 : decode bb_M_compareNames 9 = .ok (.iload_n 1, 1) := by decide +kernel
theorem dd_M_compareNames_10 : decode bb_M_compareNames 10 = .ok (.iload_n 3, 1) := by decide +kernel
theorem dd_M_compareNames_11 : decode bb_M_compareNames 11 = .ok (.invokevirtual 75, 3) := by decide +kernel
theorem dd_M_compareNames_14 : decode bb_M_compareNames 14 = .ok (.aload_n 0, 1) := by decide +kernel
theorem dd_M_compareNames_15 : decode bb_M_compareNames 15 = .ok (.iload_n 2, 1) := by decide +kernel
theorem dd_M_compareNames_16 : decode bb_M_compareNames 16 = .ok (.iload_n 3, 1) := by decide +kernel
theorem dd_M_compareNames_17 : decode bb_M_compareNames 17 = .ok (.invokevirtual 75, 3) := by decide +kernel
theorem dd_M_compareNames_20 : decode bb_M_compareNames 20 = .ok (.if_icmp .eq 24, 3) := by decide +kernel
theorem dd_M_compareNames_23 : decode bb_M_compareNames 23 = .ok (.aload_n 0, 1) := by decide +kernel
theorem dd_M_compareNames_24 : decode bb_M_compareNames 24 = .ok (.iload_n 1, 1) := by decide +kernel
theorem dd_M_compareNames_25 : decode bb_M_compareNames 25 = .ok (.iload_n 3, 1) := by decide +kernel
theorem dd_M_compareNames_26 : decode bb_M_compareNames 26 = .ok (.invokevirtual 75, 3) := by decide +kernel
theorem dd_M_compareNames_29 : decode bb_M_compareNames 29 = .ok (.aload_n 0, 1) := by decide +kernel
theorem dd_M_compareNames_30 : decode bb_M_compareNames 30 = .ok (.iload_n 2, 1) := by decide +kernel
theorem dd_M_compareNames_31 : decode bb_M_compareNames 31 = .ok (.iload_n 3, 1) := by decide +kernel
theorem dd_M_compareNames_32 : decode bb_M_compareNames 32 = .ok (.invokevirtual 75, 3) := by decide +kernel
theorem dd_M_compareNames_35 : decode bb_M_compareNames 35 = .ok (.if_icmp .ge 7, 3) := by decide +kernel
theorem dd_M_compareNames_38 : decode bb_M_compareNames 38 = .ok (.iconst (-1), 1) := by decide +kernel
theorem dd_M_compareNames_39 : decode bb_M_compareNames 39 = .ok (.goto 4, 3) := by decide +kernel
theorem dd_M_compareNames_42 : decode bb_M_compareNames 42 = .ok (.iconst 1, 1) := by decide +kernel
theorem dd_M_compareNames_43 : decode bb_M_compareNames 43 = .ok (.ireturn, 1) := by decide +kernel
theorem dd_M_compareNames_44 : decode bb_M_compareNames 44 = .ok (.iinc 3 1, 3) := by decide +kernel
theorem dd_M_compareNames_47 : decode bb_M_compareNames 47 = .ok (.goto (-45), 3) := by decide +kernel
theorem dd_M_compareNames_50 : decode bb_M_compareNames 50 = .ok (.iconst 0, 1) := by decide +kernel
theorem dd_M_compareNames_51 : decode bb_M_compareNames 51 = .ok (.ireturn, 1) := by decide +kernel
theorem dd_M_isDraft_0 : decode bb_M_isDraft 0 = .ok (.aload_n 0, 1) := by decide +kernel
theorem dd_M_isDraft_1 : decode bb_M_isDraft 1 = .ok (.iload_n 1, 1) := by decide +kernel
theorem dd_M_isDraft_2 : decode bb_M_isDraft 2 = .ok (.invokevirtual 72, 3) := by decide +kernel
theorem dd_M_isDraft_5 : decode bb_M_isDraft 5 = .ok (.aload_n 0, 1) := by decide +kernel
theorem dd_M_isDraft_6 : decode bb_M_isDraft 6 = .ok (.getfield 78, 3) := by decide +kernel
theorem dd_M_isDraft_9 : decode bb_M_isDraft 9 = .ok (.if_icmp .ne 7, 3) := by decide +kernel
theorem dd_M_isDraft_12 : decode bb_M_isDraft 12 = .ok (.iconst 1, 1) := by decide +kernel
theorem dd_M_isDraft_13 : decode bb_M_isDraft 13 = .ok (.goto 4, 3) := by decide +kernel
theorem dd_M_isDraft_16 : decode bb_M_isDraft 16 = .ok (.iconst 0, 1) := by decide +kernel
theorem dd_M_isDraft_17 : decode bb_M_isDraft 17 = .ok (.istore_n 2, 1) := by decide +kernel
theorem dd_M_isDraft_18 : decode bb_M_isDraft 18 = .ok (.iconst 0, 1) := by decide +kernel
theorem dd_M_isDraft_19 : decode bb_M_isDraft 19 = .ok (.istore_n 3, 1) := by decide +kernel
theorem dd_M_isDraft_20 : decode bb_M_isDraft 20 = .ok (.iload_n 3, 1) := by decide +kernel
theorem dd_M_isDraft_21 : decode bb_M_isDraft 21 = .ok (.aload_n 0, 1) := by decide +kernel
theorem dd_M_isDraft_22 : decode bb_M_isDraft 22 = .ok (.getfield 78, 3) := by decide +kernel
theorem dd_M_isDraft_25 : decode bb_M_isDraft 25 = .ok (.if_icmp .ge 34, 3) := by decide +kernel
theorem dd_M_isDraft_28 : decode bb_M_isDraft 28 = .ok (.iload_n 2, 1) := by decide +kernel
theorem dd_M_isDraft_29 : decode bb_M_isDraft 29 = .ok (.ifCond .eq 30, 3) := by decide +kernel
theorem dd_M_isDraft_32 : decode bb_M_isDraft 32 = .ok (.aload_n 0, 1) := by decide +kernel
theorem dd_M_isDraft_33 : decode bb_M_isDraft 33 = .ok (.iload_n 1, 1) := by decide +kernel
theorem dd_M_isDraft_34 : decode bb_M_isDraft 34 = .ok (.iload_n 3, 1) := by decide +kernel
theorem dd_M_isDraft_35 : decode bb_M_isDraft 35 = .ok (.invokevirtual 75, 3) := by decide +kernel
theorem dd_M_isDraft_38 : decode bb_M_isDraft 38 = .ok (.aload_n 0, 1) := by decide +kernel
theorem dd_M_isDraft_39 : decode bb_M_isDraft 39 = .ok (.getfield 20, 3) := by decide +kernel
theorem dd_M_isDraft_42 : decode bb_M_isDraft 42 = .ok (.iload_n 3, 1) := by decide +kernel
theorem dd_M_isDraft_43 : decode bb_M_isDraft 43 = .ok (.caload, 1) := by decide +kernel
theorem dd_M_isDraft_44 : decode bb_M_isDraft 44 = .ok (.if_icmp .ne 7, 3) := by decide +kernel
theorem dd_M_isDraft_47 : decode bb_M_isDraft 47 = .ok (.iconst 1, 1) := by decide +kernel
theorem dd_M_isDraft_48 : decode bb_M_isDraft 48 = .ok (.goto 4, 3) := by decide +kernel
theorem dd_M_isDraft_51 : decode bb_M_isDraft 51 = .ok (.iconst 0, 1) := by decide +kernel
theorem dd_M_isDraft_52 : decode bb_M_isDraft 52 = .ok (.istore_n 2, 1) := by decide +kernel
theorem dd_M_isDraft_53 : decode bb_M_isDraft 53 = .ok (.iinc 3 1, 3) := by decide +kernel
theorem dd_M_isDraft_56 : decode bb_M_isDraft 56 = .ok (.goto (-36), 3) := by decide +kernel
theorem dd_M_isDraft_59 : decode bb_M_isDraft 59 = .ok (.iload_n 2, 1) := by decide +kernel
theorem dd_M_isDraft_60 : decode bb_M_isDraft 60 = .ok (.ireturn, 1) := by decide +kernel
theorem dd_M_listLength_0 : decode bb_M_listLength 0 = .ok (.aload_n 0, 1) := by decide +kernel
theorem dd_M_listLength_1 : decode bb_M_listLength 1 = .ok (.iload_n 1, 1) := by decide +kernel
theorem dd_M_listLength_2 : decode bb_M_listLength 2 = .ok (.aload_n 0, 1) := by decide +kernel
theorem dd_M_listLength_3 : decode bb_M_listLength 3 = .ok (.iload_n 1, 1) := by decide +kernel
theorem dd_M_listLength_4 : decode bb_M_listLength 4 = .ok (.iconst 4, 1) := by decide +kernel
theorem dd_M_listLength_5 : decode bb_M_listLength 5 = .ok (.invokevirtual 69, 3) := by decide +kernel
theorem dd_M_listLength_8 : decode bb_M_listLength 8 = .ok (.iconst 1, 1) := by decide +kernel
theorem dd_M_listLength_9 : decode bb_M_listLength 9 = .ok (.iadd, 1) := by decide +kernel
theorem dd_M_listLength_10 : decode bb_M_listLength 10 = .ok (.invokevirtual 65, 3) := by decide +kernel
theorem dd_M_listLength_13 : decode bb_M_listLength 13 = .ok (.iconst 2, 1) := by decide +kernel
theorem dd_M_listLength_14 : decode bb_M_listLength 14 = .ok (.isub, 1) := by decide +kernel
theorem dd_M_listLength_15 : decode bb_M_listLength 15 = .ok (.ireturn, 1) := by decide +kernel
theorem dd_M_entry_0 : decode bb_M_entry 0 = .ok (.aload_n 0, 1) := by decide +kernel
theorem dd_M_entry_1 : decode bb_M_entry 1 = .ok (.iload_n 1, 1) := by decide +kernel
theorem dd_M_entry_2 : decode bb_M_entry 2 = .ok (.aload_n 0, 1) := by decide +kernel
theorem dd_M_entry_3 : decode bb_M_entry 3 = .ok (.iload_n 1, 1) := by decide +kernel
theorem dd_M_entry_4 : decode bb_M_entry 4 = .ok (.iconst 4, 1) := by decide +kernel
theorem dd_M_entry_5 : decode bb_M_entry 5 = .ok (.invokevirtual 69, 3) := by decide +kernel
theorem dd_M_entry_8 : decode bb_M_entry 8 = .ok (.iconst 2, 1) := by decide +kernel
theorem dd_M_entry_9 : decode bb_M_entry 9 = .ok (.iadd, 1) := by decide +kernel
theorem dd_M_entry_10 : decode bb_M_entry 10 = .ok (.iload_n 2, 1) := by decide +kernel
theorem dd_M_entry_11 : decode bb_M_entry 11 = .ok (.iadd, 1) := by decide +kernel
theorem dd_M_entry_12 : decode bb_M_entry 12 = .ok (.invokevirtual 65, 3) := by decide +kernel
theorem dd_M_entry_15 : decode bb_M_entry 15 = .ok (.ireturn, 1) := by decide +kernel
theorem dd_M_isInside_0 : decode bb_M_isInside 0 = .ok (.aload_n 0, 1) := by decide +kernel
theorem dd_M_isInside_1 : decode bb_M_isInside 1 = .ok (.iload_n 1, 1) := by decide +kernel
theorem dd_M_isInside_2 : decode bb_M_isInside 2 = .ok (.iconst 2, 1) := by decide +kernel
theorem dd_M_isInside_3 : decode bb_M_isInside 3 = .ok (.invokevirtual 69, 3) := by decide +kernel
theorem dd_M_isInside_6 : decode bb_M_isInside 6 = .ok (.ifCond .lt 7, 3) := by decide +kernel
theorem dd_M_isInside_9 : decode bb_M_isInside 9 = .ok (.iconst 1, 1) := by decide +kernel
theorem dd_M_isInside_10 : decode bb_M_isInside 10 = .ok (.goto 4, 3) := by decide +kernel
theorem dd_M_isInside_13 : decode bb_M_isInside 13 = .ok (.iconst 0, 1) := by decide +kernel
theorem dd_M_isInside_14 : decode bb_M_isInside 14 = .ok (.ireturn, 1) := by decide +kernel
theorem dd_M_sizeOf_0 : decode bb_M_sizeOf 0 = .ok (.aload_n 0, 1) := by decide +kernel
theorem dd_M_sizeOf_1 : decode bb_M_sizeOf 1 = .ok (.iload_n 1, 1) := by decide +kernel
theorem dd_M_sizeOf_2 : decode bb_M_sizeOf 2 = .ok (.iconst 2, 1) := by decide +kernel
theorem dd_M_sizeOf_3 : decode bb_M_sizeOf 3 = .ok (.invokevirtual 69, 3) := by decide +kernel
theorem dd_M_sizeOf_6 : decode bb_M_sizeOf 6 = .ok (.istore_n 2, 1) := by decide +kernel
theorem dd_M_sizeOf_7 : decode bb_M_sizeOf 7 = .ok (.iload_n 2, 1) := by decide +kernel
theorem dd_M_sizeOf_8 : decode bb_M_sizeOf 8 = .ok (.ifCond .lt 14, 3) := by decide +kernel
theorem dd_M_sizeOf_11 : decode bb_M_sizeOf 11 = .ok (.aload_n 0, 1) := by decide +kernel
theorem dd_M_sizeOf_12 : decode bb_M_sizeOf 12 = .ok (.iload_n 1, 1) := by decide +kernel
theorem dd_M_sizeOf_13 : decode bb_M_sizeOf 13 = .ok (.iload_n 2, 1) := by decide +kernel
theorem dd_M_sizeOf_14 : decode bb_M_sizeOf 14 = .ok (.iconst 1, 1) := by decide +kernel
theorem dd_M_sizeOf_15 : decode bb_M_sizeOf 15 = .ok (.iadd, 1) := by decide +kernel
theorem dd_M_sizeOf_16 : decode bb_M_sizeOf 16 = .ok (.invokevirtual 65, 3) := by decide +kernel
theorem dd_M_sizeOf_19 : decode bb_M_sizeOf 19 = .ok (.iconst 2, 1) := by decide +kernel
theorem dd_M_sizeOf_20 : decode bb_M_sizeOf 20 = .ok (.isub, 1) := by decide +kernel
theorem dd_M_sizeOf_21 : decode bb_M_sizeOf 21 = .ok (.ireturn, 1) := by decide +kernel
theorem dd_M_sizeOf_22 : decode bb_M_sizeOf 22 = .ok (.aload_n 0, 1) := by decide +kernel
theorem dd_M_sizeOf_23 : decode bb_M_sizeOf 23 = .ok (.iload_n 1, 1) := by decide +kernel
theorem dd_M_sizeOf_24 : decode bb_M_sizeOf 24 = .ok (.iconst 3, 1) := by decide +kernel
theorem dd_M_sizeOf_25 : decode bb_M_sizeOf 25 = .ok (.invokevirtual 69, 3) := by decide +kernel
theorem dd_M_sizeOf_28 : decode bb_M_sizeOf 28 = .ok (.istore_n 2, 1) := by decide +kernel
theorem dd_M_sizeOf_29 : decode bb_M_sizeOf 29 = .ok (.aload_n 0, 1) := by decide +kernel
theorem dd_M_sizeOf_30 : decode bb_M_sizeOf 30 = .ok (.iload_n 1, 1) := by decide +kernel
theorem dd_M_sizeOf_31 : decode bb_M_sizeOf 31 = .ok (.iload_n 2, 1) := by decide +kernel
theorem dd_M_sizeOf_32 : decode bb_M_sizeOf 32 = .ok (.iconst 2, 1) := by decide +kernel
theorem dd_M_sizeOf_33 : decode bb_M_sizeOf 33 = .ok (.iadd, 1) := by decide +kernel
theorem dd_M_sizeOf_34 : decode bb_M_sizeOf 34 = .ok (.invokevirtual 65, 3) := by decide +kernel
theorem dd_M_sizeOf_37 : decode bb_M_sizeOf 37 = .ok (.sipush 256, 3) := by decide +kernel
theorem dd_M_sizeOf_40 : decode bb_M_sizeOf 40 = .ok (.aload_n 0, 1) := by decide +kernel
theorem dd_M_sizeOf_41 : decode bb_M_sizeOf 41 = .ok (.iload_n 1, 1) := by decide +kernel
theorem dd_M_sizeOf_42 : decode bb_M_sizeOf 42 = .ok (.iload_n 2, 1) := by decide +kernel
theorem dd_M_sizeOf_43 : decode bb_M_sizeOf 43 = .ok (.iconst 3, 1) := by decide +kernel
theorem dd_M_sizeOf_44 : decode bb_M_sizeOf 44 = .ok (.iadd, 1) := by decide +kernel
theorem dd_M_sizeOf_45 : decode bb_M_sizeOf 45 = .ok (.invokevirtual 65, 3) := by decide +kernel
theorem dd_M_sizeOf_48 : decode bb_M_sizeOf 48 = .ok (.imul, 1) := by decide +kernel
theorem dd_M_sizeOf_49 : decode bb_M_sizeOf 49 = .ok (.iadd, 1) := by decide +kernel
theorem dd_M_sizeOf_50 : decode bb_M_sizeOf 50 = .ok (.ireturn, 1) := by decide +kernel
theorem dd_M_begin_0 : decode bb_M_begin 0 = .ok (.iconst 0, 1) := by decide +kernel
theorem dd_M_begin_1 : decode bb_M_begin 1 = .ok (.istore_n 3, 1) := by decide +kernel
theorem dd_M_begin_2 : decode bb_M_begin 2 = .ok (.iload_n 3, 1) := by decide +kernel
theorem dd_M_begin_3 : decode bb_M_begin 3 = .ok (.bipush 64, 2) := by decide +kernel
theorem dd_M_begin_5 : decode bb_M_begin 5 = .ok (.if_icmp .ge 16, 3) := by decide +kernel
theorem dd_M_begin_8 : decode bb_M_begin 8 = .ok (.aload_n 0, 1) := by decide +kernel
theorem dd_M_begin_9 : decode bb_M_begin 9 = .ok (.getfield 24, 3) := by decide +kernel
theorem dd_M_begin_12 : decode bb_M_begin 12 = .ok (.iload_n 3, 1) := by decide +kernel
theorem dd_M_begin_13 : decode bb_M_begin 13 = .ok (.iconst 0, 1) := by decide +kernel
theorem dd_M_begin_14 : decode bb_M_begin 14 = .ok (.iastore, 1) := by decide +kernel
theorem dd_M_begin_15 : decode bb_M_begin 15 = .ok (.iinc 3 1, 3) := by decide +kernel
theorem dd_M_begin_18 : decode bb_M_begin 18 = .ok (.goto (-16), 3) := by decide +kernel
theorem dd_M_begin_21 : decode bb_M_begin 21 = .ok (.aload_n 0, 1) := by decide +kernel
theorem dd_M_begin_22 : decode bb_M_begin 22 = .ok (.getfield 24, 3) := by decide +kernel
theorem dd_M_begin_25 : decode bb_M_begin 25 = .ok (.iconst 0, 1) := by decide +kernel
theorem dd_M_begin_26 : decode bb_M_begin 26 = .ok (.iload_n 1, 1) := by decide +kernel
theorem dd_M_begin_27 : decode bb_M_begin 27 = .ok (.iastore, 1) := by decide +kernel
theorem dd_M_begin_28 : decode bb_M_begin 28 = .ok (.aload_n 0, 1) := by decide +kernel
theorem dd_M_begin_29 : decode bb_M_begin 29 = .ok (.getfield 24, 3) := by decide +kernel
theorem dd_M_begin_32 : decode bb_M_begin 32 = .ok (.iconst 1, 1) := by decide +kernel
theorem dd_M_begin_33 : decode bb_M_begin 33 = .ok (.iload_n 2, 1) := by decide +kernel
theorem dd_M_begin_34 : decode bb_M_begin 34 = .ok (.iastore, 1) := by decide +kernel
theorem dd_M_begin_35 : decode bb_M_begin 35 = .ok (.aload_n 0, 1) := by decide +kernel
theorem dd_M_begin_36 : decode bb_M_begin 36 = .ok (.bipush 10, 2) := by decide +kernel
theorem dd_M_begin_38 : decode bb_M_begin 38 = .ok (.putfield 81, 3) := by decide +kernel
theorem dd_M_begin_41 : decode bb_M_begin 41 = .ok (.return_, 1) := by decide +kernel
theorem dd_M_put_0 : decode bb_M_put 0 = .ok (.aload_n 0, 1) := by decide +kernel
theorem dd_M_put_1 : decode bb_M_put 1 = .ok (.getfield 81, 3) := by decide +kernel
theorem dd_M_put_4 : decode bb_M_put 4 = .ok (.bipush 64, 2) := by decide +kernel
theorem dd_M_put_6 : decode bb_M_put 6 = .ok (.if_icmp .ge 13, 3) := by decide +kernel
theorem dd_M_put_9 : decode bb_M_put 9 = .ok (.aload_n 0, 1) := by decide +kernel
theorem dd_M_put_10 : decode bb_M_put 10 = .ok (.getfield 24, 3) := by decide +kernel
theorem dd_M_put_13 : decode bb_M_put 13 = .ok (.aload_n 0, 1) := by decide +kernel
theorem dd_M_put_14 : decode bb_M_put 14 = .ok (.getfield 81, 3) := by decide +kernel
theorem dd_M_put_17 : decode bb_M_put 17 = .ok (.iload_n 1, 1) := by decide +kernel
theorem dd_M_put_18 : decode bb_M_put 18 = .ok (.iastore, 1) := by decide +kernel
theorem dd_M_put_19 : decode bb_M_put 19 = .ok (.aload_n 0, 1) := by decide +kernel
theorem dd_M_put_20 : decode bb_M_put 20 = .ok (.dup, 1) := by decide +kernel
theorem dd_M_put_21 : decode bb_M_put 21 = .ok (.getfield 81, 3) := by decide +kernel
theorem dd_M_put_24 : decode bb_M_put 24 = .ok (.iconst 1, 1) := by decide +kernel
theorem dd_M_put_25 : decode bb_M_put 25 = .ok (.iadd, 1) := by decide +kernel
theorem dd_M_put_26 : decode bb_M_put 26 = .ok (.putfield 81, 3) := by decide +kernel
theorem dd_M_put_29 : decode bb_M_put 29 = .ok (.return_, 1) := by decide +kernel
theorem dd_M_putName_0 : decode bb_M_putName 0 = .ok (.aload_n 0, 1) := by decide +kernel
theorem dd_M_putName_1 : decode bb_M_putName 1 = .ok (.iload_n 1, 1) := by decide +kernel
theorem dd_M_putName_2 : decode bb_M_putName 2 = .ok (.invokevirtual 72, 3) := by decide +kernel
theorem dd_M_putName_5 : decode bb_M_putName 5 = .ok (.istore_n 2, 1) := by decide +kernel
theorem dd_M_putName_6 : decode bb_M_putName 6 = .ok (.iload_n 2, 1) := by decide +kernel
theorem dd_M_putName_7 : decode bb_M_putName 7 = .ok (.ifCond .ne 4, 3) := by decide +kernel
theorem dd_M_putName_10 : decode bb_M_putName 10 = .ok (.return_, 1) := by decide +kernel
theorem dd_M_putName_11 : decode bb_M_putName 11 = .ok (.aload_n 0, 1) := by decide +kernel
theorem dd_M_putName_12 : decode bb_M_putName 12 = .ok (.iconst 1, 1) := by decide +kernel
theorem dd_M_putName_13 : decode bb_M_putName 13 = .ok (.invokevirtual 84, 3) := by decide +kernel
theorem dd_M_putName_16 : decode bb_M_putName 16 = .ok (.aload_n 0, 1) := by decide +kernel
theorem dd_M_putName_17 : decode bb_M_putName 17 = .ok (.iload_n 2, 1) := by decide +kernel
theorem dd_M_putName_18 : decode bb_M_putName 18 = .ok (.iconst 2, 1) := by decide +kernel
theorem dd_M_putName_19 : decode bb_M_putName 19 = .ok (.iadd, 1) := by decide +kernel
theorem dd_M_putName_20 : decode bb_M_putName 20 = .ok (.invokevirtual 84, 3) := by decide +kernel
theorem dd_M_putName_23 : decode bb_M_putName 23 = .ok (.iconst 0, 1) := by decide +kernel
theorem dd_M_putName_24 : decode bb_M_putName 24 = .ok (.istore_n 3, 1) := by decide +kernel
theorem dd_M_putName_25 : decode bb_M_putName 25 = .ok (.iload_n 3, 1) := by decide +kernel
theorem dd_M_putName_26 : decode bb_M_putName 26 = .ok (.iload_n 2, 1) := by decide +kernel
theorem dd_M_putName_27 : decode bb_M_putName 27 = .ok (.if_icmp .ge 22, 3) := by decide +kernel
theorem dd_M_putName_30 : decode bb_M_putName 30 = .ok (.aload_n 0, 1) := by decide +kernel
theorem dd_M_putName_31 : decode bb_M_putName 31 = .ok (.aload_n 0, 1) := by decide +kernel
theorem dd_M_putName_32 : decode bb_M_putName 32 = .ok (.iload_n 1, 1) := by decide +kernel
theorem dd_M_putName_33 : decode bb_M_putName 33 = .ok (.bipush 12, 2) := by decide +kernel
theorem dd_M_putName_35 : decode bb_M_putName 35 = .ok (.iload_n 3, 1) := by decide +kernel
theorem dd_M_putName_36 : decode bb_M_putName 36 = .ok (.iadd, 1) := by decide +kernel
theorem dd_M_putName_37 : decode bb_M_putName 37 = .ok (.invokevirtual 65, 3) := by decide +kernel
theorem dd_M_putName_40 : decode bb_M_putName 40 = .ok (.invokevirtual 84, 3) := by decide +kernel
theorem dd_M_putName_43 : decode bb_M_putName 43 = .ok (.iinc 3 1, 3) := by decide +kernel
theorem dd_M_putName_46 : decode bb_M_putName 46 = .ok (.goto (-21), 3) := by decide +kernel
theorem dd_M_putName_49 : decode bb_M_putName 49 = .ok (.return_, 1) := by decide +kernel
theorem dd_M_putDraft_0 : decode bb_M_putDraft 0 = .ok (.aload_n 0, 1) := by decide +kernel
theorem dd_M_putDraft_1 : decode bb_M_putDraft 1 = .ok (.iconst 1, 1) := by decide +kernel
theorem dd_M_putDraft_2 : decode bb_M_putDraft 2 = .ok (.invokevirtual 84, 3) := by decide +kernel
theorem dd_M_putDraft_5 : decode bb_M_putDraft 5 = .ok (.aload_n 0, 1) := by decide +kernel
theorem dd_M_putDraft_6 : decode bb_M_putDraft 6 = .ok (.aload_n 0, 1) := by decide +kernel
theorem dd_M_putDraft_7 : decode bb_M_putDraft 7 = .ok (.getfield 78, 3) := by decide +kernel
theorem dd_M_putDraft_10 : decode bb_M_putDraft 10 = .ok (.iconst 2, 1) := by decide +kernel
theorem dd_M_putDraft_11 : decode bb_M_putDraft 11 = .ok (.iadd, 1) := by decide +kernel
theorem dd_M_putDraft_12 : decode bb_M_putDraft 12 = .ok (.invokevirtual 84, 3) := by decide +kernel
theorem dd_M_putDraft_15 : decode bb_M_putDraft 15 = .ok (.iconst 0, 1) := by decide +kernel
theorem dd_M_putDraft_16 : decode bb_M_putDraft 16 = .ok (.istore_n 1, 1) := by decide +kernel
theorem dd_M_putDraft_17 : decode bb_M_putDraft 17 = .ok (.iload_n 1, 1) := by decide +kernel
theorem dd_M_putDraft_18 : decode bb_M_putDraft 18 = .ok (.aload_n 0, 1) := by decide +kernel
theorem dd_M_putDraft_19 : decode bb_M_putDraft 19 = .ok (.getfield 78, 3) := by decide +kernel
theorem dd_M_putDraft_22 : decode bb_M_putDraft 22 = .ok (.if_icmp .ge 19, 3) := by decide +kernel
theorem dd_M_putDraft_25 : decode bb_M_putDraft 25 = .ok (.aload_n 0, 1) := by decide +kernel
theorem dd_M_putDraft_26 : decode bb_M_putDraft 26 = .ok (.aload_n 0, 1) := by decide +kernel
theorem dd_M_putDraft_27 : decode bb_M_putDraft 27 = .ok (.getfield 20, 3) := by decide +kernel
theorem dd_M_putDraft_30 : decode bb_M_putDraft 30 = .ok (.iload_n 1, 1) := by decide +kernel
theorem dd_M_putDraft_31 : decode bb_M_putDraft 31 = .ok (.caload, 1) := by decide +kernel
theorem dd_M_putDraft_32 : decode bb_M_putDraft 32 = .ok (.invokevirtual 84, 3) := by decide +kernel
theorem dd_M_putDraft_35 : decode bb_M_putDraft 35 = .ok (.iinc 1 1, 3) := by decide +kernel
theorem dd_M_putDraft_38 : decode bb_M_putDraft 38 = .ok (.goto (-21), 3) := by decide +kernel
theorem dd_M_putDraft_41 : decode bb_M_putDraft 41 = .ok (.return_, 1) := by decide +kernel
theorem dd_M_putList_0 : decode bb_M_putList 0 = .ok (.aload_n 0, 1) := by decide +kernel
theorem dd_M_putList_1 : decode bb_M_putList 1 = .ok (.iconst 4, 1) := by decide +kernel
theorem dd_M_putList_2 : decode bb_M_putList 2 = .ok (.invokevirtual 84, 3) := by decide +kernel
theorem dd_M_putList_5 : decode bb_M_putList 5 = .ok (.aload_n 0, 1) := by decide +kernel
theorem dd_M_putList_6 : decode bb_M_putList 6 = .ok (.aload_n 0, 1) := by decide +kernel
theorem dd_M_putList_7 : decode bb_M_putList 7 = .ok (.getfield 88, 3) := by decide +kernel
theorem dd_M_putList_10 : decode bb_M_putList 10 = .ok (.iconst 2, 1) := by decide +kernel
theorem dd_M_putList_11 : decode bb_M_putList 11 = .ok (.iadd, 1) := by decide +kernel
theorem dd_M_putList_12 : decode bb_M_putList 12 = .ok (.invokevirtual 84, 3) := by decide +kernel
theorem dd_M_putList_15 : decode bb_M_putList 15 = .ok (.iconst 0, 1) := by decide +kernel
theorem dd_M_putList_16 : decode bb_M_putList 16 = .ok (.istore_n 1, 1) := by decide +kernel
theorem dd_M_putList_17 : decode bb_M_putList 17 = .ok (.iload_n 1, 1) := by decide +kernel
theorem dd_M_putList_18 : decode bb_M_putList 18 = .ok (.aload_n 0, 1) := by decide +kernel
theorem dd_M_putList_19 : decode bb_M_putList 19 = .ok (.getfield 88, 3) := by decide +kernel
theorem dd_M_putList_22 : decode bb_M_putList 22 = .ok (.if_icmp .ge 19, 3) := by decide +kernel
theorem dd_M_putList_25 : decode bb_M_putList 25 = .ok (.aload_n 0, 1) := by decide +kernel
theorem dd_M_putList_26 : decode bb_M_putList 26 = .ok (.aload_n 0, 1) := by decide +kernel
theorem dd_M_putList_27 : decode bb_M_putList 27 = .ok (.getfield 36, 3) := by decide +kernel
theorem dd_M_putList_30 : decode bb_M_putList 30 = .ok (.iload_n 1, 1) := by decide +kernel
theorem dd_M_putList_31 : decode bb_M_putList 31 = .ok (.iaload, 1) := by decide +kernel
theorem dd_M_putList_32 : decode bb_M_putList 32 = .ok (.invokevirtual 84, 3) := by decide +kernel
theorem dd_M_putList_35 : decode bb_M_putList 35 = .ok (.iinc 1 1, 3) := by decide +kernel
theorem dd_M_putList_38 : decode bb_M_putList 38 = .ok (.goto (-21), 3) := by decide +kernel
theorem dd_M_putList_41 : decode bb_M_putList 41 = .ok (.return_, 1) := by decide +kernel
theorem dd_M_putInside_0 : decode bb_M_putInside 0 = .ok (.aload_n 0, 1) := by decide +kernel
theorem dd_M_putInside_1 : decode bb_M_putInside 1 = .ok (.iconst 2, 1) := by decide +kernel
theorem dd_M_putInside_2 : decode bb_M_putInside 2 = .ok (.invokevirtual 84, 3) := by decide +kernel
theorem dd_M_putInside_5 : decode bb_M_putInside 5 = .ok (.aload_n 0, 1) := by decide +kernel
theorem dd_M_putInside_6 : decode bb_M_putInside 6 = .ok (.iload_n 1, 1) := by decide +kernel
theorem dd_M_putInside_7 : decode bb_M_putInside 7 = .ok (.iconst 2, 1) := by decide +kernel
theorem dd_M_putInside_8 : decode bb_M_putInside 8 = .ok (.iadd, 1) := by decide +kernel
theorem dd_M_putInside_9 : decode bb_M_putInside 9 = .ok (.invokevirtual 84, 3) := by decide +kernel
theorem dd_M_putInside_12 : decode bb_M_putInside 12 = .ok (.iconst 0, 1) := by decide +kernel
theorem dd_M_putInside_13 : decode bb_M_putInside 13 = .ok (.istore_n 2, 1) := by decide +kernel
theorem dd_M_putInside_14 : decode bb_M_putInside 14 = .ok (.iload_n 2, 1) := by decide +kernel
theorem dd_M_putInside_15 : decode bb_M_putInside 15 = .ok (.iload_n 1, 1) := by decide +kernel
theorem dd_M_putInside_16 : decode bb_M_putInside 16 = .ok (.if_icmp .ge 19, 3) := by decide +kernel
theorem dd_M_putInside_19 : decode bb_M_putInside 19 = .ok (.aload_n 0, 1) := by decide +kernel
theorem dd_M_putInside_20 : decode bb_M_putInside 20 = .ok (.aload_n 0, 1) := by decide +kernel
theorem dd_M_putInside_21 : decode bb_M_putInside 21 = .ok (.getfield 33, 3) := by decide +kernel
theorem dd_M_putInside_24 : decode bb_M_putInside 24 = .ok (.iload_n 2, 1) := by decide +kernel
theorem dd_M_putInside_25 : decode bb_M_putInside 25 = .ok (.iaload, 1) := by decide +kernel
theorem dd_M_putInside_26 : decode bb_M_putInside 26 = .ok (.invokevirtual 84, 3) := by decide +kernel
theorem dd_M_putInside_29 : decode bb_M_putInside 29 = .ok (.iinc 2 1, 3) := by decide +kernel
theorem dd_M_putInside_32 : decode bb_M_putInside 32 = .ok (.goto (-18), 3) := by decide +kernel
theorem dd_M_putInside_35 : decode bb_M_putInside 35 = .ok (.return_, 1) := by decide +kernel
theorem dd_M_putOutside_0 : decode bb_M_putOutside 0 = .ok (.aload_n 0, 1) := by decide +kernel
theorem dd_M_putOutside_1 : decode bb_M_putOutside 1 = .ok (.getfield 81, 3) := by decide +kernel
theorem dd_M_putOutside_4 : decode bb_M_putOutside 4 = .ok (.istore_n 2, 1) := by decide +kernel
theorem dd_M_putOutside_5 : decode bb_M_putOutside 5 = .ok (.aload_n 0, 1) := by decide +kernel
theorem dd_M_putOutside_6 : decode bb_M_putOutside 6 = .ok (.iconst 3, 1) := by decide +kernel
theorem dd_M_putOutside_7 : decode bb_M_putOutside 7 = .ok (.invokevirtual 84, 3) := by decide +kernel
theorem dd_M_putOutside_10 : decode bb_M_putOutside 10 = .ok (.aload_n 0, 1) := by decide +kernel
theorem dd_M_putOutside_11 : decode bb_M_putOutside 11 = .ok (.iconst 0, 1) := by decide +kernel
theorem dd_M_putOutside_12 : decode bb_M_putOutside 12 = .ok (.invokevirtual 84, 3) := by decide +kernel
theorem dd_M_putOutside_15 : decode bb_M_putOutside 15 = .ok (.aload_n 0, 1) := by decide +kernel
theorem dd_M_putOutside_16 : decode bb_M_putOutside 16 = .ok (.iload_n 1, 1) := by decide +kernel
theorem dd_M_putOutside_17 : decode bb_M_putOutside 17 = .ok (.sipush 256, 3) := by decide +kernel
theorem dd_M_putOutside_20 : decode bb_M_putOutside 20 = .ok (.irem, 1) := by decide +kernel
theorem dd_M_putOutside_21 : decode bb_M_putOutside 21 = .ok (.invokevirtual 84, 3) := by decide +kernel
theorem dd_M_putOutside_24 : decode bb_M_putOutside 24 = .ok (.aload_n 0, 1) := by decide +kernel
theorem dd_M_putOutside_25 : decode bb_M_putOutside 25 = .ok (.iload_n 1, 1) := by decide +kernel
theorem dd_M_putOutside_26 : decode bb_M_putOutside 26 = .ok (.sipush 256, 3) := by decide +kernel
theorem dd_M_putOutside_29 : decode bb_M_putOutside 29 = .ok (.idiv, 1) := by decide +kernel
theorem dd_M_putOutside_30 : decode bb_M_putOutside 30 = .ok (.invokevirtual 84, 3) := by decide +kernel
theorem dd_M_putOutside_33 : decode bb_M_putOutside 33 = .ok (.bipush 48, 2) := by decide +kernel
theorem dd_M_putOutside_35 : decode bb_M_putOutside 35 = .ok (.istore_n 3, 1) := by decide +kernel
theorem dd_M_putOutside_36 : decode bb_M_putOutside 36 = .ok (.iconst 0, 1) := by decide +kernel
theorem dd_M_putOutside_37 : decode bb_M_putOutside 37 = .ok (.istore 4, 2) := by decide +kernel
theorem dd_M_putOutside_39 : decode bb_M_putOutside 39 = .ok (.iload 4, 2) := by decide +kernel
theorem dd_M_putOutside_41 : decode bb_M_putOutside 41 = .ok (.aload_n 0, 1) := by decide +kernel
theorem dd_M_putOutside_42 : decode bb_M_putOutside 42 = .ok (.getfield 91, 3) := by decide +kernel
theorem dd_M_putOutside_45 : decode bb_M_putOutside 45 = .ok (.if_icmp .ge 141, 3) := by decide +kernel
theorem dd_M_putOutside_48 : decode bb_M_putOutside 48 = .ok (.iload 4, 2) := by decide +kernel
theorem dd_M_putOutside_50 : decode bb_M_putOutside 50 = .ok (.iconst 1, 1) := by decide +kernel
theorem dd_M_putOutside_51 : decode bb_M_putOutside 51 = .ok (.iadd, 1) := by decide +kernel
theorem dd_M_putOutside_52 : decode bb_M_putOutside 52 = .ok (.istore 5, 2) := by decide +kernel
theorem dd_M_putOutside_54 : decode bb_M_putOutside 54 = .ok (.iload 5, 2) := by decide +kernel
theorem dd_M_putOutside_56 : decode bb_M_putOutside 56 = .ok (.aload_n 0, 1) := by decide +kernel
theorem dd_M_putOutside_57 : decode bb_M_putOutside 57 = .ok (.getfield 91, 3) := by decide +kernel
theorem dd_M_putOutside_60 : decode bb_M_putOutside 60 = .ok (.if_icmp .ge 55, 3) := by decide +kernel
theorem dd_M_putOutside_63 : decode bb_M_putOutside 63 = .ok (.aload_n 0, 1) := by decide +kernel
theorem dd_M_putOutside_64 : decode bb_M_putOutside 64 = .ok (.getfield 27, 3) := by decide +kernel
theorem dd_M_putOutside_67 : decode bb_M_putOutside 67 = .ok (.iload 4, 2) := by decide +kernel
theorem dd_M_putOutside_69 : decode bb_M_putOutside 69 = .ok (.iaload, 1) := by decide +kernel
theorem dd_M_putOutside_70 : decode bb_M_putOutside 70 = .ok (.ifCond .ge 16, 3) := by decide +kernel
theorem dd_M_putOutside_73 : decode bb_M_putOutside 73 = .ok (.aload_n 0, 1) := by decide +kernel
theorem dd_M_putOutside_74 : decode bb_M_putOutside 74 = .ok (.getfield 27, 3) := by decide +kernel
theorem dd_M_putOutside_77 : decode bb_M_putOutside 77 = .ok (.iload 5, 2) := by decide +kernel
theorem dd_M_putOutside_79 : decode bb_M_putOutside 79 = .ok (.iaload, 1) := by decide +kernel
theorem dd_M_putOutside_80 : decode bb_M_putOutside 80 = .ok (.ifCond .ge 35, 3) := by decide +kernel
theorem dd_M_putOutside_83 : decode bb_M_putOutside 83 = .ok (.goto 26, 3) := by decide +kernel
theorem dd_M_putOutside_86 : decode bb_M_putOutside 86 = .ok (.aload_n 0, 1) := by decide +kernel
theorem dd_M_putOutside_87 : decode bb_M_putOutside 87 = .ok (.getfield 27, 3) := by decide +kernel
theorem dd_M_putOutside_90 : decode bb_M_putOutside 90 = .ok (.iload 5, 2) := by decide +kernel
theorem dd_M_putOutside_92 : decode bb_M_putOutside 92 = .ok (.iaload, 1) := by decide +kernel
theorem dd_M_putOutside_93 : decode bb_M_putOutside 93 = .ok (.aload_n 0, 1) := by decide +kernel
theorem dd_M_putOutside_94 : decode bb_M_putOutside 94 = .ok (.getfield 27, 3) := by decide +kernel
theorem dd_M_putOutside_97 : decode bb_M_putOutside 97 = .ok (.iload 4, 2) := by decide +kernel
theorem dd_M_putOutside_99 : decode bb_M_putOutside 99 = .ok (.iaload, 1) := by decide +kernel
theorem dd_M_putOutside_100 : decode bb_M_putOutside 100 = .ok (.iload 5, 2) := by decide +kernel
theorem dd_M_putOutside_102 : decode bb_M_putOutside 102 = .ok (.iadd, 1) := by decide +kernel
theorem dd_M_putOutside_103 : decode bb_M_putOutside 103 = .ok (.iload 4, 2) := by decide +kernel
theorem dd_M_putOutside_105 : decode bb_M_putOutside 105 = .ok (.isub, 1) := by decide +kernel
theorem dd_M_putOutside_106 : decode bb_M_putOutside 106 = .ok (.if_icmp .ne 9, 3) := by decide +kernel
theorem dd_M_putOutside_109 : decode bb_M_putOutside 109 = .ok (.iinc 5 1, 3) := by decide +kernel
theorem dd_M_putOutside_112 : decode bb_M_putOutside 112 = .ok (.goto (-58), 3) := by decide +kernel
theorem dd_M_putOutside_115 : decode bb_M_putOutside 115 = .ok (.aload_n 0, 1) := by decide +kernel
theorem dd_M_putOutside_116 : decode bb_M_putOutside 116 = .ok (.aload_n 0, 1) := by decide +kernel
theorem dd_M_putOutside_117 : decode bb_M_putOutside 117 = .ok (.getfield 27, 3) := by decide +kernel
theorem dd_M_putOutside_120 : decode bb_M_putOutside 120 = .ok (.iload 4, 2) := by decide +kernel
theorem dd_M_putOutside_122 : decode bb_M_putOutside 122 = .ok (.iaload, 1) := by decide +kernel
theorem dd_M_putOutside_123 : decode bb_M_putOutside 123 = .ok (.ifCond .ge 7, 3) := by decide +kernel
theorem dd_M_putOutside_126 : decode bb_M_putOutside 126 = .ok (.iconst 1, 1) := by decide +kernel
theorem dd_M_putOutside_127 : decode bb_M_putOutside 127 = .ok (.goto 5, 3) := by decide +kernel
theorem dd_M_putOutside_130 : decode bb_M_putOutside 130 = .ok (.bipush 17, 2) := by decide +kernel
theorem dd_M_putOutside_132 : decode bb_M_putOutside 132 = .ok (.invokevirtual 84, 3) := by decide +kernel
theorem dd_M_putOutside_135 : decode bb_M_putOutside 135 = .ok (.aload_n 0, 1) := by decide +kernel
theorem dd_M_putOutside_136 : decode bb_M_putOutside 136 = .ok (.iload 5, 2) := by decide +kernel
theorem dd_M_putOutside_138 : decode bb_M_putOutside 138 = .ok (.iload 4, 2) := by decide +kernel
theorem dd_M_putOutside_140 : decode bb_M_putOutside 140 = .ok (.isub, 1) := by decide +kernel
theorem dd_M_putOutside_141 : decode bb_M_putOutside 141 = .ok (.invokevirtual 84, 3) := by decide +kernel
theorem dd_M_putOutside_144 : decode bb_M_putOutside 144 = .ok (.aload_n 0, 1) := by decide +kernel
theorem dd_M_putOutside_145 : decode bb_M_putOutside 145 = .ok (.getfield 27, 3) := by decide +kernel
theorem dd_M_putOutside_148 : decode bb_M_putOutside 148 = .ok (.iload 4, 2) := by decide +kernel
theorem dd_M_putOutside_150 : decode bb_M_putOutside 150 = .ok (.iaload, 1) := by decide +kernel
theorem dd_M_putOutside_151 : decode bb_M_putOutside 151 = .ok (.ifCond .lt 28, 3) := by decide +kernel
theorem dd_M_putOutside_154 : decode bb_M_putOutside 154 = .ok (.aload_n 0, 1) := by decide +kernel
theorem dd_M_putOutside_155 : decode bb_M_putOutside 155 = .ok (.aload_n 0, 1) := by decide +kernel
theorem dd_M_putOutside_156 : decode bb_M_putOutside 156 = .ok (.getfield 27, 3) := by decide +kernel
theorem dd_M_putOutside_159 : decode bb_M_putOutside 159 = .ok (.iload 4, 2) := by decide +kernel
theorem dd_M_putOutside_161 : decode bb_M_putOutside 161 = .ok (.iaload, 1) := by decide +kernel
theorem dd_M_putOutside_162 : decode bb_M_putOutside 162 = .ok (.iload_n 3, 1) := by decide +kernel
theorem dd_M_putOutside_163 : decode bb_M_putOutside 163 = .ok (.isub, 1) := by decide +kernel
theorem dd_M_putOutside_164 : decode bb_M_putOutside 164 = .ok (.sipush 255, 3) := by decide +kernel
theorem dd_M_putOutside_167 : decode bb_M_putOutside 167 = .ok (.iand, 1) := by decide +kernel
theorem dd_M_putOutside_168 : decode bb_M_putOutside 168 = .ok (.invokevirtual 84, 3) := by decide +kernel
theorem dd_M_putOutside_171 : decode bb_M_putOutside 171 = .ok (.aload_n 0, 1) := by decide +kernel
theorem dd_M_putOutside_172 : decode bb_M_putOutside 172 = .ok (.getfield 27, 3) := by decide +kernel
theorem dd_M_putOutside_175 : decode bb_M_putOutside 175 = .ok (.iload 4, 2) := by decide +kernel
theorem dd_M_putOutside_177 : decode bb_M_putOutside 177 = .ok (.iaload, 1) := by decide +kernel
theorem dd_M_putOutside_178 : decode bb_M_putOutside 178 = .ok (.istore_n 3, 1) := by decide +kernel
theorem dd_M_putOutside_179 : decode bb_M_putOutside 179 = .ok (.iload 5, 2) := by decide +kernel
theorem dd_M_putOutside_181 : decode bb_M_putOutside 181 = .ok (.istore 4, 2) := by decide +kernel
theorem dd_M_putOutside_183 : decode bb_M_putOutside 183 = .ok (.goto (-144), 3) := by decide +kernel
theorem dd_M_putOutside_186 : decode bb_M_putOutside 186 = .ok (.aload_n 0, 1) := by decide +kernel
theorem dd_M_putOutside_187 : decode bb_M_putOutside 187 = .ok (.iconst 0, 1) := by decide +kernel
theorem dd_M_putOutside_188 : decode bb_M_putOutside 188 = .ok (.invokevirtual 84, 3) := by decide +kernel
theorem dd_M_putOutside_191 : decode bb_M_putOutside 191 = .ok (.iload_n 2, 1) := by decide +kernel
theorem dd_M_putOutside_192 : decode bb_M_putOutside 192 = .ok (.iconst 1, 1) := by decide +kernel
theorem dd_M_putOutside_193 : decode bb_M_putOutside 193 = .ok (.iadd, 1) := by decide +kernel
theorem dd_M_putOutside_194 : decode bb_M_putOutside 194 = .ok (.bipush 64, 2) := by decide +kernel
theorem dd_M_putOutside_196 : decode bb_M_putOutside 196 = .ok (.if_icmp .ge 17, 3) := by decide +kernel
theorem dd_M_putOutside_199 : decode bb_M_putOutside 199 = .ok (.aload_n 0, 1) := by decide +kernel
theorem dd_M_putOutside_200 : decode bb_M_putOutside 200 = .ok (.getfield 24, 3) := by decide +kernel
theorem dd_M_putOutside_203 : decode bb_M_putOutside 203 = .ok (.iload_n 2, 1) := by decide +kernel
theorem dd_M_putOutside_204 : decode bb_M_putOutside 204 = .ok (.iconst 1, 1) := by decide +kernel
theorem dd_M_putOutside_205 : decode bb_M_putOutside 205 = .ok (.iadd, 1) := by decide +kernel
theorem dd_M_putOutside_206 : decode bb_M_putOutside 206 = .ok (.aload_n 0, 1) := by decide +kernel
theorem dd_M_putOutside_207 : decode bb_M_putOutside 207 = .ok (.getfield 81, 3) := by decide +kernel
theorem dd_M_putOutside_210 : decode bb_M_putOutside 210 = .ok (.iload_n 2, 1) := by decide +kernel
theorem dd_M_putOutside_211 : decode bb_M_putOutside 211 = .ok (.isub, 1) := by decide +kernel
theorem dd_M_putOutside_212 : decode bb_M_putOutside 212 = .ok (.iastore, 1) := by decide +kernel
theorem dd_M_putOutside_213 : decode bb_M_putOutside 213 = .ok (.return_, 1) := by decide +kernel
theorem dd_M_sector_0 : decode bb_M_sector 0 = .ok (.aload_n 0, 1) := by decide +kernel
theorem dd_M_sector_1 : decode bb_M_sector 1 = .ok (.getfield 94, 3) := by decide +kernel
theorem dd_M_sector_4 : decode bb_M_sector 4 = .ok (.iconst 1, 1) := by decide +kernel
theorem dd_M_sector_5 : decode bb_M_sector 5 = .ok (.if_icmp .ne 15, 3) := by decide +kernel
theorem dd_M_sector_8 : decode bb_M_sector 8 = .ok (.aload_n 0, 1) := by decide +kernel
theorem dd_M_sector_9 : decode bb_M_sector 9 = .ok (.iconst 0, 1) := by decide +kernel
theorem dd_M_sector_10 : decode bb_M_sector 10 = .ok (.putfield 94, 3) := by decide +kernel
theorem dd_M_sector_13 : decode bb_M_sector 13 = .ok (.aload_n 0, 1) := by decide +kernel
theorem dd_M_sector_14 : decode bb_M_sector 14 = .ok (.iconst 0, 1) := by decide +kernel
theorem dd_M_sector_15 : decode bb_M_sector 15 = .ok (.putfield 50, 3) := by decide +kernel
theorem dd_M_sector_18 : decode bb_M_sector 18 = .ok (.iconst 0, 1) := by decide +kernel
theorem dd_M_sector_19 : decode bb_M_sector 19 = .ok (.ireturn, 1) := by decide +kernel
theorem dd_M_sector_20 : decode bb_M_sector 20 = .ok (.aload_n 0, 1) := by decide +kernel
theorem dd_M_sector_21 : decode bb_M_sector 21 = .ok (.aload_n 0, 1) := by decide +kernel
theorem dd_M_sector_22 : decode bb_M_sector 22 = .ok (.getfield 94, 3) := by decide +kernel
theorem dd_M_sector_25 : decode bb_M_sector 25 = .ok (.ifCond .le 12, 3) := by decide +kernel
theorem dd_M_sector_28 : decode bb_M_sector 28 = .ok (.aload_n 0, 1) := by decide +kernel
theorem dd_M_sector_29 : decode bb_M_sector 29 = .ok (.getfield 94, 3) := by decide +kernel
theorem dd_M_sector_32 : decode bb_M_sector 32 = .ok (.iconst 1, 1) := by decide +kernel
theorem dd_M_sector_33 : decode bb_M_sector 33 = .ok (.isub, 1) := by decide +kernel
theorem dd_M_sector_34 : decode bb_M_sector 34 = .ok (.goto 4, 3) := by decide +kernel
theorem dd_M_sector_37 : decode bb_M_sector 37 = .ok (.iconst 0, 1) := by decide +kernel
theorem dd_M_sector_38 : decode bb_M_sector 38 = .ok (.putfield 94, 3) := by decide +kernel
theorem dd_M_sector_41 : decode bb_M_sector 41 = .ok (.bipush 32, 2) := by decide +kernel
theorem dd_M_sector_43 : decode bb_M_sector 43 = .ok (.iload_n 2, 1) := by decide +kernel
theorem dd_M_sector_44 : decode bb_M_sector 44 = .ok (.imul, 1) := by decide +kernel
theorem dd_M_sector_45 : decode bb_M_sector 45 = .ok (.istore_n 3, 1) := by decide +kernel
theorem dd_M_sector_46 : decode bb_M_sector 46 = .ok (.iload_n 3, 1) := by decide +kernel
theorem dd_M_sector_47 : decode bb_M_sector 47 = .ok (.bipush 32, 2) := by decide +kernel
theorem dd_M_sector_49 : decode bb_M_sector 49 = .ok (.iload_n 2, 1) := by decide +kernel
theorem dd_M_sector_50 : decode bb_M_sector 50 = .ok (.imul, 1) := by decide +kernel
theorem dd_M_sector_51 : decode bb_M_sector 51 = .ok (.bipush 32, 2) := by decide +kernel
theorem dd_M_sector_53 : decode bb_M_sector 53 = .ok (.iadd, 1) := by decide +kernel
theorem dd_M_sector_54 : decode bb_M_sector 54 = .ok (.if_icmp .ge 26, 3) := by decide +kernel
theorem dd_M_sector_57 : decode bb_M_sector 57 = .ok (.aload_n 0, 1) := by decide +kernel
theorem dd_M_sector_58 : decode bb_M_sector 58 = .ok (.getfield 7, 3) := by decide +kernel
theorem dd_M_sector_61 : decode bb_M_sector 61 = .ok (.bipush 64, 2) := by decide +kernel
theorem dd_M_sector_63 : decode bb_M_sector 63 = .ok (.iload_n 1, 1) := by decide +kernel
theorem dd_M_sector_64 : decode bb_M_sector 64 = .ok (.imul, 1) := by decide +kernel
theorem dd_M_sector_65 : decode bb_M_sector 65 = .ok (.iload_n 3, 1) := by decide +kernel
theorem dd_M_sector_66 : decode bb_M_sector 66 = .ok (.iadd, 1) := by decide +kernel
theorem dd_M_sector_67 : decode bb_M_sector 67 = .ok (.aload_n 0, 1) := by decide +kernel
theorem dd_M_sector_68 : decode bb_M_sector 68 = .ok (.getfield 24, 3) := by decide +kernel
theorem dd_M_sector_71 : decode bb_M_sector 71 = .ok (.iload_n 3, 1) := by decide +kernel
theorem dd_M_sector_72 : decode bb_M_sector 72 = .ok (.iaload, 1) := by decide +kernel
theorem dd_M_sector_73 : decode bb_M_sector 73 = .ok (.iastore, 1) := by decide +kernel
theorem dd_M_sector_74 : decode bb_M_sector 74 = .ok (.iinc 3 1, 3) := by decide +kernel
theorem dd_M_sector_77 : decode bb_M_sector 77 = .ok (.goto (-31), 3) := by decide +kernel
theorem dd_M_sector_80 : decode bb_M_sector 80 = .ok (.iconst 1, 1) := by decide +kernel
theorem dd_M_sector_81 : decode bb_M_sector 81 = .ok (.ireturn, 1) := by decide +kernel
end
section
theorem dd_M_store_0 : decode bb_M_store 0 = .ok (.aload_n 0, 1) := by decide +kernel
theorem dd_M_store_1 : decode bb_M_store 1 = .ok (.getfield 24, 3) := by decide +kernel
theorem dd_M_store_4 : decode bb_M_store 4 = .ok (.bipush 8, 2) := by decide +kernel
theorem dd_M_store_6 : decode bb_M_store 6 = .ok (.aload_n 0, 1) := by decide +kernel
theorem dd_M_store_7 : decode bb_M_store 7 = .ok (.getfield 81, 3) := by decide +kernel
theorem dd_M_store_10 : decode bb_M_store 10 = .ok (.bipush 10, 2) := by decide +kernel
theorem dd_M_store_12 : decode bb_M_store 12 = .ok (.isub, 1) := by decide +kernel
theorem dd_M_store_13 : decode bb_M_store 13 = .ok (.iastore, 1) := by decide +kernel
theorem dd_M_store_14 : decode bb_M_store 14 = .ok (.aload_n 0, 1) := by decide +kernel
theorem dd_M_store_15 : decode bb_M_store 15 = .ok (.bipush 64, 2) := by decide +kernel
theorem dd_M_store_17 : decode bb_M_store 17 = .ok (.iload_n 1, 1) := by decide +kernel
theorem dd_M_store_18 : decode bb_M_store 18 = .ok (.imul, 1) := by decide +kernel
theorem dd_M_store_19 : decode bb_M_store 19 = .ok (.iconst 2, 1) := by decide +kernel
theorem dd_M_store_20 : decode bb_M_store 20 = .ok (.iadd, 1) := by decide +kernel
theorem dd_M_store_21 : decode bb_M_store 21 = .ok (.invokevirtual 58, 3) := by decide +kernel
theorem dd_M_store_24 : decode bb_M_store 24 = .ok (.istore_n 2, 1) := by decide +kernel
theorem dd_M_store_25 : decode bb_M_store 25 = .ok (.iload_n 2, 1) := by decide +kernel
theorem dd_M_store_26 : decode bb_M_store 26 = .ok (.ldc 97, 2) := by decide +kernel
theorem dd_M_store_28 : decode bb_M_store 28 = .ok (.if_icmp .ne 7, 3) := by decide +kernel
theorem dd_M_store_31 : decode bb_M_store 31 = .ok (.iconst 1, 1) := by decide +kernel
theorem dd_M_store_32 : decode bb_M_store 32 = .ok (.goto 6, 3) := by decide +kernel
theorem dd_M_store_35 : decode bb_M_store 35 = .ok (.iload_n 2, 1) := by decide +kernel
theorem dd_M_store_36 : decode bb_M_store 36 = .ok (.iconst 1, 1) := by decide +kernel
theorem dd_M_store_37 : decode bb_M_store 37 = .ok (.iadd, 1) := by decide +kernel
theorem dd_M_store_38 : decode bb_M_store 38 = .ok (.istore_n 2, 1) := by decide +kernel
theorem dd_M_store_39 : decode bb_M_store 39 = .ok (.iconst 0, 1) := by decide +kernel
theorem dd_M_store_40 : decode bb_M_store 40 = .ok (.istore_n 3, 1) := by decide +kernel
theorem dd_M_store_41 : decode bb_M_store 41 = .ok (.iload_n 3, 1) := by decide +kernel
theorem dd_M_store_42 : decode bb_M_store 42 = .ok (.iconst 2, 1) := by decide +kernel
theorem dd_M_store_43 : decode bb_M_store 43 = .ok (.if_icmp .ge 95, 3) := by decide +kernel
theorem dd_M_store_46 : decode bb_M_store 46 = .ok (.aload_n 0, 1) := by decide +kernel
theorem dd_M_store_47 : decode bb_M_store 47 = .ok (.getfield 24, 3) := by decide +kernel
theorem dd_M_store_50 : decode bb_M_store 50 = .ok (.iconst 4, 1) := by decide +kernel
theorem dd_M_store_51 : decode bb_M_store 51 = .ok (.iload_n 3, 1) := by decide +kernel
theorem dd_M_store_52 : decode bb_M_store 52 = .ok (.iadd, 1) := by decide +kernel
theorem dd_M_store_53 : decode bb_M_store 53 = .ok (.aload_n 0, 1) := by decide +kernel
theorem dd_M_store_54 : decode bb_M_store 54 = .ok (.getfield 24, 3) := by decide +kernel
theorem dd_M_store_57 : decode bb_M_store 57 = .ok (.bipush 30, 2) := by decide +kernel
theorem dd_M_store_59 : decode bb_M_store 59 = .ok (.iload_n 3, 1) := by decide +kernel
theorem dd_M_store_60 : decode bb_M_store 60 = .ok (.iadd, 1) := by decide +kernel
theorem dd_M_store_61 : decode bb_M_store 61 = .ok (.iaload, 1) := by decide +kernel
theorem dd_M_store_62 : decode bb_M_store 62 = .ok (.iastore, 1) := by decide +kernel
theorem dd_M_store_63 : decode bb_M_store 63 = .ok (.aload_n 0, 1) := by decide +kernel
theorem dd_M_store_64 : decode bb_M_store 64 = .ok (.getfield 24, 3) := by decide +kernel
theorem dd_M_store_67 : decode bb_M_store 67 = .ok (.bipush 6, 2) := by decide +kernel
theorem dd_M_store_69 : decode bb_M_store 69 = .ok (.iload_n 3, 1) := by decide +kernel
theorem dd_M_store_70 : decode bb_M_store 70 = .ok (.iadd, 1) := by decide +kernel
theorem dd_M_store_71 : decode bb_M_store 71 = .ok (.aload_n 0, 1) := by decide +kernel
theorem dd_M_store_72 : decode bb_M_store 72 = .ok (.getfield 24, 3) := by decide +kernel
theorem dd_M_store_75 : decode bb_M_store 75 = .ok (.bipush 62, 2) := by decide +kernel
theorem dd_M_store_77 : decode bb_M_store 77 = .ok (.iload_n 3, 1) := by decide +kernel
theorem dd_M_store_78 : decode bb_M_store 78 = .ok (.iadd, 1) := by decide +kernel
theorem dd_M_store_79 : decode bb_M_store 79 = .ok (.iaload, 1) := by decide +kernel
theorem dd_M_store_80 : decode bb_M_store 80 = .ok (.iastore, 1) := by decide +kernel
theorem dd_M_store_81 : decode bb_M_store 81 = .ok (.iload_n 3, 1) := by decide +kernel
theorem dd_M_store_82 : decode bb_M_store 82 = .ok (.ifCond .ne 11, 3) := by decide +kernel
theorem dd_M_store_85 : decode bb_M_store 85 = .ok (.iload_n 2, 1) := by decide +kernel
theorem dd_M_store_86 : decode bb_M_store 86 = .ok (.sipush 256, 3) := by decide +kernel
theorem dd_M_store_89 : decode bb_M_store 89 = .ok (.irem, 1) := by decide +kernel
theorem dd_M_store_90 : decode bb_M_store 90 = .ok (.goto 8, 3) := by decide +kernel
theorem dd_M_store_93 : decode bb_M_store 93 = .ok (.iload_n 2, 1) := by decide +kernel
theorem dd_M_store_94 : decode bb_M_store 94 = .ok (.sipush 256, 3) := by decide +kernel
theorem dd_M_store_97 : decode bb_M_store 97 = .ok (.idiv, 1) := by decide +kernel
theorem dd_M_store_98 : decode bb_M_store 98 = .ok (.istore 4, 2) := by decide +kernel
theorem dd_M_store_100 : decode bb_M_store 100 = .ok (.aload_n 0, 1) := by decide +kernel
theorem dd_M_store_101 : decode bb_M_store 101 = .ok (.getfield 24, 3) := by decide +kernel
theorem dd_M_store_104 : decode bb_M_store 104 = .ok (.iconst 2, 1) := by decide +kernel
theorem dd_M_store_105 : decode bb_M_store 105 = .ok (.iload_n 3, 1) := by decide +kernel
theorem dd_M_store_106 : decode bb_M_store 106 = .ok (.iadd, 1) := by decide +kernel
theorem dd_M_store_107 : decode bb_M_store 107 = .ok (.iload 4, 2) := by decide +kernel
theorem dd_M_store_109 : decode bb_M_store 109 = .ok (.iastore, 1) := by decide +kernel
theorem dd_M_store_110 : decode bb_M_store 110 = .ok (.aload_n 0, 1) := by decide +kernel
theorem dd_M_store_111 : decode bb_M_store 111 = .ok (.getfield 24, 3) := by decide +kernel
theorem dd_M_store_114 : decode bb_M_store 114 = .ok (.bipush 30, 2) := by decide +kernel
theorem dd_M_store_116 : decode bb_M_store 116 = .ok (.iload_n 3, 1) := by decide +kernel
theorem dd_M_store_117 : decode bb_M_store 117 = .ok (.iadd, 1) := by decide +kernel
theorem dd_M_store_118 : decode bb_M_store 118 = .ok (.iload 4, 2) := by decide +kernel
theorem dd_M_store_120 : decode bb_M_store 120 = .ok (.iastore, 1) := by decide +kernel
theorem dd_M_store_121 : decode bb_M_store 121 = .ok (.aload_n 0, 1) := by decide +kernel
theorem dd_M_store_122 : decode bb_M_store 122 = .ok (.getfield 24, 3) := by decide +kernel
theorem dd_M_store_125 : decode bb_M_store 125 = .ok (.bipush 62, 2) := by decide +kernel
theorem dd_M_store_127 : decode bb_M_store 127 = .ok (.iload_n 3, 1) := by decide +kernel
theorem dd_M_store_128 : decode bb_M_store 128 = .ok (.iadd, 1) := by decide +kernel
theorem dd_M_store_129 : decode bb_M_store 129 = .ok (.iload 4, 2) := by decide +kernel
theorem dd_M_store_131 : decode bb_M_store 131 = .ok (.iastore, 1) := by decide +kernel
theorem dd_M_store_132 : decode bb_M_store 132 = .ok (.iinc 3 1, 3) := by decide +kernel
theorem dd_M_store_135 : decode bb_M_store 135 = .ok (.goto (-94), 3) := by decide +kernel
theorem dd_M_store_138 : decode bb_M_store 138 = .ok (.aload_n 0, 1) := by decide +kernel
theorem dd_M_store_139 : decode bb_M_store 139 = .ok (.iload_n 1, 1) := by decide +kernel
theorem dd_M_store_140 : decode bb_M_store 140 = .ok (.iconst 0, 1) := by decide +kernel
theorem dd_M_store_141 : decode bb_M_store 141 = .ok (.invokevirtual 98, 3) := by decide +kernel
theorem dd_M_store_144 : decode bb_M_store 144 = .ok (.ifCond .eq 12, 3) := by decide +kernel
theorem dd_M_store_147 : decode bb_M_store 147 = .ok (.aload_n 0, 1) := by decide +kernel
theorem dd_M_store_148 : decode bb_M_store 148 = .ok (.iload_n 1, 1) := by decide +kernel
theorem dd_M_store_149 : decode bb_M_store 149 = .ok (.iconst 1, 1) := by decide +kernel
theorem dd_M_store_150 : decode bb_M_store 150 = .ok (.invokevirtual 98, 3) := by decide +kernel
theorem dd_M_store_153 : decode bb_M_store 153 = .ok (.ifCond .ne 5, 3) := by decide +kernel
theorem dd_M_store_156 : decode bb_M_store 156 = .ok (.iconst 0, 1) := by decide +kernel
theorem dd_M_store_157 : decode bb_M_store 157 = .ok (.ireturn, 1) := by decide +kernel
theorem dd_M_store_158 : decode bb_M_store 158 = .ok (.aload_n 0, 1) := by decide +kernel
theorem dd_M_store_159 : decode bb_M_store 159 = .ok (.getfield 13, 3) := by decide +kernel
theorem dd_M_store_162 : decode bb_M_store 162 = .ok (.iload_n 1, 1) := by decide +kernel
theorem dd_M_store_163 : decode bb_M_store 163 = .ok (.aload_n 0, 1) := by decide +kernel
theorem dd_M_store_164 : decode bb_M_store 164 = .ok (.getfield 24, 3) := by decide +kernel
theorem dd_M_store_167 : decode bb_M_store 167 = .ok (.iconst 0, 1) := by decide +kernel
theorem dd_M_store_168 : decode bb_M_store 168 = .ok (.iaload, 1) := by decide +kernel
theorem dd_M_store_169 : decode bb_M_store 169 = .ok (.iconst 1, 1) := by decide +kernel
theorem dd_M_store_170 : decode bb_M_store 170 = .ok (.if_icmp .eq 13, 3) := by decide +kernel
theorem dd_M_store_173 : decode bb_M_store 173 = .ok (.aload_n 0, 1) := by decide +kernel
theorem dd_M_store_174 : decode bb_M_store 174 = .ok (.getfield 24, 3) := by decide +kernel
theorem dd_M_store_177 : decode bb_M_store 177 = .ok (.iconst 0, 1) := by decide +kernel
theorem dd_M_store_178 : decode bb_M_store 178 = .ok (.iaload, 1) := by decide +kernel
theorem dd_M_store_179 : decode bb_M_store 179 = .ok (.iconst 2, 1) := by decide +kernel
theorem dd_M_store_180 : decode bb_M_store 180 = .ok (.if_icmp .ne 7, 3) := by decide +kernel
theorem dd_M_store_183 : decode bb_M_store 183 = .ok (.iconst 1, 1) := by decide +kernel
theorem dd_M_store_184 : decode bb_M_store 184 = .ok (.goto 4, 3) := by decide +kernel
theorem dd_M_store_187 : decode bb_M_store 187 = .ok (.iconst 0, 1) := by decide +kernel
theorem dd_M_store_188 : decode bb_M_store 188 = .ok (.bastore, 1) := by decide +kernel
theorem dd_M_store_189 : decode bb_M_store 189 = .ok (.iconst 1, 1) := by decide +kernel
theorem dd_M_store_190 : decode bb_M_store 190 = .ok (.ireturn, 1) := by decide +kernel
theorem dd_M_storeList_0 : decode bb_M_storeList 0 = .ok (.aload_n 0, 1) := by decide +kernel
theorem dd_M_storeList_1 : decode bb_M_storeList 1 = .ok (.iconst 2, 1) := by decide +kernel
theorem dd_M_storeList_2 : decode bb_M_storeList 2 = .ok (.iload_n 2, 1) := by decide +kernel
theorem dd_M_storeList_3 : decode bb_M_storeList 3 = .ok (.invokevirtual 39, 3) := by decide +kernel
theorem dd_M_storeList_6 : decode bb_M_storeList 6 = .ok (.aload_n 0, 1) := by decide +kernel
theorem dd_M_storeList_7 : decode bb_M_storeList 7 = .ok (.iload_n 1, 1) := by decide +kernel
theorem dd_M_storeList_8 : decode bb_M_storeList 8 = .ok (.invokevirtual 102, 3) := by decide +kernel
theorem dd_M_storeList_11 : decode bb_M_storeList 11 = .ok (.aload_n 0, 1) := by decide +kernel
theorem dd_M_storeList_12 : decode bb_M_storeList 12 = .ok (.invokevirtual 43, 3) := by decide +kernel
theorem dd_M_storeList_15 : decode bb_M_storeList 15 = .ok (.aload_n 0, 1) := by decide +kernel
theorem dd_M_storeList_16 : decode bb_M_storeList 16 = .ok (.iload_n 1, 1) := by decide +kernel
theorem dd_M_storeList_17 : decode bb_M_storeList 17 = .ok (.invokevirtual 46, 3) := by decide +kernel
theorem dd_M_storeList_20 : decode bb_M_storeList 20 = .ok (.ireturn, 1) := by decide +kernel
theorem dd_M_join_0 : decode bb_M_join 0 = .ok (.aload_n 0, 1) := by decide +kernel
theorem dd_M_join_1 : decode bb_M_join 1 = .ok (.getfield 88, 3) := by decide +kernel
theorem dd_M_join_4 : decode bb_M_join 4 = .ok (.istore_n 2, 1) := by decide +kernel
theorem dd_M_join_5 : decode bb_M_join 5 = .ok (.iload_n 2, 1) := by decide +kernel
theorem dd_M_join_6 : decode bb_M_join 6 = .ok (.ifCond .le 39, 3) := by decide +kernel
theorem dd_M_join_9 : decode bb_M_join 9 = .ok (.aload_n 0, 1) := by decide +kernel
theorem dd_M_join_10 : decode bb_M_join 10 = .ok (.aload_n 0, 1) := by decide +kernel
theorem dd_M_join_11 : decode bb_M_join 11 = .ok (.getfield 36, 3) := by decide +kernel
theorem dd_M_join_14 : decode bb_M_join 14 = .ok (.iload_n 2, 1) := by decide +kernel
theorem dd_M_join_15 : decode bb_M_join 15 = .ok (.iconst 1, 1) := by decide +kernel
theorem dd_M_join_16 : decode bb_M_join 16 = .ok (.isub, 1) := by decide +kernel
theorem dd_M_join_17 : decode bb_M_join 17 = .ok (.iaload, 1) := by decide +kernel
theorem dd_M_join_18 : decode bb_M_join 18 = .ok (.iload_n 1, 1) := by decide +kernel
theorem dd_M_join_19 : decode bb_M_join 19 = .ok (.invokevirtual 105, 3) := by decide +kernel
theorem dd_M_join_22 : decode bb_M_join 22 = .ok (.ifCond .le 23, 3) := by decide +kernel
theorem dd_M_join_25 : decode bb_M_join 25 = .ok (.aload_n 0, 1) := by decide +kernel
theorem dd_M_join_26 : decode bb_M_join 26 = .ok (.getfield 36, 3) := by decide +kernel
theorem dd_M_join_29 : decode bb_M_join 29 = .ok (.iload_n 2, 1) := by decide +kernel
theorem dd_M_join_30 : decode bb_M_join 30 = .ok (.aload_n 0, 1) := by decide +kernel
theorem dd_M_join_31 : decode bb_M_join 31 = .ok (.getfield 36, 3) := by decide +kernel
theorem dd_M_join_34 : decode bb_M_join 34 = .ok (.iload_n 2, 1) := by decide +kernel
theorem dd_M_join_35 : decode bb_M_join 35 = .ok (.iconst 1, 1) := by decide +kernel
theorem dd_M_join_36 : decode bb_M_join 36 = .ok (.isub, 1) := by decide +kernel
theorem dd_M_join_37 : decode bb_M_join 37 = .ok (.iaload, 1) := by decide +kernel
theorem dd_M_join_38 : decode bb_M_join 38 = .ok (.iastore, 1) := by decide +kernel
theorem dd_M_join_39 : decode bb_M_join 39 = .ok (.iinc 2 (-1), 3) := by decide +kernel
theorem dd_M_join_42 : decode bb_M_join 42 = .ok (.goto (-37), 3) := by decide +kernel
theorem dd_M_join_45 : decode bb_M_join 45 = .ok (.aload_n 0, 1) := by decide +kernel
theorem dd_M_join_46 : decode bb_M_join 46 = .ok (.getfield 36, 3) := by decide +kernel
theorem dd_M_join_49 : decode bb_M_join 49 = .ok (.iload_n 2, 1) := by decide +kernel
theorem dd_M_join_50 : decode bb_M_join 50 = .ok (.iload_n 1, 1) := by decide +kernel
theorem dd_M_join_51 : decode bb_M_join 51 = .ok (.iastore, 1) := by decide +kernel
theorem dd_M_join_52 : decode bb_M_join 52 = .ok (.aload_n 0, 1) := by decide +kernel
theorem dd_M_join_53 : decode bb_M_join 53 = .ok (.dup, 1) := by decide +kernel
theorem dd_M_join_54 : decode bb_M_join 54 = .ok (.getfield 88, 3) := by decide +kernel
theorem dd_M_join_57 : decode bb_M_join 57 = .ok (.iconst 1, 1) := by decide +kernel
theorem dd_M_join_58 : decode bb_M_join 58 = .ok (.iadd, 1) := by decide +kernel
theorem dd_M_join_59 : decode bb_M_join 59 = .ok (.putfield 88, 3) := by decide +kernel
theorem dd_M_join_62 : decode bb_M_join 62 = .ok (.return_, 1) := by decide +kernel
theorem dd_M_takeList_0 : decode bb_M_takeList 0 = .ok (.aload_n 0, 1) := by decide +kernel
theorem dd_M_takeList_1 : decode bb_M_takeList 1 = .ok (.iconst 0, 1) := by decide +kernel
theorem dd_M_takeList_2 : decode bb_M_takeList 2 = .ok (.putfield 88, 3) := by decide +kernel
theorem dd_M_takeList_5 : decode bb_M_takeList 5 = .ok (.iconst 0, 1) := by decide +kernel
theorem dd_M_takeList_6 : decode bb_M_takeList 6 = .ok (.istore_n 3, 1) := by decide +kernel
theorem dd_M_takeList_7 : decode bb_M_takeList 7 = .ok (.iload_n 3, 1) := by decide +kernel
theorem dd_M_takeList_8 : decode bb_M_takeList 8 = .ok (.aload_n 0, 1) := by decide +kernel
theorem dd_M_takeList_9 : decode bb_M_takeList 9 = .ok (.iload_n 1, 1) := by decide +kernel
theorem dd_M_takeList_10 : decode bb_M_takeList 10 = .ok (.invokevirtual 108, 3) := by decide +kernel
theorem dd_M_takeList_13 : decode bb_M_takeList 13 = .ok (.if_icmp .ge 47, 3) := by decide +kernel
theorem dd_M_takeList_16 : decode bb_M_takeList 16 = .ok (.aload_n 0, 1) := by decide +kernel
theorem dd_M_takeList_17 : decode bb_M_takeList 17 = .ok (.iload_n 1, 1) := by decide +kernel
theorem dd_M_takeList_18 : decode bb_M_takeList 18 = .ok (.iload_n 3, 1) := by decide +kernel
theorem dd_M_takeList_19 : decode bb_M_takeList 19 = .ok (.invokevirtual 111, 3) := by decide +kernel
theorem dd_M_takeList_22 : decode bb_M_takeList 22 = .ok (.iload_n 2, 1) := by decide +kernel
theorem dd_M_takeList_23 : decode bb_M_takeList 23 = .ok (.if_icmp .ne 6, 3) := by decide +kernel
theorem dd_M_takeList_26 : decode bb_M_takeList 26 = .ok (.goto 28, 3) := by decide +kernel
theorem dd_M_takeList_29 : decode bb_M_takeList 29 = .ok (.aload_n 0, 1) := by decide +kernel
theorem dd_M_takeList_30 : decode bb_M_takeList 30 = .ok (.getfield 36, 3) := by decide +kernel
theorem dd_M_takeList_33 : decode bb_M_takeList 33 = .ok (.aload_n 0, 1) := by decide +kernel
theorem dd_M_takeList_34 : decode bb_M_takeList 34 = .ok (.getfield 88, 3) := by decide +kernel
theorem dd_M_takeList_37 : decode bb_M_takeList 37 = .ok (.aload_n 0, 1) := by decide +kernel
theorem dd_M_takeList_38 : decode bb_M_takeList 38 = .ok (.iload_n 1, 1) := by decide +kernel
theorem dd_M_takeList_39 : decode bb_M_takeList 39 = .ok (.iload_n 3, 1) := by decide +kernel
theorem dd_M_takeList_40 : decode bb_M_takeList 40 = .ok (.invokevirtual 111, 3) := by decide +kernel
theorem dd_M_takeList_43 : decode bb_M_takeList 43 = .ok (.iastore, 1) := by decide +kernel
theorem dd_M_takeList_44 : decode bb_M_takeList 44 = .ok (.aload_n 0, 1) := by decide +kernel
theorem dd_M_takeList_45 : decode bb_M_takeList 45 = .ok (.dup, 1) := by decide +kernel
theorem dd_M_takeList_46 : decode bb_M_takeList 46 = .ok (.getfield 88, 3) := by decide +kernel
theorem dd_M_takeList_49 : decode bb_M_takeList 49 = .ok (.iconst 1, 1) := by decide +kernel
theorem dd_M_takeList_50 : decode bb_M_takeList 50 = .ok (.iadd, 1) := by decide +kernel
theorem dd_M_takeList_51 : decode bb_M_takeList 51 = .ok (.putfield 88, 3) := by decide +kernel
theorem dd_M_takeList_54 : decode bb_M_takeList 54 = .ok (.iinc 3 1, 3) := by decide +kernel
theorem dd_M_takeList_57 : decode bb_M_takeList 57 = .ok (.goto (-50), 3) := by decide +kernel
theorem dd_M_takeList_60 : decode bb_M_takeList 60 = .ok (.return_, 1) := by decide +kernel
theorem dd_M_findDraft_0 : decode bb_M_findDraft 0 = .ok (.iconst 0, 1) := by decide +kernel
theorem dd_M_findDraft_1 : decode bb_M_findDraft 1 = .ok (.istore_n 2, 1) := by decide +kernel
theorem dd_M_findDraft_2 : decode bb_M_findDraft 2 = .ok (.iload_n 2, 1) := by decide +kernel
theorem dd_M_findDraft_3 : decode bb_M_findDraft 3 = .ok (.aload_n 0, 1) := by decide +kernel
theorem dd_M_findDraft_4 : decode bb_M_findDraft 4 = .ok (.iload_n 1, 1) := by decide +kernel
theorem dd_M_findDraft_5 : decode bb_M_findDraft 5 = .ok (.invokevirtual 108, 3) := by decide +kernel
theorem dd_M_findDraft_8 : decode bb_M_findDraft 8 = .ok (.if_icmp .ge 29, 3) := by decide +kernel
theorem dd_M_findDraft_11 : decode bb_M_findDraft 11 = .ok (.aload_n 0, 1) := by decide +kernel
theorem dd_M_findDraft_12 : decode bb_M_findDraft 12 = .ok (.aload_n 0, 1) := by decide +kernel
theorem dd_M_findDraft_13 : decode bb_M_findDraft 13 = .ok (.iload_n 1, 1) := by decide +kernel
theorem dd_M_findDraft_14 : decode bb_M_findDraft 14 = .ok (.iload_n 2, 1) := by decide +kernel
theorem dd_M_findDraft_15 : decode bb_M_findDraft 15 = .ok (.invokevirtual 111, 3) := by decide +kernel
theorem dd_M_findDraft_18 : decode bb_M_findDraft 18 = .ok (.invokevirtual 114, 3) := by decide +kernel
theorem dd_M_findDraft_21 : decode bb_M_findDraft 21 = .ok (.ifCond .eq 10, 3) := by decide +kernel
theorem dd_M_findDraft_24 : decode bb_M_findDraft 24 = .ok (.aload_n 0, 1) := by decide +kernel
theorem dd_M_findDraft_25 : decode bb_M_findDraft 25 = .ok (.iload_n 1, 1) := by decide +kernel
theorem dd_M_findDraft_26 : decode bb_M_findDraft 26 = .ok (.iload_n 2, 1) := by decide +kernel
theorem dd_M_findDraft_27 : decode bb_M_findDraft 27 = .ok (.invokevirtual 111, 3) := by decide +kernel
theorem dd_M_findDraft_30 : decode bb_M_findDraft 30 = .ok (.ireturn, 1) := by decide +kernel
theorem dd_M_findDraft_31 : decode bb_M_findDraft 31 = .ok (.iinc 2 1, 3) := by decide +kernel
theorem dd_M_findDraft_34 : decode bb_M_findDraft 34 = .ok (.goto (-32), 3) := by decide +kernel
theorem dd_M_findDraft_37 : decode bb_M_findDraft 37 = .ok (.iconst (-1), 1) := by decide +kernel
theorem dd_M_findDraft_38 : decode bb_M_findDraft 38 = .ok (.ireturn, 1) := by decide +kernel
theorem dd_M_type_0 : decode bb_M_type 0 = .ok (.aload_n 0, 1) := by decide +kernel
theorem dd_M_type_1 : decode bb_M_type 1 = .ok (.iconst 0, 1) := by decide +kernel
theorem dd_M_type_2 : decode bb_M_type 2 = .ok (.putfield 54, 3) := by decide +kernel
theorem dd_M_type_5 : decode bb_M_type 5 = .ok (.iload_n 1, 1) := by decide +kernel
theorem dd_M_type_6 : decode bb_M_type 6 = .ok (.bipush 97, 2) := by decide +kernel
theorem dd_M_type_8 : decode bb_M_type 8 = .ok (.if_icmp .lt 9, 3) := by decide +kernel
theorem dd_M_type_11 : decode bb_M_type 11 = .ok (.iload_n 1, 1) := by decide +kernel
theorem dd_M_type_12 : decode bb_M_type 12 = .ok (.bipush 122, 2) := by decide +kernel
theorem dd_M_type_14 : decode bb_M_type 14 = .ok (.if_icmp .le 15, 3) := by decide +kernel
theorem dd_M_type_17 : decode bb_M_type 17 = .ok (.iload_n 1, 1) := by decide +kernel
theorem dd_M_type_18 : decode bb_M_type 18 = .ok (.bipush 48, 2) := by decide +kernel
theorem dd_M_type_20 : decode bb_M_type 20 = .ok (.if_icmp .lt 13, 3) := by decide +kernel
theorem dd_M_type_23 : decode bb_M_type 23 = .ok (.iload_n 1, 1) := by decide +kernel
theorem dd_M_type_24 : decode bb_M_type 24 = .ok (.bipush 57, 2) := by decide +kernel
theorem dd_M_type_26 : decode bb_M_type 26 = .ok (.if_icmp .gt 7, 3) := by decide +kernel
theorem dd_M_type_29 : decode bb_M_type 29 = .ok (.iconst 1, 1) := by decide +kernel
theorem dd_M_type_30 : decode bb_M_type 30 = .ok (.goto 4, 3) := by decide +kernel
theorem dd_M_type_33 : decode bb_M_type 33 = .ok (.iconst 0, 1) := by decide +kernel
theorem dd_M_type_34 : decode bb_M_type 34 = .ok (.istore_n 2, 1) := by decide +kernel
theorem dd_M_type_35 : decode bb_M_type 35 = .ok (.iload_n 2, 1) := by decide +kernel
theorem dd_M_type_36 : decode bb_M_type 36 = .ok (.ifCond .eq 12, 3) := by decide +kernel
theorem dd_M_type_39 : decode bb_M_type 39 = .ok (.aload_n 0, 1) := by decide +kernel
theorem dd_M_type_40 : decode bb_M_type 40 = .ok (.getfield 78, 3) := by decide +kernel
theorem dd_M_type_43 : decode bb_M_type 43 = .ok (.bipush 8, 2) := by decide +kernel
theorem dd_M_type_45 : decode bb_M_type 45 = .ok (.if_icmp .ne 5, 3) := by decide +kernel
theorem dd_M_type_48 : decode bb_M_type 48 = .ok (.iconst 0, 1) := by decide +kernel
theorem dd_M_type_49 : decode bb_M_type 49 = .ok (.ireturn, 1) := by decide +kernel
theorem dd_M_type_50 : decode bb_M_type 50 = .ok (.aload_n 0, 1) := by decide +kernel
theorem dd_M_type_51 : decode bb_M_type 51 = .ok (.getfield 20, 3) := by decide +kernel
theorem dd_M_type_54 : decode bb_M_type 54 = .ok (.aload_n 0, 1) := by decide +kernel
theorem dd_M_type_55 : decode bb_M_type 55 = .ok (.getfield 78, 3) := by decide +kernel
theorem dd_M_type_58 : decode bb_M_type 58 = .ok (.iload_n 1, 1) := by decide +kernel
theorem dd_M_type_59 : decode bb_M_type 59 = .ok (.castore, 1) := by decide +kernel
theorem dd_M_type_60 : decode bb_M_type 60 = .ok (.aload_n 0, 1) := by decide +kernel
theorem dd_M_type_61 : decode bb_M_type 61 = .ok (.dup, 1) := by decide +kernel
theorem dd_M_type_62 : decode bb_M_type 62 = .ok (.getfield 78, 3) := by decide +kernel
theorem dd_M_type_65 : decode bb_M_type 65 = .ok (.iconst 1, 1) := by decide +kernel
theorem dd_M_type_66 : decode bb_M_type 66 = .ok (.iadd, 1) := by decide +kernel
theorem dd_M_type_67 : decode bb_M_type 67 = .ok (.putfield 78, 3) := by decide +kernel
theorem dd_M_type_70 : decode bb_M_type 70 = .ok (.iconst 1, 1) := by decide +kernel
theorem dd_M_type_71 : decode bb_M_type 71 = .ok (.ireturn, 1) := by decide +kernel
theorem dd_M_makeRecord_0 : decode bb_M_makeRecord 0 = .ok (.aload_n 0, 1) := by decide +kernel
theorem dd_M_makeRecord_1 : decode bb_M_makeRecord 1 = .ok (.getfield 50, 3) := by decide +kernel
theorem dd_M_makeRecord_4 : decode bb_M_makeRecord 4 = .ok (.ifCond .ne 9, 3) := by decide +kernel
theorem dd_M_makeRecord_7 : decode bb_M_makeRecord 7 = .ok (.aload_n 0, 1) := by decide +kernel
theorem dd_M_makeRecord_8 : decode bb_M_makeRecord 8 = .ok (.iconst 1, 1) := by decide +kernel
theorem dd_M_makeRecord_9 : decode bb_M_makeRecord 9 = .ok (.invokevirtual 117, 3) := by decide +kernel
theorem dd_M_makeRecord_12 : decode bb_M_makeRecord 12 = .ok (.ireturn, 1) := by decide +kernel
theorem dd_M_makeRecord_13 : decode bb_M_makeRecord 13 = .ok (.aload_n 0, 1) := by decide +kernel
theorem dd_M_makeRecord_14 : decode bb_M_makeRecord 14 = .ok (.iload_n 1, 1) := by decide +kernel
theorem dd_M_makeRecord_15 : decode bb_M_makeRecord 15 = .ok (.iconst 2, 1) := by decide +kernel
theorem dd_M_makeRecord_16 : decode bb_M_makeRecord 16 = .ok (.invokevirtual 120, 3) := by decide +kernel
theorem dd_M_makeRecord_19 : decode bb_M_makeRecord 19 = .ok (.ifCond .eq 10, 3) := by decide +kernel
theorem dd_M_makeRecord_22 : decode bb_M_makeRecord 22 = .ok (.aload_n 0, 1) := by decide +kernel
theorem dd_M_makeRecord_23 : decode bb_M_makeRecord 23 = .ok (.getfield 78, 3) := by decide +kernel
theorem dd_M_makeRecord_26 : decode bb_M_makeRecord 26 = .ok (.ifCond .ne 9, 3) := by decide +kernel
theorem dd_M_makeRecord_29 : decode bb_M_makeRecord 29 = .ok (.aload_n 0, 1) := by decide +kernel
theorem dd_M_makeRecord_30 : decode bb_M_makeRecord 30 = .ok (.iconst 2, 1) := by decide +kernel
theorem dd_M_makeRecord_31 : decode bb_M_makeRecord 31 = .ok (.invokevirtual 117, 3) := by decide +kernel
theorem dd_M_makeRecord_34 : decode bb_M_makeRecord 34 = .ok (.ireturn, 1) := by decide +kernel
theorem dd_M_makeRecord_35 : decode bb_M_makeRecord 35 = .ok (.aload_n 0, 1) := by decide +kernel
theorem dd_M_makeRecord_36 : decode bb_M_makeRecord 36 = .ok (.iload_n 1, 1) := by decide +kernel
theorem dd_M_makeRecord_37 : decode bb_M_makeRecord 37 = .ok (.invokevirtual 123, 3) := by decide +kernel
theorem dd_M_makeRecord_40 : decode bb_M_makeRecord 40 = .ok (.ifCond .lt 9, 3) := by decide +kernel
theorem dd_M_makeRecord_43 : decode bb_M_makeRecord 43 = .ok (.aload_n 0, 1) := by decide +kernel
theorem dd_M_makeRecord_44 : decode bb_M_makeRecord 44 = .ok (.iconst 2, 1) := by decide +kernel
theorem dd_M_makeRecord_45 : decode bb_M_makeRecord 45 = .ok (.invokevirtual 117, 3) := by decide +kernel
theorem dd_M_makeRecord_48 : decode bb_M_makeRecord 48 = .ok (.ireturn, 1) := by decide +kernel
theorem dd_M_makeRecord_49 : decode bb_M_makeRecord 49 = .ok (.iconst 0, 1) := by decide +kernel
theorem dd_M_makeRecord_50 : decode bb_M_makeRecord 50 = .ok (.istore_n 3, 1) := by decide +kernel
theorem dd_M_makeRecord_51 : decode bb_M_makeRecord 51 = .ok (.iload_n 3, 1) := by decide +kernel
theorem dd_M_makeRecord_52 : decode bb_M_makeRecord 52 = .ok (.bipush 12, 2) := by decide +kernel
theorem dd_M_makeRecord_54 : decode bb_M_makeRecord 54 = .ok (.if_icmp .ge 18, 3) := by decide +kernel
theorem dd_M_makeRecord_57 : decode bb_M_makeRecord 57 = .ok (.aload_n 0, 1) := by decide +kernel
theorem dd_M_makeRecord_58 : decode bb_M_makeRecord 58 = .ok (.getfield 13, 3) := by decide +kernel
theorem dd_M_makeRecord_61 : decode bb_M_makeRecord 61 = .ok (.iload_n 3, 1) := by decide +kernel
theorem dd_M_makeRecord_62 : decode bb_M_makeRecord 62 = .ok (.baload, 1) := by decide +kernel
theorem dd_M_makeRecord_63 : decode bb_M_makeRecord 63 = .ok (.ifCond .eq 9, 3) := by decide +kernel
theorem dd_M_makeRecord_66 : decode bb_M_makeRecord 66 = .ok (.iinc 3 1, 3) := by decide +kernel
theorem dd_M_makeRecord_69 : decode bb_M_makeRecord 69 = .ok (.goto (-18), 3) := by decide +kernel
theorem dd_M_makeRecord_72 : decode bb_M_makeRecord 72 = .ok (.iload_n 3, 1) := by decide +kernel
theorem dd_M_makeRecord_73 : decode bb_M_makeRecord 73 = .ok (.bipush 12, 2) := by decide +kernel
theorem dd_M_makeRecord_75 : decode bb_M_makeRecord 75 = .ok (.if_icmp .ne 9, 3) := by decide +kernel
theorem dd_M_makeRecord_78 : decode bb_M_makeRecord 78 = .ok (.aload_n 0, 1) := by decide +kernel
theorem dd_M_makeRecord_79 : decode bb_M_makeRecord 79 = .ok (.iconst 3, 1) := by decide +kernel
theorem dd_M_makeRecord_80 : decode bb_M_makeRecord 80 = .ok (.invokevirtual 117, 3) := by decide +kernel
theorem dd_M_makeRecord_83 : decode bb_M_makeRecord 83 = .ok (.ireturn, 1) := by decide +kernel
theorem dd_M_makeRecord_84 : decode bb_M_makeRecord 84 = .ok (.aload_n 0, 1) := by decide +kernel
theorem dd_M_makeRecord_85 : decode bb_M_makeRecord 85 = .ok (.iload_n 2, 1) := by decide +kernel
theorem dd_M_makeRecord_86 : decode bb_M_makeRecord 86 = .ok (.ifCond .eq 7, 3) := by decide +kernel
theorem dd_M_makeRecord_89 : decode bb_M_makeRecord 89 = .ok (.iconst 1, 1) := by decide +kernel
theorem dd_M_makeRecord_90 : decode bb_M_makeRecord 90 = .ok (.goto 4, 3) := by decide +kernel
theorem dd_M_makeRecord_93 : decode bb_M_makeRecord 93 = .ok (.iconst 2, 1) := by decide +kernel
theorem dd_M_makeRecord_94 : decode bb_M_makeRecord 94 = .ok (.iload_n 1, 1) := by decide +kernel
theorem dd_M_makeRecord_95 : decode bb_M_makeRecord 95 = .ok (.invokevirtual 39, 3) := by decide +kernel
theorem dd_M_makeRecord_98 : decode bb_M_makeRecord 98 = .ok (.aload_n 0, 1) := by decide +kernel
theorem dd_M_makeRecord_99 : decode bb_M_makeRecord 99 = .ok (.invokevirtual 126, 3) := by decide +kernel
theorem dd_M_makeRecord_102 : decode bb_M_makeRecord 102 = .ok (.aload_n 0, 1) := by decide +kernel
theorem dd_M_makeRecord_103 : decode bb_M_makeRecord 103 = .ok (.iconst 0, 1) := by decide +kernel
theorem dd_M_makeRecord_104 : decode bb_M_makeRecord 104 = .ok (.putfield 88, 3) := by decide +kernel
theorem dd_M_makeRecord_107 : decode bb_M_makeRecord 107 = .ok (.iload_n 2, 1) := by decide +kernel
theorem dd_M_makeRecord_108 : decode bb_M_makeRecord 108 = .ok (.ifCond .eq 11, 3) := by decide +kernel
theorem dd_M_makeRecord_111 : decode bb_M_makeRecord 111 = .ok (.aload_n 0, 1) := by decide +kernel
theorem dd_M_makeRecord_112 : decode bb_M_makeRecord 112 = .ok (.iconst 0, 1) := by decide +kernel
theorem dd_M_makeRecord_113 : decode bb_M_makeRecord 113 = .ok (.invokevirtual 129, 3) := by decide +kernel
theorem dd_M_makeRecord_116 : decode bb_M_makeRecord 116 = .ok (.goto 7, 3) := by decide +kernel
theorem dd_M_makeRecord_119 : decode bb_M_makeRecord 119 = .ok (.aload_n 0, 1) := by decide +kernel
theorem dd_M_makeRecord_120 : decode bb_M_makeRecord 120 = .ok (.invokevirtual 43, 3) := by decide +kernel
theorem dd_M_makeRecord_123 : decode bb_M_makeRecord 123 = .ok (.aload_n 0, 1) := by decide +kernel
theorem dd_M_makeRecord_124 : decode bb_M_makeRecord 124 = .ok (.iload_n 3, 1) := by decide +kernel
theorem dd_M_makeRecord_125 : decode bb_M_makeRecord 125 = .ok (.invokevirtual 46, 3) := by decide +kernel
theorem dd_M_makeRecord_128 : decode bb_M_makeRecord 128 = .ok (.ifCond .ne 9, 3) := by decide +kernel
theorem dd_M_makeRecord_131 : decode bb_M_makeRecord 131 = .ok (.aload_n 0, 1) := by decide +kernel
theorem dd_M_makeRecord_132 : decode bb_M_makeRecord 132 = .ok (.iconst 1, 1) := by decide +kernel
theorem dd_M_makeRecord_133 : decode bb_M_makeRecord 133 = .ok (.invokevirtual 117, 3) := by decide +kernel
theorem dd_M_makeRecord_136 : decode bb_M_makeRecord 136 = .ok (.ireturn, 1) := by decide +kernel
theorem dd_M_makeRecord_137 : decode bb_M_makeRecord 137 = .ok (.aload_n 0, 1) := by decide +kernel
theorem dd_M_makeRecord_138 : decode bb_M_makeRecord 138 = .ok (.iload_n 1, 1) := by decide +kernel
theorem dd_M_makeRecord_139 : decode bb_M_makeRecord 139 = .ok (.iconst (-1), 1) := by decide +kernel
theorem dd_M_makeRecord_140 : decode bb_M_makeRecord 140 = .ok (.invokevirtual 132, 3) := by decide +kernel
theorem dd_M_makeRecord_143 : decode bb_M_makeRecord 143 = .ok (.aload_n 0, 1) := by decide +kernel
theorem dd_M_makeRecord_144 : decode bb_M_makeRecord 144 = .ok (.iload_n 3, 1) := by decide +kernel
theorem dd_M_makeRecord_145 : decode bb_M_makeRecord 145 = .ok (.invokevirtual 135, 3) := by decide +kernel
theorem dd_M_makeRecord_148 : decode bb_M_makeRecord 148 = .ok (.aload_n 0, 1) := by decide +kernel
theorem dd_M_makeRecord_149 : decode bb_M_makeRecord 149 = .ok (.iload_n 1, 1) := by decide +kernel
theorem dd_M_makeRecord_150 : decode bb_M_makeRecord 150 = .ok (.aload_n 0, 1) := by decide +kernel
theorem dd_M_makeRecord_151 : decode bb_M_makeRecord 151 = .ok (.iload_n 1, 1) := by decide +kernel
theorem dd_M_makeRecord_152 : decode bb_M_makeRecord 152 = .ok (.iconst 1, 1) := by decide +kernel
theorem dd_M_makeRecord_153 : decode bb_M_makeRecord 153 = .ok (.invokevirtual 65, 3) := by decide +kernel
theorem dd_M_makeRecord_156 : decode bb_M_makeRecord 156 = .ok (.invokevirtual 138, 3) := by decide +kernel
theorem dd_M_makeRecord_159 : decode bb_M_makeRecord 159 = .ok (.ifCond .eq 7, 3) := by decide +kernel
theorem dd_M_makeRecord_162 : decode bb_M_makeRecord 162 = .ok (.iload_n 3, 1) := by decide +kernel
theorem dd_M_makeRecord_163 : decode bb_M_makeRecord 163 = .ok (.goto 8, 3) := by decide +kernel
theorem dd_M_makeRecord_166 : decode bb_M_makeRecord 166 = .ok (.aload_n 0, 1) := by decide +kernel
theorem dd_M_makeRecord_167 : decode bb_M_makeRecord 167 = .ok (.iconst 1, 1) := by decide +kernel
theorem dd_M_makeRecord_168 : decode bb_M_makeRecord 168 = .ok (.invokevirtual 117, 3) := by decide +kernel
theorem dd_M_makeRecord_171 : decode bb_M_makeRecord 171 = .ok (.ireturn, 1) := by decide +kernel
theorem dd_M_create_0 : decode bb_M_create 0 = .ok (.aload_n 0, 1) := by decide +kernel
theorem dd_M_create_1 : decode bb_M_create 1 = .ok (.iconst 0, 1) := by decide +kernel
theorem dd_M_create_2 : decode bb_M_create 2 = .ok (.putfield 54, 3) := by decide +kernel
theorem dd_M_create_5 : decode bb_M_create 5 = .ok (.aload_n 0, 1) := by decide +kernel
theorem dd_M_create_6 : decode bb_M_create 6 = .ok (.iload_n 1, 1) := by decide +kernel
theorem dd_M_create_7 : decode bb_M_create 7 = .ok (.iload_n 2, 1) := by decide +kernel
theorem dd_M_create_8 : decode bb_M_create 8 = .ok (.invokevirtual 141, 3) := by decide +kernel
theorem dd_M_create_11 : decode bb_M_create 11 = .ok (.istore_n 3, 1) := by decide +kernel
theorem dd_M_create_12 : decode bb_M_create 12 = .ok (.aload_n 0, 1) := by decide +kernel
theorem dd_M_create_13 : decode bb_M_create 13 = .ok (.iconst 0, 1) := by decide +kernel
theorem dd_M_create_14 : decode bb_M_create 14 = .ok (.putfield 78, 3) := by decide +kernel
theorem dd_M_create_17 : decode bb_M_create 17 = .ok (.iload_n 3, 1) := by decide +kernel
theorem dd_M_create_18 : decode bb_M_create 18 = .ok (.ireturn, 1) := by decide +kernel
theorem dd_M_loadMap_0 : decode bb_M_loadMap 0 = .ok (.aload_n 0, 1) := by decide +kernel
theorem dd_M_loadMap_1 : decode bb_M_loadMap 1 = .ok (.iconst 0, 1) := by decide +kernel
theorem dd_M_loadMap_2 : decode bb_M_loadMap 2 = .ok (.putfield 91, 3) := by decide +kernel
theorem dd_M_loadMap_5 : decode bb_M_loadMap 5 = .ok (.aload_n 0, 1) := by decide +kernel
theorem dd_M_loadMap_6 : decode bb_M_loadMap 6 = .ok (.iload_n 1, 1) := by decide +kernel
theorem dd_M_loadMap_7 : decode bb_M_loadMap 7 = .ok (.iconst 3, 1) := by decide +kernel
theorem dd_M_loadMap_8 : decode bb_M_loadMap 8 = .ok (.invokevirtual 69, 3) := by decide +kernel
theorem dd_M_loadMap_11 : decode bb_M_loadMap 11 = .ok (.istore_n 2, 1) := by decide +kernel
theorem dd_M_loadMap_12 : decode bb_M_loadMap 12 = .ok (.iload_n 2, 1) := by decide +kernel
theorem dd_M_loadMap_13 : decode bb_M_loadMap 13 = .ok (.ifCond .ge 4, 3) := by decide +kernel
theorem dd_M_loadMap_16 : decode bb_M_loadMap 16 = .ok (.return_, 1) := by decide +kernel
theorem dd_M_loadMap_17 : decode bb_M_loadMap 17 = .ok (.iinc 2 4, 3) := by decide +kernel
theorem dd_M_loadMap_20 : decode bb_M_loadMap 20 = .ok (.bipush 48, 2) := by decide +kernel
theorem dd_M_loadMap_22 : decode bb_M_loadMap 22 = .ok (.istore_n 3, 1) := by decide +kernel
theorem dd_M_loadMap_23 : decode bb_M_loadMap 23 = .ok (.aload_n 0, 1) := by decide +kernel
theorem dd_M_loadMap_24 : decode bb_M_loadMap 24 = .ok (.iload_n 1, 1) := by decide +kernel
theorem dd_M_loadMap_25 : decode bb_M_loadMap 25 = .ok (.iload_n 2, 1) := by decide +kernel
theorem dd_M_loadMap_26 : decode bb_M_loadMap 26 = .ok (.invokevirtual 65, 3) := by decide +kernel
theorem dd_M_loadMap_29 : decode bb_M_loadMap 29 = .ok (.ifCond .eq 118, 3) := by decide +kernel
theorem dd_M_loadMap_32 : decode bb_M_loadMap 32 = .ok (.aload_n 0, 1) := by decide +kernel
theorem dd_M_loadMap_33 : decode bb_M_loadMap 33 = .ok (.iload_n 1, 1) := by decide +kernel
theorem dd_M_loadMap_34 : decode bb_M_loadMap 34 = .ok (.iload_n 2, 1) := by decide +kernel
theorem dd_M_loadMap_35 : decode bb_M_loadMap 35 = .ok (.invokevirtual 65, 3) := by decide +kernel
theorem dd_M_loadMap_38 : decode bb_M_loadMap 38 = .ok (.iconst 1, 1) := by decide +kernel
theorem dd_M_loadMap_39 : decode bb_M_loadMap 39 = .ok (.if_icmp .ne 7, 3) := by decide +kernel
theorem dd_M_loadMap_42 : decode bb_M_loadMap 42 = .ok (.iconst 1, 1) := by decide +kernel
theorem dd_M_loadMap_43 : decode bb_M_loadMap 43 = .ok (.goto 4, 3) := by decide +kernel
theorem dd_M_loadMap_46 : decode bb_M_loadMap 46 = .ok (.iconst 0, 1) := by decide +kernel
theorem dd_M_loadMap_47 : decode bb_M_loadMap 47 = .ok (.istore 4, 2) := by decide +kernel
theorem dd_M_loadMap_49 : decode bb_M_loadMap 49 = .ok (.aload_n 0, 1) := by decide +kernel
theorem dd_M_loadMap_50 : decode bb_M_loadMap 50 = .ok (.iload_n 1, 1) := by decide +kernel
theorem dd_M_loadMap_51 : decode bb_M_loadMap 51 = .ok (.iload_n 2, 1) := by decide +kernel
theorem dd_M_loadMap_52 : decode bb_M_loadMap 52 = .ok (.iconst 1, 1) := by decide +kernel
theorem dd_M_loadMap_53 : decode bb_M_loadMap 53 = .ok (.iadd, 1) := by decide +kernel
theorem dd_M_loadMap_54 : decode bb_M_loadMap 54 = .ok (.invokevirtual 65, 3) := by decide +kernel
theorem dd_M_loadMap_57 : decode bb_M_loadMap 57 = .ok (.istore 5, 2) := by decide +kernel
theorem dd_M_loadMap_59 : decode bb_M_loadMap 59 = .ok (.iload 4, 2) := by decide +kernel
theorem dd_M_loadMap_61 : decode bb_M_loadMap 61 = .ok (.ifCond .ne 18, 3) := by decide +kernel
theorem dd_M_loadMap_64 : decode bb_M_loadMap 64 = .ok (.iload_n 3, 1) := by decide +kernel
theorem dd_M_loadMap_65 : decode bb_M_loadMap 65 = .ok (.aload_n 0, 1) := by decide +kernel
theorem dd_M_loadMap_66 : decode bb_M_loadMap 66 = .ok (.iload_n 1, 1) := by decide +kernel
theorem dd_M_loadMap_67 : decode bb_M_loadMap 67 = .ok (.iload_n 2, 1) := by decide +kernel
theorem dd_M_loadMap_68 : decode bb_M_loadMap 68 = .ok (.iconst 2, 1) := by decide +kernel
theorem dd_M_loadMap_69 : decode bb_M_loadMap 69 = .ok (.iadd, 1) := by decide +kernel
theorem dd_M_loadMap_70 : decode bb_M_loadMap 70 = .ok (.invokevirtual 65, 3) := by decide +kernel
theorem dd_M_loadMap_73 : decode bb_M_loadMap 73 = .ok (.iadd, 1) := by decide +kernel
theorem dd_M_loadMap_74 : decode bb_M_loadMap 74 = .ok (.sipush 255, 3) := by decide +kernel
theorem dd_M_loadMap_77 : decode bb_M_loadMap 77 = .ok (.iand, 1) := by decide +kernel
theorem dd_M_loadMap_78 : decode bb_M_loadMap 78 = .ok (.istore_n 3, 1) := by decide +kernel
theorem dd_M_loadMap_79 : decode bb_M_loadMap 79 = .ok (.iconst 0, 1) := by decide +kernel
theorem dd_M_loadMap_80 : decode bb_M_loadMap 80 = .ok (.istore 6, 2) := by decide +kernel
theorem dd_M_loadMap_82 : decode bb_M_loadMap 82 = .ok (.iload 6, 2) := by decide +kernel
theorem dd_M_loadMap_84 : decode bb_M_loadMap 84 = .ok (.iload 5, 2) := by decide +kernel
theorem dd_M_loadMap_86 : decode bb_M_loadMap 86 = .ok (.if_icmp .ge 34, 3) := by decide +kernel
theorem dd_M_loadMap_89 : decode bb_M_loadMap 89 = .ok (.aload_n 0, 1) := by decide +kernel
theorem dd_M_loadMap_90 : decode bb_M_loadMap 90 = .ok (.getfield 27, 3) := by decide +kernel
theorem dd_M_loadMap_93 : decode bb_M_loadMap 93 = .ok (.aload_n 0, 1) := by decide +kernel
theorem dd_M_loadMap_94 : decode bb_M_loadMap 94 = .ok (.getfield 91, 3) := by decide +kernel
theorem dd_M_loadMap_97 : decode bb_M_loadMap 97 = .ok (.iload 6, 2) := by decide +kernel
theorem dd_M_loadMap_99 : decode bb_M_loadMap 99 = .ok (.iadd, 1) := by decide +kernel
theorem dd_M_loadMap_100 : decode bb_M_loadMap 100 = .ok (.iload 4, 2) := by decide +kernel
theorem dd_M_loadMap_102 : decode bb_M_loadMap 102 = .ok (.ifCond .eq 7, 3) := by decide +kernel
theorem dd_M_loadMap_105 : decode bb_M_loadMap 105 = .ok (.iconst (-1), 1) := by decide +kernel
theorem dd_M_loadMap_106 : decode bb_M_loadMap 106 = .ok (.goto 7, 3) := by decide +kernel
theorem dd_M_loadMap_109 : decode bb_M_loadMap 109 = .ok (.iload_n 3, 1) := by decide +kernel
theorem dd_M_loadMap_110 : decode bb_M_loadMap 110 = .ok (.iload 6, 2) := by decide +kernel
theorem dd_M_loadMap_112 : decode bb_M_loadMap 112 = .ok (.iadd, 1) := by decide +kernel
theorem dd_M_loadMap_113 : decode bb_M_loadMap 113 = .ok (.iastore, 1) := by decide +kernel
theorem dd_M_loadMap_114 : decode bb_M_loadMap 114 = .ok (.iinc 6 1, 3) := by decide +kernel
theorem dd_M_loadMap_117 : decode bb_M_loadMap 117 = .ok (.goto (-35), 3) := by decide +kernel
theorem dd_M_loadMap_120 : decode bb_M_loadMap 120 = .ok (.aload_n 0, 1) := by decide +kernel
theorem dd_M_loadMap_121 : decode bb_M_loadMap 121 = .ok (.dup, 1) := by decide +kernel
theorem dd_M_loadMap_122 : decode bb_M_loadMap 122 = .ok (.getfield 91, 3) := by decide +kernel
theorem dd_M_loadMap_125 : decode bb_M_loadMap 125 = .ok (.iload 5, 2) := by decide +kernel
theorem dd_M_loadMap_127 : decode bb_M_loadMap 127 = .ok (.iadd, 1) := by decide +kernel
theorem dd_M_loadMap_128 : decode bb_M_loadMap 128 = .ok (.putfield 91, 3) := by decide +kernel
theorem dd_M_loadMap_131 : decode bb_M_loadMap 131 = .ok (.iload_n 2, 1) := by decide +kernel
theorem dd_M_loadMap_132 : decode bb_M_loadMap 132 = .ok (.iload 4, 2) := by decide +kernel
theorem dd_M_loadMap_134 : decode bb_M_loadMap 134 = .ok (.ifCond .eq 7, 3) := by decide +kernel
theorem dd_M_loadMap_137 : decode bb_M_loadMap 137 = .ok (.iconst 2, 1) := by decide +kernel
theorem dd_M_loadMap_138 : decode bb_M_loadMap 138 = .ok (.goto 4, 3) := by decide +kernel
theorem dd_M_loadMap_141 : decode bb_M_loadMap 141 = .ok (.iconst 3, 1) := by decide +kernel
theorem dd_M_loadMap_142 : decode bb_M_loadMap 142 = .ok (.iadd, 1) := by decide +kernel
theorem dd_M_loadMap_143 : decode bb_M_loadMap 143 = .ok (.istore_n 2, 1) := by decide +kernel
theorem dd_M_loadMap_144 : decode bb_M_loadMap 144 = .ok (.goto (-121), 3) := by decide +kernel
theorem dd_M_loadMap_147 : decode bb_M_loadMap 147 = .ok (.return_, 1) := by decide +kernel
theorem dd_M_remove_0 : decode bb_M_remove 0 = .ok (.aload_n 0, 1) := by decide +kernel
theorem dd_M_remove_1 : decode bb_M_remove 1 = .ok (.iconst 0, 1) := by decide +kernel
theorem dd_M_remove_2 : decode bb_M_remove 2 = .ok (.putfield 54, 3) := by decide +kernel
theorem dd_M_remove_5 : decode bb_M_remove 5 = .ok (.aload_n 0, 1) := by decide +kernel
theorem dd_M_remove_6 : decode bb_M_remove 6 = .ok (.getfield 50, 3) := by decide +kernel
theorem dd_M_remove_9 : decode bb_M_remove 9 = .ok (.ifCond .ne 9, 3) := by decide +kernel
theorem dd_M_remove_12 : decode bb_M_remove 12 = .ok (.aload_n 0, 1) := by decide +kernel
theorem dd_M_remove_13 : decode bb_M_remove 13 = .ok (.iconst 1, 1) := by decide +kernel
theorem dd_M_remove_14 : decode bb_M_remove 14 = .ok (.invokevirtual 117, 3) := by decide +kernel
theorem dd_M_remove_17 : decode bb_M_remove 17 = .ok (.ireturn, 1) := by decide +kernel
theorem dd_M_remove_18 : decode bb_M_remove 18 = .ok (.aload_n 0, 1) := by decide +kernel
theorem dd_M_remove_19 : decode bb_M_remove 19 = .ok (.iload_n 1, 1) := by decide +kernel
theorem dd_M_remove_20 : decode bb_M_remove 20 = .ok (.invokevirtual 62, 3) := by decide +kernel
theorem dd_M_remove_23 : decode bb_M_remove 23 = .ok (.ifCond .eq 7, 3) := by decide +kernel
theorem dd_M_remove_26 : decode bb_M_remove 26 = .ok (.iload_n 1, 1) := by decide +kernel
theorem dd_M_remove_27 : decode bb_M_remove 27 = .ok (.ifCond .ne 9, 3) := by decide +kernel
theorem dd_M_remove_30 : decode bb_M_remove 30 = .ok (.aload_n 0, 1) := by decide +kernel
theorem dd_M_remove_31 : decode bb_M_remove 31 = .ok (.iconst 2, 1) := by decide +kernel
theorem dd_M_remove_32 : decode bb_M_remove 32 = .ok (.invokevirtual 117, 3) := by decide +kernel
theorem dd_M_remove_35 : decode bb_M_remove 35 = .ok (.ireturn, 1) := by decide +kernel
theorem dd_M_remove_36 : decode bb_M_remove 36 = .ok (.aload_n 0, 1) := by decide +kernel
theorem dd_M_remove_37 : decode bb_M_remove 37 = .ok (.iload_n 1, 1) := by decide +kernel
theorem dd_M_remove_38 : decode bb_M_remove 38 = .ok (.iconst 0, 1) := by decide +kernel
theorem dd_M_remove_39 : decode bb_M_remove 39 = .ok (.invokevirtual 65, 3) := by decide +kernel
theorem dd_M_remove_42 : decode bb_M_remove 42 = .ok (.iconst 2, 1) := by decide +kernel
theorem dd_M_remove_43 : decode bb_M_remove 43 = .ok (.if_icmp .ne 17, 3) := by decide +kernel
theorem dd_M_remove_46 : decode bb_M_remove 46 = .ok (.aload_n 0, 1) := by decide +kernel
theorem dd_M_remove_47 : decode bb_M_remove 47 = .ok (.iload_n 1, 1) := by decide +kernel
theorem dd_M_remove_48 : decode bb_M_remove 48 = .ok (.invokevirtual 108, 3) := by decide +kernel
theorem dd_M_remove_51 : decode bb_M_remove 51 = .ok (.ifCond .le 9, 3) := by decide +kernel
theorem dd_M_remove_54 : decode bb_M_remove 54 = .ok (.aload_n 0, 1) := by decide +kernel
theorem dd_M_remove_55 : decode bb_M_remove 55 = .ok (.iconst 2, 1) := by decide +kernel
theorem dd_M_remove_56 : decode bb_M_remove 56 = .ok (.invokevirtual 117, 3) := by decide +kernel
theorem dd_M_remove_59 : decode bb_M_remove 59 = .ok (.ireturn, 1) := by decide +kernel
theorem dd_M_remove_60 : decode bb_M_remove 60 = .ok (.aload_n 0, 1) := by decide +kernel
theorem dd_M_remove_61 : decode bb_M_remove 61 = .ok (.iload_n 1, 1) := by decide +kernel
theorem dd_M_remove_62 : decode bb_M_remove 62 = .ok (.iconst 1, 1) := by decide +kernel
theorem dd_M_remove_63 : decode bb_M_remove 63 = .ok (.invokevirtual 65, 3) := by decide +kernel
theorem dd_M_remove_66 : decode bb_M_remove 66 = .ok (.istore_n 2, 1) := by decide +kernel
theorem dd_M_remove_67 : decode bb_M_remove 67 = .ok (.aload_n 0, 1) := by decide +kernel
theorem dd_M_remove_68 : decode bb_M_remove 68 = .ok (.iload_n 1, 1) := by decide +kernel
theorem dd_M_remove_69 : decode bb_M_remove 69 = .ok (.invokevirtual 145, 3) := by decide +kernel
theorem dd_M_remove_72 : decode bb_M_remove 72 = .ok (.aload_n 0, 1) := by decide +kernel
theorem dd_M_remove_73 : decode bb_M_remove 73 = .ok (.iload_n 2, 1) := by decide +kernel
theorem dd_M_remove_74 : decode bb_M_remove 74 = .ok (.iload_n 1, 1) := by decide +kernel
theorem dd_M_remove_75 : decode bb_M_remove 75 = .ok (.invokevirtual 132, 3) := by decide +kernel
theorem dd_M_remove_78 : decode bb_M_remove 78 = .ok (.aload_n 0, 1) := by decide +kernel
theorem dd_M_remove_79 : decode bb_M_remove 79 = .ok (.iload_n 2, 1) := by decide +kernel
theorem dd_M_remove_80 : decode bb_M_remove 80 = .ok (.aload_n 0, 1) := by decide +kernel
theorem dd_M_remove_81 : decode bb_M_remove 81 = .ok (.iload_n 2, 1) := by decide +kernel
theorem dd_M_remove_82 : decode bb_M_remove 82 = .ok (.iconst 1, 1) := by decide +kernel
theorem dd_M_remove_83 : decode bb_M_remove 83 = .ok (.invokevirtual 65, 3) := by decide +kernel
theorem dd_M_remove_86 : decode bb_M_remove 86 = .ok (.invokevirtual 138, 3) := by decide +kernel
theorem dd_M_remove_89 : decode bb_M_remove 89 = .ok (.ifCond .ne 9, 3) := by decide +kernel
theorem dd_M_remove_92 : decode bb_M_remove 92 = .ok (.aload_n 0, 1) := by decide +kernel
theorem dd_M_remove_93 : decode bb_M_remove 93 = .ok (.iconst 1, 1) := by decide +kernel
theorem dd_M_remove_94 : decode bb_M_remove 94 = .ok (.invokevirtual 117, 3) := by decide +kernel
theorem dd_M_remove_97 : decode bb_M_remove 97 = .ok (.ireturn, 1) := by decide +kernel
theorem dd_M_remove_98 : decode bb_M_remove 98 = .ok (.aload_n 0, 1) := by decide +kernel
theorem dd_M_remove_99 : decode bb_M_remove 99 = .ok (.iconst 0, 1) := by decide +kernel
theorem dd_M_remove_100 : decode bb_M_remove 100 = .ok (.iconst 0, 1) := by decide +kernel
theorem dd_M_remove_101 : decode bb_M_remove 101 = .ok (.invokevirtual 39, 3) := by decide +kernel
theorem dd_M_remove_104 : decode bb_M_remove 104 = .ok (.aload_n 0, 1) := by decide +kernel
theorem dd_M_remove_105 : decode bb_M_remove 105 = .ok (.iload_n 1, 1) := by decide +kernel
theorem dd_M_remove_106 : decode bb_M_remove 106 = .ok (.invokevirtual 46, 3) := by decide +kernel
theorem dd_M_remove_109 : decode bb_M_remove 109 = .ok (.ifCond .ne 9, 3) := by decide +kernel
theorem dd_M_remove_112 : decode bb_M_remove 112 = .ok (.aload_n 0, 1) := by decide +kernel
theorem dd_M_remove_113 : decode bb_M_remove 113 = .ok (.iconst 1, 1) := by decide +kernel
theorem dd_M_remove_114 : decode bb_M_remove 114 = .ok (.invokevirtual 117, 3) := by decide +kernel
theorem dd_M_remove_117 : decode bb_M_remove 117 = .ok (.ireturn, 1) := by decide +kernel
theorem dd_M_remove_118 : decode bb_M_remove 118 = .ok (.aload_n 0, 1) := by decide +kernel
theorem dd_M_remove_119 : decode bb_M_remove 119 = .ok (.iconst 0, 1) := by decide +kernel
theorem dd_M_remove_120 : decode bb_M_remove 120 = .ok (.invokevirtual 148, 3) := by decide +kernel
theorem dd_M_remove_123 : decode bb_M_remove 123 = .ok (.ireturn, 1) := by decide +kernel
theorem dd_M_release_0 : decode bb_M_release 0 = .ok (.iconst 0, 1) := by decide +kernel
theorem dd_M_release_1 : decode bb_M_release 1 = .ok (.istore_n 2, 1) := by decide +kernel
theorem dd_M_release_2 : decode bb_M_release 2 = .ok (.iload_n 1, 1) := by decide +kernel
theorem dd_M_release_3 : decode bb_M_release 3 = .ok (.istore_n 3, 1) := by decide +kernel
theorem dd_M_release_4 : decode bb_M_release 4 = .ok (.iload_n 3, 1) := by decide +kernel
theorem dd_M_release_5 : decode bb_M_release 5 = .ok (.aload_n 0, 1) := by decide +kernel
theorem dd_M_release_6 : decode bb_M_release 6 = .ok (.getfield 91, 3) := by decide +kernel
theorem dd_M_release_9 : decode bb_M_release 9 = .ok (.if_icmp .ge 36, 3) := by decide +kernel
theorem dd_M_release_12 : decode bb_M_release 12 = .ok (.aload_n 0, 1) := by decide +kernel
theorem dd_M_release_13 : decode bb_M_release 13 = .ok (.getfield 27, 3) := by decide +kernel
theorem dd_M_release_16 : decode bb_M_release 16 = .ok (.iload_n 3, 1) := by decide +kernel
theorem dd_M_release_17 : decode bb_M_release 17 = .ok (.iaload, 1) := by decide +kernel
theorem dd_M_release_18 : decode bb_M_release 18 = .ok (.ifCond .ge 6, 3) := by decide +kernel
theorem dd_M_release_21 : decode bb_M_release 21 = .ok (.goto 18, 3) := by decide +kernel
theorem dd_M_release_24 : decode bb_M_release 24 = .ok (.aload_n 0, 1) := by decide +kernel
theorem dd_M_release_25 : decode bb_M_release 25 = .ok (.getfield 17, 3) := by decide +kernel
theorem dd_M_release_28 : decode bb_M_release 28 = .ok (.aload_n 0, 1) := by decide +kernel
theorem dd_M_release_29 : decode bb_M_release 29 = .ok (.getfield 27, 3) := by decide +kernel
theorem dd_M_release_32 : decode bb_M_release 32 = .ok (.iload_n 3, 1) := by decide +kernel
theorem dd_M_release_33 : decode bb_M_release 33 = .ok (.iaload, 1) := by decide +kernel
theorem dd_M_release_34 : decode bb_M_release 34 = .ok (.iconst 0, 1) := by decide +kernel
theorem dd_M_release_35 : decode bb_M_release 35 = .ok (.bastore, 1) := by decide +kernel
theorem dd_M_release_36 : decode bb_M_release 36 = .ok (.iinc 2 1, 3) := by decide +kernel
theorem dd_M_release_39 : decode bb_M_release 39 = .ok (.iinc 3 1, 3) := by decide +kernel
theorem dd_M_release_42 : decode bb_M_release 42 = .ok (.goto (-38), 3) := by decide +kernel
theorem dd_M_release_45 : decode bb_M_release 45 = .ok (.iload_n 2, 1) := by decide +kernel
theorem dd_M_release_46 : decode bb_M_release 46 = .ok (.ireturn, 1) := by decide +kernel
theorem dd_M_isBelow_0 : decode bb_M_isBelow 0 = .ok (.iload_n 1, 1) := by decide +kernel
theorem dd_M_isBelow_1 : decode bb_M_isBelow 1 = .ok (.istore_n 3, 1) := by decide +kernel
theorem dd_M_isBelow_2 : decode bb_M_isBelow 2 = .ok (.iload_n 3, 1) := by decide +kernel
theorem dd_M_isBelow_3 : decode bb_M_isBelow 3 = .ok (.iload_n 2, 1) := by decide +kernel
theorem dd_M_isBelow_4 : decode bb_M_isBelow 4 = .ok (.if_icmp .eq 17, 3) := by decide +kernel
theorem dd_M_isBelow_7 : decode bb_M_isBelow 7 = .ok (.iload_n 3, 1) := by decide +kernel
theorem dd_M_isBelow_8 : decode bb_M_isBelow 8 = .ok (.ifCond .eq 13, 3) := by decide +kernel
theorem dd_M_isBelow_11 : decode bb_M_isBelow 11 = .ok (.aload_n 0, 1) := by decide +kernel
theorem dd_M_isBelow_12 : decode bb_M_isBelow 12 = .ok (.iload_n 3, 1) := by decide +kernel
theorem dd_M_isBelow_13 : decode bb_M_isBelow 13 = .ok (.iconst 1, 1) := by decide +kernel
theorem dd_M_isBelow_14 : decode bb_M_isBelow 14 = .ok (.invokevirtual 65, 3) := by decide +kernel
theorem dd_M_isBelow_17 : decode bb_M_isBelow 17 = .ok (.istore_n 3, 1) := by decide +kernel
theorem dd_M_isBelow_18 : decode bb_M_isBelow 18 = .ok (.goto (-16), 3) := by decide +kernel
theorem dd_M_isBelow_21 : decode bb_M_isBelow 21 = .ok (.iload_n 3, 1) := by decide +kernel
theorem dd_M_isBelow_22 : decode bb_M_isBelow 22 = .ok (.iload_n 2, 1) := by decide +kernel
theorem dd_M_isBelow_23 : decode bb_M_isBelow 23 = .ok (.if_icmp .ne 7, 3) := by decide +kernel
theorem dd_M_isBelow_26 : decode bb_M_isBelow 26 = .ok (.iconst 1, 1) := by decide +kernel
theorem dd_M_isBelow_27 : decode bb_M_isBelow 27 = .ok (.goto 4, 3) := by decide +kernel
theorem dd_M_isBelow_30 : decode bb_M_isBelow 30 = .ok (.iconst 0, 1) := by decide +kernel
theorem dd_M_isBelow_31 : decode bb_M_isBelow 31 = .ok (.ireturn, 1) := by decide +kernel
theorem dd_M_hasName_0 : decode bb_M_hasName 0 = .ok (.iconst 0, 1) := by decide +kernel
theorem dd_M_hasName_1 : decode bb_M_hasName 1 = .ok (.istore_n 3, 1) := by decide +kernel
theorem dd_M_hasName_2 : decode bb_M_hasName 2 = .ok (.iconst 0, 1) := by decide +kernel
theorem dd_M_hasName_3 : decode bb_M_hasName 3 = .ok (.istore 4, 2) := by decide +kernel
theorem dd_M_hasName_5 : decode bb_M_hasName 5 = .ok (.iload 4, 2) := by decide +kernel
theorem dd_M_hasName_7 : decode bb_M_hasName 7 = .ok (.aload_n 0, 1) := by decide +kernel
theorem dd_M_hasName_8 : decode bb_M_hasName 8 = .ok (.iload_n 1, 1) := by decide +kernel
theorem dd_M_hasName_9 : decode bb_M_hasName 9 = .ok (.invokevirtual 108, 3) := by decide +kernel
theorem dd_M_hasName_12 : decode bb_M_hasName 12 = .ok (.if_icmp .ge 34, 3) := by decide +kernel
theorem dd_M_hasName_15 : decode bb_M_hasName 15 = .ok (.iload_n 3, 1) := by decide +kernel
theorem dd_M_hasName_16 : decode bb_M_hasName 16 = .ok (.ifCond .ne 18, 3) := by decide +kernel
theorem dd_M_hasName_19 : decode bb_M_hasName 19 = .ok (.aload_n 0, 1) := by decide +kernel
theorem dd_M_hasName_20 : decode bb_M_hasName 20 = .ok (.aload_n 0, 1) := by decide +kernel
theorem dd_M_hasName_21 : decode bb_M_hasName 21 = .ok (.iload_n 1, 1) := by decide +kernel
theorem dd_M_hasName_22 : decode bb_M_hasName 22 = .ok (.iload 4, 2) := by decide +kernel
theorem dd_M_hasName_24 : decode bb_M_hasName 24 = .ok (.invokevirtual 111, 3) := by decide +kernel
theorem dd_M_hasName_27 : decode bb_M_hasName 27 = .ok (.iload_n 2, 1) := by decide +kernel
theorem dd_M_hasName_28 : decode bb_M_hasName 28 = .ok (.invokevirtual 105, 3) := by decide +kernel
theorem dd_M_hasName_31 : decode bb_M_hasName 31 = .ok (.ifCond .ne 7, 3) := by decide +kernel
theorem dd_M_hasName_34 : decode bb_M_hasName 34 = .ok (.iconst 1, 1) := by decide +kernel
theorem dd_M_hasName_35 : decode bb_M_hasName 35 = .ok (.goto 4, 3) := by decide +kernel
theorem dd_M_hasName_38 : decode bb_M_hasName 38 = .ok (.iconst 0, 1) := by decide +kernel
theorem dd_M_hasName_39 : decode bb_M_hasName 39 = .ok (.istore_n 3, 1) := by decide +kernel
theorem dd_M_hasName_40 : decode bb_M_hasName 40 = .ok (.iinc 4 1, 3) := by decide +kernel
theorem dd_M_hasName_43 : decode bb_M_hasName 43 = .ok (.goto (-38), 3) := by decide +kernel
theorem dd_M_hasName_46 : decode bb_M_hasName 46 = .ok (.iload_n 3, 1) := by decide +kernel
theorem dd_M_hasName_47 : decode bb_M_hasName 47 = .ok (.ireturn, 1) := by decide +kernel
theorem dd_M_move_0 : decode bb_M_move 0 = .ok (.aload_n 0, 1) := by decide +kernel
theorem dd_M_move_1 : decode bb_M_move 1 = .ok (.iconst 0, 1) := by decide +kernel
theorem dd_M_move_2 : decode bb_M_move 2 = .ok (.putfield 54, 3) := by decide +kernel
theorem dd_M_move_5 : decode bb_M_move 5 = .ok (.aload_n 0, 1) := by decide +kernel
theorem dd_M_move_6 : decode bb_M_move 6 = .ok (.getfield 50, 3) := by decide +kernel
theorem dd_M_move_9 : decode bb_M_move 9 = .ok (.ifCond .ne 9, 3) := by decide +kernel
theorem dd_M_move_12 : decode bb_M_move 12 = .ok (.aload_n 0, 1) := by decide +kernel
theorem dd_M_move_13 : decode bb_M_move 13 = .ok (.iconst 1, 1) := by decide +kernel
theorem dd_M_move_14 : decode bb_M_move 14 = .ok (.putfield 54, 3) := by decide +kernel
theorem dd_M_move_17 : decode bb_M_move 17 = .ok (.return_, 1) := by decide +kernel
theorem dd_M_move_18 : decode bb_M_move 18 = .ok (.aload_n 0, 1) := by decide +kernel
theorem dd_M_move_19 : decode bb_M_move 19 = .ok (.iload_n 1, 1) := by decide +kernel
theorem dd_M_move_20 : decode bb_M_move 20 = .ok (.invokevirtual 62, 3) := by decide +kernel
theorem dd_M_move_23 : decode bb_M_move 23 = .ok (.ifCond .eq 20, 3) := by decide +kernel
theorem dd_M_move_26 : decode bb_M_move 26 = .ok (.iload_n 1, 1) := by decide +kernel
theorem dd_M_move_27 : decode bb_M_move 27 = .ok (.ifCond .eq 16, 3) := by decide +kernel
theorem dd_M_move_30 : decode bb_M_move 30 = .ok (.aload_n 0, 1) := by decide +kernel
theorem dd_M_move_31 : decode bb_M_move 31 = .ok (.iload_n 2, 1) := by decide +kernel
theorem dd_M_move_32 : decode bb_M_move 32 = .ok (.iconst 2, 1) := by decide +kernel
theorem dd_M_move_33 : decode bb_M_move 33 = .ok (.invokevirtual 120, 3) := by decide +kernel
theorem dd_M_move_36 : decode bb_M_move 36 = .ok (.ifCond .eq 7, 3) := by decide +kernel
theorem dd_M_move_39 : decode bb_M_move 39 = .ok (.iconst 1, 1) := by decide +kernel
theorem dd_M_move_40 : decode bb_M_move 40 = .ok (.goto 4, 3) := by decide +kernel
theorem dd_M_move_43 : decode bb_M_move 43 = .ok (.iconst 0, 1) := by decide +kernel
theorem dd_M_move_44 : decode bb_M_move 44 = .ok (.istore_n 3, 1) := by decide +kernel
theorem dd_M_move_45 : decode bb_M_move 45 = .ok (.iload_n 3, 1) := by decide +kernel
theorem dd_M_move_46 : decode bb_M_move 46 = .ok (.ifCond .eq 21, 3) := by decide +kernel
theorem dd_M_move_49 : decode bb_M_move 49 = .ok (.aload_n 0, 1) := by decide +kernel
theorem dd_M_move_50 : decode bb_M_move 50 = .ok (.iload_n 2, 1) := by decide +kernel
theorem dd_M_move_51 : decode bb_M_move 51 = .ok (.iload_n 1, 1) := by decide +kernel
theorem dd_M_move_52 : decode bb_M_move 52 = .ok (.invokevirtual 151, 3) := by decide +kernel
theorem dd_M_move_55 : decode bb_M_move 55 = .ok (.ifCond .ne 12, 3) := by decide +kernel
theorem dd_M_move_58 : decode bb_M_move 58 = .ok (.aload_n 0, 1) := by decide +kernel
theorem dd_M_move_59 : decode bb_M_move 59 = .ok (.iload_n 2, 1) := by decide +kernel
theorem dd_M_move_60 : decode bb_M_move 60 = .ok (.iload_n 1, 1) := by decide +kernel
theorem dd_M_move_61 : decode bb_M_move 61 = .ok (.invokevirtual 154, 3) := by decide +kernel
theorem dd_M_move_64 : decode bb_M_move 64 = .ok (.ifCond .eq 9, 3) := by decide +kernel
theorem dd_M_move_67 : decode bb_M_move 67 = .ok (.aload_n 0, 1) := by decide +kernel
theorem dd_M_move_68 : decode bb_M_move 68 = .ok (.iconst 2, 1) := by decide +kernel
theorem dd_M_move_69 : decode bb_M_move 69 = .ok (.putfield 54, 3) := by decide +kernel
theorem dd_M_move_72 : decode bb_M_move 72 = .ok (.return_, 1) := by decide +kernel
theorem dd_M_move_73 : decode bb_M_move 73 = .ok (.aload_n 0, 1) := by decide +kernel
theorem dd_M_move_74 : decode bb_M_move 74 = .ok (.iload_n 1, 1) := by decide +kernel
theorem dd_M_move_75 : decode bb_M_move 75 = .ok (.iconst 1, 1) := by decide +kernel
theorem dd_M_move_76 : decode bb_M_move 76 = .ok (.invokevirtual 65, 3) := by decide +kernel
theorem dd_M_move_79 : decode bb_M_move 79 = .ok (.istore 4, 2) := by decide +kernel
theorem dd_M_move_81 : decode bb_M_move 81 = .ok (.iconst 0, 1) := by decide +kernel
theorem dd_M_move_82 : decode bb_M_move 82 = .ok (.istore 5, 2) := by decide +kernel
theorem dd_M_move_84 : decode bb_M_move 84 = .ok (.iload 5, 2) := by decide +kernel
theorem dd_M_move_86 : decode bb_M_move 86 = .ok (.bipush 64, 2) := by decide +kernel
theorem dd_M_move_88 : decode bb_M_move 88 = .ok (.if_icmp .ge 23, 3) := by decide +kernel
theorem dd_M_move_91 : decode bb_M_move 91 = .ok (.aload_n 0, 1) := by decide +kernel
theorem dd_M_move_92 : decode bb_M_move 92 = .ok (.getfield 24, 3) := by decide +kernel
theorem dd_M_move_95 : decode bb_M_move 95 = .ok (.iload 5, 2) := by decide +kernel
theorem dd_M_move_97 : decode bb_M_move 97 = .ok (.aload_n 0, 1) := by decide +kernel
theorem dd_M_move_98 : decode bb_M_move 98 = .ok (.iload_n 1, 1) := by decide +kernel
theorem dd_M_move_99 : decode bb_M_move 99 = .ok (.iload 5, 2) := by decide +kernel
theorem dd_M_move_101 : decode bb_M_move 101 = .ok (.invokevirtual 65, 3) := by decide +kernel
theorem dd_M_move_104 : decode bb_M_move 104 = .ok (.iastore, 1) := by decide +kernel
theorem dd_M_move_105 : decode bb_M_move 105 = .ok (.iinc 5 1, 3) := by decide +kernel
theorem dd_M_move_108 : decode bb_M_move 108 = .ok (.goto (-24), 3) := by decide +kernel
theorem dd_M_move_111 : decode bb_M_move 111 = .ok (.aload_n 0, 1) := by decide +kernel
theorem dd_M_move_112 : decode bb_M_move 112 = .ok (.getfield 24, 3) := by decide +kernel
theorem dd_M_move_115 : decode bb_M_move 115 = .ok (.iconst 1, 1) := by decide +kernel
theorem dd_M_move_116 : decode bb_M_move 116 = .ok (.iload_n 2, 1) := by decide +kernel
theorem dd_M_move_117 : decode bb_M_move 117 = .ok (.iastore, 1) := by decide +kernel
theorem dd_M_move_118 : decode bb_M_move 118 = .ok (.aload_n 0, 1) := by decide +kernel
theorem dd_M_move_119 : decode bb_M_move 119 = .ok (.bipush 10, 2) := by decide +kernel
theorem dd_M_move_121 : decode bb_M_move 121 = .ok (.aload_n 0, 1) := by decide +kernel
theorem dd_M_move_122 : decode bb_M_move 122 = .ok (.getfield 24, 3) := by decide +kernel
theorem dd_M_move_125 : decode bb_M_move 125 = .ok (.bipush 8, 2) := by decide +kernel
theorem dd_M_move_127 : decode bb_M_move 127 = .ok (.iaload, 1) := by decide +kernel
theorem dd_M_move_128 : decode bb_M_move 128 = .ok (.iadd, 1) := by decide +kernel
theorem dd_M_move_129 : decode bb_M_move 129 = .ok (.putfield 81, 3) := by decide +kernel
theorem dd_M_move_132 : decode bb_M_move 132 = .ok (.aload_n 0, 1) := by decide +kernel
theorem dd_M_move_133 : decode bb_M_move 133 = .ok (.iload_n 1, 1) := by decide +kernel
theorem dd_M_move_134 : decode bb_M_move 134 = .ok (.invokevirtual 46, 3) := by decide +kernel
theorem dd_M_move_137 : decode bb_M_move 137 = .ok (.istore 5, 2) := by decide +kernel
theorem dd_M_move_139 : decode bb_M_move 139 = .ok (.iload 5, 2) := by decide +kernel
theorem dd_M_move_141 : decode bb_M_move 141 = .ok (.ifCond .eq 25, 3) := by decide +kernel
theorem dd_M_move_144 : decode bb_M_move 144 = .ok (.aload_n 0, 1) := by decide +kernel
theorem dd_M_move_145 : decode bb_M_move 145 = .ok (.iload 4, 2) := by decide +kernel
theorem dd_M_move_147 : decode bb_M_move 147 = .ok (.iload_n 1, 1) := by decide +kernel
theorem dd_M_move_148 : decode bb_M_move 148 = .ok (.invokevirtual 132, 3) := by decide +kernel
theorem dd_M_move_151 : decode bb_M_move 151 = .ok (.aload_n 0, 1) := by decide +kernel
theorem dd_M_move_152 : decode bb_M_move 152 = .ok (.iload 4, 2) := by decide +kernel
theorem dd_M_move_154 : decode bb_M_move 154 = .ok (.aload_n 0, 1) := by decide +kernel
theorem dd_M_move_155 : decode bb_M_move 155 = .ok (.iload 4, 2) := by decide +kernel
theorem dd_M_move_157 : decode bb_M_move 157 = .ok (.iconst 1, 1) := by decide +kernel
theorem dd_M_move_158 : decode bb_M_move 158 = .ok (.invokevirtual 65, 3) := by decide +kernel
theorem dd_M_move_161 : decode bb_M_move 161 = .ok (.invokevirtual 138, 3) := by decide +kernel
theorem dd_M_move_164 : decode bb_M_move 164 = .ok (.istore 5, 2) := by decide +kernel
theorem dd_M_move_166 : decode bb_M_move 166 = .ok (.iload 5, 2) := by decide +kernel
theorem dd_M_move_168 : decode bb_M_move 168 = .ok (.ifCond .eq 27, 3) := by decide +kernel
theorem dd_M_move_171 : decode bb_M_move 171 = .ok (.aload_n 0, 1) := by decide +kernel
theorem dd_M_move_172 : decode bb_M_move 172 = .ok (.iload_n 2, 1) := by decide +kernel
theorem dd_M_move_173 : decode bb_M_move 173 = .ok (.iconst (-1), 1) := by decide +kernel
theorem dd_M_move_174 : decode bb_M_move 174 = .ok (.invokevirtual 132, 3) := by decide +kernel
theorem dd_M_move_177 : decode bb_M_move 177 = .ok (.aload_n 0, 1) := by decide +kernel
theorem dd_M_move_178 : decode bb_M_move 178 = .ok (.iload_n 1, 1) := by decide +kernel
theorem dd_M_move_179 : decode bb_M_move 179 = .ok (.invokevirtual 135, 3) := by decide +kernel
theorem dd_M_move_182 : decode bb_M_move 182 = .ok (.aload_n 0, 1) := by decide +kernel
theorem dd_M_move_183 : decode bb_M_move 183 = .ok (.iload_n 2, 1) := by decide +kernel
theorem dd_M_move_184 : decode bb_M_move 184 = .ok (.aload_n 0, 1) := by decide +kernel
theorem dd_M_move_185 : decode bb_M_move 185 = .ok (.iload_n 2, 1) := by decide +kernel
theorem dd_M_move_186 : decode bb_M_move 186 = .ok (.iconst 1, 1) := by decide +kernel
theorem dd_M_move_187 : decode bb_M_move 187 = .ok (.invokevirtual 65, 3) := by decide +kernel
theorem dd_M_move_190 : decode bb_M_move 190 = .ok (.invokevirtual 138, 3) := by decide +kernel
theorem dd_M_move_193 : decode bb_M_move 193 = .ok (.istore 5, 2) := by decide +kernel
theorem dd_M_move_195 : decode bb_M_move 195 = .ok (.iload 5, 2) := by decide +kernel
theorem dd_M_move_197 : decode bb_M_move 197 = .ok (.ifCond .ne 8, 3) := by decide +kernel
theorem dd_M_move_200 : decode bb_M_move 200 = .ok (.aload_n 0, 1) := by decide +kernel
theorem dd_M_move_201 : decode bb_M_move 201 = .ok (.iconst 1, 1) := by decide +kernel
theorem dd_M_move_202 : decode bb_M_move 202 = .ok (.putfield 54, 3) := by decide +kernel
theorem dd_M_move_205 : decode bb_M_move 205 = .ok (.return_, 1) := by decide +kernel
theorem dd_M_lowestFree_0 : decode bb_M_lowestFree 0 = .ok (.bipush 48, 2) := by decide +kernel
theorem dd_M_lowestFree_2 : decode bb_M_lowestFree 2 = .ok (.istore_n 1, 1) := by decide +kernel
theorem dd_M_lowestFree_3 : decode bb_M_lowestFree 3 = .ok (.iload_n 1, 1) := by decide +kernel
theorem dd_M_lowestFree_4 : decode bb_M_lowestFree 4 = .ok (.sipush 128, 3) := by decide +kernel
theorem dd_M_lowestFree_7 : decode bb_M_lowestFree 7 = .ok (.if_icmp .ge 18, 3) := by decide +kernel
theorem dd_M_lowestFree_10 : decode bb_M_lowestFree 10 = .ok (.aload_n 0, 1) := by decide +kernel
theorem dd_M_lowestFree_11 : decode bb_M_lowestFree 11 = .ok (.getfield 17, 3) := by decide +kernel
theorem dd_M_lowestFree_14 : decode bb_M_lowestFree 14 = .ok (.iload_n 1, 1) := by decide +kernel
theorem dd_M_lowestFree_15 : decode bb_M_lowestFree 15 = .ok (.baload, 1) := by decide +kernel
theorem dd_M_lowestFree_16 : decode bb_M_lowestFree 16 = .ok (.ifCond .eq 9, 3) := by decide +kernel
theorem dd_M_lowestFree_19 : decode bb_M_lowestFree 19 = .ok (.iinc 1 1, 3) := by decide +kernel
theorem dd_M_lowestFree_22 : decode bb_M_lowestFree 22 = .ok (.goto (-19), 3) := by decide +kernel
theorem dd_M_lowestFree_25 : decode bb_M_lowestFree 25 = .ok (.iload_n 1, 1) := by decide +kernel
theorem dd_M_lowestFree_26 : decode bb_M_lowestFree 26 = .ok (.sipush 128, 3) := by decide +kernel
theorem dd_M_lowestFree_29 : decode bb_M_lowestFree 29 = .ok (.if_icmp .ge 7, 3) := by decide +kernel
theorem dd_M_lowestFree_32 : decode bb_M_lowestFree 32 = .ok (.iload_n 1, 1) := by decide +kernel
theorem dd_M_lowestFree_33 : decode bb_M_lowestFree 33 = .ok (.goto 4, 3) := by decide +kernel
theorem dd_M_lowestFree_36 : decode bb_M_lowestFree 36 = .ok (.iconst (-1), 1) := by decide +kernel
theorem dd_M_lowestFree_37 : decode bb_M_lowestFree 37 = .ok (.ireturn, 1) := by decide +kernel
end
section
theorem dd_M_freeClusters_0 : decode bb_M_freeClusters 0 = .ok (.iconst 0, 1) := by decide +kernel
theorem dd_M_freeClusters_1 : decode bb_M_freeClusters 1 = .ok (.istore_n 1, 1) := by decide +kernel
theorem dd_M_freeClusters_2 : decode bb_M_freeClusters 2 = .ok (.bipush 48, 2) := by decide +kernel
theorem dd_M_freeClusters_4 : decode bb_M_freeClusters 4 = .ok (.istore_n 2, 1) := by decide +kernel
theorem dd_M_freeClusters_5 : decode bb_M_freeClusters 5 = .ok (.iload_n 2, 1) := by decide +kernel
theorem dd_M_freeClusters_6 : decode bb_M_freeClusters 6 = .ok (.sipush 128, 3) := by decide +kernel
theorem dd_M_freeClusters_9 : decode bb_M_freeClusters 9 = .ok (.if_icmp .ge 26, 3) := by decide +kernel
theorem dd_M_freeClusters_12 : decode bb_M_freeClusters 12 = .ok (.aload_n 0, 1) := by decide +kernel
theorem dd_M_freeClusters_13 : decode bb_M_freeClusters 13 = .ok (.getfield 17, 3) := by decide +kernel
theorem dd_M_freeClusters_16 : decode bb_M_freeClusters 16 = .ok (.iload_n 2, 1) := by decide +kernel
theorem dd_M_freeClusters_17 : decode bb_M_freeClusters 17 = .ok (.baload, 1) := by decide +kernel
theorem dd_M_freeClusters_18 : decode bb_M_freeClusters 18 = .ok (.ifCond .eq 7, 3) := by decide +kernel
theorem dd_M_freeClusters_21 : decode bb_M_freeClusters 21 = .ok (.iload_n 1, 1) := by decide +kernel
theorem dd_M_freeClusters_22 : decode bb_M_freeClusters 22 = .ok (.goto 6, 3) := by decide +kernel
theorem dd_M_freeClusters_25 : decode bb_M_freeClusters 25 = .ok (.iload_n 1, 1) := by decide +kernel
theorem dd_M_freeClusters_26 : decode bb_M_freeClusters 26 = .ok (.iconst 1, 1) := by decide +kernel
theorem dd_M_freeClusters_27 : decode bb_M_freeClusters 27 = .ok (.iadd, 1) := by decide +kernel
theorem dd_M_freeClusters_28 : decode bb_M_freeClusters 28 = .ok (.istore_n 1, 1) := by decide +kernel
theorem dd_M_freeClusters_29 : decode bb_M_freeClusters 29 = .ok (.iinc 2 1, 3) := by decide +kernel
theorem dd_M_freeClusters_32 : decode bb_M_freeClusters 32 = .ok (.goto (-27), 3) := by decide +kernel
theorem dd_M_freeClusters_35 : decode bb_M_freeClusters 35 = .ok (.iload_n 1, 1) := by decide +kernel
theorem dd_M_freeClusters_36 : decode bb_M_freeClusters 36 = .ok (.ireturn, 1) := by decide +kernel
theorem dd_M_clustersOf_0 : decode bb_M_clustersOf 0 = .ok (.iload_n 0, 1) := by decide +kernel
theorem dd_M_clustersOf_1 : decode bb_M_clustersOf 1 = .ok (.bipush 15, 2) := by decide +kernel
theorem dd_M_clustersOf_3 : decode bb_M_clustersOf 3 = .ok (.iadd, 1) := by decide +kernel
theorem dd_M_clustersOf_4 : decode bb_M_clustersOf 4 = .ok (.bipush 16, 2) := by decide +kernel
theorem dd_M_clustersOf_6 : decode bb_M_clustersOf 6 = .ok (.idiv, 1) := by decide +kernel
theorem dd_M_clustersOf_7 : decode bb_M_clustersOf 7 = .ok (.ireturn, 1) := by decide +kernel
theorem dd_M_meets_0 : decode bb_M_meets 0 = .ok (.bipush 16, 2) := by decide +kernel
theorem dd_M_meets_2 : decode bb_M_meets 2 = .ok (.iload_n 0, 1) := by decide +kernel
theorem dd_M_meets_3 : decode bb_M_meets 3 = .ok (.imul, 1) := by decide +kernel
theorem dd_M_meets_4 : decode bb_M_meets 4 = .ok (.iload_n 2, 1) := by decide +kernel
theorem dd_M_meets_5 : decode bb_M_meets 5 = .ok (.if_icmp .ge 18, 3) := by decide +kernel
theorem dd_M_meets_8 : decode bb_M_meets 8 = .ok (.iload_n 1, 1) := by decide +kernel
theorem dd_M_meets_9 : decode bb_M_meets 9 = .ok (.bipush 16, 2) := by decide +kernel
theorem dd_M_meets_11 : decode bb_M_meets 11 = .ok (.iload_n 0, 1) := by decide +kernel
theorem dd_M_meets_12 : decode bb_M_meets 12 = .ok (.imul, 1) := by decide +kernel
theorem dd_M_meets_13 : decode bb_M_meets 13 = .ok (.bipush 16, 2) := by decide +kernel
theorem dd_M_meets_15 : decode bb_M_meets 15 = .ok (.iadd, 1) := by decide +kernel
theorem dd_M_meets_16 : decode bb_M_meets 16 = .ok (.if_icmp .ge 7, 3) := by decide +kernel
theorem dd_M_meets_19 : decode bb_M_meets 19 = .ok (.iconst 1, 1) := by decide +kernel
theorem dd_M_meets_20 : decode bb_M_meets 20 = .ok (.goto 4, 3) := by decide +kernel
theorem dd_M_meets_23 : decode bb_M_meets 23 = .ok (.iconst 0, 1) := by decide +kernel
theorem dd_M_meets_24 : decode bb_M_meets 24 = .ok (.ireturn, 1) := by decide +kernel
theorem dd_M_give_0 : decode bb_M_give 0 = .ok (.iconst 0, 1) := by decide +kernel
theorem dd_M_give_1 : decode bb_M_give 1 = .ok (.istore 4, 2) := by decide +kernel
theorem dd_M_give_3 : decode bb_M_give 3 = .ok (.iconst 0, 1) := by decide +kernel
theorem dd_M_give_4 : decode bb_M_give 4 = .ok (.istore 5, 2) := by decide +kernel
theorem dd_M_give_6 : decode bb_M_give 6 = .ok (.iload 5, 2) := by decide +kernel
theorem dd_M_give_8 : decode bb_M_give 8 = .ok (.aload_n 0, 1) := by decide +kernel
theorem dd_M_give_9 : decode bb_M_give 9 = .ok (.getfield 91, 3) := by decide +kernel
theorem dd_M_give_12 : decode bb_M_give 12 = .ok (.if_icmp .ge 74, 3) := by decide +kernel
theorem dd_M_give_15 : decode bb_M_give 15 = .ok (.aload_n 0, 1) := by decide +kernel
theorem dd_M_give_16 : decode bb_M_give 16 = .ok (.getfield 30, 3) := by decide +kernel
theorem dd_M_give_19 : decode bb_M_give 19 = .ok (.iload 5, 2) := by decide +kernel
theorem dd_M_give_21 : decode bb_M_give 21 = .ok (.aload_n 0, 1) := by decide +kernel
theorem dd_M_give_22 : decode bb_M_give 22 = .ok (.getfield 27, 3) := by decide +kernel
theorem dd_M_give_25 : decode bb_M_give 25 = .ok (.iload 5, 2) := by decide +kernel
theorem dd_M_give_27 : decode bb_M_give 27 = .ok (.iaload, 1) := by decide +kernel
theorem dd_M_give_28 : decode bb_M_give 28 = .ok (.ifCond .ge 29, 3) := by decide +kernel
theorem dd_M_give_31 : decode bb_M_give 31 = .ok (.iload 5, 2) := by decide +kernel
theorem dd_M_give_33 : decode bb_M_give 33 = .ok (.iload_n 2, 1) := by decide +kernel
theorem dd_M_give_34 : decode bb_M_give 34 = .ok (.iload_n 2, 1) := by decide +kernel
theorem dd_M_give_35 : decode bb_M_give 35 = .ok (.iload_n 3, 1) := by decide +kernel
theorem dd_M_give_36 : decode bb_M_give 36 = .ok (.iadd, 1) := by decide +kernel
theorem dd_M_give_37 : decode bb_M_give 37 = .ok (.invokestatic 157, 3) := by decide +kernel
theorem dd_M_give_40 : decode bb_M_give 40 = .ok (.ifCond .ne 13, 3) := by decide +kernel
theorem dd_M_give_43 : decode bb_M_give 43 = .ok (.iload 5, 2) := by decide +kernel
theorem dd_M_give_45 : decode bb_M_give 45 = .ok (.iconst 0, 1) := by decide +kernel
theorem dd_M_give_46 : decode bb_M_give 46 = .ok (.iload_n 1, 1) := by decide +kernel
theorem dd_M_give_47 : decode bb_M_give 47 = .ok (.invokestatic 157, 3) := by decide +kernel
theorem dd_M_give_50 : decode bb_M_give 50 = .ok (.ifCond .eq 7, 3) := by decide +kernel
theorem dd_M_give_53 : decode bb_M_give 53 = .ok (.iconst 1, 1) := by decide +kernel
theorem dd_M_give_54 : decode bb_M_give 54 = .ok (.goto 4, 3) := by decide +kernel
theorem dd_M_give_57 : decode bb_M_give 57 = .ok (.iconst 0, 1) := by decide +kernel
theorem dd_M_give_58 : decode bb_M_give 58 = .ok (.bastore, 1) := by decide +kernel
theorem dd_M_give_59 : decode bb_M_give 59 = .ok (.aload_n 0, 1) := by decide +kernel
theorem dd_M_give_60 : decode bb_M_give 60 = .ok (.getfield 30, 3) := by decide +kernel
theorem dd_M_give_63 : decode bb_M_give 63 = .ok (.iload 5, 2) := by decide +kernel
theorem dd_M_give_65 : decode bb_M_give 65 = .ok (.baload, 1) := by decide +kernel
theorem dd_M_give_66 : decode bb_M_give 66 = .ok (.ifCond .eq 10, 3) := by decide +kernel
theorem dd_M_give_69 : decode bb_M_give 69 = .ok (.iload 4, 2) := by decide +kernel
theorem dd_M_give_71 : decode bb_M_give 71 = .ok (.iconst 1, 1) := by decide +kernel
theorem dd_M_give_72 : decode bb_M_give 72 = .ok (.iadd, 1) := by decide +kernel
theorem dd_M_give_73 : decode bb_M_give 73 = .ok (.goto 5, 3) := by decide +kernel
theorem dd_M_give_76 : decode bb_M_give 76 = .ok (.iload 4, 2) := by decide +kernel
theorem dd_M_give_78 : decode bb_M_give 78 = .ok (.istore 4, 2) := by decide +kernel
theorem dd_M_give_80 : decode bb_M_give 80 = .ok (.iinc 5 1, 3) := by decide +kernel
theorem dd_M_give_83 : decode bb_M_give 83 = .ok (.goto (-77), 3) := by decide +kernel
theorem dd_M_give_86 : decode bb_M_give 86 = .ok (.iload 4, 2) := by decide +kernel
theorem dd_M_give_88 : decode bb_M_give 88 = .ok (.aload_n 0, 1) := by decide +kernel
theorem dd_M_give_89 : decode bb_M_give 89 = .ok (.invokevirtual 161, 3) := by decide +kernel
theorem dd_M_give_92 : decode bb_M_give 92 = .ok (.if_icmp .le 5, 3) := by decide +kernel
theorem dd_M_give_95 : decode bb_M_give 95 = .ok (.iconst 0, 1) := by decide +kernel
theorem dd_M_give_96 : decode bb_M_give 96 = .ok (.ireturn, 1) := by decide +kernel
theorem dd_M_give_97 : decode bb_M_give 97 = .ok (.iconst 0, 1) := by decide +kernel
theorem dd_M_give_98 : decode bb_M_give 98 = .ok (.istore 5, 2) := by decide +kernel
theorem dd_M_give_100 : decode bb_M_give 100 = .ok (.iload 5, 2) := by decide +kernel
theorem dd_M_give_102 : decode bb_M_give 102 = .ok (.aload_n 0, 1) := by decide +kernel
theorem dd_M_give_103 : decode bb_M_give 103 = .ok (.getfield 91, 3) := by decide +kernel
theorem dd_M_give_106 : decode bb_M_give 106 = .ok (.if_icmp .ge 46, 3) := by decide +kernel
theorem dd_M_give_109 : decode bb_M_give 109 = .ok (.aload_n 0, 1) := by decide +kernel
theorem dd_M_give_110 : decode bb_M_give 110 = .ok (.getfield 30, 3) := by decide +kernel
theorem dd_M_give_113 : decode bb_M_give 113 = .ok (.iload 5, 2) := by decide +kernel
theorem dd_M_give_115 : decode bb_M_give 115 = .ok (.baload, 1) := by decide +kernel
theorem dd_M_give_116 : decode bb_M_give 116 = .ok (.ifCond .ne 6, 3) := by decide +kernel
theorem dd_M_give_119 : decode bb_M_give 119 = .ok (.goto 27, 3) := by decide +kernel
theorem dd_M_give_122 : decode bb_M_give 122 = .ok (.aload_n 0, 1) := by decide +kernel
theorem dd_M_give_123 : decode bb_M_give 123 = .ok (.getfield 27, 3) := by decide +kernel
theorem dd_M_give_126 : decode bb_M_give 126 = .ok (.iload 5, 2) := by decide +kernel
theorem dd_M_give_128 : decode bb_M_give 128 = .ok (.aload_n 0, 1) := by decide +kernel
theorem dd_M_give_129 : decode bb_M_give 129 = .ok (.invokevirtual 165, 3) := by decide +kernel
theorem dd_M_give_132 : decode bb_M_give 132 = .ok (.iastore, 1) := by decide +kernel
theorem dd_M_give_133 : decode bb_M_give 133 = .ok (.aload_n 0, 1) := by decide +kernel
theorem dd_M_give_134 : decode bb_M_give 134 = .ok (.getfield 17, 3) := by decide +kernel
theorem dd_M_give_137 : decode bb_M_give 137 = .ok (.aload_n 0, 1) := by decide +kernel
theorem dd_M_give_138 : decode bb_M_give 138 = .ok (.getfield 27, 3) := by decide +kernel
theorem dd_M_give_141 : decode bb_M_give 141 = .ok (.iload 5, 2) := by decide +kernel
theorem dd_M_give_143 : decode bb_M_give 143 = .ok (.iaload, 1) := by decide +kernel
theorem dd_M_give_144 : decode bb_M_give 144 = .ok (.iconst 1, 1) := by decide +kernel
theorem dd_M_give_145 : decode bb_M_give 145 = .ok (.bastore, 1) := by decide +kernel
theorem dd_M_give_146 : decode bb_M_give 146 = .ok (.iinc 5 1, 3) := by decide +kernel
theorem dd_M_give_149 : decode bb_M_give 149 = .ok (.goto (-49), 3) := by decide +kernel
theorem dd_M_give_152 : decode bb_M_give 152 = .ok (.iconst 1, 1) := by decide +kernel
theorem dd_M_give_153 : decode bb_M_give 153 = .ok (.ireturn, 1) := by decide +kernel
theorem dd_M_takeBack_0 : decode bb_M_takeBack 0 = .ok (.iconst 0, 1) := by decide +kernel
theorem dd_M_takeBack_1 : decode bb_M_takeBack 1 = .ok (.istore_n 1, 1) := by decide +kernel
theorem dd_M_takeBack_2 : decode bb_M_takeBack 2 = .ok (.iload_n 1, 1) := by decide +kernel
theorem dd_M_takeBack_3 : decode bb_M_takeBack 3 = .ok (.aload_n 0, 1) := by decide +kernel
theorem dd_M_takeBack_4 : decode bb_M_takeBack 4 = .ok (.getfield 91, 3) := by decide +kernel
theorem dd_M_takeBack_7 : decode bb_M_takeBack 7 = .ok (.if_icmp .ge 30, 3) := by decide +kernel
theorem dd_M_takeBack_10 : decode bb_M_takeBack 10 = .ok (.aload_n 0, 1) := by decide +kernel
theorem dd_M_takeBack_11 : decode bb_M_takeBack 11 = .ok (.getfield 30, 3) := by decide +kernel
theorem dd_M_takeBack_14 : decode bb_M_takeBack 14 = .ok (.iload_n 1, 1) := by decide +kernel
theorem dd_M_takeBack_15 : decode bb_M_takeBack 15 = .ok (.baload, 1) := by decide +kernel
theorem dd_M_takeBack_16 : decode bb_M_takeBack 16 = .ok (.ifCond .eq 15, 3) := by decide +kernel
theorem dd_M_takeBack_19 : decode bb_M_takeBack 19 = .ok (.aload_n 0, 1) := by decide +kernel
theorem dd_M_takeBack_20 : decode bb_M_takeBack 20 = .ok (.getfield 17, 3) := by decide +kernel
theorem dd_M_takeBack_23 : decode bb_M_takeBack 23 = .ok (.aload_n 0, 1) := by decide +kernel
theorem dd_M_takeBack_24 : decode bb_M_takeBack 24 = .ok (.getfield 27, 3) := by decide +kernel
theorem dd_M_takeBack_27 : decode bb_M_takeBack 27 = .ok (.iload_n 1, 1) := by decide +kernel
theorem dd_M_takeBack_28 : decode bb_M_takeBack 28 = .ok (.iaload, 1) := by decide +kernel
theorem dd_M_takeBack_29 : decode bb_M_takeBack 29 = .ok (.iconst 0, 1) := by decide +kernel
theorem dd_M_takeBack_30 : decode bb_M_takeBack 30 = .ok (.bastore, 1) := by decide +kernel
theorem dd_M_takeBack_31 : decode bb_M_takeBack 31 = .ok (.iinc 1 1, 3) := by decide +kernel
theorem dd_M_takeBack_34 : decode bb_M_takeBack 34 = .ok (.goto (-32), 3) := by decide +kernel
theorem dd_M_takeBack_37 : decode bb_M_takeBack 37 = .ok (.return_, 1) := by decide +kernel
theorem dd_M_place_0 : decode bb_M_place 0 = .ok (.aload_n 0, 1) := by decide +kernel
theorem dd_M_place_1 : decode bb_M_place 1 = .ok (.getfield 27, 3) := by decide +kernel
theorem dd_M_place_4 : decode bb_M_place 4 = .ok (.iload_n 1, 1) := by decide +kernel
theorem dd_M_place_5 : decode bb_M_place 5 = .ok (.bipush 16, 2) := by decide +kernel
theorem dd_M_place_7 : decode bb_M_place 7 = .ok (.idiv, 1) := by decide +kernel
theorem dd_M_place_8 : decode bb_M_place 8 = .ok (.iaload, 1) := by decide +kernel
theorem dd_M_place_9 : decode bb_M_place 9 = .ok (.ifCond .lt 26, 3) := by decide +kernel
theorem dd_M_place_12 : decode bb_M_place 12 = .ok (.aload_n 0, 1) := by decide +kernel
theorem dd_M_place_13 : decode bb_M_place 13 = .ok (.getfield 7, 3) := by decide +kernel
theorem dd_M_place_16 : decode bb_M_place 16 = .ok (.bipush 16, 2) := by decide +kernel
theorem dd_M_place_18 : decode bb_M_place 18 = .ok (.aload_n 0, 1) := by decide +kernel
theorem dd_M_place_19 : decode bb_M_place 19 = .ok (.getfield 27, 3) := by decide +kernel
theorem dd_M_place_22 : decode bb_M_place 22 = .ok (.iload_n 1, 1) := by decide +kernel
theorem dd_M_place_23 : decode bb_M_place 23 = .ok (.bipush 16, 2) := by decide +kernel
theorem dd_M_place_25 : decode bb_M_place 25 = .ok (.idiv, 1) := by decide +kernel
theorem dd_M_place_26 : decode bb_M_place 26 = .ok (.iaload, 1) := by decide +kernel
theorem dd_M_place_27 : decode bb_M_place 27 = .ok (.imul, 1) := by decide +kernel
theorem dd_M_place_28 : decode bb_M_place 28 = .ok (.iload_n 1, 1) := by decide +kernel
theorem dd_M_place_29 : decode bb_M_place 29 = .ok (.bipush 16, 2) := by decide +kernel
theorem dd_M_place_31 : decode bb_M_place 31 = .ok (.irem, 1) := by decide +kernel
theorem dd_M_place_32 : decode bb_M_place 32 = .ok (.iadd, 1) := by decide +kernel
theorem dd_M_place_33 : decode bb_M_place 33 = .ok (.iload_n 2, 1) := by decide +kernel
theorem dd_M_place_34 : decode bb_M_place 34 = .ok (.iastore, 1) := by decide +kernel
theorem dd_M_place_35 : decode bb_M_place 35 = .ok (.return_, 1) := by decide +kernel
theorem dd_M_writeOutside_0 : decode bb_M_writeOutside 0 = .ok (.aload_n 0, 1) := by decide +kernel
theorem dd_M_writeOutside_1 : decode bb_M_writeOutside 1 = .ok (.iload_n 1, 1) := by decide +kernel
theorem dd_M_writeOutside_2 : decode bb_M_writeOutside 2 = .ok (.invokevirtual 168, 3) := by decide +kernel
theorem dd_M_writeOutside_5 : decode bb_M_writeOutside 5 = .ok (.istore 5, 2) := by decide +kernel
theorem dd_M_writeOutside_7 : decode bb_M_writeOutside 7 = .ok (.iload_n 2, 1) := by decide +kernel
theorem dd_M_writeOutside_8 : decode bb_M_writeOutside 8 = .ok (.iload_n 3, 1) := by decide +kernel
theorem dd_M_writeOutside_9 : decode bb_M_writeOutside 9 = .ok (.iadd, 1) := by decide +kernel
theorem dd_M_writeOutside_10 : decode bb_M_writeOutside 10 = .ok (.iload 5, 2) := by decide +kernel
theorem dd_M_writeOutside_12 : decode bb_M_writeOutside 12 = .ok (.if_icmp .le 9, 3) := by decide +kernel
theorem dd_M_writeOutside_15 : decode bb_M_writeOutside 15 = .ok (.iload_n 2, 1) := by decide +kernel
theorem dd_M_writeOutside_16 : decode bb_M_writeOutside 16 = .ok (.iload_n 3, 1) := by decide +kernel
theorem dd_M_writeOutside_17 : decode bb_M_writeOutside 17 = .ok (.iadd, 1) := by decide +kernel
theorem dd_M_writeOutside_18 : decode bb_M_writeOutside 18 = .ok (.goto 5, 3) := by decide +kernel
theorem dd_M_writeOutside_21 : decode bb_M_writeOutside 21 = .ok (.iload 5, 2) := by decide +kernel
theorem dd_M_writeOutside_23 : decode bb_M_writeOutside 23 = .ok (.istore 6, 2) := by decide +kernel
theorem dd_M_writeOutside_25 : decode bb_M_writeOutside 25 = .ok (.aload_n 0, 1) := by decide +kernel
theorem dd_M_writeOutside_26 : decode bb_M_writeOutside 26 = .ok (.iload_n 1, 1) := by decide +kernel
theorem dd_M_writeOutside_27 : decode bb_M_writeOutside 27 = .ok (.invokevirtual 171, 3) := by decide +kernel
theorem dd_M_writeOutside_30 : decode bb_M_writeOutside 30 = .ok (.istore 7, 2) := by decide +kernel
theorem dd_M_writeOutside_32 : decode bb_M_writeOutside 32 = .ok (.iload 7, 2) := by decide +kernel
theorem dd_M_writeOutside_34 : decode bb_M_writeOutside 34 = .ok (.ifCond .eq 8, 3) := by decide +kernel
theorem dd_M_writeOutside_37 : decode bb_M_writeOutside 37 = .ok (.iload 5, 2) := by decide +kernel
theorem dd_M_writeOutside_39 : decode bb_M_writeOutside 39 = .ok (.goto 4, 3) := by decide +kernel
theorem dd_M_writeOutside_42 : decode bb_M_writeOutside 42 = .ok (.iconst 0, 1) := by decide +kernel
theorem dd_M_writeOutside_43 : decode bb_M_writeOutside 43 = .ok (.istore 8, 2) := by decide +kernel
theorem dd_M_writeOutside_45 : decode bb_M_writeOutside 45 = .ok (.iconst 0, 1) := by decide +kernel
theorem dd_M_writeOutside_46 : decode bb_M_writeOutside 46 = .ok (.istore 9, 2) := by decide +kernel
theorem dd_M_writeOutside_48 : decode bb_M_writeOutside 48 = .ok (.iload 9, 2) := by decide +kernel
theorem dd_M_writeOutside_50 : decode bb_M_writeOutside 50 = .ok (.iload 8, 2) := by decide +kernel
theorem dd_M_writeOutside_52 : decode bb_M_writeOutside 52 = .ok (.if_icmp .ge 32, 3) := by decide +kernel
theorem dd_M_writeOutside_55 : decode bb_M_writeOutside 55 = .ok (.aload_n 0, 1) := by decide +kernel
theorem dd_M_writeOutside_56 : decode bb_M_writeOutside 56 = .ok (.getfield 33, 3) := by decide +kernel
theorem dd_M_writeOutside_59 : decode bb_M_writeOutside 59 = .ok (.iload 9, 2) := by decide +kernel
theorem dd_M_writeOutside_61 : decode bb_M_writeOutside 61 = .ok (.aload_n 0, 1) := by decide +kernel
theorem dd_M_writeOutside_62 : decode bb_M_writeOutside 62 = .ok (.iload_n 1, 1) := by decide +kernel
theorem dd_M_writeOutside_63 : decode bb_M_writeOutside 63 = .ok (.aload_n 0, 1) := by decide +kernel
theorem dd_M_writeOutside_64 : decode bb_M_writeOutside 64 = .ok (.iload_n 1, 1) := by decide +kernel
theorem dd_M_writeOutside_65 : decode bb_M_writeOutside 65 = .ok (.iconst 2, 1) := by decide +kernel
theorem dd_M_writeOutside_66 : decode bb_M_writeOutside 66 = .ok (.invokevirtual 69, 3) := by decide +kernel
theorem dd_M_writeOutside_69 : decode bb_M_writeOutside 69 = .ok (.iconst 2, 1) := by decide +kernel
theorem dd_M_writeOutside_70 : decode bb_M_writeOutside 70 = .ok (.iadd, 1) := by decide +kernel
theorem dd_M_writeOutside_71 : decode bb_M_writeOutside 71 = .ok (.iload 9, 2) := by decide +kernel
theorem dd_M_writeOutside_73 : decode bb_M_writeOutside 73 = .ok (.iadd, 1) := by decide +kernel
theorem dd_M_writeOutside_74 : decode bb_M_writeOutside 74 = .ok (.invokevirtual 65, 3) := by decide +kernel
theorem dd_M_writeOutside_77 : decode bb_M_writeOutside 77 = .ok (.iastore, 1) := by decide +kernel
theorem dd_M_writeOutside_78 : decode bb_M_writeOutside 78 = .ok (.iinc 9 1, 3) := by decide +kernel
theorem dd_M_writeOutside_81 : decode bb_M_writeOutside 81 = .ok (.goto (-33), 3) := by decide +kernel
theorem dd_M_writeOutside_84 : decode bb_M_writeOutside 84 = .ok (.aload_n 0, 1) := by decide +kernel
theorem dd_M_writeOutside_85 : decode bb_M_writeOutside 85 = .ok (.iload_n 1, 1) := by decide +kernel
theorem dd_M_writeOutside_86 : decode bb_M_writeOutside 86 = .ok (.invokevirtual 145, 3) := by decide +kernel
theorem dd_M_writeOutside_89 : decode bb_M_writeOutside 89 = .ok (.aload_n 0, 1) := by decide +kernel
theorem dd_M_writeOutside_90 : decode bb_M_writeOutside 90 = .ok (.getfield 91, 3) := by decide +kernel
theorem dd_M_writeOutside_93 : decode bb_M_writeOutside 93 = .ok (.istore 9, 2) := by decide +kernel
theorem dd_M_writeOutside_95 : decode bb_M_writeOutside 95 = .ok (.iload 9, 2) := by decide +kernel
theorem dd_M_writeOutside_97 : decode bb_M_writeOutside 97 = .ok (.iload 6, 2) := by decide +kernel
theorem dd_M_writeOutside_99 : decode bb_M_writeOutside 99 = .ok (.invokestatic 174, 3) := by decide +kernel
theorem dd_M_writeOutside_102 : decode bb_M_writeOutside 102 = .ok (.if_icmp .ge 17, 3) := by decide +kernel
theorem dd_M_writeOutside_105 : decode bb_M_writeOutside 105 = .ok (.aload_n 0, 1) := by decide +kernel
theorem dd_M_writeOutside_106 : decode bb_M_writeOutside 106 = .ok (.getfield 27, 3) := by decide +kernel
theorem dd_M_writeOutside_109 : decode bb_M_writeOutside 109 = .ok (.iload 9, 2) := by decide +kernel
theorem dd_M_writeOutside_111 : decode bb_M_writeOutside 111 = .ok (.iconst (-1), 1) := by decide +kernel
theorem dd_M_writeOutside_112 : decode bb_M_writeOutside 112 = .ok (.iastore, 1) := by decide +kernel
theorem dd_M_writeOutside_113 : decode bb_M_writeOutside 113 = .ok (.iinc 9 1, 3) := by decide +kernel
theorem dd_M_writeOutside_116 : decode bb_M_writeOutside 116 = .ok (.goto (-21), 3) := by decide +kernel
theorem dd_M_writeOutside_119 : decode bb_M_writeOutside 119 = .ok (.aload_n 0, 1) := by decide +kernel
theorem dd_M_writeOutside_120 : decode bb_M_writeOutside 120 = .ok (.iload 6, 2) := by decide +kernel
theorem dd_M_writeOutside_122 : decode bb_M_writeOutside 122 = .ok (.invokestatic 174, 3) := by decide +kernel
theorem dd_M_writeOutside_125 : decode bb_M_writeOutside 125 = .ok (.putfield 91, 3) := by decide +kernel
theorem dd_M_writeOutside_128 : decode bb_M_writeOutside 128 = .ok (.aload_n 0, 1) := by decide +kernel
theorem dd_M_writeOutside_129 : decode bb_M_writeOutside 129 = .ok (.iload 8, 2) := by decide +kernel
theorem dd_M_writeOutside_131 : decode bb_M_writeOutside 131 = .ok (.iload_n 2, 1) := by decide +kernel
theorem dd_M_writeOutside_132 : decode bb_M_writeOutside 132 = .ok (.iload_n 3, 1) := by decide +kernel
theorem dd_M_writeOutside_133 : decode bb_M_writeOutside 133 = .ok (.invokevirtual 177, 3) := by decide +kernel
theorem dd_M_writeOutside_136 : decode bb_M_writeOutside 136 = .ok (.ifCond .ne 9, 3) := by decide +kernel
theorem dd_M_writeOutside_139 : decode bb_M_writeOutside 139 = .ok (.aload_n 0, 1) := by decide +kernel
theorem dd_M_writeOutside_140 : decode bb_M_writeOutside 140 = .ok (.iconst 3, 1) := by decide +kernel
theorem dd_M_writeOutside_141 : decode bb_M_writeOutside 141 = .ok (.invokevirtual 117, 3) := by decide +kernel
theorem dd_M_writeOutside_144 : decode bb_M_writeOutside 144 = .ok (.ireturn, 1) := by decide +kernel
theorem dd_M_writeOutside_145 : decode bb_M_writeOutside 145 = .ok (.aload_n 0, 1) := by decide +kernel
theorem dd_M_writeOutside_146 : decode bb_M_writeOutside 146 = .ok (.iconst 1, 1) := by decide +kernel
theorem dd_M_writeOutside_147 : decode bb_M_writeOutside 147 = .ok (.aload_n 0, 1) := by decide +kernel
theorem dd_M_writeOutside_148 : decode bb_M_writeOutside 148 = .ok (.iload_n 1, 1) := by decide +kernel
theorem dd_M_writeOutside_149 : decode bb_M_writeOutside 149 = .ok (.iconst 1, 1) := by decide +kernel
theorem dd_M_writeOutside_150 : decode bb_M_writeOutside 150 = .ok (.invokevirtual 65, 3) := by decide +kernel
theorem dd_M_writeOutside_153 : decode bb_M_writeOutside 153 = .ok (.invokevirtual 39, 3) := by decide +kernel
theorem dd_M_writeOutside_156 : decode bb_M_writeOutside 156 = .ok (.aload_n 0, 1) := by decide +kernel
theorem dd_M_writeOutside_157 : decode bb_M_writeOutside 157 = .ok (.iload_n 1, 1) := by decide +kernel
theorem dd_M_writeOutside_158 : decode bb_M_writeOutside 158 = .ok (.invokevirtual 102, 3) := by decide +kernel
theorem dd_M_writeOutside_161 : decode bb_M_writeOutside 161 = .ok (.aload_n 0, 1) := by decide +kernel
theorem dd_M_writeOutside_162 : decode bb_M_writeOutside 162 = .ok (.iload 6, 2) := by decide +kernel
theorem dd_M_writeOutside_164 : decode bb_M_writeOutside 164 = .ok (.invokevirtual 180, 3) := by decide +kernel
theorem dd_M_writeOutside_167 : decode bb_M_writeOutside 167 = .ok (.aload_n 0, 1) := by decide +kernel
theorem dd_M_writeOutside_168 : decode bb_M_writeOutside 168 = .ok (.getfield 81, 3) := by decide +kernel
theorem dd_M_writeOutside_171 : decode bb_M_writeOutside 171 = .ok (.bipush 64, 2) := by decide +kernel
theorem dd_M_writeOutside_173 : decode bb_M_writeOutside 173 = .ok (.if_icmp .le 13, 3) := by decide +kernel
theorem dd_M_writeOutside_176 : decode bb_M_writeOutside 176 = .ok (.aload_n 0, 1) := by decide +kernel
theorem dd_M_writeOutside_177 : decode bb_M_writeOutside 177 = .ok (.invokevirtual 183, 3) := by decide +kernel
theorem dd_M_writeOutside_180 : decode bb_M_writeOutside 180 = .ok (.aload_n 0, 1) := by decide +kernel
theorem dd_M_writeOutside_181 : decode bb_M_writeOutside 181 = .ok (.iconst 3, 1) := by decide +kernel
theorem dd_M_writeOutside_182 : decode bb_M_writeOutside 182 = .ok (.invokevirtual 117, 3) := by decide +kernel
theorem dd_M_writeOutside_185 : decode bb_M_writeOutside 185 = .ok (.ireturn, 1) := by decide +kernel
theorem dd_M_writeOutside_186 : decode bb_M_writeOutside 186 = .ok (.iconst 0, 1) := by decide +kernel
theorem dd_M_writeOutside_187 : decode bb_M_writeOutside 187 = .ok (.istore 9, 2) := by decide +kernel
theorem dd_M_writeOutside_189 : decode bb_M_writeOutside 189 = .ok (.iload 9, 2) := by decide +kernel
theorem dd_M_writeOutside_191 : decode bb_M_writeOutside 191 = .ok (.bipush 16, 2) := by decide +kernel
theorem dd_M_writeOutside_193 : decode bb_M_writeOutside 193 = .ok (.aload_n 0, 1) := by decide +kernel
theorem dd_M_writeOutside_194 : decode bb_M_writeOutside 194 = .ok (.getfield 91, 3) := by decide +kernel
theorem dd_M_writeOutside_197 : decode bb_M_writeOutside 197 = .ok (.imul, 1) := by decide +kernel
theorem dd_M_writeOutside_198 : decode bb_M_writeOutside 198 = .ok (.if_icmp .ge 105, 3) := by decide +kernel
theorem dd_M_writeOutside_201 : decode bb_M_writeOutside 201 = .ok (.iload 9, 2) := by decide +kernel
theorem dd_M_writeOutside_203 : decode bb_M_writeOutside 203 = .ok (.iload_n 2, 1) := by decide +kernel
theorem dd_M_writeOutside_204 : decode bb_M_writeOutside 204 = .ok (.if_icmp .lt 15, 3) := by decide +kernel
theorem dd_M_writeOutside_207 : decode bb_M_writeOutside 207 = .ok (.iload 9, 2) := by decide +kernel
theorem dd_M_writeOutside_209 : decode bb_M_writeOutside 209 = .ok (.iload_n 2, 1) := by decide +kernel
theorem dd_M_writeOutside_210 : decode bb_M_writeOutside 210 = .ok (.iload_n 3, 1) := by decide +kernel
theorem dd_M_writeOutside_211 : decode bb_M_writeOutside 211 = .ok (.iadd, 1) := by decide +kernel
theorem dd_M_writeOutside_212 : decode bb_M_writeOutside 212 = .ok (.if_icmp .ge 7, 3) := by decide +kernel
theorem dd_M_writeOutside_215 : decode bb_M_writeOutside 215 = .ok (.iconst 1, 1) := by decide +kernel
theorem dd_M_writeOutside_216 : decode bb_M_writeOutside 216 = .ok (.goto 4, 3) := by decide +kernel
theorem dd_M_writeOutside_219 : decode bb_M_writeOutside 219 = .ok (.iconst 0, 1) := by decide +kernel
theorem dd_M_writeOutside_220 : decode bb_M_writeOutside 220 = .ok (.istore 10, 2) := by decide +kernel
theorem dd_M_writeOutside_222 : decode bb_M_writeOutside 222 = .ok (.iload 10, 2) := by decide +kernel
theorem dd_M_writeOutside_224 : decode bb_M_writeOutside 224 = .ok (.ifCond .eq 23, 3) := by decide +kernel
theorem dd_M_writeOutside_227 : decode bb_M_writeOutside 227 = .ok (.aload_n 0, 1) := by decide +kernel
theorem dd_M_writeOutside_228 : decode bb_M_writeOutside 228 = .ok (.iload 9, 2) := by decide +kernel
theorem dd_M_writeOutside_230 : decode bb_M_writeOutside 230 = .ok (.iload 4, 2) := by decide +kernel
theorem dd_M_writeOutside_232 : decode bb_M_writeOutside 232 = .ok (.iload 9, 2) := by decide +kernel
theorem dd_M_writeOutside_234 : decode bb_M_writeOutside 234 = .ok (.iadd, 1) := by decide +kernel
theorem dd_M_writeOutside_235 : decode bb_M_writeOutside 235 = .ok (.iload_n 2, 1) := by decide +kernel
theorem dd_M_writeOutside_236 : decode bb_M_writeOutside 236 = .ok (.isub, 1) := by decide +kernel
theorem dd_M_writeOutside_237 : decode bb_M_writeOutside 237 = .ok (.sipush 255, 3) := by decide +kernel
theorem dd_M_writeOutside_240 : decode bb_M_writeOutside 240 = .ok (.iand, 1) := by decide +kernel
theorem dd_M_writeOutside_241 : decode bb_M_writeOutside 241 = .ok (.invokevirtual 186, 3) := by decide +kernel
theorem dd_M_writeOutside_244 : decode bb_M_writeOutside 244 = .ok (.goto 53, 3) := by decide +kernel
theorem dd_M_writeOutside_247 : decode bb_M_writeOutside 247 = .ok (.iload 9, 2) := by decide +kernel
theorem dd_M_writeOutside_249 : decode bb_M_writeOutside 249 = .ok (.iload 8, 2) := by decide +kernel
theorem dd_M_writeOutside_251 : decode bb_M_writeOutside 251 = .ok (.if_icmp .ge 19, 3) := by decide +kernel
theorem dd_M_writeOutside_254 : decode bb_M_writeOutside 254 = .ok (.aload_n 0, 1) := by decide +kernel
theorem dd_M_writeOutside_255 : decode bb_M_writeOutside 255 = .ok (.iload 9, 2) := by decide +kernel
theorem dd_M_writeOutside_257 : decode bb_M_writeOutside 257 = .ok (.aload_n 0, 1) := by decide +kernel
theorem dd_M_writeOutside_258 : decode bb_M_writeOutside 258 = .ok (.getfield 33, 3) := by decide +kernel
theorem dd_M_writeOutside_261 : decode bb_M_writeOutside 261 = .ok (.iload 9, 2) := by decide +kernel
theorem dd_M_writeOutside_263 : decode bb_M_writeOutside 263 = .ok (.iaload, 1) := by decide +kernel
theorem dd_M_writeOutside_264 : decode bb_M_writeOutside 264 = .ok (.invokevirtual 186, 3) := by decide +kernel
theorem dd_M_writeOutside_267 : decode bb_M_writeOutside 267 = .ok (.goto 30, 3) := by decide +kernel
theorem dd_M_writeOutside_270 : decode bb_M_writeOutside 270 = .ok (.iload 9, 2) := by decide +kernel
theorem dd_M_writeOutside_272 : decode bb_M_writeOutside 272 = .ok (.iload 5, 2) := by decide +kernel
theorem dd_M_writeOutside_274 : decode bb_M_writeOutside 274 = .ok (.if_icmp .ge 16, 3) := by decide +kernel
theorem dd_M_writeOutside_277 : decode bb_M_writeOutside 277 = .ok (.aload_n 0, 1) := by decide +kernel
theorem dd_M_writeOutside_278 : decode bb_M_writeOutside 278 = .ok (.getfield 30, 3) := by decide +kernel
theorem dd_M_writeOutside_281 : decode bb_M_writeOutside 281 = .ok (.iload 9, 2) := by decide +kernel
theorem dd_M_writeOutside_283 : decode bb_M_writeOutside 283 = .ok (.bipush 16, 2) := by decide +kernel
theorem dd_M_writeOutside_285 : decode bb_M_writeOutside 285 = .ok (.idiv, 1) := by decide +kernel
theorem dd_M_writeOutside_286 : decode bb_M_writeOutside 286 = .ok (.baload, 1) := by decide +kernel
theorem dd_M_writeOutside_287 : decode bb_M_writeOutside 287 = .ok (.ifCond .eq 10, 3) := by decide +kernel
theorem dd_M_writeOutside_290 : decode bb_M_writeOutside 290 = .ok (.aload_n 0, 1) := by decide +kernel
theorem dd_M_writeOutside_291 : decode bb_M_writeOutside 291 = .ok (.iload 9, 2) := by decide +kernel
theorem dd_M_writeOutside_293 : decode bb_M_writeOutside 293 = .ok (.iconst 0, 1) := by decide +kernel
theorem dd_M_writeOutside_294 : decode bb_M_writeOutside 294 = .ok (.invokevirtual 186, 3) := by decide +kernel
theorem dd_M_writeOutside_297 : decode bb_M_writeOutside 297 = .ok (.iinc 9 1, 3) := by decide +kernel
theorem dd_M_writeOutside_300 : decode bb_M_writeOutside 300 = .ok (.goto (-111), 3) := by decide +kernel
theorem dd_M_writeOutside_303 : decode bb_M_writeOutside 303 = .ok (.aload_n 0, 1) := by decide +kernel
theorem dd_M_writeOutside_304 : decode bb_M_writeOutside 304 = .ok (.iload_n 1, 1) := by decide +kernel
theorem dd_M_writeOutside_305 : decode bb_M_writeOutside 305 = .ok (.invokevirtual 46, 3) := by decide +kernel
theorem dd_M_writeOutside_308 : decode bb_M_writeOutside 308 = .ok (.ifCond .eq 8, 3) := by decide +kernel
theorem dd_M_writeOutside_311 : decode bb_M_writeOutside 311 = .ok (.iload 6, 2) := by decide +kernel
theorem dd_M_writeOutside_313 : decode bb_M_writeOutside 313 = .ok (.goto 8, 3) := by decide +kernel
theorem dd_M_writeOutside_316 : decode bb_M_writeOutside 316 = .ok (.aload_n 0, 1) := by decide +kernel
theorem dd_M_writeOutside_317 : decode bb_M_writeOutside 317 = .ok (.iconst 1, 1) := by decide +kernel
theorem dd_M_writeOutside_318 : decode bb_M_writeOutside 318 = .ok (.invokevirtual 117, 3) := by decide +kernel
theorem dd_M_writeOutside_321 : decode bb_M_writeOutside 321 = .ok (.ireturn, 1) := by decide +kernel
theorem dd_M_write_0 : decode bb_M_write 0 = .ok (.aload_n 0, 1) := by decide +kernel
theorem dd_M_write_1 : decode bb_M_write 1 = .ok (.iconst 0, 1) := by decide +kernel
theorem dd_M_write_2 : decode bb_M_write 2 = .ok (.putfield 54, 3) := by decide +kernel
theorem dd_M_write_5 : decode bb_M_write 5 = .ok (.aload_n 0, 1) := by decide +kernel
theorem dd_M_write_6 : decode bb_M_write 6 = .ok (.getfield 50, 3) := by decide +kernel
theorem dd_M_write_9 : decode bb_M_write 9 = .ok (.ifCond .ne 9, 3) := by decide +kernel
theorem dd_M_write_12 : decode bb_M_write 12 = .ok (.aload_n 0, 1) := by decide +kernel
theorem dd_M_write_13 : decode bb_M_write 13 = .ok (.iconst 1, 1) := by decide +kernel
theorem dd_M_write_14 : decode bb_M_write 14 = .ok (.invokevirtual 117, 3) := by decide +kernel
theorem dd_M_write_17 : decode bb_M_write 17 = .ok (.ireturn, 1) := by decide +kernel
theorem dd_M_write_18 : decode bb_M_write 18 = .ok (.aload_n 0, 1) := by decide +kernel
theorem dd_M_write_19 : decode bb_M_write 19 = .ok (.iload_n 1, 1) := by decide +kernel
theorem dd_M_write_20 : decode bb_M_write 20 = .ok (.iconst 1, 1) := by decide +kernel
theorem dd_M_write_21 : decode bb_M_write 21 = .ok (.invokevirtual 120, 3) := by decide +kernel
theorem dd_M_write_24 : decode bb_M_write 24 = .ok (.ifCond .eq 29, 3) := by decide +kernel
theorem dd_M_write_27 : decode bb_M_write 27 = .ok (.iload_n 2, 1) := by decide +kernel
theorem dd_M_write_28 : decode bb_M_write 28 = .ok (.ifCond .lt 25, 3) := by decide +kernel
theorem dd_M_write_31 : decode bb_M_write 31 = .ok (.iload_n 2, 1) := by decide +kernel
theorem dd_M_write_32 : decode bb_M_write 32 = .ok (.sipush 1000, 3) := by decide +kernel
theorem dd_M_write_35 : decode bb_M_write 35 = .ok (.if_icmp .gt 18, 3) := by decide +kernel
theorem dd_M_write_38 : decode bb_M_write 38 = .ok (.iload_n 3, 1) := by decide +kernel
theorem dd_M_write_39 : decode bb_M_write 39 = .ok (.iconst 1, 1) := by decide +kernel
theorem dd_M_write_40 : decode bb_M_write 40 = .ok (.if_icmp .lt 13, 3) := by decide +kernel
theorem dd_M_write_43 : decode bb_M_write 43 = .ok (.iload_n 3, 1) := by decide +kernel
theorem dd_M_write_44 : decode bb_M_write 44 = .ok (.bipush 60, 2) := by decide +kernel
theorem dd_M_write_46 : decode bb_M_write 46 = .ok (.if_icmp .gt 7, 3) := by decide +kernel
theorem dd_M_write_49 : decode bb_M_write 49 = .ok (.iconst 1, 1) := by decide +kernel
theorem dd_M_write_50 : decode bb_M_write 50 = .ok (.goto 4, 3) := by decide +kernel
theorem dd_M_write_53 : decode bb_M_write 53 = .ok (.iconst 0, 1) := by decide +kernel
theorem dd_M_write_54 : decode bb_M_write 54 = .ok (.istore 5, 2) := by decide +kernel
theorem dd_M_write_56 : decode bb_M_write 56 = .ok (.iload 5, 2) := by decide +kernel
theorem dd_M_write_58 : decode bb_M_write 58 = .ok (.ifCond .eq 12, 3) := by decide +kernel
theorem dd_M_write_61 : decode bb_M_write 61 = .ok (.iload_n 2, 1) := by decide +kernel
theorem dd_M_write_62 : decode bb_M_write 62 = .ok (.iload_n 3, 1) := by decide +kernel
theorem dd_M_write_63 : decode bb_M_write 63 = .ok (.iadd, 1) := by decide +kernel
theorem dd_M_write_64 : decode bb_M_write 64 = .ok (.sipush 1000, 3) := by decide +kernel
theorem dd_M_write_67 : decode bb_M_write 67 = .ok (.if_icmp .le 9, 3) := by decide +kernel
theorem dd_M_write_70 : decode bb_M_write 70 = .ok (.aload_n 0, 1) := by decide +kernel
theorem dd_M_write_71 : decode bb_M_write 71 = .ok (.iconst 2, 1) := by decide +kernel
theorem dd_M_write_72 : decode bb_M_write 72 = .ok (.invokevirtual 117, 3) := by decide +kernel
theorem dd_M_write_75 : decode bb_M_write 75 = .ok (.ireturn, 1) := by decide +kernel
theorem dd_M_write_76 : decode bb_M_write 76 = .ok (.aload_n 0, 1) := by decide +kernel
theorem dd_M_write_77 : decode bb_M_write 77 = .ok (.iload_n 1, 1) := by decide +kernel
theorem dd_M_write_78 : decode bb_M_write 78 = .ok (.invokevirtual 168, 3) := by decide +kernel
theorem dd_M_write_81 : decode bb_M_write 81 = .ok (.istore 6, 2) := by decide +kernel
theorem dd_M_write_83 : decode bb_M_write 83 = .ok (.iload_n 2, 1) := by decide +kernel
theorem dd_M_write_84 : decode bb_M_write 84 = .ok (.iload_n 3, 1) := by decide +kernel
theorem dd_M_write_85 : decode bb_M_write 85 = .ok (.iadd, 1) := by decide +kernel
theorem dd_M_write_86 : decode bb_M_write 86 = .ok (.iload 6, 2) := by decide +kernel
theorem dd_M_write_88 : decode bb_M_write 88 = .ok (.if_icmp .le 9, 3) := by decide +kernel
theorem dd_M_write_91 : decode bb_M_write 91 = .ok (.iload_n 2, 1) := by decide +kernel
theorem dd_M_write_92 : decode bb_M_write 92 = .ok (.iload_n 3, 1) := by decide +kernel
theorem dd_M_write_93 : decode bb_M_write 93 = .ok (.iadd, 1) := by decide +kernel
theorem dd_M_write_94 : decode bb_M_write 94 = .ok (.goto 5, 3) := by decide +kernel
theorem dd_M_write_97 : decode bb_M_write 97 = .ok (.iload 6, 2) := by decide +kernel
theorem dd_M_write_99 : decode bb_M_write 99 = .ok (.istore 7, 2) := by decide +kernel
theorem dd_M_write_101 : decode bb_M_write 101 = .ok (.aload_n 0, 1) := by decide +kernel
theorem dd_M_write_102 : decode bb_M_write 102 = .ok (.iload_n 1, 1) := by decide +kernel
theorem dd_M_write_103 : decode bb_M_write 103 = .ok (.invokevirtual 171, 3) := by decide +kernel
theorem dd_M_write_106 : decode bb_M_write 106 = .ok (.ifCond .eq 16, 3) := by decide +kernel
theorem dd_M_write_109 : decode bb_M_write 109 = .ok (.iload 7, 2) := by decide +kernel
theorem dd_M_write_111 : decode bb_M_write 111 = .ok (.bipush 50, 2) := by decide +kernel
theorem dd_M_write_113 : decode bb_M_write 113 = .ok (.aload_n 0, 1) := by decide +kernel
theorem dd_M_write_114 : decode bb_M_write 114 = .ok (.iload_n 1, 1) := by decide +kernel
theorem dd_M_write_115 : decode bb_M_write 115 = .ok (.invokevirtual 72, 3) := by decide +kernel
theorem dd_M_write_118 : decode bb_M_write 118 = .ok (.isub, 1) := by decide +kernel
theorem dd_M_write_119 : decode bb_M_write 119 = .ok (.if_icmp .le 13, 3) := by decide +kernel
theorem dd_M_write_122 : decode bb_M_write 122 = .ok (.aload_n 0, 1) := by decide +kernel
theorem dd_M_write_123 : decode bb_M_write 123 = .ok (.iload_n 1, 1) := by decide +kernel
theorem dd_M_write_124 : decode bb_M_write 124 = .ok (.iload_n 2, 1) := by decide +kernel
theorem dd_M_write_125 : decode bb_M_write 125 = .ok (.iload_n 3, 1) := by decide +kernel
theorem dd_M_write_126 : decode bb_M_write 126 = .ok (.iload 4, 2) := by decide +kernel
theorem dd_M_write_128 : decode bb_M_write 128 = .ok (.invokevirtual 189, 3) := by decide +kernel
theorem dd_M_write_131 : decode bb_M_write 131 = .ok (.ireturn, 1) := by decide +kernel
theorem dd_M_write_132 : decode bb_M_write 132 = .ok (.aload_n 0, 1) := by decide +kernel
theorem dd_M_write_133 : decode bb_M_write 133 = .ok (.iload_n 1, 1) := by decide +kernel
theorem dd_M_write_134 : decode bb_M_write 134 = .ok (.iconst 2, 1) := by decide +kernel
theorem dd_M_write_135 : decode bb_M_write 135 = .ok (.invokevirtual 69, 3) := by decide +kernel
theorem dd_M_write_138 : decode bb_M_write 138 = .ok (.iconst 2, 1) := by decide +kernel
theorem dd_M_write_139 : decode bb_M_write 139 = .ok (.iadd, 1) := by decide +kernel
theorem dd_M_write_140 : decode bb_M_write 140 = .ok (.istore 8, 2) := by decide +kernel
theorem dd_M_write_142 : decode bb_M_write 142 = .ok (.iconst 0, 1) := by decide +kernel
theorem dd_M_write_143 : decode bb_M_write 143 = .ok (.istore 9, 2) := by decide +kernel
theorem dd_M_write_145 : decode bb_M_write 145 = .ok (.iload 9, 2) := by decide +kernel
theorem dd_M_write_147 : decode bb_M_write 147 = .ok (.iload 7, 2) := by decide +kernel
theorem dd_M_write_149 : decode bb_M_write 149 = .ok (.if_icmp .ge 65, 3) := by decide +kernel
theorem dd_M_write_152 : decode bb_M_write 152 = .ok (.aload_n 0, 1) := by decide +kernel
theorem dd_M_write_153 : decode bb_M_write 153 = .ok (.getfield 33, 3) := by decide +kernel
theorem dd_M_write_156 : decode bb_M_write 156 = .ok (.iload 9, 2) := by decide +kernel
theorem dd_M_write_158 : decode bb_M_write 158 = .ok (.iload 9, 2) := by decide +kernel
theorem dd_M_write_160 : decode bb_M_write 160 = .ok (.iload_n 2, 1) := by decide +kernel
theorem dd_M_write_161 : decode bb_M_write 161 = .ok (.if_icmp .lt 25, 3) := by decide +kernel
theorem dd_M_write_164 : decode bb_M_write 164 = .ok (.iload 9, 2) := by decide +kernel
theorem dd_M_write_166 : decode bb_M_write 166 = .ok (.iload_n 2, 1) := by decide +kernel
theorem dd_M_write_167 : decode bb_M_write 167 = .ok (.iload_n 3, 1) := by decide +kernel
theorem dd_M_write_168 : decode bb_M_write 168 = .ok (.iadd, 1) := by decide +kernel
theorem dd_M_write_169 : decode bb_M_write 169 = .ok (.if_icmp .ge 17, 3) := by decide +kernel
theorem dd_M_write_172 : decode bb_M_write 172 = .ok (.iload 4, 2) := by decide +kernel
theorem dd_M_write_174 : decode bb_M_write 174 = .ok (.iload 9, 2) := by decide +kernel
theorem dd_M_write_176 : decode bb_M_write 176 = .ok (.iadd, 1) := by decide +kernel
theorem dd_M_write_177 : decode bb_M_write 177 = .ok (.iload_n 2, 1) := by decide +kernel
theorem dd_M_write_178 : decode bb_M_write 178 = .ok (.isub, 1) := by decide +kernel
theorem dd_M_write_179 : decode bb_M_write 179 = .ok (.sipush 255, 3) := by decide +kernel
theorem dd_M_write_182 : decode bb_M_write 182 = .ok (.iand, 1) := by decide +kernel
theorem dd_M_write_183 : decode bb_M_write 183 = .ok (.goto 24, 3) := by decide +kernel
theorem dd_M_write_186 : decode bb_M_write 186 = .ok (.iload 9, 2) := by decide +kernel
theorem dd_M_write_188 : decode bb_M_write 188 = .ok (.iload 6, 2) := by decide +kernel
theorem dd_M_write_190 : decode bb_M_write 190 = .ok (.if_icmp .ge 16, 3) := by decide +kernel
theorem dd_M_write_193 : decode bb_M_write 193 = .ok (.aload_n 0, 1) := by decide +kernel
theorem dd_M_write_194 : decode bb_M_write 194 = .ok (.iload_n 1, 1) := by decide +kernel
theorem dd_M_write_195 : decode bb_M_write 195 = .ok (.iload 8, 2) := by decide +kernel
theorem dd_M_write_197 : decode bb_M_write 197 = .ok (.iload 9, 2) := by decide +kernel
theorem dd_M_write_199 : decode bb_M_write 199 = .ok (.iadd, 1) := by decide +kernel
theorem dd_M_write_200 : decode bb_M_write 200 = .ok (.invokevirtual 65, 3) := by decide +kernel
theorem dd_M_write_203 : decode bb_M_write 203 = .ok (.goto 4, 3) := by decide +kernel
theorem dd_M_write_206 : decode bb_M_write 206 = .ok (.iconst 0, 1) := by decide +kernel
theorem dd_M_write_207 : decode bb_M_write 207 = .ok (.iastore, 1) := by decide +kernel
theorem dd_M_write_208 : decode bb_M_write 208 = .ok (.iinc 9 1, 3) := by decide +kernel
theorem dd_M_write_211 : decode bb_M_write 211 = .ok (.goto (-66), 3) := by decide +kernel
theorem dd_M_write_214 : decode bb_M_write 214 = .ok (.aload_n 0, 1) := by decide +kernel
theorem dd_M_write_215 : decode bb_M_write 215 = .ok (.iconst 1, 1) := by decide +kernel
theorem dd_M_write_216 : decode bb_M_write 216 = .ok (.aload_n 0, 1) := by decide +kernel
theorem dd_M_write_217 : decode bb_M_write 217 = .ok (.iload_n 1, 1) := by decide +kernel
theorem dd_M_write_218 : decode bb_M_write 218 = .ok (.iconst 1, 1) := by decide +kernel
theorem dd_M_write_219 : decode bb_M_write 219 = .ok (.invokevirtual 65, 3) := by decide +kernel
theorem dd_M_write_222 : decode bb_M_write 222 = .ok (.invokevirtual 39, 3) := by decide +kernel
theorem dd_M_write_225 : decode bb_M_write 225 = .ok (.aload_n 0, 1) := by decide +kernel
theorem dd_M_write_226 : decode bb_M_write 226 = .ok (.iload_n 1, 1) := by decide +kernel
theorem dd_M_write_227 : decode bb_M_write 227 = .ok (.invokevirtual 102, 3) := by decide +kernel
theorem dd_M_write_230 : decode bb_M_write 230 = .ok (.aload_n 0, 1) := by decide +kernel
theorem dd_M_write_231 : decode bb_M_write 231 = .ok (.iload 7, 2) := by decide +kernel
theorem dd_M_write_233 : decode bb_M_write 233 = .ok (.invokevirtual 129, 3) := by decide +kernel
theorem dd_M_write_236 : decode bb_M_write 236 = .ok (.aload_n 0, 1) := by decide +kernel
theorem dd_M_write_237 : decode bb_M_write 237 = .ok (.iload_n 1, 1) := by decide +kernel
theorem dd_M_write_238 : decode bb_M_write 238 = .ok (.invokevirtual 46, 3) := by decide +kernel
theorem dd_M_write_241 : decode bb_M_write 241 = .ok (.ifCond .eq 8, 3) := by decide +kernel
theorem dd_M_write_244 : decode bb_M_write 244 = .ok (.iload 7, 2) := by decide +kernel
theorem dd_M_write_246 : decode bb_M_write 246 = .ok (.goto 8, 3) := by decide +kernel
theorem dd_M_write_249 : decode bb_M_write 249 = .ok (.aload_n 0, 1) := by decide +kernel
theorem dd_M_write_250 : decode bb_M_write 250 = .ok (.iconst 1, 1) := by decide +kernel
theorem dd_M_write_251 : decode bb_M_write 251 = .ok (.invokevirtual 117, 3) := by decide +kernel
theorem dd_M_write_254 : decode bb_M_write 254 = .ok (.ireturn, 1) := by decide +kernel
theorem dd_M_cut_0 : decode bb_M_cut 0 = .ok (.aload_n 0, 1) := by decide +kernel
theorem dd_M_cut_1 : decode bb_M_cut 1 = .ok (.iconst 0, 1) := by decide +kernel
theorem dd_M_cut_2 : decode bb_M_cut 2 = .ok (.putfield 54, 3) := by decide +kernel
theorem dd_M_cut_5 : decode bb_M_cut 5 = .ok (.aload_n 0, 1) := by decide +kernel
theorem dd_M_cut_6 : decode bb_M_cut 6 = .ok (.getfield 50, 3) := by decide +kernel
theorem dd_M_cut_9 : decode bb_M_cut 9 = .ok (.ifCond .ne 9, 3) := by decide +kernel
theorem dd_M_cut_12 : decode bb_M_cut 12 = .ok (.aload_n 0, 1) := by decide +kernel
theorem dd_M_cut_13 : decode bb_M_cut 13 = .ok (.iconst 1, 1) := by decide +kernel
theorem dd_M_cut_14 : decode bb_M_cut 14 = .ok (.invokevirtual 117, 3) := by decide +kernel
theorem dd_M_cut_17 : decode bb_M_cut 17 = .ok (.ireturn, 1) := by decide +kernel
theorem dd_M_cut_18 : decode bb_M_cut 18 = .ok (.aload_n 0, 1) := by decide +kernel
theorem dd_M_cut_19 : decode bb_M_cut 19 = .ok (.iload_n 1, 1) := by decide +kernel
theorem dd_M_cut_20 : decode bb_M_cut 20 = .ok (.iconst 1, 1) := by decide +kernel
theorem dd_M_cut_21 : decode bb_M_cut 21 = .ok (.invokevirtual 120, 3) := by decide +kernel
theorem dd_M_cut_24 : decode bb_M_cut 24 = .ok (.ifCond .ne 9, 3) := by decide +kernel
theorem dd_M_cut_27 : decode bb_M_cut 27 = .ok (.aload_n 0, 1) := by decide +kernel
theorem dd_M_cut_28 : decode bb_M_cut 28 = .ok (.iconst 2, 1) := by decide +kernel
theorem dd_M_cut_29 : decode bb_M_cut 29 = .ok (.invokevirtual 117, 3) := by decide +kernel
theorem dd_M_cut_32 : decode bb_M_cut 32 = .ok (.ireturn, 1) := by decide +kernel
theorem dd_M_cut_33 : decode bb_M_cut 33 = .ok (.aload_n 0, 1) := by decide +kernel
theorem dd_M_cut_34 : decode bb_M_cut 34 = .ok (.iload_n 1, 1) := by decide +kernel
theorem dd_M_cut_35 : decode bb_M_cut 35 = .ok (.invokevirtual 168, 3) := by decide +kernel
theorem dd_M_cut_38 : decode bb_M_cut 38 = .ok (.istore_n 3, 1) := by decide +kernel
theorem dd_M_cut_39 : decode bb_M_cut 39 = .ok (.iload_n 2, 1) := by decide +kernel
theorem dd_M_cut_40 : decode bb_M_cut 40 = .ok (.ifCond .lt 8, 3) := by decide +kernel
theorem dd_M_cut_43 : decode bb_M_cut 43 = .ok (.iload_n 2, 1) := by decide +kernel
theorem dd_M_cut_44 : decode bb_M_cut 44 = .ok (.iload_n 3, 1) := by decide +kernel
theorem dd_M_cut_45 : decode bb_M_cut 45 = .ok (.if_icmp .le 9, 3) := by decide +kernel
theorem dd_M_cut_48 : decode bb_M_cut 48 = .ok (.aload_n 0, 1) := by decide +kernel
theorem dd_M_cut_49 : decode bb_M_cut 49 = .ok (.iconst 2, 1) := by decide +kernel
theorem dd_M_cut_50 : decode bb_M_cut 50 = .ok (.invokevirtual 117, 3) := by decide +kernel
theorem dd_M_cut_53 : decode bb_M_cut 53 = .ok (.ireturn, 1) := by decide +kernel
theorem dd_M_cut_54 : decode bb_M_cut 54 = .ok (.aload_n 0, 1) := by decide +kernel
theorem dd_M_cut_55 : decode bb_M_cut 55 = .ok (.iload_n 1, 1) := by decide +kernel
theorem dd_M_cut_56 : decode bb_M_cut 56 = .ok (.invokevirtual 171, 3) := by decide +kernel
theorem dd_M_cut_59 : decode bb_M_cut 59 = .ok (.istore 4, 2) := by decide +kernel
theorem dd_M_cut_61 : decode bb_M_cut 61 = .ok (.aload_n 0, 1) := by decide +kernel
theorem dd_M_cut_62 : decode bb_M_cut 62 = .ok (.iload_n 1, 1) := by decide +kernel
theorem dd_M_cut_63 : decode bb_M_cut 63 = .ok (.invokevirtual 145, 3) := by decide +kernel
theorem dd_M_cut_66 : decode bb_M_cut 66 = .ok (.aload_n 0, 1) := by decide +kernel
theorem dd_M_cut_67 : decode bb_M_cut 67 = .ok (.getfield 91, 3) := by decide +kernel
theorem dd_M_cut_70 : decode bb_M_cut 70 = .ok (.istore 5, 2) := by decide +kernel
theorem dd_M_cut_72 : decode bb_M_cut 72 = .ok (.aload_n 0, 1) := by decide +kernel
theorem dd_M_cut_73 : decode bb_M_cut 73 = .ok (.iload_n 1, 1) := by decide +kernel
theorem dd_M_cut_74 : decode bb_M_cut 74 = .ok (.iconst 2, 1) := by decide +kernel
theorem dd_M_cut_75 : decode bb_M_cut 75 = .ok (.invokevirtual 69, 3) := by decide +kernel
theorem dd_M_cut_78 : decode bb_M_cut 78 = .ok (.iconst 2, 1) := by decide +kernel
theorem dd_M_cut_79 : decode bb_M_cut 79 = .ok (.iadd, 1) := by decide +kernel
theorem dd_M_cut_80 : decode bb_M_cut 80 = .ok (.istore 6, 2) := by decide +kernel
theorem dd_M_cut_82 : decode bb_M_cut 82 = .ok (.iconst 0, 1) := by decide +kernel
theorem dd_M_cut_83 : decode bb_M_cut 83 = .ok (.istore 7, 2) := by decide +kernel
theorem dd_M_cut_85 : decode bb_M_cut 85 = .ok (.iload 7, 2) := by decide +kernel
theorem dd_M_cut_87 : decode bb_M_cut 87 = .ok (.iload_n 2, 1) := by decide +kernel
theorem dd_M_cut_88 : decode bb_M_cut 88 = .ok (.if_icmp .ge 31, 3) := by decide +kernel
theorem dd_M_cut_91 : decode bb_M_cut 91 = .ok (.iload 4, 2) := by decide +kernel
theorem dd_M_cut_93 : decode bb_M_cut 93 = .ok (.ifCond .eq 26, 3) := by decide +kernel
theorem dd_M_cut_96 : decode bb_M_cut 96 = .ok (.aload_n 0, 1) := by decide +kernel
theorem dd_M_cut_97 : decode bb_M_cut 97 = .ok (.getfield 33, 3) := by decide +kernel
theorem dd_M_cut_100 : decode bb_M_cut 100 = .ok (.iload 7, 2) := by decide +kernel
theorem dd_M_cut_102 : decode bb_M_cut 102 = .ok (.aload_n 0, 1) := by decide +kernel
theorem dd_M_cut_103 : decode bb_M_cut 103 = .ok (.iload_n 1, 1) := by decide +kernel
theorem dd_M_cut_104 : decode bb_M_cut 104 = .ok (.iload 6, 2) := by decide +kernel
theorem dd_M_cut_106 : decode bb_M_cut 106 = .ok (.iload 7, 2) := by decide +kernel
theorem dd_M_cut_108 : decode bb_M_cut 108 = .ok (.iadd, 1) := by decide +kernel
theorem dd_M_cut_109 : decode bb_M_cut 109 = .ok (.invokevirtual 65, 3) := by decide +kernel
theorem dd_M_cut_112 : decode bb_M_cut 112 = .ok (.iastore, 1) := by decide +kernel
theorem dd_M_cut_113 : decode bb_M_cut 113 = .ok (.iinc 7 1, 3) := by decide +kernel
theorem dd_M_cut_116 : decode bb_M_cut 116 = .ok (.goto (-31), 3) := by decide +kernel
theorem dd_M_cut_119 : decode bb_M_cut 119 = .ok (.aload_n 0, 1) := by decide +kernel
theorem dd_M_cut_120 : decode bb_M_cut 120 = .ok (.iconst 1, 1) := by decide +kernel
theorem dd_M_cut_121 : decode bb_M_cut 121 = .ok (.aload_n 0, 1) := by decide +kernel
theorem dd_M_cut_122 : decode bb_M_cut 122 = .ok (.iload_n 1, 1) := by decide +kernel
theorem dd_M_cut_123 : decode bb_M_cut 123 = .ok (.iconst 1, 1) := by decide +kernel
theorem dd_M_cut_124 : decode bb_M_cut 124 = .ok (.invokevirtual 65, 3) := by decide +kernel
theorem dd_M_cut_127 : decode bb_M_cut 127 = .ok (.invokevirtual 39, 3) := by decide +kernel
theorem dd_M_cut_130 : decode bb_M_cut 130 = .ok (.aload_n 0, 1) := by decide +kernel
theorem dd_M_cut_131 : decode bb_M_cut 131 = .ok (.iload_n 1, 1) := by decide +kernel
theorem dd_M_cut_132 : decode bb_M_cut 132 = .ok (.invokevirtual 102, 3) := by decide +kernel
theorem dd_M_cut_135 : decode bb_M_cut 135 = .ok (.iload 4, 2) := by decide +kernel
theorem dd_M_cut_137 : decode bb_M_cut 137 = .ok (.ifCond .ne 7, 3) := by decide +kernel
theorem dd_M_cut_140 : decode bb_M_cut 140 = .ok (.iload_n 2, 1) := by decide +kernel
theorem dd_M_cut_141 : decode bb_M_cut 141 = .ok (.ifCond .ne 11, 3) := by decide +kernel
theorem dd_M_cut_144 : decode bb_M_cut 144 = .ok (.aload_n 0, 1) := by decide +kernel
theorem dd_M_cut_145 : decode bb_M_cut 145 = .ok (.iload_n 2, 1) := by decide +kernel
theorem dd_M_cut_146 : decode bb_M_cut 146 = .ok (.invokevirtual 129, 3) := by decide +kernel
theorem dd_M_cut_149 : decode bb_M_cut 149 = .ok (.goto 44, 3) := by decide +kernel
theorem dd_M_cut_152 : decode bb_M_cut 152 = .ok (.aload_n 0, 1) := by decide +kernel
theorem dd_M_cut_153 : decode bb_M_cut 153 = .ok (.iload_n 2, 1) := by decide +kernel
theorem dd_M_cut_154 : decode bb_M_cut 154 = .ok (.invokestatic 174, 3) := by decide +kernel
theorem dd_M_cut_157 : decode bb_M_cut 157 = .ok (.putfield 91, 3) := by decide +kernel
theorem dd_M_cut_160 : decode bb_M_cut 160 = .ok (.aload_n 0, 1) := by decide +kernel
theorem dd_M_cut_161 : decode bb_M_cut 161 = .ok (.iload_n 2, 1) := by decide +kernel
theorem dd_M_cut_162 : decode bb_M_cut 162 = .ok (.invokevirtual 180, 3) := by decide +kernel
theorem dd_M_cut_165 : decode bb_M_cut 165 = .ok (.iload_n 2, 1) := by decide +kernel
theorem dd_M_cut_166 : decode bb_M_cut 166 = .ok (.istore 7, 2) := by decide +kernel
theorem dd_M_cut_168 : decode bb_M_cut 168 = .ok (.iload 7, 2) := by decide +kernel
theorem dd_M_cut_170 : decode bb_M_cut 170 = .ok (.bipush 16, 2) := by decide +kernel
theorem dd_M_cut_172 : decode bb_M_cut 172 = .ok (.aload_n 0, 1) := by decide +kernel
theorem dd_M_cut_173 : decode bb_M_cut 173 = .ok (.getfield 91, 3) := by decide +kernel
theorem dd_M_cut_176 : decode bb_M_cut 176 = .ok (.imul, 1) := by decide +kernel
theorem dd_M_cut_177 : decode bb_M_cut 177 = .ok (.if_icmp .ge 16, 3) := by decide +kernel
theorem dd_M_cut_180 : decode bb_M_cut 180 = .ok (.aload_n 0, 1) := by decide +kernel
theorem dd_M_cut_181 : decode bb_M_cut 181 = .ok (.iload 7, 2) := by decide +kernel
theorem dd_M_cut_183 : decode bb_M_cut 183 = .ok (.iconst 0, 1) := by decide +kernel
theorem dd_M_cut_184 : decode bb_M_cut 184 = .ok (.invokevirtual 186, 3) := by decide +kernel
theorem dd_M_cut_187 : decode bb_M_cut 187 = .ok (.iinc 7 1, 3) := by decide +kernel
theorem dd_M_cut_190 : decode bb_M_cut 190 = .ok (.goto (-22), 3) := by decide +kernel
theorem dd_M_cut_193 : decode bb_M_cut 193 = .ok (.aload_n 0, 1) := by decide +kernel
theorem dd_M_cut_194 : decode bb_M_cut 194 = .ok (.iload_n 1, 1) := by decide +kernel
theorem dd_M_cut_195 : decode bb_M_cut 195 = .ok (.invokevirtual 46, 3) := by decide +kernel
theorem dd_M_cut_198 : decode bb_M_cut 198 = .ok (.ifCond .ne 9, 3) := by decide +kernel
theorem dd_M_cut_201 : decode bb_M_cut 201 = .ok (.aload_n 0, 1) := by decide +kernel
theorem dd_M_cut_202 : decode bb_M_cut 202 = .ok (.iconst 1, 1) := by decide +kernel
theorem dd_M_cut_203 : decode bb_M_cut 203 = .ok (.invokevirtual 117, 3) := by decide +kernel
theorem dd_M_cut_206 : decode bb_M_cut 206 = .ok (.ireturn, 1) := by decide +kernel
theorem dd_M_cut_207 : decode bb_M_cut 207 = .ok (.aload_n 0, 1) := by decide +kernel
theorem dd_M_cut_208 : decode bb_M_cut 208 = .ok (.iload 5, 2) := by decide +kernel
theorem dd_M_cut_210 : decode bb_M_cut 210 = .ok (.putfield 91, 3) := by decide +kernel
theorem dd_M_cut_213 : decode bb_M_cut 213 = .ok (.aload_n 0, 1) := by decide +kernel
theorem dd_M_cut_214 : decode bb_M_cut 214 = .ok (.iload_n 2, 1) := by decide +kernel
theorem dd_M_cut_215 : decode bb_M_cut 215 = .ok (.invokestatic 174, 3) := by decide +kernel
theorem dd_M_cut_218 : decode bb_M_cut 218 = .ok (.invokevirtual 148, 3) := by decide +kernel
theorem dd_M_cut_221 : decode bb_M_cut 221 = .ok (.pop, 1) := by decide +kernel
theorem dd_M_cut_222 : decode bb_M_cut 222 = .ok (.iload_n 3, 1) := by decide +kernel
theorem dd_M_cut_223 : decode bb_M_cut 223 = .ok (.ireturn, 1) := by decide +kernel
theorem dd_M_fail_0 : decode bb_M_fail 0 = .ok (.aload_n 0, 1) := by decide +kernel
theorem dd_M_fail_1 : decode bb_M_fail 1 = .ok (.iconst 0, 1) := by decide +kernel
theorem dd_M_fail_2 : decode bb_M_fail 2 = .ok (.putfield 54, 3) := by decide +kernel
theorem dd_M_fail_5 : decode bb_M_fail 5 = .ok (.iload_n 1, 1) := by decide +kernel
theorem dd_M_fail_6 : decode bb_M_fail 6 = .ok (.ifCond .lt 9, 3) := by decide +kernel
theorem dd_M_fail_9 : decode bb_M_fail 9 = .ok (.iload_n 1, 1) := by decide +kernel
theorem dd_M_fail_10 : decode bb_M_fail 10 = .ok (.bipush 20, 2) := by decide +kernel
theorem dd_M_fail_12 : decode bb_M_fail 12 = .ok (.if_icmp .le 5, 3) := by decide +kernel
theorem dd_M_fail_15 : decode bb_M_fail 15 = .ok (.iconst 0, 1) := by decide +kernel
theorem dd_M_fail_16 : decode bb_M_fail 16 = .ok (.ireturn, 1) := by decide +kernel
theorem dd_M_fail_17 : decode bb_M_fail 17 = .ok (.aload_n 0, 1) := by decide +kernel
theorem dd_M_fail_18 : decode bb_M_fail 18 = .ok (.iload_n 1, 1) := by decide +kernel
theorem dd_M_fail_19 : decode bb_M_fail 19 = .ok (.putfield 94, 3) := by decide +kernel
theorem dd_M_fail_22 : decode bb_M_fail 22 = .ok (.iconst 1, 1) := by decide +kernel
theorem dd_M_fail_23 : decode bb_M_fail 23 = .ok (.ireturn, 1) := by decide +kernel
theorem dd_M_leadsUp_0 : decode bb_M_leadsUp 0 = .ok (.iload_n 1, 1) := by decide +kernel
theorem dd_M_leadsUp_1 : decode bb_M_leadsUp 1 = .ok (.istore_n 2, 1) := by decide +kernel
theorem dd_M_leadsUp_2 : decode bb_M_leadsUp 2 = .ok (.iconst 0, 1) := by decide +kernel
theorem dd_M_leadsUp_3 : decode bb_M_leadsUp 3 = .ok (.istore_n 3, 1) := by decide +kernel
theorem dd_M_leadsUp_4 : decode bb_M_leadsUp 4 = .ok (.iload_n 3, 1) := by decide +kernel
theorem dd_M_leadsUp_5 : decode bb_M_leadsUp 5 = .ok (.bipush 12, 2) := by decide +kernel
theorem dd_M_leadsUp_7 : decode bb_M_leadsUp 7 = .ok (.if_icmp .gt 47, 3) := by decide +kernel
theorem dd_M_leadsUp_10 : decode bb_M_leadsUp 10 = .ok (.iload_n 2, 1) := by decide +kernel
theorem dd_M_leadsUp_11 : decode bb_M_leadsUp 11 = .ok (.ifCond .eq 43, 3) := by decide +kernel
theorem dd_M_leadsUp_14 : decode bb_M_leadsUp 14 = .ok (.aload_n 0, 1) := by decide +kernel
theorem dd_M_leadsUp_15 : decode bb_M_leadsUp 15 = .ok (.iload_n 2, 1) := by decide +kernel
theorem dd_M_leadsUp_16 : decode bb_M_leadsUp 16 = .ok (.iconst 1, 1) := by decide +kernel
theorem dd_M_leadsUp_17 : decode bb_M_leadsUp 17 = .ok (.invokevirtual 65, 3) := by decide +kernel
theorem dd_M_leadsUp_20 : decode bb_M_leadsUp 20 = .ok (.istore_n 2, 1) := by decide +kernel
theorem dd_M_leadsUp_21 : decode bb_M_leadsUp 21 = .ok (.iload_n 2, 1) := by decide +kernel
theorem dd_M_leadsUp_22 : decode bb_M_leadsUp 22 = .ok (.bipush 12, 2) := by decide +kernel
theorem dd_M_leadsUp_24 : decode bb_M_leadsUp 24 = .ok (.if_icmp .ge 22, 3) := by decide +kernel
theorem dd_M_leadsUp_27 : decode bb_M_leadsUp 27 = .ok (.aload_n 0, 1) := by decide +kernel
theorem dd_M_leadsUp_28 : decode bb_M_leadsUp 28 = .ok (.getfield 13, 3) := by decide +kernel
theorem dd_M_leadsUp_31 : decode bb_M_leadsUp 31 = .ok (.iload_n 2, 1) := by decide +kernel
theorem dd_M_leadsUp_32 : decode bb_M_leadsUp 32 = .ok (.baload, 1) := by decide +kernel
theorem dd_M_leadsUp_33 : decode bb_M_leadsUp 33 = .ok (.ifCond .eq 13, 3) := by decide +kernel
theorem dd_M_leadsUp_36 : decode bb_M_leadsUp 36 = .ok (.aload_n 0, 1) := by decide +kernel
theorem dd_M_leadsUp_37 : decode bb_M_leadsUp 37 = .ok (.iload_n 2, 1) := by decide +kernel
theorem dd_M_leadsUp_38 : decode bb_M_leadsUp 38 = .ok (.iconst 0, 1) := by decide +kernel
theorem dd_M_leadsUp_39 : decode bb_M_leadsUp 39 = .ok (.invokevirtual 65, 3) := by decide +kernel
theorem dd_M_leadsUp_42 : decode bb_M_leadsUp 42 = .ok (.iconst 2, 1) := by decide +kernel
theorem dd_M_leadsUp_43 : decode bb_M_leadsUp 43 = .ok (.if_icmp .eq 5, 3) := by decide +kernel
theorem dd_M_leadsUp_46 : decode bb_M_leadsUp 46 = .ok (.iconst 0, 1) := by decide +kernel
theorem dd_M_leadsUp_47 : decode bb_M_leadsUp 47 = .ok (.ireturn, 1) := by decide +kernel
theorem dd_M_leadsUp_48 : decode bb_M_leadsUp 48 = .ok (.iinc 3 1, 3) := by decide +kernel
theorem dd_M_leadsUp_51 : decode bb_M_leadsUp 51 = .ok (.goto (-47), 3) := by decide +kernel
theorem dd_M_leadsUp_54 : decode bb_M_leadsUp 54 = .ok (.iload_n 2, 1) := by decide +kernel
theorem dd_M_leadsUp_55 : decode bb_M_leadsUp 55 = .ok (.ifCond .ne 7, 3) := by decide +kernel
theorem dd_M_leadsUp_58 : decode bb_M_leadsUp 58 = .ok (.iconst 1, 1) := by decide +kernel
theorem dd_M_leadsUp_59 : decode bb_M_leadsUp 59 = .ok (.goto 4, 3) := by decide +kernel
theorem dd_M_leadsUp_62 : decode bb_M_leadsUp 62 = .ok (.iconst 0, 1) := by decide +kernel
theorem dd_M_leadsUp_63 : decode bb_M_leadsUp 63 = .ok (.ireturn, 1) := by decide +kernel
theorem dd_M_mendRoot_0 : decode bb_M_mendRoot 0 = .ok (.aload_n 0, 1) := by decide +kernel
theorem dd_M_mendRoot_1 : decode bb_M_mendRoot 1 = .ok (.getfield 13, 3) := by decide +kernel
theorem dd_M_mendRoot_4 : decode bb_M_mendRoot 4 = .ok (.iconst 0, 1) := by decide +kernel
theorem dd_M_mendRoot_5 : decode bb_M_mendRoot 5 = .ok (.baload, 1) := by decide +kernel
theorem dd_M_mendRoot_6 : decode bb_M_mendRoot 6 = .ok (.ifCond .eq 5, 3) := by decide +kernel
theorem dd_M_mendRoot_9 : decode bb_M_mendRoot 9 = .ok (.iconst 1, 1) := by decide +kernel
theorem dd_M_mendRoot_10 : decode bb_M_mendRoot 10 = .ok (.ireturn, 1) := by decide +kernel
theorem dd_M_mendRoot_11 : decode bb_M_mendRoot 11 = .ok (.aload_n 0, 1) := by decide +kernel
theorem dd_M_mendRoot_12 : decode bb_M_mendRoot 12 = .ok (.iconst 0, 1) := by decide +kernel
theorem dd_M_mendRoot_13 : decode bb_M_mendRoot 13 = .ok (.putfield 88, 3) := by decide +kernel
theorem dd_M_mendRoot_16 : decode bb_M_mendRoot 16 = .ok (.aload_n 0, 1) := by decide +kernel
theorem dd_M_mendRoot_17 : decode bb_M_mendRoot 17 = .ok (.iconst 2, 1) := by decide +kernel
theorem dd_M_mendRoot_18 : decode bb_M_mendRoot 18 = .ok (.iconst 0, 1) := by decide +kernel
theorem dd_M_mendRoot_19 : decode bb_M_mendRoot 19 = .ok (.invokevirtual 39, 3) := by decide +kernel
theorem dd_M_mendRoot_22 : decode bb_M_mendRoot 22 = .ok (.aload_n 0, 1) := by decide +kernel
theorem dd_M_mendRoot_23 : decode bb_M_mendRoot 23 = .ok (.invokevirtual 43, 3) := by decide +kernel
theorem dd_M_mendRoot_26 : decode bb_M_mendRoot 26 = .ok (.aload_n 0, 1) := by decide +kernel
theorem dd_M_mendRoot_27 : decode bb_M_mendRoot 27 = .ok (.dup, 1) := by decide +kernel
theorem dd_M_mendRoot_28 : decode bb_M_mendRoot 28 = .ok (.getfield 193, 3) := by decide +kernel
theorem dd_M_mendRoot_31 : decode bb_M_mendRoot 31 = .ok (.iconst 1, 1) := by decide +kernel
theorem dd_M_mendRoot_32 : decode bb_M_mendRoot 32 = .ok (.iadd, 1) := by decide +kernel
theorem dd_M_mendRoot_33 : decode bb_M_mendRoot 33 = .ok (.putfield 193, 3) := by decide +kernel
theorem dd_M_mendRoot_36 : decode bb_M_mendRoot 36 = .ok (.aload_n 0, 1) := by decide +kernel
theorem dd_M_mendRoot_37 : decode bb_M_mendRoot 37 = .ok (.iconst 0, 1) := by decide +kernel
theorem dd_M_mendRoot_38 : decode bb_M_mendRoot 38 = .ok (.invokevirtual 46, 3) := by decide +kernel
theorem dd_M_mendRoot_41 : decode bb_M_mendRoot 41 = .ok (.ireturn, 1) := by decide +kernel
theorem dd_M_mendParents_0 : decode bb_M_mendParents 0 = .ok (.iconst 1, 1) := by decide +kernel
theorem dd_M_mendParents_1 : decode bb_M_mendParents 1 = .ok (.istore_n 1, 1) := by decide +kernel
theorem dd_M_mendParents_2 : decode bb_M_mendParents 2 = .ok (.iload_n 1, 1) := by decide +kernel
theorem dd_M_mendParents_3 : decode bb_M_mendParents 3 = .ok (.bipush 12, 2) := by decide +kernel
theorem dd_M_mendParents_5 : decode bb_M_mendParents 5 = .ok (.if_icmp .ge 96, 3) := by decide +kernel
theorem dd_M_mendParents_8 : decode bb_M_mendParents 8 = .ok (.aload_n 0, 1) := by decide +kernel
theorem dd_M_mendParents_9 : decode bb_M_mendParents 9 = .ok (.getfield 13, 3) := by decide +kernel
theorem dd_M_mendParents_12 : decode bb_M_mendParents 12 = .ok (.iload_n 1, 1) := by decide +kernel
theorem dd_M_mendParents_13 : decode bb_M_mendParents 13 = .ok (.baload, 1) := by decide +kernel
theorem dd_M_mendParents_14 : decode bb_M_mendParents 14 = .ok (.ifCond .eq 81, 3) := by decide +kernel
theorem dd_M_mendParents_17 : decode bb_M_mendParents 17 = .ok (.aload_n 0, 1) := by decide +kernel
theorem dd_M_mendParents_18 : decode bb_M_mendParents 18 = .ok (.iload_n 1, 1) := by decide +kernel
theorem dd_M_mendParents_19 : decode bb_M_mendParents 19 = .ok (.invokevirtual 196, 3) := by decide +kernel
theorem dd_M_mendParents_22 : decode bb_M_mendParents 22 = .ok (.ifCond .eq 6, 3) := by decide +kernel
theorem dd_M_mendParents_25 : decode bb_M_mendParents 25 = .ok (.goto 70, 3) := by decide +kernel
theorem dd_M_mendParents_28 : decode bb_M_mendParents 28 = .ok (.iconst 0, 1) := by decide +kernel
theorem dd_M_mendParents_29 : decode bb_M_mendParents 29 = .ok (.istore_n 2, 1) := by decide +kernel
theorem dd_M_mendParents_30 : decode bb_M_mendParents 30 = .ok (.iload_n 2, 1) := by decide +kernel
theorem dd_M_mendParents_31 : decode bb_M_mendParents 31 = .ok (.bipush 64, 2) := by decide +kernel
theorem dd_M_mendParents_33 : decode bb_M_mendParents 33 = .ok (.if_icmp .ge 21, 3) := by decide +kernel
theorem dd_M_mendParents_36 : decode bb_M_mendParents 36 = .ok (.aload_n 0, 1) := by decide +kernel
theorem dd_M_mendParents_37 : decode bb_M_mendParents 37 = .ok (.getfield 24, 3) := by decide +kernel
theorem dd_M_mendParents_40 : decode bb_M_mendParents 40 = .ok (.iload_n 2, 1) := by decide +kernel
theorem dd_M_mendParents_41 : decode bb_M_mendParents 41 = .ok (.aload_n 0, 1) := by decide +kernel
theorem dd_M_mendParents_42 : decode bb_M_mendParents 42 = .ok (.iload_n 1, 1) := by decide +kernel
theorem dd_M_mendParents_43 : decode bb_M_mendParents 43 = .ok (.iload_n 2, 1) := by decide +kernel
theorem dd_M_mendParents_44 : decode bb_M_mendParents 44 = .ok (.invokevirtual 65, 3) := by decide +kernel
theorem dd_M_mendParents_47 : decode bb_M_mendParents 47 = .ok (.iastore, 1) := by decide +kernel
theorem dd_M_mendParents_48 : decode bb_M_mendParents 48 = .ok (.iinc 2 1, 3) := by decide +kernel
theorem dd_M_mendParents_51 : decode bb_M_mendParents 51 = .ok (.goto (-21), 3) := by decide +kernel
theorem dd_M_mendParents_54 : decode bb_M_mendParents 54 = .ok (.aload_n 0, 1) := by decide +kernel
theorem dd_M_mendParents_55 : decode bb_M_mendParents 55 = .ok (.getfield 24, 3) := by decide +kernel
theorem dd_M_mendParents_58 : decode bb_M_mendParents 58 = .ok (.iconst 1, 1) := by decide +kernel
theorem dd_M_mendParents_59 : decode bb_M_mendParents 59 = .ok (.iconst 0, 1) := by decide +kernel
theorem dd_M_mendParents_60 : decode bb_M_mendParents 60 = .ok (.iastore, 1) := by decide +kernel
theorem dd_M_mendParents_61 : decode bb_M_mendParents 61 = .ok (.aload_n 0, 1) := by decide +kernel
theorem dd_M_mendParents_62 : decode bb_M_mendParents 62 = .ok (.bipush 10, 2) := by decide +kernel
theorem dd_M_mendParents_64 : decode bb_M_mendParents 64 = .ok (.aload_n 0, 1) := by decide +kernel
theorem dd_M_mendParents_65 : decode bb_M_mendParents 65 = .ok (.getfield 24, 3) := by decide +kernel
theorem dd_M_mendParents_68 : decode bb_M_mendParents 68 = .ok (.bipush 8, 2) := by decide +kernel
theorem dd_M_mendParents_70 : decode bb_M_mendParents 70 = .ok (.iaload, 1) := by decide +kernel
theorem dd_M_mendParents_71 : decode bb_M_mendParents 71 = .ok (.iadd, 1) := by decide +kernel
theorem dd_M_mendParents_72 : decode bb_M_mendParents 72 = .ok (.putfield 81, 3) := by decide +kernel
theorem dd_M_mendParents_75 : decode bb_M_mendParents 75 = .ok (.aload_n 0, 1) := by decide +kernel
theorem dd_M_mendParents_76 : decode bb_M_mendParents 76 = .ok (.dup, 1) := by decide +kernel
theorem dd_M_mendParents_77 : decode bb_M_mendParents 77 = .ok (.getfield 193, 3) := by decide +kernel
theorem dd_M_mendParents_80 : decode bb_M_mendParents 80 = .ok (.iconst 1, 1) := by decide +kernel
theorem dd_M_mendParents_81 : decode bb_M_mendParents 81 = .ok (.iadd, 1) := by decide +kernel
theorem dd_M_mendParents_82 : decode bb_M_mendParents 82 = .ok (.putfield 193, 3) := by decide +kernel
theorem dd_M_mendParents_85 : decode bb_M_mendParents 85 = .ok (.aload_n 0, 1) := by decide +kernel
theorem dd_M_mendParents_86 : decode bb_M_mendParents 86 = .ok (.iload_n 1, 1) := by decide +kernel
theorem dd_M_mendParents_87 : decode bb_M_mendParents 87 = .ok (.invokevirtual 46, 3) := by decide +kernel
theorem dd_M_mendParents_90 : decode bb_M_mendParents 90 = .ok (.ifCond .ne 5, 3) := by decide +kernel
theorem dd_M_mendParents_93 : decode bb_M_mendParents 93 = .ok (.iconst 0, 1) := by decide +kernel
theorem dd_M_mendParents_94 : decode bb_M_mendParents 94 = .ok (.ireturn, 1) := by decide +kernel
theorem dd_M_mendParents_95 : decode bb_M_mendParents 95 = .ok (.iinc 1 1, 3) := by decide +kernel
theorem dd_M_mendParents_98 : decode bb_M_mendParents 98 = .ok (.goto (-96), 3) := by decide +kernel
theorem dd_M_mendParents_101 : decode bb_M_mendParents 101 = .ok (.iconst 1, 1) := by decide +kernel
theorem dd_M_mendParents_102 : decode bb_M_mendParents 102 = .ok (.ireturn, 1) := by decide +kernel
end
section
theorem dd_M_mendLists_0 : decode bb_M_mendLists 0 = .ok (.iconst 0, 1) := by decide +kernel
theorem dd_M_mendLists_1 : decode bb_M_mendLists 1 = .ok (.istore_n 1, 1) := by decide +kernel
theorem dd_M_mendLists_2 : decode bb_M_mendLists 2 = .ok (.iload_n 1, 1) := by decide +kernel
theorem dd_M_mendLists_3 : decode bb_M_mendLists 3 = .ok (.bipush 12, 2) := by decide +kernel
theorem dd_M_mendLists_5 : decode bb_M_mendLists 5 = .ok (.if_icmp .ge 166, 3) := by decide +kernel
theorem dd_M_mendLists_8 : decode bb_M_mendLists 8 = .ok (.aload_n 0, 1) := by decide +kernel
theorem dd_M_mendLists_9 : decode bb_M_mendLists 9 = .ok (.getfield 13, 3) := by decide +kernel
theorem dd_M_mendLists_12 : decode bb_M_mendLists 12 = .ok (.iload_n 1, 1) := by decide +kernel
theorem dd_M_mendLists_13 : decode bb_M_mendLists 13 = .ok (.baload, 1) := by decide +kernel
theorem dd_M_mendLists_14 : decode bb_M_mendLists 14 = .ok (.ifCond .eq 151, 3) := by decide +kernel
theorem dd_M_mendLists_17 : decode bb_M_mendLists 17 = .ok (.aload_n 0, 1) := by decide +kernel
theorem dd_M_mendLists_18 : decode bb_M_mendLists 18 = .ok (.iload_n 1, 1) := by decide +kernel
theorem dd_M_mendLists_19 : decode bb_M_mendLists 19 = .ok (.iconst 0, 1) := by decide +kernel
theorem dd_M_mendLists_20 : decode bb_M_mendLists 20 = .ok (.invokevirtual 65, 3) := by decide +kernel
theorem dd_M_mendLists_23 : decode bb_M_mendLists 23 = .ok (.iconst 2, 1) := by decide +kernel
theorem dd_M_mendLists_24 : decode bb_M_mendLists 24 = .ok (.if_icmp .eq 6, 3) := by decide +kernel
theorem dd_M_mendLists_27 : decode bb_M_mendLists 27 = .ok (.goto 138, 3) := by decide +kernel
theorem dd_M_mendLists_30 : decode bb_M_mendLists 30 = .ok (.aload_n 0, 1) := by decide +kernel
theorem dd_M_mendLists_31 : decode bb_M_mendLists 31 = .ok (.iconst 0, 1) := by decide +kernel
theorem dd_M_mendLists_32 : decode bb_M_mendLists 32 = .ok (.putfield 88, 3) := by decide +kernel
theorem dd_M_mendLists_35 : decode bb_M_mendLists 35 = .ok (.iconst 1, 1) := by decide +kernel
theorem dd_M_mendLists_36 : decode bb_M_mendLists 36 = .ok (.istore_n 2, 1) := by decide +kernel
theorem dd_M_mendLists_37 : decode bb_M_mendLists 37 = .ok (.iload_n 2, 1) := by decide +kernel
theorem dd_M_mendLists_38 : decode bb_M_mendLists 38 = .ok (.bipush 12, 2) := by decide +kernel
theorem dd_M_mendLists_40 : decode bb_M_mendLists 40 = .ok (.if_icmp .ge 33, 3) := by decide +kernel
theorem dd_M_mendLists_43 : decode bb_M_mendLists 43 = .ok (.aload_n 0, 1) := by decide +kernel
theorem dd_M_mendLists_44 : decode bb_M_mendLists 44 = .ok (.getfield 13, 3) := by decide +kernel
theorem dd_M_mendLists_47 : decode bb_M_mendLists 47 = .ok (.iload_n 2, 1) := by decide +kernel
theorem dd_M_mendLists_48 : decode bb_M_mendLists 48 = .ok (.baload, 1) := by decide +kernel
theorem dd_M_mendLists_49 : decode bb_M_mendLists 49 = .ok (.ifCond .eq 18, 3) := by decide +kernel
theorem dd_M_mendLists_52 : decode bb_M_mendLists 52 = .ok (.aload_n 0, 1) := by decide +kernel
theorem dd_M_mendLists_53 : decode bb_M_mendLists 53 = .ok (.iload_n 2, 1) := by decide +kernel
theorem dd_M_mendLists_54 : decode bb_M_mendLists 54 = .ok (.iconst 1, 1) := by decide +kernel
theorem dd_M_mendLists_55 : decode bb_M_mendLists 55 = .ok (.invokevirtual 65, 3) := by decide +kernel
theorem dd_M_mendLists_58 : decode bb_M_mendLists 58 = .ok (.iload_n 1, 1) := by decide +kernel
theorem dd_M_mendLists_59 : decode bb_M_mendLists 59 = .ok (.if_icmp .ne 8, 3) := by decide +kernel
theorem dd_M_mendLists_62 : decode bb_M_mendLists 62 = .ok (.aload_n 0, 1) := by decide +kernel
theorem dd_M_mendLists_63 : decode bb_M_mendLists 63 = .ok (.iload_n 2, 1) := by decide +kernel
theorem dd_M_mendLists_64 : decode bb_M_mendLists 64 = .ok (.invokevirtual 135, 3) := by decide +kernel
theorem dd_M_mendLists_67 : decode bb_M_mendLists 67 = .ok (.iinc 2 1, 3) := by decide +kernel
theorem dd_M_mendLists_70 : decode bb_M_mendLists 70 = .ok (.goto (-33), 3) := by decide +kernel
theorem dd_M_mendLists_73 : decode bb_M_mendLists 73 = .ok (.aload_n 0, 1) := by decide +kernel
theorem dd_M_mendLists_74 : decode bb_M_mendLists 74 = .ok (.getfield 88, 3) := by decide +kernel
theorem dd_M_mendLists_77 : decode bb_M_mendLists 77 = .ok (.aload_n 0, 1) := by decide +kernel
theorem dd_M_mendLists_78 : decode bb_M_mendLists 78 = .ok (.iload_n 1, 1) := by decide +kernel
theorem dd_M_mendLists_79 : decode bb_M_mendLists 79 = .ok (.invokevirtual 108, 3) := by decide +kernel
theorem dd_M_mendLists_82 : decode bb_M_mendLists 82 = .ok (.if_icmp .ne 7, 3) := by decide +kernel
theorem dd_M_mendLists_85 : decode bb_M_mendLists 85 = .ok (.iconst 1, 1) := by decide +kernel
theorem dd_M_mendLists_86 : decode bb_M_mendLists 86 = .ok (.goto 4, 3) := by decide +kernel
theorem dd_M_mendLists_89 : decode bb_M_mendLists 89 = .ok (.iconst 0, 1) := by decide +kernel
theorem dd_M_mendLists_90 : decode bb_M_mendLists 90 = .ok (.istore_n 2, 1) := by decide +kernel
theorem dd_M_mendLists_91 : decode bb_M_mendLists 91 = .ok (.iconst 0, 1) := by decide +kernel
theorem dd_M_mendLists_92 : decode bb_M_mendLists 92 = .ok (.istore_n 3, 1) := by decide +kernel
theorem dd_M_mendLists_93 : decode bb_M_mendLists 93 = .ok (.iload_n 3, 1) := by decide +kernel
theorem dd_M_mendLists_94 : decode bb_M_mendLists 94 = .ok (.aload_n 0, 1) := by decide +kernel
theorem dd_M_mendLists_95 : decode bb_M_mendLists 95 = .ok (.getfield 88, 3) := by decide +kernel
theorem dd_M_mendLists_98 : decode bb_M_mendLists 98 = .ok (.if_icmp .ge 34, 3) := by decide +kernel
theorem dd_M_mendLists_101 : decode bb_M_mendLists 101 = .ok (.iload_n 2, 1) := by decide +kernel
theorem dd_M_mendLists_102 : decode bb_M_mendLists 102 = .ok (.ifCond .eq 30, 3) := by decide +kernel
theorem dd_M_mendLists_105 : decode bb_M_mendLists 105 = .ok (.aload_n 0, 1) := by decide +kernel
theorem dd_M_mendLists_106 : decode bb_M_mendLists 106 = .ok (.iload_n 1, 1) := by decide +kernel
theorem dd_M_mendLists_107 : decode bb_M_mendLists 107 = .ok (.iload_n 3, 1) := by decide +kernel
theorem dd_M_mendLists_108 : decode bb_M_mendLists 108 = .ok (.invokevirtual 111, 3) := by decide +kernel
theorem dd_M_mendLists_111 : decode bb_M_mendLists 111 = .ok (.aload_n 0, 1) := by decide +kernel
theorem dd_M_mendLists_112 : decode bb_M_mendLists 112 = .ok (.getfield 36, 3) := by decide +kernel
theorem dd_M_mendLists_115 : decode bb_M_mendLists 115 = .ok (.iload_n 3, 1) := by decide +kernel
theorem dd_M_mendLists_116 : decode bb_M_mendLists 116 = .ok (.iaload, 1) := by decide +kernel
theorem dd_M_mendLists_117 : decode bb_M_mendLists 117 = .ok (.if_icmp .ne 7, 3) := by decide +kernel
theorem dd_M_mendLists_120 : decode bb_M_mendLists 120 = .ok (.iconst 1, 1) := by decide +kernel
theorem dd_M_mendLists_121 : decode bb_M_mendLists 121 = .ok (.goto 4, 3) := by decide +kernel
theorem dd_M_mendLists_124 : decode bb_M_mendLists 124 = .ok (.iconst 0, 1) := by decide +kernel
theorem dd_M_mendLists_125 : decode bb_M_mendLists 125 = .ok (.istore_n 2, 1) := by decide +kernel
theorem dd_M_mendLists_126 : decode bb_M_mendLists 126 = .ok (.iinc 3 1, 3) := by decide +kernel
theorem dd_M_mendLists_129 : decode bb_M_mendLists 129 = .ok (.goto (-36), 3) := by decide +kernel
theorem dd_M_mendLists_132 : decode bb_M_mendLists 132 = .ok (.iload_n 2, 1) := by decide +kernel
theorem dd_M_mendLists_133 : decode bb_M_mendLists 133 = .ok (.ifCond .eq 6, 3) := by decide +kernel
theorem dd_M_mendLists_136 : decode bb_M_mendLists 136 = .ok (.goto 29, 3) := by decide +kernel
theorem dd_M_mendLists_139 : decode bb_M_mendLists 139 = .ok (.aload_n 0, 1) := by decide +kernel
theorem dd_M_mendLists_140 : decode bb_M_mendLists 140 = .ok (.dup, 1) := by decide +kernel
theorem dd_M_mendLists_141 : decode bb_M_mendLists 141 = .ok (.getfield 193, 3) := by decide +kernel
theorem dd_M_mendLists_144 : decode bb_M_mendLists 144 = .ok (.iconst 1, 1) := by decide +kernel
theorem dd_M_mendLists_145 : decode bb_M_mendLists 145 = .ok (.iadd, 1) := by decide +kernel
theorem dd_M_mendLists_146 : decode bb_M_mendLists 146 = .ok (.putfield 193, 3) := by decide +kernel
theorem dd_M_mendLists_149 : decode bb_M_mendLists 149 = .ok (.aload_n 0, 1) := by decide +kernel
theorem dd_M_mendLists_150 : decode bb_M_mendLists 150 = .ok (.iload_n 1, 1) := by decide +kernel
theorem dd_M_mendLists_151 : decode bb_M_mendLists 151 = .ok (.aload_n 0, 1) := by decide +kernel
theorem dd_M_mendLists_152 : decode bb_M_mendLists 152 = .ok (.iload_n 1, 1) := by decide +kernel
theorem dd_M_mendLists_153 : decode bb_M_mendLists 153 = .ok (.iconst 1, 1) := by decide +kernel
theorem dd_M_mendLists_154 : decode bb_M_mendLists 154 = .ok (.invokevirtual 65, 3) := by decide +kernel
theorem dd_M_mendLists_157 : decode bb_M_mendLists 157 = .ok (.invokevirtual 138, 3) := by decide +kernel
theorem dd_M_mendLists_160 : decode bb_M_mendLists 160 = .ok (.ifCond .ne 5, 3) := by decide +kernel
theorem dd_M_mendLists_163 : decode bb_M_mendLists 163 = .ok (.iconst 0, 1) := by decide +kernel
theorem dd_M_mendLists_164 : decode bb_M_mendLists 164 = .ok (.ireturn, 1) := by decide +kernel
theorem dd_M_mendLists_165 : decode bb_M_mendLists 165 = .ok (.iinc 1 1, 3) := by decide +kernel
theorem dd_M_mendLists_168 : decode bb_M_mendLists 168 = .ok (.goto (-166), 3) := by decide +kernel
theorem dd_M_mendLists_171 : decode bb_M_mendLists 171 = .ok (.iconst 1, 1) := by decide +kernel
theorem dd_M_mendLists_172 : decode bb_M_mendLists 172 = .ok (.ireturn, 1) := by decide +kernel
theorem dd_M_mount_0 : decode bb_M_mount 0 = .ok (.aload_n 0, 1) := by decide +kernel
theorem dd_M_mount_1 : decode bb_M_mount 1 = .ok (.iconst 0, 1) := by decide +kernel
theorem dd_M_mount_2 : decode bb_M_mount 2 = .ok (.putfield 54, 3) := by decide +kernel
theorem dd_M_mount_5 : decode bb_M_mount 5 = .ok (.aload_n 0, 1) := by decide +kernel
theorem dd_M_mount_6 : decode bb_M_mount 6 = .ok (.iconst 0, 1) := by decide +kernel
theorem dd_M_mount_7 : decode bb_M_mount 7 = .ok (.putfield 50, 3) := by decide +kernel
theorem dd_M_mount_10 : decode bb_M_mount 10 = .ok (.aload_n 0, 1) := by decide +kernel
theorem dd_M_mount_11 : decode bb_M_mount 11 = .ok (.iconst 0, 1) := by decide +kernel
theorem dd_M_mount_12 : decode bb_M_mount 12 = .ok (.putfield 193, 3) := by decide +kernel
theorem dd_M_mount_15 : decode bb_M_mount 15 = .ok (.iconst 0, 1) := by decide +kernel
theorem dd_M_mount_16 : decode bb_M_mount 16 = .ok (.istore_n 1, 1) := by decide +kernel
theorem dd_M_mount_17 : decode bb_M_mount 17 = .ok (.iload_n 1, 1) := by decide +kernel
theorem dd_M_mount_18 : decode bb_M_mount 18 = .ok (.bipush 12, 2) := by decide +kernel
theorem dd_M_mount_20 : decode bb_M_mount 20 = .ok (.if_icmp .ge 48, 3) := by decide +kernel
theorem dd_M_mount_23 : decode bb_M_mount 23 = .ok (.aload_n 0, 1) := by decide +kernel
theorem dd_M_mount_24 : decode bb_M_mount 24 = .ok (.getfield 7, 3) := by decide +kernel
theorem dd_M_mount_27 : decode bb_M_mount 27 = .ok (.bipush 64, 2) := by decide +kernel
theorem dd_M_mount_29 : decode bb_M_mount 29 = .ok (.iload_n 1, 1) := by decide +kernel
theorem dd_M_mount_30 : decode bb_M_mount 30 = .ok (.imul, 1) := by decide +kernel
theorem dd_M_mount_31 : decode bb_M_mount 31 = .ok (.iaload, 1) := by decide +kernel
theorem dd_M_mount_32 : decode bb_M_mount 32 = .ok (.istore_n 2, 1) := by decide +kernel
theorem dd_M_mount_33 : decode bb_M_mount 33 = .ok (.aload_n 0, 1) := by decide +kernel
theorem dd_M_mount_34 : decode bb_M_mount 34 = .ok (.getfield 13, 3) := by decide +kernel
theorem dd_M_mount_37 : decode bb_M_mount 37 = .ok (.iload_n 1, 1) := by decide +kernel
theorem dd_M_mount_38 : decode bb_M_mount 38 = .ok (.aload_n 0, 1) := by decide +kernel
theorem dd_M_mount_39 : decode bb_M_mount 39 = .ok (.iload_n 1, 1) := by decide +kernel
theorem dd_M_mount_40 : decode bb_M_mount 40 = .ok (.invokevirtual 199, 3) := by decide +kernel
theorem dd_M_mount_43 : decode bb_M_mount 43 = .ok (.ifCond .ne 17, 3) := by decide +kernel
theorem dd_M_mount_46 : decode bb_M_mount 46 = .ok (.iload_n 2, 1) := by decide +kernel
theorem dd_M_mount_47 : decode bb_M_mount 47 = .ok (.iconst 1, 1) := by decide +kernel
theorem dd_M_mount_48 : decode bb_M_mount 48 = .ok (.if_icmp .eq 8, 3) := by decide +kernel
theorem dd_M_mount_51 : decode bb_M_mount 51 = .ok (.iload_n 2, 1) := by decide +kernel
theorem dd_M_mount_52 : decode bb_M_mount 52 = .ok (.iconst 2, 1) := by decide +kernel
theorem dd_M_mount_53 : decode bb_M_mount 53 = .ok (.if_icmp .ne 7, 3) := by decide +kernel
theorem dd_M_mount_56 : decode bb_M_mount 56 = .ok (.iconst 1, 1) := by decide +kernel
theorem dd_M_mount_57 : decode bb_M_mount 57 = .ok (.goto 4, 3) := by decide +kernel
theorem dd_M_mount_60 : decode bb_M_mount 60 = .ok (.iconst 0, 1) := by decide +kernel
theorem dd_M_mount_61 : decode bb_M_mount 61 = .ok (.bastore, 1) := by decide +kernel
theorem dd_M_mount_62 : decode bb_M_mount 62 = .ok (.iinc 1 1, 3) := by decide +kernel
theorem dd_M_mount_65 : decode bb_M_mount 65 = .ok (.goto (-48), 3) := by decide +kernel
theorem dd_M_mount_68 : decode bb_M_mount 68 = .ok (.aload_n 0, 1) := by decide +kernel
theorem dd_M_mount_69 : decode bb_M_mount 69 = .ok (.invokevirtual 202, 3) := by decide +kernel
theorem dd_M_mount_72 : decode bb_M_mount 72 = .ok (.ifCond .eq 17, 3) := by decide +kernel
theorem dd_M_mount_75 : decode bb_M_mount 75 = .ok (.aload_n 0, 1) := by decide +kernel
theorem dd_M_mount_76 : decode bb_M_mount 76 = .ok (.invokevirtual 206, 3) := by decide +kernel
theorem dd_M_mount_79 : decode bb_M_mount 79 = .ok (.ifCond .eq 10, 3) := by decide +kernel
theorem dd_M_mount_82 : decode bb_M_mount 82 = .ok (.aload_n 0, 1) := by decide +kernel
theorem dd_M_mount_83 : decode bb_M_mount 83 = .ok (.invokevirtual 209, 3) := by decide +kernel
theorem dd_M_mount_86 : decode bb_M_mount 86 = .ok (.ifCond .ne 9, 3) := by decide +kernel
theorem dd_M_mount_89 : decode bb_M_mount 89 = .ok (.aload_n 0, 1) := by decide +kernel
theorem dd_M_mount_90 : decode bb_M_mount 90 = .ok (.iconst 1, 1) := by decide +kernel
theorem dd_M_mount_91 : decode bb_M_mount 91 = .ok (.invokevirtual 117, 3) := by decide +kernel
theorem dd_M_mount_94 : decode bb_M_mount 94 = .ok (.ireturn, 1) := by decide +kernel
theorem dd_M_mount_95 : decode bb_M_mount 95 = .ok (.iconst 0, 1) := by decide +kernel
theorem dd_M_mount_96 : decode bb_M_mount 96 = .ok (.istore_n 1, 1) := by decide +kernel
theorem dd_M_mount_97 : decode bb_M_mount 97 = .ok (.iload_n 1, 1) := by decide +kernel
theorem dd_M_mount_98 : decode bb_M_mount 98 = .ok (.sipush 128, 3) := by decide +kernel
theorem dd_M_mount_101 : decode bb_M_mount 101 = .ok (.if_icmp .ge 16, 3) := by decide +kernel
theorem dd_M_mount_104 : decode bb_M_mount 104 = .ok (.aload_n 0, 1) := by decide +kernel
theorem dd_M_mount_105 : decode bb_M_mount 105 = .ok (.getfield 17, 3) := by decide +kernel
theorem dd_M_mount_108 : decode bb_M_mount 108 = .ok (.iload_n 1, 1) := by decide +kernel
theorem dd_M_mount_109 : decode bb_M_mount 109 = .ok (.iconst 0, 1) := by decide +kernel
theorem dd_M_mount_110 : decode bb_M_mount 110 = .ok (.bastore, 1) := by decide +kernel
theorem dd_M_mount_111 : decode bb_M_mount 111 = .ok (.iinc 1 1, 3) := by decide +kernel
theorem dd_M_mount_114 : decode bb_M_mount 114 = .ok (.goto (-17), 3) := by decide +kernel
theorem dd_M_mount_117 : decode bb_M_mount 117 = .ok (.iconst 0, 1) := by decide +kernel
theorem dd_M_mount_118 : decode bb_M_mount 118 = .ok (.istore_n 1, 1) := by decide +kernel
theorem dd_M_mount_119 : decode bb_M_mount 119 = .ok (.iload_n 1, 1) := by decide +kernel
theorem dd_M_mount_120 : decode bb_M_mount 120 = .ok (.bipush 12, 2) := by decide +kernel
theorem dd_M_mount_122 : decode bb_M_mount 122 = .ok (.if_icmp .ge 73, 3) := by decide +kernel
theorem dd_M_mount_125 : decode bb_M_mount 125 = .ok (.aload_n 0, 1) := by decide +kernel
theorem dd_M_mount_126 : decode bb_M_mount 126 = .ok (.getfield 13, 3) := by decide +kernel
theorem dd_M_mount_129 : decode bb_M_mount 129 = .ok (.iload_n 1, 1) := by decide +kernel
theorem dd_M_mount_130 : decode bb_M_mount 130 = .ok (.baload, 1) := by decide +kernel
theorem dd_M_mount_131 : decode bb_M_mount 131 = .ok (.ifCond .eq 58, 3) := by decide +kernel
theorem dd_M_mount_134 : decode bb_M_mount 134 = .ok (.aload_n 0, 1) := by decide +kernel
theorem dd_M_mount_135 : decode bb_M_mount 135 = .ok (.iload_n 1, 1) := by decide +kernel
theorem dd_M_mount_136 : decode bb_M_mount 136 = .ok (.iconst 0, 1) := by decide +kernel
theorem dd_M_mount_137 : decode bb_M_mount 137 = .ok (.invokevirtual 65, 3) := by decide +kernel
theorem dd_M_mount_140 : decode bb_M_mount 140 = .ok (.iconst 1, 1) := by decide +kernel
theorem dd_M_mount_141 : decode bb_M_mount 141 = .ok (.if_icmp .eq 6, 3) := by decide +kernel
theorem dd_M_mount_144 : decode bb_M_mount 144 = .ok (.goto 45, 3) := by decide +kernel
theorem dd_M_mount_147 : decode bb_M_mount 147 = .ok (.aload_n 0, 1) := by decide +kernel
theorem dd_M_mount_148 : decode bb_M_mount 148 = .ok (.iload_n 1, 1) := by decide +kernel
theorem dd_M_mount_149 : decode bb_M_mount 149 = .ok (.invokevirtual 145, 3) := by decide +kernel
theorem dd_M_mount_152 : decode bb_M_mount 152 = .ok (.iconst 0, 1) := by decide +kernel
theorem dd_M_mount_153 : decode bb_M_mount 153 = .ok (.istore_n 2, 1) := by decide +kernel
theorem dd_M_mount_154 : decode bb_M_mount 154 = .ok (.iload_n 2, 1) := by decide +kernel
theorem dd_M_mount_155 : decode bb_M_mount 155 = .ok (.aload_n 0, 1) := by decide +kernel
theorem dd_M_mount_156 : decode bb_M_mount 156 = .ok (.getfield 91, 3) := by decide +kernel
theorem dd_M_mount_159 : decode bb_M_mount 159 = .ok (.if_icmp .ge 30, 3) := by decide +kernel
theorem dd_M_mount_162 : decode bb_M_mount 162 = .ok (.aload_n 0, 1) := by decide +kernel
theorem dd_M_mount_163 : decode bb_M_mount 163 = .ok (.getfield 27, 3) := by decide +kernel
theorem dd_M_mount_166 : decode bb_M_mount 166 = .ok (.iload_n 2, 1) := by decide +kernel
theorem dd_M_mount_167 : decode bb_M_mount 167 = .ok (.iaload, 1) := by decide +kernel
theorem dd_M_mount_168 : decode bb_M_mount 168 = .ok (.ifCond .lt 15, 3) := by decide +kernel
theorem dd_M_mount_171 : decode bb_M_mount 171 = .ok (.aload_n 0, 1) := by decide +kernel
theorem dd_M_mount_172 : decode bb_M_mount 172 = .ok (.getfield 17, 3) := by decide +kernel
theorem dd_M_mount_175 : decode bb_M_mount 175 = .ok (.aload_n 0, 1) := by decide +kernel
theorem dd_M_mount_176 : decode bb_M_mount 176 = .ok (.getfield 27, 3) := by decide +kernel
theorem dd_M_mount_179 : decode bb_M_mount 179 = .ok (.iload_n 2, 1) := by decide +kernel
theorem dd_M_mount_180 : decode bb_M_mount 180 = .ok (.iaload, 1) := by decide +kernel
theorem dd_M_mount_181 : decode bb_M_mount 181 = .ok (.iconst 1, 1) := by decide +kernel
theorem dd_M_mount_182 : decode bb_M_mount 182 = .ok (.bastore, 1) := by decide +kernel
theorem dd_M_mount_183 : decode bb_M_mount 183 = .ok (.iinc 2 1, 3) := by decide +kernel
theorem dd_M_mount_186 : decode bb_M_mount 186 = .ok (.goto (-32), 3) := by decide +kernel
theorem dd_M_mount_189 : decode bb_M_mount 189 = .ok (.iinc 1 1, 3) := by decide +kernel
theorem dd_M_mount_192 : decode bb_M_mount 192 = .ok (.goto (-73), 3) := by decide +kernel
theorem dd_M_mount_195 : decode bb_M_mount 195 = .ok (.aload_n 0, 1) := by decide +kernel
theorem dd_M_mount_196 : decode bb_M_mount 196 = .ok (.iconst 1, 1) := by decide +kernel
theorem dd_M_mount_197 : decode bb_M_mount 197 = .ok (.putfield 50, 3) := by decide +kernel
theorem dd_M_mount_200 : decode bb_M_mount 200 = .ok (.aload_n 0, 1) := by decide +kernel
theorem dd_M_mount_201 : decode bb_M_mount 201 = .ok (.getfield 193, 3) := by decide +kernel
theorem dd_M_mount_204 : decode bb_M_mount 204 = .ok (.ireturn, 1) := by decide +kernel
theorem dd_M_on_0 : decode bb_M_on 0 = .ok (.aload_n 0, 1) := by decide +kernel
theorem dd_M_on_1 : decode bb_M_on 1 = .ok (.iconst 0, 1) := by decide +kernel
theorem dd_M_on_2 : decode bb_M_on 2 = .ok (.putfield 54, 3) := by decide +kernel
theorem dd_M_on_5 : decode bb_M_on 5 = .ok (.aload_n 0, 1) := by decide +kernel
theorem dd_M_on_6 : decode bb_M_on 6 = .ok (.getfield 50, 3) := by decide +kernel
theorem dd_M_on_9 : decode bb_M_on 9 = .ok (.ireturn, 1) := by decide +kernel
theorem dd_M_find_0 : decode bb_M_find 0 = .ok (.aload_n 0, 1) := by decide +kernel
theorem dd_M_find_1 : decode bb_M_find 1 = .ok (.iconst 0, 1) := by decide +kernel
theorem dd_M_find_2 : decode bb_M_find 2 = .ok (.putfield 54, 3) := by decide +kernel
theorem dd_M_find_5 : decode bb_M_find 5 = .ok (.aload_n 0, 1) := by decide +kernel
theorem dd_M_find_6 : decode bb_M_find 6 = .ok (.iload_n 1, 1) := by decide +kernel
theorem dd_M_find_7 : decode bb_M_find 7 = .ok (.iconst 2, 1) := by decide +kernel
theorem dd_M_find_8 : decode bb_M_find 8 = .ok (.invokevirtual 120, 3) := by decide +kernel
theorem dd_M_find_11 : decode bb_M_find 11 = .ok (.ifCond .eq 18, 3) := by decide +kernel
theorem dd_M_find_14 : decode bb_M_find 14 = .ok (.aload_n 0, 1) := by decide +kernel
theorem dd_M_find_15 : decode bb_M_find 15 = .ok (.getfield 78, 3) := by decide +kernel
theorem dd_M_find_18 : decode bb_M_find 18 = .ok (.ifCond .le 11, 3) := by decide +kernel
theorem dd_M_find_21 : decode bb_M_find 21 = .ok (.aload_n 0, 1) := by decide +kernel
theorem dd_M_find_22 : decode bb_M_find 22 = .ok (.iload_n 1, 1) := by decide +kernel
theorem dd_M_find_23 : decode bb_M_find 23 = .ok (.invokevirtual 123, 3) := by decide +kernel
theorem dd_M_find_26 : decode bb_M_find 26 = .ok (.goto 4, 3) := by decide +kernel
theorem dd_M_find_29 : decode bb_M_find 29 = .ok (.iconst (-1), 1) := by decide +kernel
theorem dd_M_find_30 : decode bb_M_find 30 = .ok (.istore_n 2, 1) := by decide +kernel
theorem dd_M_find_31 : decode bb_M_find 31 = .ok (.aload_n 0, 1) := by decide +kernel
theorem dd_M_find_32 : decode bb_M_find 32 = .ok (.iconst 0, 1) := by decide +kernel
theorem dd_M_find_33 : decode bb_M_find 33 = .ok (.putfield 78, 3) := by decide +kernel
theorem dd_M_find_36 : decode bb_M_find 36 = .ok (.iload_n 2, 1) := by decide +kernel
theorem dd_M_find_37 : decode bb_M_find 37 = .ok (.ireturn, 1) := by decide +kernel
theorem dd_M_runsOf_0 : decode bb_M_runsOf 0 = .ok (.aload_n 0, 1) := by decide +kernel
theorem dd_M_runsOf_1 : decode bb_M_runsOf 1 = .ok (.iload_n 1, 1) := by decide +kernel
theorem dd_M_runsOf_2 : decode bb_M_runsOf 2 = .ok (.iconst 3, 1) := by decide +kernel
theorem dd_M_runsOf_3 : decode bb_M_runsOf 3 = .ok (.invokevirtual 69, 3) := by decide +kernel
theorem dd_M_runsOf_6 : decode bb_M_runsOf 6 = .ok (.istore_n 2, 1) := by decide +kernel
theorem dd_M_runsOf_7 : decode bb_M_runsOf 7 = .ok (.iload_n 2, 1) := by decide +kernel
theorem dd_M_runsOf_8 : decode bb_M_runsOf 8 = .ok (.ifCond .ge 5, 3) := by decide +kernel
theorem dd_M_runsOf_11 : decode bb_M_runsOf 11 = .ok (.iconst 0, 1) := by decide +kernel
theorem dd_M_runsOf_12 : decode bb_M_runsOf 12 = .ok (.ireturn, 1) := by decide +kernel
theorem dd_M_runsOf_13 : decode bb_M_runsOf 13 = .ok (.iconst 0, 1) := by decide +kernel
theorem dd_M_runsOf_14 : decode bb_M_runsOf 14 = .ok (.istore_n 3, 1) := by decide +kernel
theorem dd_M_runsOf_15 : decode bb_M_runsOf 15 = .ok (.iinc 2 4, 3) := by decide +kernel
theorem dd_M_runsOf_18 : decode bb_M_runsOf 18 = .ok (.aload_n 0, 1) := by decide +kernel
theorem dd_M_runsOf_19 : decode bb_M_runsOf 19 = .ok (.iload_n 1, 1) := by decide +kernel
theorem dd_M_runsOf_20 : decode bb_M_runsOf 20 = .ok (.iload_n 2, 1) := by decide +kernel
theorem dd_M_runsOf_21 : decode bb_M_runsOf 21 = .ok (.invokevirtual 65, 3) := by decide +kernel
theorem dd_M_runsOf_24 : decode bb_M_runsOf 24 = .ok (.ifCond .eq 27, 3) := by decide +kernel
theorem dd_M_runsOf_27 : decode bb_M_runsOf 27 = .ok (.iload_n 2, 1) := by decide +kernel
theorem dd_M_runsOf_28 : decode bb_M_runsOf 28 = .ok (.aload_n 0, 1) := by decide +kernel
theorem dd_M_runsOf_29 : decode bb_M_runsOf 29 = .ok (.iload_n 1, 1) := by decide +kernel
theorem dd_M_runsOf_30 : decode bb_M_runsOf 30 = .ok (.iload_n 2, 1) := by decide +kernel
theorem dd_M_runsOf_31 : decode bb_M_runsOf 31 = .ok (.invokevirtual 65, 3) := by decide +kernel
theorem dd_M_runsOf_34 : decode bb_M_runsOf 34 = .ok (.iconst 1, 1) := by decide +kernel
theorem dd_M_runsOf_35 : decode bb_M_runsOf 35 = .ok (.if_icmp .ne 7, 3) := by decide +kernel
theorem dd_M_runsOf_38 : decode bb_M_runsOf 38 = .ok (.iconst 2, 1) := by decide +kernel
theorem dd_M_runsOf_39 : decode bb_M_runsOf 39 = .ok (.goto 4, 3) := by decide +kernel
theorem dd_M_runsOf_42 : decode bb_M_runsOf 42 = .ok (.iconst 3, 1) := by decide +kernel
theorem dd_M_runsOf_43 : decode bb_M_runsOf 43 = .ok (.iadd, 1) := by decide +kernel
theorem dd_M_runsOf_44 : decode bb_M_runsOf 44 = .ok (.istore_n 2, 1) := by decide +kernel
theorem dd_M_runsOf_45 : decode bb_M_runsOf 45 = .ok (.iinc 3 1, 3) := by decide +kernel
theorem dd_M_runsOf_48 : decode bb_M_runsOf 48 = .ok (.goto (-30), 3) := by decide +kernel
theorem dd_M_runsOf_51 : decode bb_M_runsOf 51 = .ok (.iload_n 3, 1) := by decide +kernel
theorem dd_M_runsOf_52 : decode bb_M_runsOf 52 = .ok (.ireturn, 1) := by decide +kernel
theorem dd_M_record_0 : decode bb_M_record 0 = .ok (.aload_n 0, 1) := by decide +kernel
theorem dd_M_record_1 : decode bb_M_record 1 = .ok (.iconst 0, 1) := by decide +kernel
theorem dd_M_record_2 : decode bb_M_record 2 = .ok (.putfield 54, 3) := by decide +kernel
theorem dd_M_record_5 : decode bb_M_record 5 = .ok (.aload_n 0, 1) := by decide +kernel
theorem dd_M_record_6 : decode bb_M_record 6 = .ok (.iload_n 1, 1) := by decide +kernel
theorem dd_M_record_7 : decode bb_M_record 7 = .ok (.invokevirtual 62, 3) := by decide +kernel
theorem dd_M_record_10 : decode bb_M_record 10 = .ok (.ifCond .ne 5, 3) := by decide +kernel
theorem dd_M_record_13 : decode bb_M_record 13 = .ok (.iconst (-1), 1) := by decide +kernel
theorem dd_M_record_14 : decode bb_M_record 14 = .ok (.ireturn, 1) := by decide +kernel
theorem dd_M_record_15 : decode bb_M_record 15 = .ok (.aload_n 0, 1) := by decide +kernel
theorem dd_M_record_16 : decode bb_M_record 16 = .ok (.iload_n 1, 1) := by decide +kernel
theorem dd_M_record_17 : decode bb_M_record 17 = .ok (.iconst 0, 1) := by decide +kernel
theorem dd_M_record_18 : decode bb_M_record 18 = .ok (.invokevirtual 65, 3) := by decide +kernel
theorem dd_M_record_21 : decode bb_M_record 21 = .ok (.iconst 1, 1) := by decide +kernel
theorem dd_M_record_22 : decode bb_M_record 22 = .ok (.if_icmp .ne 7, 3) := by decide +kernel
theorem dd_M_record_25 : decode bb_M_record 25 = .ok (.iconst 1, 1) := by decide +kernel
theorem dd_M_record_26 : decode bb_M_record 26 = .ok (.goto 4, 3) := by decide +kernel
theorem dd_M_record_29 : decode bb_M_record 29 = .ok (.iconst 0, 1) := by decide +kernel
theorem dd_M_record_30 : decode bb_M_record 30 = .ok (.istore_n 3, 1) := by decide +kernel
theorem dd_M_record_31 : decode bb_M_record 31 = .ok (.iload_n 2, 1) := by decide +kernel
theorem dd_M_record_32 : decode bb_M_record 32 = .ok (.tableswitch 131 0 6 #[44, 51, 58, 69, 77, 95, 117], 44) := by decide +kernel
theorem dd_M_record_76 : decode bb_M_record 76 = .ok (.aload_n 0, 1) := by decide +kernel
theorem dd_M_record_77 : decode bb_M_record 77 = .ok (.iload_n 1, 1) := by decide +kernel
theorem dd_M_record_78 : decode bb_M_record 78 = .ok (.iconst 0, 1) := by decide +kernel
theorem dd_M_record_79 : decode bb_M_record 79 = .ok (.invokevirtual 65, 3) := by decide +kernel
theorem dd_M_record_82 : decode bb_M_record 82 = .ok (.ireturn, 1) := by decide +kernel
theorem dd_M_record_83 : decode bb_M_record 83 = .ok (.aload_n 0, 1) := by decide +kernel
theorem dd_M_record_84 : decode bb_M_record 84 = .ok (.iload_n 1, 1) := by decide +kernel
theorem dd_M_record_85 : decode bb_M_record 85 = .ok (.iconst 1, 1) := by decide +kernel
theorem dd_M_record_86 : decode bb_M_record 86 = .ok (.invokevirtual 65, 3) := by decide +kernel
theorem dd_M_record_89 : decode bb_M_record 89 = .ok (.ireturn, 1) := by decide +kernel
theorem dd_M_record_90 : decode bb_M_record 90 = .ok (.aload_n 0, 1) := by decide +kernel
theorem dd_M_record_91 : decode bb_M_record 91 = .ok (.bipush 64, 2) := by decide +kernel
theorem dd_M_record_93 : decode bb_M_record 93 = .ok (.iload_n 1, 1) := by decide +kernel
theorem dd_M_record_94 : decode bb_M_record 94 = .ok (.imul, 1) := by decide +kernel
theorem dd_M_record_95 : decode bb_M_record 95 = .ok (.iconst 2, 1) := by decide +kernel
theorem dd_M_record_96 : decode bb_M_record 96 = .ok (.iadd, 1) := by decide +kernel
theorem dd_M_record_97 : decode bb_M_record 97 = .ok (.invokevirtual 58, 3) := by decide +kernel
theorem dd_M_record_100 : decode bb_M_record 100 = .ok (.ireturn, 1) := by decide +kernel
theorem dd_M_record_101 : decode bb_M_record 101 = .ok (.aload_n 0, 1) := by decide +kernel
theorem dd_M_record_102 : decode bb_M_record 102 = .ok (.iload_n 1, 1) := by decide +kernel
theorem dd_M_record_103 : decode bb_M_record 103 = .ok (.bipush 8, 2) := by decide +kernel
theorem dd_M_record_105 : decode bb_M_record 105 = .ok (.invokevirtual 65, 3) := by decide +kernel
theorem dd_M_record_108 : decode bb_M_record 108 = .ok (.ireturn, 1) := by decide +kernel
theorem dd_M_record_109 : decode bb_M_record 109 = .ok (.iload_n 3, 1) := by decide +kernel
theorem dd_M_record_110 : decode bb_M_record 110 = .ok (.ifCond .eq 11, 3) := by decide +kernel
theorem dd_M_record_113 : decode bb_M_record 113 = .ok (.aload_n 0, 1) := by decide +kernel
theorem dd_M_record_114 : decode bb_M_record 114 = .ok (.iload_n 1, 1) := by decide +kernel
theorem dd_M_record_115 : decode bb_M_record 115 = .ok (.invokevirtual 168, 3) := by decide +kernel
theorem dd_M_record_118 : decode bb_M_record 118 = .ok (.goto 8, 3) := by decide +kernel
theorem dd_M_record_121 : decode bb_M_record 121 = .ok (.aload_n 0, 1) := by decide +kernel
theorem dd_M_record_122 : decode bb_M_record 122 = .ok (.iload_n 1, 1) := by decide +kernel
theorem dd_M_record_123 : decode bb_M_record 123 = .ok (.invokevirtual 108, 3) := by decide +kernel
theorem dd_M_record_126 : decode bb_M_record 126 = .ok (.ireturn, 1) := by decide +kernel
theorem dd_M_record_127 : decode bb_M_record 127 = .ok (.iload_n 3, 1) := by decide +kernel
theorem dd_M_record_128 : decode bb_M_record 128 = .ok (.ifCond .ne 7, 3) := by decide +kernel
theorem dd_M_record_131 : decode bb_M_record 131 = .ok (.iconst 4, 1) := by decide +kernel
theorem dd_M_record_132 : decode bb_M_record 132 = .ok (.goto 16, 3) := by decide +kernel
theorem dd_M_record_135 : decode bb_M_record 135 = .ok (.aload_n 0, 1) := by decide +kernel
theorem dd_M_record_136 : decode bb_M_record 136 = .ok (.iload_n 1, 1) := by decide +kernel
theorem dd_M_record_137 : decode bb_M_record 137 = .ok (.invokevirtual 171, 3) := by decide +kernel
theorem dd_M_record_140 : decode bb_M_record 140 = .ok (.ifCond .eq 7, 3) := by decide +kernel
theorem dd_M_record_143 : decode bb_M_record 143 = .ok (.iconst 2, 1) := by decide +kernel
theorem dd_M_record_144 : decode bb_M_record 144 = .ok (.goto 4, 3) := by decide +kernel
theorem dd_M_record_147 : decode bb_M_record 147 = .ok (.iconst 3, 1) := by decide +kernel
theorem dd_M_record_148 : decode bb_M_record 148 = .ok (.ireturn, 1) := by decide +kernel
theorem dd_M_record_149 : decode bb_M_record 149 = .ok (.iload_n 3, 1) := by decide +kernel
theorem dd_M_record_150 : decode bb_M_record 150 = .ok (.ifCond .eq 11, 3) := by decide +kernel
theorem dd_M_record_153 : decode bb_M_record 153 = .ok (.aload_n 0, 1) := by decide +kernel
theorem dd_M_record_154 : decode bb_M_record 154 = .ok (.iload_n 1, 1) := by decide +kernel
theorem dd_M_record_155 : decode bb_M_record 155 = .ok (.invokevirtual 212, 3) := by decide +kernel
theorem dd_M_record_158 : decode bb_M_record 158 = .ok (.goto 4, 3) := by decide +kernel
theorem dd_M_record_161 : decode bb_M_record 161 = .ok (.iconst 0, 1) := by decide +kernel
theorem dd_M_record_162 : decode bb_M_record 162 = .ok (.ireturn, 1) := by decide +kernel
theorem dd_M_record_163 : decode bb_M_record 163 = .ok (.iconst (-1), 1) := by decide +kernel
theorem dd_M_record_164 : decode bb_M_record 164 = .ok (.ireturn, 1) := by decide +kernel
theorem dd_M_read_0 : decode bb_M_read 0 = .ok (.aload_n 0, 1) := by decide +kernel
theorem dd_M_read_1 : decode bb_M_read 1 = .ok (.iconst 0, 1) := by decide +kernel
theorem dd_M_read_2 : decode bb_M_read 2 = .ok (.putfield 54, 3) := by decide +kernel
theorem dd_M_read_5 : decode bb_M_read 5 = .ok (.aload_n 0, 1) := by decide +kernel
theorem dd_M_read_6 : decode bb_M_read 6 = .ok (.iload_n 1, 1) := by decide +kernel
theorem dd_M_read_7 : decode bb_M_read 7 = .ok (.invokevirtual 62, 3) := by decide +kernel
theorem dd_M_read_10 : decode bb_M_read 10 = .ok (.ifCond .eq 7, 3) := by decide +kernel
theorem dd_M_read_13 : decode bb_M_read 13 = .ok (.iload_n 2, 1) := by decide +kernel
theorem dd_M_read_14 : decode bb_M_read 14 = .ok (.ifCond .ge 5, 3) := by decide +kernel
theorem dd_M_read_17 : decode bb_M_read 17 = .ok (.iconst (-1), 1) := by decide +kernel
theorem dd_M_read_18 : decode bb_M_read 18 = .ok (.ireturn, 1) := by decide +kernel
theorem dd_M_read_19 : decode bb_M_read 19 = .ok (.aload_n 0, 1) := by decide +kernel
theorem dd_M_read_20 : decode bb_M_read 20 = .ok (.iload_n 1, 1) := by decide +kernel
theorem dd_M_read_21 : decode bb_M_read 21 = .ok (.iconst 0, 1) := by decide +kernel
theorem dd_M_read_22 : decode bb_M_read 22 = .ok (.invokevirtual 65, 3) := by decide +kernel
theorem dd_M_read_25 : decode bb_M_read 25 = .ok (.iconst 2, 1) := by decide +kernel
theorem dd_M_read_26 : decode bb_M_read 26 = .ok (.if_icmp .ne 23, 3) := by decide +kernel
theorem dd_M_read_29 : decode bb_M_read 29 = .ok (.iload_n 2, 1) := by decide +kernel
theorem dd_M_read_30 : decode bb_M_read 30 = .ok (.aload_n 0, 1) := by decide +kernel
theorem dd_M_read_31 : decode bb_M_read 31 = .ok (.iload_n 1, 1) := by decide +kernel
theorem dd_M_read_32 : decode bb_M_read 32 = .ok (.invokevirtual 108, 3) := by decide +kernel
theorem dd_M_read_35 : decode bb_M_read 35 = .ok (.if_icmp .ge 12, 3) := by decide +kernel
theorem dd_M_read_38 : decode bb_M_read 38 = .ok (.aload_n 0, 1) := by decide +kernel
theorem dd_M_read_39 : decode bb_M_read 39 = .ok (.iload_n 1, 1) := by decide +kernel
theorem dd_M_read_40 : decode bb_M_read 40 = .ok (.iload_n 2, 1) := by decide +kernel
theorem dd_M_read_41 : decode bb_M_read 41 = .ok (.invokevirtual 111, 3) := by decide +kernel
theorem dd_M_read_44 : decode bb_M_read 44 = .ok (.goto 4, 3) := by decide +kernel
theorem dd_M_read_47 : decode bb_M_read 47 = .ok (.iconst (-1), 1) := by decide +kernel
theorem dd_M_read_48 : decode bb_M_read 48 = .ok (.ireturn, 1) := by decide +kernel
theorem dd_M_read_49 : decode bb_M_read 49 = .ok (.iload_n 2, 1) := by decide +kernel
theorem dd_M_read_50 : decode bb_M_read 50 = .ok (.aload_n 0, 1) := by decide +kernel
theorem dd_M_read_51 : decode bb_M_read 51 = .ok (.iload_n 1, 1) := by decide +kernel
theorem dd_M_read_52 : decode bb_M_read 52 = .ok (.invokevirtual 168, 3) := by decide +kernel
theorem dd_M_read_55 : decode bb_M_read 55 = .ok (.if_icmp .lt 5, 3) := by decide +kernel
theorem dd_M_read_58 : decode bb_M_read 58 = .ok (.iconst (-1), 1) := by decide +kernel
theorem dd_M_read_59 : decode bb_M_read 59 = .ok (.ireturn, 1) := by decide +kernel
theorem dd_M_read_60 : decode bb_M_read 60 = .ok (.aload_n 0, 1) := by decide +kernel
theorem dd_M_read_61 : decode bb_M_read 61 = .ok (.iload_n 1, 1) := by decide +kernel
theorem dd_M_read_62 : decode bb_M_read 62 = .ok (.invokevirtual 171, 3) := by decide +kernel
theorem dd_M_read_65 : decode bb_M_read 65 = .ok (.ifCond .eq 19, 3) := by decide +kernel
theorem dd_M_read_68 : decode bb_M_read 68 = .ok (.aload_n 0, 1) := by decide +kernel
theorem dd_M_read_69 : decode bb_M_read 69 = .ok (.iload_n 1, 1) := by decide +kernel
theorem dd_M_read_70 : decode bb_M_read 70 = .ok (.aload_n 0, 1) := by decide +kernel
theorem dd_M_read_71 : decode bb_M_read 71 = .ok (.iload_n 1, 1) := by decide +kernel
theorem dd_M_read_72 : decode bb_M_read 72 = .ok (.iconst 2, 1) := by decide +kernel
theorem dd_M_read_73 : decode bb_M_read 73 = .ok (.invokevirtual 69, 3) := by decide +kernel
theorem dd_M_read_76 : decode bb_M_read 76 = .ok (.iconst 2, 1) := by decide +kernel
theorem dd_M_read_77 : decode bb_M_read 77 = .ok (.iadd, 1) := by decide +kernel
theorem dd_M_read_78 : decode bb_M_read 78 = .ok (.iload_n 2, 1) := by decide +kernel
theorem dd_M_read_79 : decode bb_M_read 79 = .ok (.iadd, 1) := by decide +kernel
theorem dd_M_read_80 : decode bb_M_read 80 = .ok (.invokevirtual 65, 3) := by decide +kernel
theorem dd_M_read_83 : decode bb_M_read 83 = .ok (.ireturn, 1) := by decide +kernel
theorem dd_M_read_84 : decode bb_M_read 84 = .ok (.aload_n 0, 1) := by decide +kernel
theorem dd_M_read_85 : decode bb_M_read 85 = .ok (.iload_n 1, 1) := by decide +kernel
theorem dd_M_read_86 : decode bb_M_read 86 = .ok (.invokevirtual 145, 3) := by decide +kernel
theorem dd_M_read_89 : decode bb_M_read 89 = .ok (.aload_n 0, 1) := by decide +kernel
theorem dd_M_read_90 : decode bb_M_read 90 = .ok (.getfield 27, 3) := by decide +kernel
theorem dd_M_read_93 : decode bb_M_read 93 = .ok (.iload_n 2, 1) := by decide +kernel
theorem dd_M_read_94 : decode bb_M_read 94 = .ok (.bipush 16, 2) := by decide +kernel
theorem dd_M_read_96 : decode bb_M_read 96 = .ok (.idiv, 1) := by decide +kernel
theorem dd_M_read_97 : decode bb_M_read 97 = .ok (.iaload, 1) := by decide +kernel
theorem dd_M_read_98 : decode bb_M_read 98 = .ok (.ifCond .ge 7, 3) := by decide +kernel
theorem dd_M_read_101 : decode bb_M_read 101 = .ok (.iconst 0, 1) := by decide +kernel
theorem dd_M_read_102 : decode bb_M_read 102 = .ok (.goto 25, 3) := by decide +kernel
theorem dd_M_read_105 : decode bb_M_read 105 = .ok (.aload_n 0, 1) := by decide +kernel
theorem dd_M_read_106 : decode bb_M_read 106 = .ok (.getfield 7, 3) := by decide +kernel
theorem dd_M_read_109 : decode bb_M_read 109 = .ok (.bipush 16, 2) := by decide +kernel
theorem dd_M_read_111 : decode bb_M_read 111 = .ok (.aload_n 0, 1) := by decide +kernel
theorem dd_M_read_112 : decode bb_M_read 112 = .ok (.getfield 27, 3) := by decide +kernel
theorem dd_M_read_115 : decode bb_M_read 115 = .ok (.iload_n 2, 1) := by decide +kernel
theorem dd_M_read_116 : decode bb_M_read 116 = .ok (.bipush 16, 2) := by decide +kernel
theorem dd_M_read_118 : decode bb_M_read 118 = .ok (.idiv, 1) := by decide +kernel
theorem dd_M_read_119 : decode bb_M_read 119 = .ok (.iaload, 1) := by decide +kernel
theorem dd_M_read_120 : decode bb_M_read 120 = .ok (.imul, 1) := by decide +kernel
theorem dd_M_read_121 : decode bb_M_read 121 = .ok (.iload_n 2, 1) := by decide +kernel
theorem dd_M_read_122 : decode bb_M_read 122 = .ok (.bipush 16, 2) := by decide +kernel
theorem dd_M_read_124 : decode bb_M_read 124 = .ok (.irem, 1) := by decide +kernel
theorem dd_M_read_125 : decode bb_M_read 125 = .ok (.iadd, 1) := by decide +kernel
theorem dd_M_read_126 : decode bb_M_read 126 = .ok (.iaload, 1) := by decide +kernel
theorem dd_M_read_127 : decode bb_M_read 127 = .ok (.ireturn, 1) := by decide +kernel
theorem dd_M_run_0 : decode bb_M_run 0 = .ok (.aload_n 0, 1) := by decide +kernel
theorem dd_M_run_1 : decode bb_M_run 1 = .ok (.iconst 0, 1) := by decide +kernel
theorem dd_M_run_2 : decode bb_M_run 2 = .ok (.putfield 54, 3) := by decide +kernel
theorem dd_M_run_5 : decode bb_M_run 5 = .ok (.aload_n 0, 1) := by decide +kernel
theorem dd_M_run_6 : decode bb_M_run 6 = .ok (.iload_n 1, 1) := by decide +kernel
theorem dd_M_run_7 : decode bb_M_run 7 = .ok (.iconst 1, 1) := by decide +kernel
theorem dd_M_run_8 : decode bb_M_run 8 = .ok (.invokevirtual 120, 3) := by decide +kernel
theorem dd_M_run_11 : decode bb_M_run 11 = .ok (.ifCond .eq 16, 3) := by decide +kernel
theorem dd_M_run_14 : decode bb_M_run 14 = .ok (.iload_n 2, 1) := by decide +kernel
theorem dd_M_run_15 : decode bb_M_run 15 = .ok (.ifCond .lt 12, 3) := by decide +kernel
theorem dd_M_run_18 : decode bb_M_run 18 = .ok (.iload_n 3, 1) := by decide +kernel
theorem dd_M_run_19 : decode bb_M_run 19 = .ok (.ifCond .lt 8, 3) := by decide +kernel
theorem dd_M_run_22 : decode bb_M_run 22 = .ok (.iload_n 3, 1) := by decide +kernel
theorem dd_M_run_23 : decode bb_M_run 23 = .ok (.iconst 1, 1) := by decide +kernel
theorem dd_M_run_24 : decode bb_M_run 24 = .ok (.if_icmp .le 5, 3) := by decide +kernel
theorem dd_M_run_27 : decode bb_M_run 27 = .ok (.iconst (-1), 1) := by decide +kernel
theorem dd_M_run_28 : decode bb_M_run 28 = .ok (.ireturn, 1) := by decide +kernel
theorem dd_M_run_29 : decode bb_M_run 29 = .ok (.iload_n 2, 1) := by decide +kernel
theorem dd_M_run_30 : decode bb_M_run 30 = .ok (.aload_n 0, 1) := by decide +kernel
theorem dd_M_run_31 : decode bb_M_run 31 = .ok (.iload_n 1, 1) := by decide +kernel
theorem dd_M_run_32 : decode bb_M_run 32 = .ok (.invokevirtual 212, 3) := by decide +kernel
theorem dd_M_run_35 : decode bb_M_run 35 = .ok (.if_icmp .lt 5, 3) := by decide +kernel
theorem dd_M_run_38 : decode bb_M_run 38 = .ok (.iconst (-1), 1) := by decide +kernel
theorem dd_M_run_39 : decode bb_M_run 39 = .ok (.ireturn, 1) := by decide +kernel
theorem dd_M_run_40 : decode bb_M_run 40 = .ok (.aload_n 0, 1) := by decide +kernel
theorem dd_M_run_41 : decode bb_M_run 41 = .ok (.iload_n 1, 1) := by decide +kernel
theorem dd_M_run_42 : decode bb_M_run 42 = .ok (.iconst 3, 1) := by decide +kernel
theorem dd_M_run_43 : decode bb_M_run 43 = .ok (.invokevirtual 69, 3) := by decide +kernel
theorem dd_M_run_46 : decode bb_M_run 46 = .ok (.iconst 4, 1) := by decide +kernel
theorem dd_M_run_47 : decode bb_M_run 47 = .ok (.iadd, 1) := by decide +kernel
theorem dd_M_run_48 : decode bb_M_run 48 = .ok (.istore 4, 2) := by decide +kernel
theorem dd_M_run_50 : decode bb_M_run 50 = .ok (.bipush 48, 2) := by decide +kernel
theorem dd_M_run_52 : decode bb_M_run 52 = .ok (.istore 5, 2) := by decide +kernel
theorem dd_M_run_54 : decode bb_M_run 54 = .ok (.iconst 0, 1) := by decide +kernel
theorem dd_M_run_55 : decode bb_M_run 55 = .ok (.istore 6, 2) := by decide +kernel
theorem dd_M_run_57 : decode bb_M_run 57 = .ok (.aload_n 0, 1) := by decide +kernel
theorem dd_M_run_58 : decode bb_M_run 58 = .ok (.iload_n 1, 1) := by decide +kernel
theorem dd_M_run_59 : decode bb_M_run 59 = .ok (.iload 4, 2) := by decide +kernel
theorem dd_M_run_61 : decode bb_M_run 61 = .ok (.invokevirtual 65, 3) := by decide +kernel
theorem dd_M_run_64 : decode bb_M_run 64 = .ok (.iconst 1, 1) := by decide +kernel
theorem dd_M_run_65 : decode bb_M_run 65 = .ok (.if_icmp .ne 7, 3) := by decide +kernel
theorem dd_M_run_68 : decode bb_M_run 68 = .ok (.iconst 1, 1) := by decide +kernel
theorem dd_M_run_69 : decode bb_M_run 69 = .ok (.goto 4, 3) := by decide +kernel
theorem dd_M_run_72 : decode bb_M_run 72 = .ok (.iconst 0, 1) := by decide +kernel
theorem dd_M_run_73 : decode bb_M_run 73 = .ok (.istore 7, 2) := by decide +kernel
theorem dd_M_run_75 : decode bb_M_run 75 = .ok (.iload 7, 2) := by decide +kernel
theorem dd_M_run_77 : decode bb_M_run 77 = .ok (.ifCond .ne 21, 3) := by decide +kernel
theorem dd_M_run_80 : decode bb_M_run 80 = .ok (.iload 5, 2) := by decide +kernel
theorem dd_M_run_82 : decode bb_M_run 82 = .ok (.aload_n 0, 1) := by decide +kernel
theorem dd_M_run_83 : decode bb_M_run 83 = .ok (.iload_n 1, 1) := by decide +kernel
theorem dd_M_run_84 : decode bb_M_run 84 = .ok (.iload 4, 2) := by decide +kernel
theorem dd_M_run_86 : decode bb_M_run 86 = .ok (.iconst 2, 1) := by decide +kernel
theorem dd_M_run_87 : decode bb_M_run 87 = .ok (.iadd, 1) := by decide +kernel
theorem dd_M_run_88 : decode bb_M_run 88 = .ok (.invokevirtual 65, 3) := by decide +kernel
theorem dd_M_run_91 : decode bb_M_run 91 = .ok (.iadd, 1) := by decide +kernel
theorem dd_M_run_92 : decode bb_M_run 92 = .ok (.sipush 255, 3) := by decide +kernel
theorem dd_M_run_95 : decode bb_M_run 95 = .ok (.iand, 1) := by decide +kernel
theorem dd_M_run_96 : decode bb_M_run 96 = .ok (.istore 5, 2) := by decide +kernel
theorem dd_M_run_98 : decode bb_M_run 98 = .ok (.iload 6, 2) := by decide +kernel
theorem dd_M_run_100 : decode bb_M_run 100 = .ok (.iload_n 2, 1) := by decide +kernel
theorem dd_M_run_101 : decode bb_M_run 101 = .ok (.if_icmp .ne 31, 3) := by decide +kernel
theorem dd_M_run_104 : decode bb_M_run 104 = .ok (.iload_n 3, 1) := by decide +kernel
theorem dd_M_run_105 : decode bb_M_run 105 = .ok (.ifCond .ne 15, 3) := by decide +kernel
theorem dd_M_run_108 : decode bb_M_run 108 = .ok (.aload_n 0, 1) := by decide +kernel
theorem dd_M_run_109 : decode bb_M_run 109 = .ok (.iload_n 1, 1) := by decide +kernel
theorem dd_M_run_110 : decode bb_M_run 110 = .ok (.iload 4, 2) := by decide +kernel
theorem dd_M_run_112 : decode bb_M_run 112 = .ok (.iconst 1, 1) := by decide +kernel
theorem dd_M_run_113 : decode bb_M_run 113 = .ok (.iadd, 1) := by decide +kernel
theorem dd_M_run_114 : decode bb_M_run 114 = .ok (.invokevirtual 65, 3) := by decide +kernel
theorem dd_M_run_117 : decode bb_M_run 117 = .ok (.goto 14, 3) := by decide +kernel
theorem dd_M_run_120 : decode bb_M_run 120 = .ok (.iload 7, 2) := by decide +kernel
theorem dd_M_run_122 : decode bb_M_run 122 = .ok (.ifCond .eq 7, 3) := by decide +kernel
theorem dd_M_run_125 : decode bb_M_run 125 = .ok (.iconst (-1), 1) := by decide +kernel
theorem dd_M_run_126 : decode bb_M_run 126 = .ok (.goto 5, 3) := by decide +kernel
theorem dd_M_run_129 : decode bb_M_run 129 = .ok (.iload 5, 2) := by decide +kernel
theorem dd_M_run_131 : decode bb_M_run 131 = .ok (.ireturn, 1) := by decide +kernel
theorem dd_M_run_132 : decode bb_M_run 132 = .ok (.iinc 6 1, 3) := by decide +kernel
theorem dd_M_run_135 : decode bb_M_run 135 = .ok (.iload 4, 2) := by decide +kernel
theorem dd_M_run_137 : decode bb_M_run 137 = .ok (.iload 7, 2) := by decide +kernel
theorem dd_M_run_139 : decode bb_M_run 139 = .ok (.ifCond .eq 7, 3) := by decide +kernel
theorem dd_M_run_142 : decode bb_M_run 142 = .ok (.iconst 2, 1) := by decide +kernel
theorem dd_M_run_143 : decode bb_M_run 143 = .ok (.goto 4, 3) := by decide +kernel
theorem dd_M_run_146 : decode bb_M_run 146 = .ok (.iconst 3, 1) := by decide +kernel
theorem dd_M_run_147 : decode bb_M_run 147 = .ok (.iadd, 1) := by decide +kernel
theorem dd_M_run_148 : decode bb_M_run 148 = .ok (.istore 4, 2) := by decide +kernel
theorem dd_M_run_150 : decode bb_M_run 150 = .ok (.goto (-93), 3) := by decide +kernel
theorem dd_M_free_0 : decode bb_M_free 0 = .ok (.aload_n 0, 1) := by decide +kernel
theorem dd_M_free_1 : decode bb_M_free 1 = .ok (.iconst 0, 1) := by decide +kernel
theorem dd_M_free_2 : decode bb_M_free 2 = .ok (.putfield 54, 3) := by decide +kernel
theorem dd_M_free_5 : decode bb_M_free 5 = .ok (.aload_n 0, 1) := by decide +kernel
theorem dd_M_free_6 : decode bb_M_free 6 = .ok (.getfield 50, 3) := by decide +kernel
theorem dd_M_free_9 : decode bb_M_free 9 = .ok (.ifCond .eq 10, 3) := by decide +kernel
theorem dd_M_free_12 : decode bb_M_free 12 = .ok (.aload_n 0, 1) := by decide +kernel
theorem dd_M_free_13 : decode bb_M_free 13 = .ok (.invokevirtual 161, 3) := by decide +kernel
theorem dd_M_free_16 : decode bb_M_free 16 = .ok (.goto 4, 3) := by decide +kernel
theorem dd_M_free_19 : decode bb_M_free 19 = .ok (.iconst 0, 1) := by decide +kernel
theorem dd_M_free_20 : decode bb_M_free 20 = .ok (.ireturn, 1) := by decide +kernel
theorem dd_M_at_0 : decode bb_M_at 0 = .ok (.aload_n 0, 1) := by decide +kernel
theorem dd_M_at_1 : decode bb_M_at 1 = .ok (.iconst 0, 1) := by decide +kernel
theorem dd_M_at_2 : decode bb_M_at 2 = .ok (.putfield 54, 3) := by decide +kernel
theorem dd_M_at_5 : decode bb_M_at 5 = .ok (.iload_n 1, 1) := by decide +kernel
theorem dd_M_at_6 : decode bb_M_at 6 = .ok (.ifCond .lt 10, 3) := by decide +kernel
theorem dd_M_at_9 : decode bb_M_at 9 = .ok (.iload_n 1, 1) := by decide +kernel
theorem dd_M_at_10 : decode bb_M_at 10 = .ok (.sipush 2047, 3) := by decide +kernel
theorem dd_M_at_13 : decode bb_M_at 13 = .ok (.if_icmp .le 7, 3) := by decide +kernel
theorem dd_M_at_16 : decode bb_M_at 16 = .ok (.iconst (-1), 1) := by decide +kernel
theorem dd_M_at_17 : decode bb_M_at 17 = .ok (.goto 9, 3) := by decide +kernel
theorem dd_M_at_20 : decode bb_M_at 20 = .ok (.aload_n 0, 1) := by decide +kernel
theorem dd_M_at_21 : decode bb_M_at 21 = .ok (.getfield 7, 3) := by decide +kernel
theorem dd_M_at_24 : decode bb_M_at 24 = .ok (.iload_n 1, 1) := by decide +kernel
theorem dd_M_at_25 : decode bb_M_at 25 = .ok (.iaload, 1) := by decide +kernel
theorem dd_M_at_26 : decode bb_M_at 26 = .ok (.ireturn, 1) := by decide +kernel
theorem dd_D_init_0 : decode bb_D_init 0 = .ok (.aload_n 0, 1) := by decide +kernel
theorem dd_D_init_1 : decode bb_D_init 1 = .ok (.invokespecial 3, 3) := by decide +kernel
theorem dd_D_init_4 : decode bb_D_init 4 = .ok (.aload_n 0, 1) := by decide +kernel
theorem dd_D_init_5 : decode bb_D_init 5 = .ok (.sipush 2048, 3) := by decide +kernel
theorem dd_D_init_8 : decode bb_D_init 8 = .ok (.newarray .int, 2) := by decide +kernel
theorem dd_D_init_10 : decode bb_D_init 10 = .ok (.putfield 9, 3) := by decide +kernel
theorem dd_D_init_13 : decode bb_D_init 13 = .ok (.return_, 1) := by decide +kernel
theorem dd_D_isCutNow_0 : decode bb_D_isCutNow 0 = .ok (.aload_n 0, 1) := by decide +kernel
theorem dd_D_isCutNow_1 : decode bb_D_isCutNow 1 = .ok (.getfield 15, 3) := by decide +kernel
theorem dd_D_isCutNow_4 : decode bb_D_isCutNow 4 = .ok (.ifCond .ne 5, 3) := by decide +kernel
theorem dd_D_isCutNow_7 : decode bb_D_isCutNow 7 = .ok (.iconst 0, 1) := by decide +kernel
theorem dd_D_isCutNow_8 : decode bb_D_isCutNow 8 = .ok (.ireturn, 1) := by decide +kernel
theorem dd_D_isCutNow_9 : decode bb_D_isCutNow 9 = .ok (.aload_n 0, 1) := by decide +kernel
theorem dd_D_isCutNow_10 : decode bb_D_isCutNow 10 = .ok (.dup, 1) := by decide +kernel
theorem dd_D_isCutNow_11 : decode bb_D_isCutNow 11 = .ok (.getfield 15, 3) := by decide +kernel
theorem dd_D_isCutNow_14 : decode bb_D_isCutNow 14 = .ok (.iconst 1, 1) := by decide +kernel
theorem dd_D_isCutNow_15 : decode bb_D_isCutNow 15 = .ok (.isub, 1) := by decide +kernel
theorem dd_D_isCutNow_16 : decode bb_D_isCutNow 16 = .ok (.putfield 15, 3) := by decide +kernel
theorem dd_D_isCutNow_19 : decode bb_D_isCutNow 19 = .ok (.aload_n 0, 1) := by decide +kernel
theorem dd_D_isCutNow_20 : decode bb_D_isCutNow 20 = .ok (.getfield 15, 3) := by decide +kernel
theorem dd_D_isCutNow_23 : decode bb_D_isCutNow 23 = .ok (.ifCond .ne 7, 3) := by decide +kernel
theorem dd_D_isCutNow_26 : decode bb_D_isCutNow 26 = .ok (.iconst 1, 1) := by decide +kernel
theorem dd_D_isCutNow_27 : decode bb_D_isCutNow 27 = .ok (.goto 4, 3) := by decide +kernel
theorem dd_D_isCutNow_30 : decode bb_D_isCutNow 30 = .ok (.iconst 0, 1) := by decide +kernel
theorem dd_D_isCutNow_31 : decode bb_D_isCutNow 31 = .ok (.ireturn, 1) := by decide +kernel
theorem dd_D_laySector_0 : decode bb_D_laySector 0 = .ok (.iload_n 2, 1) := by decide +kernel
theorem dd_D_laySector_1 : decode bb_D_laySector 1 = .ok (.bipush 32, 2) := by decide +kernel
theorem dd_D_laySector_3 : decode bb_D_laySector 3 = .ok (.imul, 1) := by decide +kernel
theorem dd_D_laySector_4 : decode bb_D_laySector 4 = .ok (.istore 4, 2) := by decide +kernel
theorem dd_D_laySector_6 : decode bb_D_laySector 6 = .ok (.aload_n 3, 1) := by decide +kernel
theorem dd_D_laySector_7 : decode bb_D_laySector 7 = .ok (.iload 4, 2) := by decide +kernel
theorem dd_D_laySector_9 : decode bb_D_laySector 9 = .ok (.aload_n 0, 1) := by decide +kernel
theorem dd_D_laySector_10 : decode bb_D_laySector 10 = .ok (.getfield 9, 3) := by decide +kernel
theorem dd_D_laySector_13 : decode bb_D_laySector 13 = .ok (.iload_n 1, 1) := by decide +kernel
theorem dd_D_laySector_14 : decode bb_D_laySector 14 = .ok (.bipush 64, 2) := by decide +kernel
theorem dd_D_laySector_16 : decode bb_D_laySector 16 = .ok (.imul, 1) := by decide +kernel
theorem dd_D_laySector_17 : decode bb_D_laySector 17 = .ok (.iload 4, 2) := by decide +kernel
theorem dd_D_laySector_19 : decode bb_D_laySector 19 = .ok (.iadd, 1) := by decide +kernel
theorem dd_D_laySector_20 : decode bb_D_laySector 20 = .ok (.bipush 32, 2) := by decide +kernel
theorem dd_D_laySector_22 : decode bb_D_laySector 22 = .ok (.invokestatic 19, 3) := by decide +kernel
theorem dd_D_laySector_25 : decode bb_D_laySector 25 = .ok (.return_, 1) := by decide +kernel
theorem dd_D_liftRecord_0 : decode bb_D_liftRecord 0 = .ok (.aload_n 0, 1) := by decide +kernel
theorem dd_D_liftRecord_1 : decode bb_D_liftRecord 1 = .ok (.getfield 9, 3) := by decide +kernel
theorem dd_D_liftRecord_4 : decode bb_D_liftRecord 4 = .ok (.iload_n 1, 1) := by decide +kernel
theorem dd_D_liftRecord_5 : decode bb_D_liftRecord 5 = .ok (.bipush 64, 2) := by decide +kernel
theorem dd_D_liftRecord_7 : decode bb_D_liftRecord 7 = .ok (.imul, 1) := by decide +kernel
theorem dd_D_liftRecord_8 : decode bb_D_liftRecord 8 = .ok (.aload_n 2, 1) := by decide +kernel
theorem dd_D_liftRecord_9 : decode bb_D_liftRecord 9 = .ok (.iconst 0, 1) := by decide +kernel
theorem dd_D_liftRecord_10 : decode bb_D_liftRecord 10 = .ok (.bipush 64, 2) := by decide +kernel
theorem dd_D_liftRecord_12 : decode bb_D_liftRecord 12 = .ok (.invokestatic 19, 3) := by decide +kernel
theorem dd_D_liftRecord_15 : decode bb_D_liftRecord 15 = .ok (.return_, 1) := by decide +kernel
theorem dd_D_fileByte_0 : decode bb_D_fileByte 0 = .ok (.aload_n 1, 1) := by decide +kernel
theorem dd_D_fileByte_1 : decode bb_D_fileByte 1 = .ok (.iload_n 2, 1) := by decide +kernel
theorem dd_D_fileByte_2 : decode bb_D_fileByte 2 = .ok (.bipush 16, 2) := by decide +kernel
theorem dd_D_fileByte_4 : decode bb_D_fileByte 4 = .ok (.idiv, 1) := by decide +kernel
theorem dd_D_fileByte_5 : decode bb_D_fileByte 5 = .ok (.invokevirtual 25, 3) := by decide +kernel
theorem dd_D_fileByte_8 : decode bb_D_fileByte 8 = .ok (.istore_n 3, 1) := by decide +kernel
theorem dd_D_fileByte_9 : decode bb_D_fileByte 9 = .ok (.iload_n 3, 1) := by decide +kernel
theorem dd_D_fileByte_10 : decode bb_D_fileByte 10 = .ok (.invokestatic 31, 3) := by decide +kernel
theorem dd_D_fileByte_13 : decode bb_D_fileByte 13 = .ok (.ifCond .eq 20, 3) := by decide +kernel
theorem dd_D_fileByte_16 : decode bb_D_fileByte 16 = .ok (.aload_n 0, 1) := by decide +kernel
theorem dd_D_fileByte_17 : decode bb_D_fileByte 17 = .ok (.getfield 9, 3) := by decide +kernel
theorem dd_D_fileByte_20 : decode bb_D_fileByte 20 = .ok (.iload_n 3, 1) := by decide +kernel
theorem dd_D_fileByte_21 : decode bb_D_fileByte 21 = .ok (.bipush 16, 2) := by decide +kernel
theorem dd_D_fileByte_23 : decode bb_D_fileByte 23 = .ok (.imul, 1) := by decide +kernel
theorem dd_D_fileByte_24 : decode bb_D_fileByte 24 = .ok (.iload_n 2, 1) := by decide +kernel
theorem dd_D_fileByte_25 : decode bb_D_fileByte 25 = .ok (.bipush 16, 2) := by decide +kernel
theorem dd_D_fileByte_27 : decode bb_D_fileByte 27 = .ok (.irem, 1) := by decide +kernel
theorem dd_D_fileByte_28 : decode bb_D_fileByte 28 = .ok (.iadd, 1) := by decide +kernel
theorem dd_D_fileByte_29 : decode bb_D_fileByte 29 = .ok (.iaload, 1) := by decide +kernel
theorem dd_D_fileByte_30 : decode bb_D_fileByte 30 = .ok (.goto 4, 3) := by decide +kernel
theorem dd_D_fileByte_33 : decode bb_D_fileByte 33 = .ok (.iconst 0, 1) := by decide +kernel
theorem dd_D_fileByte_34 : decode bb_D_fileByte 34 = .ok (.ireturn, 1) := by decide +kernel
theorem dd_D_putFileByte_0 : decode bb_D_putFileByte 0 = .ok (.aload_n 1, 1) := by decide +kernel
theorem dd_D_putFileByte_1 : decode bb_D_putFileByte 1 = .ok (.iload_n 2, 1) := by decide +kernel
theorem dd_D_putFileByte_2 : decode bb_D_putFileByte 2 = .ok (.bipush 16, 2) := by decide +kernel
theorem dd_D_putFileByte_4 : decode bb_D_putFileByte 4 = .ok (.idiv, 1) := by decide +kernel
theorem dd_D_putFileByte_5 : decode bb_D_putFileByte 5 = .ok (.invokevirtual 25, 3) := by decide +kernel
theorem dd_D_putFileByte_8 : decode bb_D_putFileByte 8 = .ok (.istore 4, 2) := by decide +kernel
theorem dd_D_putFileByte_10 : decode bb_D_putFileByte 10 = .ok (.iload 4, 2) := by decide +kernel
theorem dd_D_putFileByte_12 : decode bb_D_putFileByte 12 = .ok (.invokestatic 31, 3) := by decide +kernel
theorem dd_D_putFileByte_15 : decode bb_D_putFileByte 15 = .ok (.ifCond .eq 19, 3) := by decide +kernel
theorem dd_D_putFileByte_18 : decode bb_D_putFileByte 18 = .ok (.aload_n 0, 1) := by decide +kernel
theorem dd_D_putFileByte_19 : decode bb_D_putFileByte 19 = .ok (.getfield 9, 3) := by decide +kernel
theorem dd_D_putFileByte_22 : decode bb_D_putFileByte 22 = .ok (.iload 4, 2) := by decide +kernel
theorem dd_D_putFileByte_24 : decode bb_D_putFileByte 24 = .ok (.bipush 16, 2) := by decide +kernel
theorem dd_D_putFileByte_26 : decode bb_D_putFileByte 26 = .ok (.imul, 1) := by decide +kernel
theorem dd_D_putFileByte_27 : decode bb_D_putFileByte 27 = .ok (.iload_n 2, 1) := by decide +kernel
theorem dd_D_putFileByte_28 : decode bb_D_putFileByte 28 = .ok (.bipush 16, 2) := by decide +kernel
theorem dd_D_putFileByte_30 : decode bb_D_putFileByte 30 = .ok (.irem, 1) := by decide +kernel
theorem dd_D_putFileByte_31 : decode bb_D_putFileByte 31 = .ok (.iadd, 1) := by decide +kernel
theorem dd_D_putFileByte_32 : decode bb_D_putFileByte 32 = .ok (.iload_n 3, 1) := by decide +kernel
theorem dd_D_putFileByte_33 : decode bb_D_putFileByte 33 = .ok (.iastore, 1) := by decide +kernel
theorem dd_D_putFileByte_34 : decode bb_D_putFileByte 34 = .ok (.return_, 1) := by decide +kernel
theorem dd_D_clearFile_0 : decode bb_D_clearFile 0 = .ok (.iload_n 2, 1) := by decide +kernel
theorem dd_D_clearFile_1 : decode bb_D_clearFile 1 = .ok (.istore 4, 2) := by decide +kernel
theorem dd_D_clearFile_3 : decode bb_D_clearFile 3 = .ok (.iload 4, 2) := by decide +kernel
theorem dd_D_clearFile_5 : decode bb_D_clearFile 5 = .ok (.iload_n 3, 1) := by decide +kernel
theorem dd_D_clearFile_6 : decode bb_D_clearFile 6 = .ok (.if_icmp .ge 17, 3) := by decide +kernel
theorem dd_D_clearFile_9 : decode bb_D_clearFile 9 = .ok (.aload_n 0, 1) := by decide +kernel
theorem dd_D_clearFile_10 : decode bb_D_clearFile 10 = .ok (.aload_n 1, 1) := by decide +kernel
theorem dd_D_clearFile_11 : decode bb_D_clearFile 11 = .ok (.iload 4, 2) := by decide +kernel
theorem dd_D_clearFile_13 : decode bb_D_clearFile 13 = .ok (.iconst 0, 1) := by decide +kernel
theorem dd_D_clearFile_14 : decode bb_D_clearFile 14 = .ok (.invokevirtual 35, 3) := by decide +kernel
theorem dd_D_clearFile_17 : decode bb_D_clearFile 17 = .ok (.iinc 4 1, 3) := by decide +kernel
theorem dd_D_clearFile_20 : decode bb_D_clearFile 20 = .ok (.goto (-17), 3) := by decide +kernel
theorem dd_D_clearFile_23 : decode bb_D_clearFile 23 = .ok (.return_, 1) := by decide +kernel
theorem dd_Y_init_0 : decode bb_Y_init 0 = .ok (.aload_n 0, 1) := by decide +kernel
theorem dd_Y_init_1 : decode bb_Y_init 1 = .ok (.invokespecial 3, 3) := by decide +kernel
theorem dd_Y_init_4 : decode bb_Y_init 4 = .ok (.aload_n 0, 1) := by decide +kernel
theorem dd_Y_init_5 : decode bb_Y_init 5 = .ok (.bipush 63, 2) := by decide +kernel
theorem dd_Y_init_7 : decode bb_Y_init 7 = .ok (.newarray .int, 2) := by decide +kernel
theorem dd_Y_init_9 : decode bb_Y_init 9 = .ok (.putfield 9, 3) := by decide +kernel
theorem dd_Y_init_12 : decode bb_Y_init 12 = .ok (.return_, 1) := by decide +kernel
theorem dd_Y_placeOf_0 : decode bb_Y_placeOf 0 = .ok (.iload_n 1, 1) := by decide +kernel
theorem dd_Y_placeOf_1 : decode bb_Y_placeOf 1 = .ok (.ifCond .lt 20, 3) := by decide +kernel
theorem dd_Y_placeOf_4 : decode bb_Y_placeOf 4 = .ok (.iload_n 1, 1) := by decide +kernel
theorem dd_Y_placeOf_5 : decode bb_Y_placeOf 5 = .ok (.aload_n 0, 1) := by decide +kernel
theorem dd_Y_placeOf_6 : decode bb_Y_placeOf 6 = .ok (.getfield 15, 3) := by decide +kernel
theorem dd_Y_placeOf_9 : decode bb_Y_placeOf 9 = .ok (.if_icmp .ge 12, 3) := by decide +kernel
theorem dd_Y_placeOf_12 : decode bb_Y_placeOf 12 = .ok (.aload_n 0, 1) := by decide +kernel
theorem dd_Y_placeOf_13 : decode bb_Y_placeOf 13 = .ok (.getfield 9, 3) := by decide +kernel
theorem dd_Y_placeOf_16 : decode bb_Y_placeOf 16 = .ok (.iload_n 1, 1) := by decide +kernel
theorem dd_Y_placeOf_17 : decode bb_Y_placeOf 17 = .ok (.iaload, 1) := by decide +kernel
theorem dd_Y_placeOf_18 : decode bb_Y_placeOf 18 = .ok (.goto 4, 3) := by decide +kernel
theorem dd_Y_placeOf_21 : decode bb_Y_placeOf 21 = .ok (.iconst (-1), 1) := by decide +kernel
theorem dd_Y_placeOf_22 : decode bb_Y_placeOf 22 = .ok (.ireturn, 1) := by decide +kernel
theorem dd_Y_append_0 : decode bb_Y_append 0 = .ok (.iconst 0, 1) := by decide +kernel
theorem dd_Y_append_1 : decode bb_Y_append 1 = .ok (.istore_n 3, 1) := by decide +kernel
theorem dd_Y_append_2 : decode bb_Y_append 2 = .ok (.iload_n 3, 1) := by decide +kernel
theorem dd_Y_append_3 : decode bb_Y_append 3 = .ok (.iload_n 2, 1) := by decide +kernel
theorem dd_Y_append_4 : decode bb_Y_append 4 = .ok (.if_icmp .ge 52, 3) := by decide +kernel
theorem dd_Y_append_7 : decode bb_Y_append 7 = .ok (.aload_n 0, 1) := by decide +kernel
theorem dd_Y_append_8 : decode bb_Y_append 8 = .ok (.getfield 15, 3) := by decide +kernel
theorem dd_Y_append_11 : decode bb_Y_append 11 = .ok (.aload_n 0, 1) := by decide +kernel
theorem dd_Y_append_12 : decode bb_Y_append 12 = .ok (.getfield 9, 3) := by decide +kernel
theorem dd_Y_append_15 : decode bb_Y_append 15 = .ok (.arraylength, 1) := by decide +kernel
theorem dd_Y_append_16 : decode bb_Y_append 16 = .ok (.if_icmp .ge 40, 3) := by decide +kernel
theorem dd_Y_append_19 : decode bb_Y_append 19 = .ok (.aload_n 0, 1) := by decide +kernel
theorem dd_Y_append_20 : decode bb_Y_append 20 = .ok (.getfield 9, 3) := by decide +kernel
theorem dd_Y_append_23 : decode bb_Y_append 23 = .ok (.aload_n 0, 1) := by decide +kernel
theorem dd_Y_append_24 : decode bb_Y_append 24 = .ok (.getfield 15, 3) := by decide +kernel
theorem dd_Y_append_27 : decode bb_Y_append 27 = .ok (.iload_n 1, 1) := by decide +kernel
theorem dd_Y_append_28 : decode bb_Y_append 28 = .ok (.iconst (-1), 1) := by decide +kernel
theorem dd_Y_append_29 : decode bb_Y_append 29 = .ok (.if_icmp .ne 7, 3) := by decide +kernel
theorem dd_Y_append_32 : decode bb_Y_append 32 = .ok (.iconst (-1), 1) := by decide +kernel
theorem dd_Y_append_33 : decode bb_Y_append 33 = .ok (.goto 6, 3) := by decide +kernel
theorem dd_Y_append_36 : decode bb_Y_append 36 = .ok (.iload_n 1, 1) := by decide +kernel
theorem dd_Y_append_37 : decode bb_Y_append 37 = .ok (.iload_n 3, 1) := by decide +kernel
theorem dd_Y_append_38 : decode bb_Y_append 38 = .ok (.iadd, 1) := by decide +kernel
theorem dd_Y_append_39 : decode bb_Y_append 39 = .ok (.iastore, 1) := by decide +kernel
theorem dd_Y_append_40 : decode bb_Y_append 40 = .ok (.aload_n 0, 1) := by decide +kernel
theorem dd_Y_append_41 : decode bb_Y_append 41 = .ok (.dup, 1) := by decide +kernel
theorem dd_Y_append_42 : decode bb_Y_append 42 = .ok (.getfield 15, 3) := by decide +kernel
theorem dd_Y_append_45 : decode bb_Y_append 45 = .ok (.iconst 1, 1) := by decide +kernel
theorem dd_Y_append_46 : decode bb_Y_append 46 = .ok (.iadd, 1) := by decide +kernel
theorem dd_Y_append_47 : decode bb_Y_append 47 = .ok (.putfield 15, 3) := by decide +kernel
theorem dd_Y_append_50 : decode bb_Y_append 50 = .ok (.iinc 3 1, 3) := by decide +kernel
theorem dd_Y_append_53 : decode bb_Y_append 53 = .ok (.goto (-51), 3) := by decide +kernel
theorem dd_Y_append_56 : decode bb_Y_append 56 = .ok (.return_, 1) := by decide +kernel
theorem dd_Y_copyFrom_0 : decode bb_Y_copyFrom 0 = .ok (.aload_n 1, 1) := by decide +kernel
theorem dd_Y_copyFrom_1 : decode bb_Y_copyFrom 1 = .ok (.getfield 9, 3) := by decide +kernel
theorem dd_Y_copyFrom_4 : decode bb_Y_copyFrom 4 = .ok (.iconst 0, 1) := by decide +kernel
theorem dd_Y_copyFrom_5 : decode bb_Y_copyFrom 5 = .ok (.aload_n 0, 1) := by decide +kernel
theorem dd_Y_copyFrom_6 : decode bb_Y_copyFrom 6 = .ok (.getfield 9, 3) := by decide +kernel
theorem dd_Y_copyFrom_9 : decode bb_Y_copyFrom 9 = .ok (.iconst 0, 1) := by decide +kernel
theorem dd_Y_copyFrom_10 : decode bb_Y_copyFrom 10 = .ok (.aload_n 1, 1) := by decide +kernel
theorem dd_Y_copyFrom_11 : decode bb_Y_copyFrom 11 = .ok (.getfield 15, 3) := by decide +kernel
theorem dd_Y_copyFrom_14 : decode bb_Y_copyFrom 14 = .ok (.invokestatic 19, 3) := by decide +kernel
theorem dd_Y_copyFrom_17 : decode bb_Y_copyFrom 17 = .ok (.aload_n 0, 1) := by decide +kernel
theorem dd_Y_copyFrom_18 : decode bb_Y_copyFrom 18 = .ok (.aload_n 1, 1) := by decide +kernel
theorem dd_Y_copyFrom_19 : decode bb_Y_copyFrom 19 = .ok (.getfield 15, 3) := by decide +kernel
theorem dd_Y_copyFrom_22 : decode bb_Y_copyFrom 22 = .ok (.putfield 15, 3) := by decide +kernel
theorem dd_Y_copyFrom_25 : decode bb_Y_copyFrom 25 = .ok (.return_, 1) := by decide +kernel
end
section
theorem dd_Y_startsRun_0 : decode bb_Y_startsRun 0 = .ok (.iload_n 1, 1) := by decide +kernel
theorem dd_Y_startsRun_1 : decode bb_Y_startsRun 1 = .ok (.ifCond .ne 5, 3) := by decide +kernel
theorem dd_Y_startsRun_4 : decode bb_Y_startsRun 4 = .ok (.iconst 1, 1) := by decide +kernel
theorem dd_Y_startsRun_5 : decode bb_Y_startsRun 5 = .ok (.ireturn, 1) := by decide +kernel
theorem dd_Y_startsRun_6 : decode bb_Y_startsRun 6 = .ok (.aload_n 0, 1) := by decide +kernel
theorem dd_Y_startsRun_7 : decode bb_Y_startsRun 7 = .ok (.getfield 9, 3) := by decide +kernel
theorem dd_Y_startsRun_10 : decode bb_Y_startsRun 10 = .ok (.iload_n 1, 1) := by decide +kernel
theorem dd_Y_startsRun_11 : decode bb_Y_startsRun 11 = .ok (.iaload, 1) := by decide +kernel
theorem dd_Y_startsRun_12 : decode bb_Y_startsRun 12 = .ok (.iconst (-1), 1) := by decide +kernel
theorem dd_Y_startsRun_13 : decode bb_Y_startsRun 13 = .ok (.if_icmp .eq 15, 3) := by decide +kernel
theorem dd_Y_startsRun_16 : decode bb_Y_startsRun 16 = .ok (.aload_n 0, 1) := by decide +kernel
theorem dd_Y_startsRun_17 : decode bb_Y_startsRun 17 = .ok (.getfield 9, 3) := by decide +kernel
theorem dd_Y_startsRun_20 : decode bb_Y_startsRun 20 = .ok (.iload_n 1, 1) := by decide +kernel
theorem dd_Y_startsRun_21 : decode bb_Y_startsRun 21 = .ok (.iconst 1, 1) := by decide +kernel
theorem dd_Y_startsRun_22 : decode bb_Y_startsRun 22 = .ok (.isub, 1) := by decide +kernel
theorem dd_Y_startsRun_23 : decode bb_Y_startsRun 23 = .ok (.iaload, 1) := by decide +kernel
theorem dd_Y_startsRun_24 : decode bb_Y_startsRun 24 = .ok (.iconst (-1), 1) := by decide +kernel
theorem dd_Y_startsRun_25 : decode bb_Y_startsRun 25 = .ok (.if_icmp .ne 26, 3) := by decide +kernel
theorem dd_Y_startsRun_28 : decode bb_Y_startsRun 28 = .ok (.aload_n 0, 1) := by decide +kernel
theorem dd_Y_startsRun_29 : decode bb_Y_startsRun 29 = .ok (.getfield 9, 3) := by decide +kernel
theorem dd_Y_startsRun_32 : decode bb_Y_startsRun 32 = .ok (.iload_n 1, 1) := by decide +kernel
theorem dd_Y_startsRun_33 : decode bb_Y_startsRun 33 = .ok (.iaload, 1) := by decide +kernel
theorem dd_Y_startsRun_34 : decode bb_Y_startsRun 34 = .ok (.aload_n 0, 1) := by decide +kernel
theorem dd_Y_startsRun_35 : decode bb_Y_startsRun 35 = .ok (.getfield 9, 3) := by decide +kernel
theorem dd_Y_startsRun_38 : decode bb_Y_startsRun 38 = .ok (.iload_n 1, 1) := by decide +kernel
theorem dd_Y_startsRun_39 : decode bb_Y_startsRun 39 = .ok (.iconst 1, 1) := by decide +kernel
theorem dd_Y_startsRun_40 : decode bb_Y_startsRun 40 = .ok (.isub, 1) := by decide +kernel
theorem dd_Y_startsRun_41 : decode bb_Y_startsRun 41 = .ok (.iaload, 1) := by decide +kernel
theorem dd_Y_startsRun_42 : decode bb_Y_startsRun 42 = .ok (.if_icmp .eq 7, 3) := by decide +kernel
theorem dd_Y_startsRun_45 : decode bb_Y_startsRun 45 = .ok (.iconst 1, 1) := by decide +kernel
theorem dd_Y_startsRun_46 : decode bb_Y_startsRun 46 = .ok (.goto 4, 3) := by decide +kernel
theorem dd_Y_startsRun_49 : decode bb_Y_startsRun 49 = .ok (.iconst 0, 1) := by decide +kernel
theorem dd_Y_startsRun_50 : decode bb_Y_startsRun 50 = .ok (.ireturn, 1) := by decide +kernel
theorem dd_Y_startsRun_51 : decode bb_Y_startsRun 51 = .ok (.aload_n 0, 1) := by decide +kernel
theorem dd_Y_startsRun_52 : decode bb_Y_startsRun 52 = .ok (.getfield 9, 3) := by decide +kernel
theorem dd_Y_startsRun_55 : decode bb_Y_startsRun 55 = .ok (.iload_n 1, 1) := by decide +kernel
theorem dd_Y_startsRun_56 : decode bb_Y_startsRun 56 = .ok (.iaload, 1) := by decide +kernel
theorem dd_Y_startsRun_57 : decode bb_Y_startsRun 57 = .ok (.aload_n 0, 1) := by decide +kernel
theorem dd_Y_startsRun_58 : decode bb_Y_startsRun 58 = .ok (.getfield 9, 3) := by decide +kernel
theorem dd_Y_startsRun_61 : decode bb_Y_startsRun 61 = .ok (.iload_n 1, 1) := by decide +kernel
theorem dd_Y_startsRun_62 : decode bb_Y_startsRun 62 = .ok (.iconst 1, 1) := by decide +kernel
theorem dd_Y_startsRun_63 : decode bb_Y_startsRun 63 = .ok (.isub, 1) := by decide +kernel
theorem dd_Y_startsRun_64 : decode bb_Y_startsRun 64 = .ok (.iaload, 1) := by decide +kernel
theorem dd_Y_startsRun_65 : decode bb_Y_startsRun 65 = .ok (.iconst 1, 1) := by decide +kernel
theorem dd_Y_startsRun_66 : decode bb_Y_startsRun 66 = .ok (.iadd, 1) := by decide +kernel
theorem dd_Y_startsRun_67 : decode bb_Y_startsRun 67 = .ok (.if_icmp .eq 7, 3) := by decide +kernel
theorem dd_Y_startsRun_70 : decode bb_Y_startsRun 70 = .ok (.iconst 1, 1) := by decide +kernel
theorem dd_Y_startsRun_71 : decode bb_Y_startsRun 71 = .ok (.goto 4, 3) := by decide +kernel
theorem dd_Y_startsRun_74 : decode bb_Y_startsRun 74 = .ok (.iconst 0, 1) := by decide +kernel
theorem dd_Y_startsRun_75 : decode bb_Y_startsRun 75 = .ok (.ireturn, 1) := by decide +kernel
theorem dd_Y_runCount_0 : decode bb_Y_runCount 0 = .ok (.iconst 0, 1) := by decide +kernel
theorem dd_Y_runCount_1 : decode bb_Y_runCount 1 = .ok (.istore_n 1, 1) := by decide +kernel
theorem dd_Y_runCount_2 : decode bb_Y_runCount 2 = .ok (.iconst 0, 1) := by decide +kernel
theorem dd_Y_runCount_3 : decode bb_Y_runCount 3 = .ok (.istore_n 2, 1) := by decide +kernel
theorem dd_Y_runCount_4 : decode bb_Y_runCount 4 = .ok (.iload_n 2, 1) := by decide +kernel
theorem dd_Y_runCount_5 : decode bb_Y_runCount 5 = .ok (.aload_n 0, 1) := by decide +kernel
theorem dd_Y_runCount_6 : decode bb_Y_runCount 6 = .ok (.getfield 15, 3) := by decide +kernel
theorem dd_Y_runCount_9 : decode bb_Y_runCount 9 = .ok (.if_icmp .ge 20, 3) := by decide +kernel
theorem dd_Y_runCount_12 : decode bb_Y_runCount 12 = .ok (.aload_n 0, 1) := by decide +kernel
theorem dd_Y_runCount_13 : decode bb_Y_runCount 13 = .ok (.iload_n 2, 1) := by decide +kernel
theorem dd_Y_runCount_14 : decode bb_Y_runCount 14 = .ok (.invokevirtual 25, 3) := by decide +kernel
theorem dd_Y_runCount_17 : decode bb_Y_runCount 17 = .ok (.ifCond .eq 6, 3) := by decide +kernel
theorem dd_Y_runCount_20 : decode bb_Y_runCount 20 = .ok (.iinc 1 1, 3) := by decide +kernel
theorem dd_Y_runCount_23 : decode bb_Y_runCount 23 = .ok (.iinc 2 1, 3) := by decide +kernel
theorem dd_Y_runCount_26 : decode bb_Y_runCount 26 = .ok (.goto (-22), 3) := by decide +kernel
theorem dd_Y_runCount_29 : decode bb_Y_runCount 29 = .ok (.iload_n 1, 1) := by decide +kernel
theorem dd_Y_runCount_30 : decode bb_Y_runCount 30 = .ok (.ireturn, 1) := by decide +kernel
theorem dd_Y_startOfRun_0 : decode bb_Y_startOfRun 0 = .ok (.iconst 0, 1) := by decide +kernel
theorem dd_Y_startOfRun_1 : decode bb_Y_startOfRun 1 = .ok (.istore_n 2, 1) := by decide +kernel
theorem dd_Y_startOfRun_2 : decode bb_Y_startOfRun 2 = .ok (.iconst 0, 1) := by decide +kernel
theorem dd_Y_startOfRun_3 : decode bb_Y_startOfRun 3 = .ok (.istore_n 3, 1) := by decide +kernel
theorem dd_Y_startOfRun_4 : decode bb_Y_startOfRun 4 = .ok (.iload_n 3, 1) := by decide +kernel
theorem dd_Y_startOfRun_5 : decode bb_Y_startOfRun 5 = .ok (.aload_n 0, 1) := by decide +kernel
theorem dd_Y_startOfRun_6 : decode bb_Y_startOfRun 6 = .ok (.getfield 15, 3) := by decide +kernel
theorem dd_Y_startOfRun_9 : decode bb_Y_startOfRun 9 = .ok (.if_icmp .ge 27, 3) := by decide +kernel
theorem dd_Y_startOfRun_12 : decode bb_Y_startOfRun 12 = .ok (.aload_n 0, 1) := by decide +kernel
theorem dd_Y_startOfRun_13 : decode bb_Y_startOfRun 13 = .ok (.iload_n 3, 1) := by decide +kernel
theorem dd_Y_startOfRun_14 : decode bb_Y_startOfRun 14 = .ok (.invokevirtual 25, 3) := by decide +kernel
theorem dd_Y_startOfRun_17 : decode bb_Y_startOfRun 17 = .ok (.ifCond .eq 13, 3) := by decide +kernel
theorem dd_Y_startOfRun_20 : decode bb_Y_startOfRun 20 = .ok (.iload_n 2, 1) := by decide +kernel
theorem dd_Y_startOfRun_21 : decode bb_Y_startOfRun 21 = .ok (.iload_n 1, 1) := by decide +kernel
theorem dd_Y_startOfRun_22 : decode bb_Y_startOfRun 22 = .ok (.if_icmp .ne 5, 3) := by decide +kernel
theorem dd_Y_startOfRun_25 : decode bb_Y_startOfRun 25 = .ok (.iload_n 3, 1) := by decide +kernel
theorem dd_Y_startOfRun_26 : decode bb_Y_startOfRun 26 = .ok (.ireturn, 1) := by decide +kernel
theorem dd_Y_startOfRun_27 : decode bb_Y_startOfRun 27 = .ok (.iinc 2 1, 3) := by decide +kernel
theorem dd_Y_startOfRun_30 : decode bb_Y_startOfRun 30 = .ok (.iinc 3 1, 3) := by decide +kernel
theorem dd_Y_startOfRun_33 : decode bb_Y_startOfRun 33 = .ok (.goto (-29), 3) := by decide +kernel
theorem dd_Y_startOfRun_36 : decode bb_Y_startOfRun 36 = .ok (.iconst (-1), 1) := by decide +kernel
theorem dd_Y_startOfRun_37 : decode bb_Y_startOfRun 37 = .ok (.ireturn, 1) := by decide +kernel
theorem dd_Y_lengthOfRun_0 : decode bb_Y_lengthOfRun 0 = .ok (.iload_n 1, 1) := by decide +kernel
theorem dd_Y_lengthOfRun_1 : decode bb_Y_lengthOfRun 1 = .ok (.iconst 1, 1) := by decide +kernel
theorem dd_Y_lengthOfRun_2 : decode bb_Y_lengthOfRun 2 = .ok (.iadd, 1) := by decide +kernel
theorem dd_Y_lengthOfRun_3 : decode bb_Y_lengthOfRun 3 = .ok (.istore_n 2, 1) := by decide +kernel
theorem dd_Y_lengthOfRun_4 : decode bb_Y_lengthOfRun 4 = .ok (.iload_n 2, 1) := by decide +kernel
theorem dd_Y_lengthOfRun_5 : decode bb_Y_lengthOfRun 5 = .ok (.aload_n 0, 1) := by decide +kernel
theorem dd_Y_lengthOfRun_6 : decode bb_Y_lengthOfRun 6 = .ok (.getfield 15, 3) := by decide +kernel
theorem dd_Y_lengthOfRun_9 : decode bb_Y_lengthOfRun 9 = .ok (.if_icmp .ge 17, 3) := by decide +kernel
theorem dd_Y_lengthOfRun_12 : decode bb_Y_lengthOfRun 12 = .ok (.aload_n 0, 1) := by decide +kernel
theorem dd_Y_lengthOfRun_13 : decode bb_Y_lengthOfRun 13 = .ok (.iload_n 2, 1) := by decide +kernel
theorem dd_Y_lengthOfRun_14 : decode bb_Y_lengthOfRun 14 = .ok (.invokevirtual 25, 3) := by decide +kernel
theorem dd_Y_lengthOfRun_17 : decode bb_Y_lengthOfRun 17 = .ok (.ifCond .ne 9, 3) := by decide +kernel
theorem dd_Y_lengthOfRun_20 : decode bb_Y_lengthOfRun 20 = .ok (.iinc 2 1, 3) := by decide +kernel
theorem dd_Y_lengthOfRun_23 : decode bb_Y_lengthOfRun 23 = .ok (.goto (-19), 3) := by decide +kernel
theorem dd_Y_lengthOfRun_26 : decode bb_Y_lengthOfRun 26 = .ok (.iload_n 2, 1) := by decide +kernel
theorem dd_Y_lengthOfRun_27 : decode bb_Y_lengthOfRun 27 = .ok (.iload_n 1, 1) := by decide +kernel
theorem dd_Y_lengthOfRun_28 : decode bb_Y_lengthOfRun 28 = .ok (.isub, 1) := by decide +kernel
theorem dd_Y_lengthOfRun_29 : decode bb_Y_lengthOfRun 29 = .ok (.ireturn, 1) := by decide +kernel
theorem dd_Y_attributeBytes_0 : decode bb_Y_attributeBytes 0 = .ok (.iconst 5, 1) := by decide +kernel
theorem dd_Y_attributeBytes_1 : decode bb_Y_attributeBytes 1 = .ok (.istore_n 1, 1) := by decide +kernel
theorem dd_Y_attributeBytes_2 : decode bb_Y_attributeBytes 2 = .ok (.iconst 0, 1) := by decide +kernel
theorem dd_Y_attributeBytes_3 : decode bb_Y_attributeBytes 3 = .ok (.istore_n 2, 1) := by decide +kernel
theorem dd_Y_attributeBytes_4 : decode bb_Y_attributeBytes 4 = .ok (.iload_n 2, 1) := by decide +kernel
theorem dd_Y_attributeBytes_5 : decode bb_Y_attributeBytes 5 = .ok (.aload_n 0, 1) := by decide +kernel
theorem dd_Y_attributeBytes_6 : decode bb_Y_attributeBytes 6 = .ok (.getfield 15, 3) := by decide +kernel
theorem dd_Y_attributeBytes_9 : decode bb_Y_attributeBytes 9 = .ok (.if_icmp .ge 35, 3) := by decide +kernel
theorem dd_Y_attributeBytes_12 : decode bb_Y_attributeBytes 12 = .ok (.aload_n 0, 1) := by decide +kernel
theorem dd_Y_attributeBytes_13 : decode bb_Y_attributeBytes 13 = .ok (.iload_n 2, 1) := by decide +kernel
theorem dd_Y_attributeBytes_14 : decode bb_Y_attributeBytes 14 = .ok (.invokevirtual 25, 3) := by decide +kernel
theorem dd_Y_attributeBytes_17 : decode bb_Y_attributeBytes 17 = .ok (.ifCond .eq 21, 3) := by decide +kernel
theorem dd_Y_attributeBytes_20 : decode bb_Y_attributeBytes 20 = .ok (.iload_n 1, 1) := by decide +kernel
theorem dd_Y_attributeBytes_21 : decode bb_Y_attributeBytes 21 = .ok (.aload_n 0, 1) := by decide +kernel
theorem dd_Y_attributeBytes_22 : decode bb_Y_attributeBytes 22 = .ok (.getfield 9, 3) := by decide +kernel
theorem dd_Y_attributeBytes_25 : decode bb_Y_attributeBytes 25 = .ok (.iload_n 2, 1) := by decide +kernel
theorem dd_Y_attributeBytes_26 : decode bb_Y_attributeBytes 26 = .ok (.iaload, 1) := by decide +kernel
theorem dd_Y_attributeBytes_27 : decode bb_Y_attributeBytes 27 = .ok (.iconst (-1), 1) := by decide +kernel
theorem dd_Y_attributeBytes_28 : decode bb_Y_attributeBytes 28 = .ok (.if_icmp .ne 7, 3) := by decide +kernel
theorem dd_Y_attributeBytes_31 : decode bb_Y_attributeBytes 31 = .ok (.iconst 2, 1) := by decide +kernel
theorem dd_Y_attributeBytes_32 : decode bb_Y_attributeBytes 32 = .ok (.goto 4, 3) := by decide +kernel
theorem dd_Y_attributeBytes_35 : decode bb_Y_attributeBytes 35 = .ok (.iconst 3, 1) := by decide +kernel
theorem dd_Y_attributeBytes_36 : decode bb_Y_attributeBytes 36 = .ok (.iadd, 1) := by decide +kernel
theorem dd_Y_attributeBytes_37 : decode bb_Y_attributeBytes 37 = .ok (.istore_n 1, 1) := by decide +kernel
theorem dd_Y_attributeBytes_38 : decode bb_Y_attributeBytes 38 = .ok (.iinc 2 1, 3) := by decide +kernel
theorem dd_Y_attributeBytes_41 : decode bb_Y_attributeBytes 41 = .ok (.goto (-37), 3) := by decide +kernel
theorem dd_Y_attributeBytes_44 : decode bb_Y_attributeBytes 44 = .ok (.iload_n 1, 1) := by decide +kernel
theorem dd_Y_attributeBytes_45 : decode bb_Y_attributeBytes 45 = .ok (.ireturn, 1) := by decide +kernel
theorem dd_Y_encode_0 : decode bb_Y_encode 0 = .ok (.iload_n 2, 1) := by decide +kernel
theorem dd_Y_encode_1 : decode bb_Y_encode 1 = .ok (.istore_n 3, 1) := by decide +kernel
theorem dd_Y_encode_2 : decode bb_Y_encode 2 = .ok (.iload_n 2, 1) := by decide +kernel
theorem dd_Y_encode_3 : decode bb_Y_encode 3 = .ok (.istore 4, 2) := by decide +kernel
theorem dd_Y_encode_5 : decode bb_Y_encode 5 = .ok (.bipush 48, 2) := by decide +kernel
theorem dd_Y_encode_7 : decode bb_Y_encode 7 = .ok (.istore 5, 2) := by decide +kernel
theorem dd_Y_encode_9 : decode bb_Y_encode 9 = .ok (.iconst 0, 1) := by decide +kernel
theorem dd_Y_encode_10 : decode bb_Y_encode 10 = .ok (.istore 6, 2) := by decide +kernel
theorem dd_Y_encode_12 : decode bb_Y_encode 12 = .ok (.iload 6, 2) := by decide +kernel
theorem dd_Y_encode_14 : decode bb_Y_encode 14 = .ok (.aload_n 0, 1) := by decide +kernel
theorem dd_Y_encode_15 : decode bb_Y_encode 15 = .ok (.getfield 15, 3) := by decide +kernel
theorem dd_Y_encode_18 : decode bb_Y_encode 18 = .ok (.if_icmp .ge 88, 3) := by decide +kernel
theorem dd_Y_encode_21 : decode bb_Y_encode 21 = .ok (.aload_n 0, 1) := by decide +kernel
theorem dd_Y_encode_22 : decode bb_Y_encode 22 = .ok (.iload 6, 2) := by decide +kernel
theorem dd_Y_encode_24 : decode bb_Y_encode 24 = .ok (.invokevirtual 25, 3) := by decide +kernel
theorem dd_Y_encode_27 : decode bb_Y_encode 27 = .ok (.ifCond .eq 65, 3) := by decide +kernel
theorem dd_Y_encode_30 : decode bb_Y_encode 30 = .ok (.iload_n 3, 1) := by decide +kernel
theorem dd_Y_encode_31 : decode bb_Y_encode 31 = .ok (.iconst 1, 1) := by decide +kernel
theorem dd_Y_encode_32 : decode bb_Y_encode 32 = .ok (.iadd, 1) := by decide +kernel
theorem dd_Y_encode_33 : decode bb_Y_encode 33 = .ok (.istore 4, 2) := by decide +kernel
theorem dd_Y_encode_35 : decode bb_Y_encode 35 = .ok (.aload_n 0, 1) := by decide +kernel
theorem dd_Y_encode_36 : decode bb_Y_encode 36 = .ok (.getfield 9, 3) := by decide +kernel
theorem dd_Y_encode_39 : decode bb_Y_encode 39 = .ok (.iload 6, 2) := by decide +kernel
theorem dd_Y_encode_41 : decode bb_Y_encode 41 = .ok (.iaload, 1) := by decide +kernel
theorem dd_Y_encode_42 : decode bb_Y_encode 42 = .ok (.iconst (-1), 1) := by decide +kernel
theorem dd_Y_encode_43 : decode bb_Y_encode 43 = .ok (.if_icmp .ne 13, 3) := by decide +kernel
theorem dd_Y_encode_46 : decode bb_Y_encode 46 = .ok (.aload_n 1, 1) := by decide +kernel
theorem dd_Y_encode_47 : decode bb_Y_encode 47 = .ok (.iload_n 3, 1) := by decide +kernel
theorem dd_Y_encode_48 : decode bb_Y_encode 48 = .ok (.iconst 1, 1) := by decide +kernel
theorem dd_Y_encode_49 : decode bb_Y_encode 49 = .ok (.iastore, 1) := by decide +kernel
theorem dd_Y_encode_50 : decode bb_Y_encode 50 = .ok (.iinc 3 2, 3) := by decide +kernel
theorem dd_Y_encode_53 : decode bb_Y_encode 53 = .ok (.goto 39, 3) := by decide +kernel
theorem dd_Y_encode_56 : decode bb_Y_encode 56 = .ok (.aload_n 1, 1) := by decide +kernel
theorem dd_Y_encode_57 : decode bb_Y_encode 57 = .ok (.iload_n 3, 1) := by decide +kernel
theorem dd_Y_encode_58 : decode bb_Y_encode 58 = .ok (.bipush 17, 2) := by decide +kernel
theorem dd_Y_encode_60 : decode bb_Y_encode 60 = .ok (.iastore, 1) := by decide +kernel
theorem dd_Y_encode_61 : decode bb_Y_encode 61 = .ok (.aload_n 1, 1) := by decide +kernel
theorem dd_Y_encode_62 : decode bb_Y_encode 62 = .ok (.iload_n 3, 1) := by decide +kernel
theorem dd_Y_encode_63 : decode bb_Y_encode 63 = .ok (.iconst 2, 1) := by decide +kernel
theorem dd_Y_encode_64 : decode bb_Y_encode 64 = .ok (.iadd, 1) := by decide +kernel
theorem dd_Y_encode_65 : decode bb_Y_encode 65 = .ok (.aload_n 0, 1) := by decide +kernel
theorem dd_Y_encode_66 : decode bb_Y_encode 66 = .ok (.getfield 9, 3) := by decide +kernel
theorem dd_Y_encode_69 : decode bb_Y_encode 69 = .ok (.iload 6, 2) := by decide +kernel
theorem dd_Y_encode_71 : decode bb_Y_encode 71 = .ok (.iaload, 1) := by decide +kernel
theorem dd_Y_encode_72 : decode bb_Y_encode 72 = .ok (.iload 5, 2) := by decide +kernel
theorem dd_Y_encode_74 : decode bb_Y_encode 74 = .ok (.isub, 1) := by decide +kernel
theorem dd_Y_encode_75 : decode bb_Y_encode 75 = .ok (.sipush 255, 3) := by decide +kernel
theorem dd_Y_encode_78 : decode bb_Y_encode 78 = .ok (.iand, 1) := by decide +kernel
theorem dd_Y_encode_79 : decode bb_Y_encode 79 = .ok (.iastore, 1) := by decide +kernel
theorem dd_Y_encode_80 : decode bb_Y_encode 80 = .ok (.aload_n 0, 1) := by decide +kernel
theorem dd_Y_encode_81 : decode bb_Y_encode 81 = .ok (.getfield 9, 3) := by decide +kernel
theorem dd_Y_encode_84 : decode bb_Y_encode 84 = .ok (.iload 6, 2) := by decide +kernel
theorem dd_Y_encode_86 : decode bb_Y_encode 86 = .ok (.iaload, 1) := by decide +kernel
theorem dd_Y_encode_87 : decode bb_Y_encode 87 = .ok (.istore 5, 2) := by decide +kernel
theorem dd_Y_encode_89 : decode bb_Y_encode 89 = .ok (.iinc 3 3, 3) := by decide +kernel
theorem dd_Y_encode_92 : decode bb_Y_encode 92 = .ok (.aload_n 1, 1) := by decide +kernel
theorem dd_Y_encode_93 : decode bb_Y_encode 93 = .ok (.iload 4, 2) := by decide +kernel
theorem dd_Y_encode_95 : decode bb_Y_encode 95 = .ok (.dup2, 1) := by decide +kernel
theorem dd_Y_encode_96 : decode bb_Y_encode 96 = .ok (.iaload, 1) := by decide +kernel
theorem dd_Y_encode_97 : decode bb_Y_encode 97 = .ok (.iconst 1, 1) := by decide +kernel
theorem dd_Y_encode_98 : decode bb_Y_encode 98 = .ok (.iadd, 1) := by decide +kernel
theorem dd_Y_encode_99 : decode bb_Y_encode 99 = .ok (.iastore, 1) := by decide +kernel
theorem dd_Y_encode_100 : decode bb_Y_encode 100 = .ok (.iinc 6 1, 3) := by decide +kernel
theorem dd_Y_encode_103 : decode bb_Y_encode 103 = .ok (.goto (-91), 3) := by decide +kernel
theorem dd_Y_encode_106 : decode bb_Y_encode 106 = .ok (.iload_n 3, 1) := by decide +kernel
theorem dd_Y_encode_107 : decode bb_Y_encode 107 = .ok (.ireturn, 1) := by decide +kernel
theorem dd_Y_decode_0 : decode bb_Y_decode 0 = .ok (.iload_n 2, 1) := by decide +kernel
theorem dd_Y_decode_1 : decode bb_Y_decode 1 = .ok (.istore 4, 2) := by decide +kernel
theorem dd_Y_decode_3 : decode bb_Y_decode 3 = .ok (.bipush 48, 2) := by decide +kernel
theorem dd_Y_decode_5 : decode bb_Y_decode 5 = .ok (.istore 5, 2) := by decide +kernel
theorem dd_Y_decode_7 : decode bb_Y_decode 7 = .ok (.aload_n 0, 1) := by decide +kernel
theorem dd_Y_decode_8 : decode bb_Y_decode 8 = .ok (.iconst 0, 1) := by decide +kernel
theorem dd_Y_decode_9 : decode bb_Y_decode 9 = .ok (.putfield 15, 3) := by decide +kernel
theorem dd_Y_decode_12 : decode bb_Y_decode 12 = .ok (.iload 4, 2) := by decide +kernel
theorem dd_Y_decode_14 : decode bb_Y_decode 14 = .ok (.iconst 2, 1) := by decide +kernel
theorem dd_Y_decode_15 : decode bb_Y_decode 15 = .ok (.iadd, 1) := by decide +kernel
theorem dd_Y_decode_16 : decode bb_Y_decode 16 = .ok (.iload_n 3, 1) := by decide +kernel
theorem dd_Y_decode_17 : decode bb_Y_decode 17 = .ok (.if_icmp .ge 69, 3) := by decide +kernel
theorem dd_Y_decode_20 : decode bb_Y_decode 20 = .ok (.aload_n 1, 1) := by decide +kernel
theorem dd_Y_decode_21 : decode bb_Y_decode 21 = .ok (.iload 4, 2) := by decide +kernel
theorem dd_Y_decode_23 : decode bb_Y_decode 23 = .ok (.iaload, 1) := by decide +kernel
theorem dd_Y_decode_24 : decode bb_Y_decode 24 = .ok (.ifCond .eq 62, 3) := by decide +kernel
theorem dd_Y_decode_27 : decode bb_Y_decode 27 = .ok (.aload_n 1, 1) := by decide +kernel
theorem dd_Y_decode_28 : decode bb_Y_decode 28 = .ok (.iload 4, 2) := by decide +kernel
theorem dd_Y_decode_30 : decode bb_Y_decode 30 = .ok (.iaload, 1) := by decide +kernel
theorem dd_Y_decode_31 : decode bb_Y_decode 31 = .ok (.bipush 17, 2) := by decide +kernel
theorem dd_Y_decode_33 : decode bb_Y_decode 33 = .ok (.if_icmp .ne 36, 3) := by decide +kernel
theorem dd_Y_decode_36 : decode bb_Y_decode 36 = .ok (.iload 5, 2) := by decide +kernel
theorem dd_Y_decode_38 : decode bb_Y_decode 38 = .ok (.aload_n 1, 1) := by decide +kernel
theorem dd_Y_decode_39 : decode bb_Y_decode 39 = .ok (.iload 4, 2) := by decide +kernel
theorem dd_Y_decode_41 : decode bb_Y_decode 41 = .ok (.iconst 2, 1) := by decide +kernel
theorem dd_Y_decode_42 : decode bb_Y_decode 42 = .ok (.iadd, 1) := by decide +kernel
theorem dd_Y_decode_43 : decode bb_Y_decode 43 = .ok (.iaload, 1) := by decide +kernel
theorem dd_Y_decode_44 : decode bb_Y_decode 44 = .ok (.iadd, 1) := by decide +kernel
theorem dd_Y_decode_45 : decode bb_Y_decode 45 = .ok (.sipush 255, 3) := by decide +kernel
theorem dd_Y_decode_48 : decode bb_Y_decode 48 = .ok (.iand, 1) := by decide +kernel
theorem dd_Y_decode_49 : decode bb_Y_decode 49 = .ok (.istore 5, 2) := by decide +kernel
theorem dd_Y_decode_51 : decode bb_Y_decode 51 = .ok (.aload_n 0, 1) := by decide +kernel
theorem dd_Y_decode_52 : decode bb_Y_decode 52 = .ok (.iload 5, 2) := by decide +kernel
theorem dd_Y_decode_54 : decode bb_Y_decode 54 = .ok (.aload_n 1, 1) := by decide +kernel
theorem dd_Y_decode_55 : decode bb_Y_decode 55 = .ok (.iload 4, 2) := by decide +kernel
theorem dd_Y_decode_57 : decode bb_Y_decode 57 = .ok (.iconst 1, 1) := by decide +kernel
theorem dd_Y_decode_58 : decode bb_Y_decode 58 = .ok (.iadd, 1) := by decide +kernel
theorem dd_Y_decode_59 : decode bb_Y_decode 59 = .ok (.iaload, 1) := by decide +kernel
theorem dd_Y_decode_60 : decode bb_Y_decode 60 = .ok (.invokevirtual 29, 3) := by decide +kernel
theorem dd_Y_decode_63 : decode bb_Y_decode 63 = .ok (.iinc 4 3, 3) := by decide +kernel
theorem dd_Y_decode_66 : decode bb_Y_decode 66 = .ok (.goto (-54), 3) := by decide +kernel
theorem dd_Y_decode_69 : decode bb_Y_decode 69 = .ok (.aload_n 0, 1) := by decide +kernel
theorem dd_Y_decode_70 : decode bb_Y_decode 70 = .ok (.iconst (-1), 1) := by decide +kernel
theorem dd_Y_decode_71 : decode bb_Y_decode 71 = .ok (.aload_n 1, 1) := by decide +kernel
theorem dd_Y_decode_72 : decode bb_Y_decode 72 = .ok (.iload 4, 2) := by decide +kernel
theorem dd_Y_decode_74 : decode bb_Y_decode 74 = .ok (.iconst 1, 1) := by decide +kernel
theorem dd_Y_decode_75 : decode bb_Y_decode 75 = .ok (.iadd, 1) := by decide +kernel
theorem dd_Y_decode_76 : decode bb_Y_decode 76 = .ok (.iaload, 1) := by decide +kernel
theorem dd_Y_decode_77 : decode bb_Y_decode 77 = .ok (.invokevirtual 29, 3) := by decide +kernel
theorem dd_Y_decode_80 : decode bb_Y_decode 80 = .ok (.iinc 4 2, 3) := by decide +kernel
theorem dd_Y_decode_83 : decode bb_Y_decode 83 = .ok (.goto (-71), 3) := by decide +kernel
theorem dd_Y_decode_86 : decode bb_Y_decode 86 = .ok (.return_, 1) := by decide +kernel
theorem dd_N_init_0 : decode bb_N_init 0 = .ok (.aload_n 0, 1) := by decide +kernel
theorem dd_N_init_1 : decode bb_N_init 1 = .ok (.invokespecial 3, 3) := by decide +kernel
theorem dd_N_init_4 : decode bb_N_init 4 = .ok (.aload_n 0, 1) := by decide +kernel
theorem dd_N_init_5 : decode bb_N_init 5 = .ok (.bipush 8, 2) := by decide +kernel
theorem dd_N_init_7 : decode bb_N_init 7 = .ok (.newarray .int, 2) := by decide +kernel
theorem dd_N_init_9 : decode bb_N_init 9 = .ok (.putfield 9, 3) := by decide +kernel
theorem dd_N_init_12 : decode bb_N_init 12 = .ok (.return_, 1) := by decide +kernel
theorem dd_N_append_0 : decode bb_N_append 0 = .ok (.iload_n 1, 1) := by decide +kernel
theorem dd_N_append_1 : decode bb_N_append 1 = .ok (.bipush 97, 2) := by decide +kernel
theorem dd_N_append_3 : decode bb_N_append 3 = .ok (.if_icmp .lt 9, 3) := by decide +kernel
theorem dd_N_append_6 : decode bb_N_append 6 = .ok (.iload_n 1, 1) := by decide +kernel
theorem dd_N_append_7 : decode bb_N_append 7 = .ok (.bipush 122, 2) := by decide +kernel
theorem dd_N_append_9 : decode bb_N_append 9 = .ok (.if_icmp .le 15, 3) := by decide +kernel
theorem dd_N_append_12 : decode bb_N_append 12 = .ok (.iload_n 1, 1) := by decide +kernel
theorem dd_N_append_13 : decode bb_N_append 13 = .ok (.bipush 48, 2) := by decide +kernel
theorem dd_N_append_15 : decode bb_N_append 15 = .ok (.if_icmp .lt 13, 3) := by decide +kernel
theorem dd_N_append_18 : decode bb_N_append 18 = .ok (.iload_n 1, 1) := by decide +kernel
theorem dd_N_append_19 : decode bb_N_append 19 = .ok (.bipush 57, 2) := by decide +kernel
theorem dd_N_append_21 : decode bb_N_append 21 = .ok (.if_icmp .gt 7, 3) := by decide +kernel
theorem dd_N_append_24 : decode bb_N_append 24 = .ok (.iconst 1, 1) := by decide +kernel
theorem dd_N_append_25 : decode bb_N_append 25 = .ok (.goto 4, 3) := by decide +kernel
theorem dd_N_append_28 : decode bb_N_append 28 = .ok (.iconst 0, 1) := by decide +kernel
theorem dd_N_append_29 : decode bb_N_append 29 = .ok (.istore_n 2, 1) := by decide +kernel
theorem dd_N_append_30 : decode bb_N_append 30 = .ok (.iload_n 2, 1) := by decide +kernel
theorem dd_N_append_31 : decode bb_N_append 31 = .ok (.ifCond .eq 12, 3) := by decide +kernel
theorem dd_N_append_34 : decode bb_N_append 34 = .ok (.aload_n 0, 1) := by decide +kernel
theorem dd_N_append_35 : decode bb_N_append 35 = .ok (.getfield 15, 3) := by decide +kernel
theorem dd_N_append_38 : decode bb_N_append 38 = .ok (.bipush 8, 2) := by decide +kernel
theorem dd_N_append_40 : decode bb_N_append 40 = .ok (.if_icmp .lt 5, 3) := by decide +kernel
theorem dd_N_append_43 : decode bb_N_append 43 = .ok (.iconst 0, 1) := by decide +kernel
theorem dd_N_append_44 : decode bb_N_append 44 = .ok (.ireturn, 1) := by decide +kernel
theorem dd_N_append_45 : decode bb_N_append 45 = .ok (.aload_n 0, 1) := by decide +kernel
theorem dd_N_append_46 : decode bb_N_append 46 = .ok (.getfield 9, 3) := by decide +kernel
theorem dd_N_append_49 : decode bb_N_append 49 = .ok (.aload_n 0, 1) := by decide +kernel
theorem dd_N_append_50 : decode bb_N_append 50 = .ok (.getfield 15, 3) := by decide +kernel
theorem dd_N_append_53 : decode bb_N_append 53 = .ok (.iload_n 1, 1) := by decide +kernel
theorem dd_N_append_54 : decode bb_N_append 54 = .ok (.iastore, 1) := by decide +kernel
theorem dd_N_append_55 : decode bb_N_append 55 = .ok (.aload_n 0, 1) := by decide +kernel
theorem dd_N_append_56 : decode bb_N_append 56 = .ok (.dup, 1) := by decide +kernel
theorem dd_N_append_57 : decode bb_N_append 57 = .ok (.getfield 15, 3) := by decide +kernel
theorem dd_N_append_60 : decode bb_N_append 60 = .ok (.iconst 1, 1) := by decide +kernel
theorem dd_N_append_61 : decode bb_N_append 61 = .ok (.iadd, 1) := by decide +kernel
theorem dd_N_append_62 : decode bb_N_append 62 = .ok (.putfield 15, 3) := by decide +kernel
theorem dd_N_append_65 : decode bb_N_append 65 = .ok (.iconst 1, 1) := by decide +kernel
theorem dd_N_append_66 : decode bb_N_append 66 = .ok (.ireturn, 1) := by decide +kernel
theorem dd_N_clear_0 : decode bb_N_clear 0 = .ok (.aload_n 0, 1) := by decide +kernel
theorem dd_N_clear_1 : decode bb_N_clear 1 = .ok (.iconst 0, 1) := by decide +kernel
theorem dd_N_clear_2 : decode bb_N_clear 2 = .ok (.putfield 15, 3) := by decide +kernel
theorem dd_N_clear_5 : decode bb_N_clear 5 = .ok (.return_, 1) := by decide +kernel
theorem dd_N_copyFrom_0 : decode bb_N_copyFrom 0 = .ok (.aload_n 1, 1) := by decide +kernel
theorem dd_N_copyFrom_1 : decode bb_N_copyFrom 1 = .ok (.getfield 9, 3) := by decide +kernel
theorem dd_N_copyFrom_4 : decode bb_N_copyFrom 4 = .ok (.iconst 0, 1) := by decide +kernel
theorem dd_N_copyFrom_5 : decode bb_N_copyFrom 5 = .ok (.aload_n 0, 1) := by decide +kernel
theorem dd_N_copyFrom_6 : decode bb_N_copyFrom 6 = .ok (.getfield 9, 3) := by decide +kernel
theorem dd_N_copyFrom_9 : decode bb_N_copyFrom 9 = .ok (.iconst 0, 1) := by decide +kernel
theorem dd_N_copyFrom_10 : decode bb_N_copyFrom 10 = .ok (.bipush 8, 2) := by decide +kernel
theorem dd_N_copyFrom_12 : decode bb_N_copyFrom 12 = .ok (.invokestatic 19, 3) := by decide +kernel
theorem dd_N_copyFrom_15 : decode bb_N_copyFrom 15 = .ok (.aload_n 0, 1) := by decide +kernel
theorem dd_N_copyFrom_16 : decode bb_N_copyFrom 16 = .ok (.aload_n 1, 1) := by decide +kernel
theorem dd_N_copyFrom_17 : decode bb_N_copyFrom 17 = .ok (.getfield 15, 3) := by decide +kernel
theorem dd_N_copyFrom_20 : decode bb_N_copyFrom 20 = .ok (.putfield 15, 3) := by decide +kernel
theorem dd_N_copyFrom_23 : decode bb_N_copyFrom 23 = .ok (.return_, 1) := by decide +kernel
theorem dd_N_compare_0 : decode bb_N_compare 0 = .ok (.aload_n 0, 1) := by decide +kernel
theorem dd_N_compare_1 : decode bb_N_compare 1 = .ok (.getfield 15, 3) := by decide +kernel
theorem dd_N_compare_4 : decode bb_N_compare 4 = .ok (.aload_n 1, 1) := by decide +kernel
theorem dd_N_compare_5 : decode bb_N_compare 5 = .ok (.getfield 15, 3) := by decide +kernel
theorem dd_N_compare_8 : decode bb_N_compare 8 = .ok (.invokestatic 25, 3) := by decide +kernel
theorem dd_N_compare_11 : decode bb_N_compare 11 = .ok (.istore_n 2, 1) := by decide +kernel
theorem dd_N_compare_12 : decode bb_N_compare 12 = .ok (.iconst 0, 1) := by decide +kernel
theorem dd_N_compare_13 : decode bb_N_compare 13 = .ok (.istore_n 3, 1) := by decide +kernel
theorem dd_N_compare_14 : decode bb_N_compare 14 = .ok (.iload_n 3, 1) := by decide +kernel
theorem dd_N_compare_15 : decode bb_N_compare 15 = .ok (.iload_n 2, 1) := by decide +kernel
theorem dd_N_compare_16 : decode bb_N_compare 16 = .ok (.if_icmp .ge 38, 3) := by decide +kernel
theorem dd_N_compare_19 : decode bb_N_compare 19 = .ok (.aload_n 0, 1) := by decide +kernel
theorem dd_N_compare_20 : decode bb_N_compare 20 = .ok (.getfield 9, 3) := by decide +kernel
theorem dd_N_compare_23 : decode bb_N_compare 23 = .ok (.iload_n 3, 1) := by decide +kernel
theorem dd_N_compare_24 : decode bb_N_compare 24 = .ok (.iaload, 1) := by decide +kernel
theorem dd_N_compare_25 : decode bb_N_compare 25 = .ok (.aload_n 1, 1) := by decide +kernel
theorem dd_N_compare_26 : decode bb_N_compare 26 = .ok (.getfield 9, 3) := by decide +kernel
theorem dd_N_compare_29 : decode bb_N_compare 29 = .ok (.iload_n 3, 1) := by decide +kernel
theorem dd_N_compare_30 : decode bb_N_compare 30 = .ok (.iaload, 1) := by decide +kernel
theorem dd_N_compare_31 : decode bb_N_compare 31 = .ok (.if_icmp .eq 17, 3) := by decide +kernel
theorem dd_N_compare_34 : decode bb_N_compare 34 = .ok (.aload_n 0, 1) := by decide +kernel
theorem dd_N_compare_35 : decode bb_N_compare 35 = .ok (.getfield 9, 3) := by decide +kernel
theorem dd_N_compare_38 : decode bb_N_compare 38 = .ok (.iload_n 3, 1) := by decide +kernel
theorem dd_N_compare_39 : decode bb_N_compare 39 = .ok (.iaload, 1) := by decide +kernel
theorem dd_N_compare_40 : decode bb_N_compare 40 = .ok (.aload_n 1, 1) := by decide +kernel
theorem dd_N_compare_41 : decode bb_N_compare 41 = .ok (.getfield 9, 3) := by decide +kernel
theorem dd_N_compare_44 : decode bb_N_compare 44 = .ok (.iload_n 3, 1) := by decide +kernel
theorem dd_N_compare_45 : decode bb_N_compare 45 = .ok (.iaload, 1) := by decide +kernel
theorem dd_N_compare_46 : decode bb_N_compare 46 = .ok (.isub, 1) := by decide +kernel
theorem dd_N_compare_47 : decode bb_N_compare 47 = .ok (.ireturn, 1) := by decide +kernel
theorem dd_N_compare_48 : decode bb_N_compare 48 = .ok (.iinc 3 1, 3) := by decide +kernel
theorem dd_N_compare_51 : decode bb_N_compare 51 = .ok (.goto (-37), 3) := by decide +kernel
theorem dd_N_compare_54 : decode bb_N_compare 54 = .ok (.aload_n 0, 1) := by decide +kernel
theorem dd_N_compare_55 : decode bb_N_compare 55 = .ok (.getfield 15, 3) := by decide +kernel
theorem dd_N_compare_58 : decode bb_N_compare 58 = .ok (.aload_n 1, 1) := by decide +kernel
theorem dd_N_compare_59 : decode bb_N_compare 59 = .ok (.getfield 15, 3) := by decide +kernel
theorem dd_N_compare_62 : decode bb_N_compare 62 = .ok (.isub, 1) := by decide +kernel
theorem dd_N_compare_63 : decode bb_N_compare 63 = .ok (.ireturn, 1) := by decide +kernel
theorem dd_H_init_0 : decode bb_H_init 0 = .ok (.aload_n 0, 1) := by decide +kernel
theorem dd_H_init_1 : decode bb_H_init 1 = .ok (.invokespecial 3, 3) := by decide +kernel
theorem dd_H_init_4 : decode bb_H_init 4 = .ok (.aload_n 0, 1) := by decide +kernel
theorem dd_H_init_5 : decode bb_H_init 5 = .ok (.new 9, 3) := by decide +kernel
theorem dd_H_init_8 : decode bb_H_init 8 = .ok (.dup, 1) := by decide +kernel
theorem dd_H_init_9 : decode bb_H_init 9 = .ok (.invokespecial 11, 3) := by decide +kernel
theorem dd_H_init_12 : decode bb_H_init 12 = .ok (.putfield 12, 3) := by decide +kernel
theorem dd_H_init_15 : decode bb_H_init 15 = .ok (.aload_n 0, 1) := by decide +kernel
theorem dd_H_init_16 : decode bb_H_init 16 = .ok (.bipush 54, 2) := by decide +kernel
theorem dd_H_init_18 : decode bb_H_init 18 = .ok (.newarray .int, 2) := by decide +kernel
theorem dd_H_init_20 : decode bb_H_init 20 = .ok (.putfield 18, 3) := by decide +kernel
theorem dd_H_init_23 : decode bb_H_init 23 = .ok (.aload_n 0, 1) := by decide +kernel
theorem dd_H_init_24 : decode bb_H_init 24 = .ok (.new 22, 3) := by decide +kernel
theorem dd_H_init_27 : decode bb_H_init 27 = .ok (.dup, 1) := by decide +kernel
theorem dd_H_init_28 : decode bb_H_init 28 = .ok (.invokespecial 24, 3) := by decide +kernel
theorem dd_H_init_31 : decode bb_H_init 31 = .ok (.putfield 25, 3) := by decide +kernel
theorem dd_H_init_34 : decode bb_H_init 34 = .ok (.return_, 1) := by decide +kernel
theorem dd_H_become_0 : decode bb_H_become 0 = .ok (.aload_n 0, 1) := by decide +kernel
theorem dd_H_become_1 : decode bb_H_become 1 = .ok (.iload_n 1, 1) := by decide +kernel
theorem dd_H_become_2 : decode bb_H_become 2 = .ok (.putfield 29, 3) := by decide +kernel
theorem dd_H_become_5 : decode bb_H_become 5 = .ok (.aload_n 0, 1) := by decide +kernel
theorem dd_H_become_6 : decode bb_H_become 6 = .ok (.iload_n 2, 1) := by decide +kernel
theorem dd_H_become_7 : decode bb_H_become 7 = .ok (.putfield 33, 3) := by decide +kernel
theorem dd_H_become_10 : decode bb_H_become 10 = .ok (.aload_n 0, 1) := by decide +kernel
theorem dd_H_become_11 : decode bb_H_become 11 = .ok (.iload_n 1, 1) := by decide +kernel
theorem dd_H_become_12 : decode bb_H_become 12 = .ok (.iconst 1, 1) := by decide +kernel
theorem dd_H_become_13 : decode bb_H_become 13 = .ok (.if_icmp .ne 7, 3) := by decide +kernel
theorem dd_H_become_16 : decode bb_H_become 16 = .ok (.iconst 2, 1) := by decide +kernel
theorem dd_H_become_17 : decode bb_H_become 17 = .ok (.goto 13, 3) := by decide +kernel
theorem dd_H_become_20 : decode bb_H_become 20 = .ok (.iload_n 1, 1) := by decide +kernel
theorem dd_H_become_21 : decode bb_H_become 21 = .ok (.iconst 2, 1) := by decide +kernel
theorem dd_H_become_22 : decode bb_H_become 22 = .ok (.if_icmp .ne 7, 3) := by decide +kernel
theorem dd_H_become_25 : decode bb_H_become 25 = .ok (.iconst 4, 1) := by decide +kernel
theorem dd_H_become_26 : decode bb_H_become 26 = .ok (.goto 4, 3) := by decide +kernel
theorem dd_H_become_29 : decode bb_H_become 29 = .ok (.iconst 0, 1) := by decide +kernel
theorem dd_H_become_30 : decode bb_H_become 30 = .ok (.putfield 36, 3) := by decide +kernel
theorem dd_H_become_33 : decode bb_H_become 33 = .ok (.aload_n 0, 1) := by decide +kernel
theorem dd_H_become_34 : decode bb_H_become 34 = .ok (.iconst 0, 1) := by decide +kernel
theorem dd_H_become_35 : decode bb_H_become 35 = .ok (.putfield 39, 3) := by decide +kernel
theorem dd_H_become_38 : decode bb_H_become 38 = .ok (.aload_n 0, 1) := by decide +kernel
theorem dd_H_become_39 : decode bb_H_become 39 = .ok (.getfield 12, 3) := by decide +kernel
theorem dd_H_become_42 : decode bb_H_become 42 = .ok (.invokevirtual 42, 3) := by decide +kernel
theorem dd_H_become_45 : decode bb_H_become 45 = .ok (.aload_n 0, 1) := by decide +kernel
theorem dd_H_become_46 : decode bb_H_become 46 = .ok (.getfield 25, 3) := by decide +kernel
theorem dd_H_become_49 : decode bb_H_become 49 = .ok (.iconst 0, 1) := by decide +kernel
theorem dd_H_become_50 : decode bb_H_become 50 = .ok (.putfield 45, 3) := by decide +kernel
theorem dd_H_become_53 : decode bb_H_become 53 = .ok (.return_, 1) := by decide +kernel
theorem dd_H_takeNextNumber_0 : decode bb_H_takeNextNumber 0 = .ok (.aload_n 0, 1) := by decide +kernel
theorem dd_H_takeNextNumber_1 : decode bb_H_takeNextNumber 1 = .ok (.aload_n 0, 1) := by decide +kernel
theorem dd_H_takeNextNumber_2 : decode bb_H_takeNextNumber 2 = .ok (.getfield 48, 3) := by decide +kernel
theorem dd_H_takeNextNumber_5 : decode bb_H_takeNextNumber 5 = .ok (.ldc 51, 2) := by decide +kernel
theorem dd_H_takeNextNumber_7 : decode bb_H_takeNextNumber 7 = .ok (.if_icmp .lt 7, 3) := by decide +kernel
theorem dd_H_takeNextNumber_10 : decode bb_H_takeNextNumber 10 = .ok (.iconst 1, 1) := by decide +kernel
theorem dd_H_takeNextNumber_11 : decode bb_H_takeNextNumber 11 = .ok (.goto 9, 3) := by decide +kernel
theorem dd_H_takeNextNumber_14 : decode bb_H_takeNextNumber 14 = .ok (.aload_n 0, 1) := by decide +kernel
theorem dd_H_takeNextNumber_15 : decode bb_H_takeNextNumber 15 = .ok (.getfield 48, 3) := by decide +kernel
theorem dd_H_takeNextNumber_18 : decode bb_H_takeNextNumber 18 = .ok (.iconst 1, 1) := by decide +kernel
theorem dd_H_takeNextNumber_19 : decode bb_H_takeNextNumber 19 = .ok (.iadd, 1) := by decide +kernel
theorem dd_H_takeNextNumber_20 : decode bb_H_takeNextNumber 20 = .ok (.putfield 48, 3) := by decide +kernel
theorem dd_H_takeNextNumber_23 : decode bb_H_takeNextNumber 23 = .ok (.return_, 1) := by decide +kernel
theorem dd_H_nameBytes_0 : decode bb_H_nameBytes 0 = .ok (.aload_n 0, 1) := by decide +kernel
theorem dd_H_nameBytes_1 : decode bb_H_nameBytes 1 = .ok (.getfield 12, 3) := by decide +kernel
theorem dd_H_nameBytes_4 : decode bb_H_nameBytes 4 = .ok (.getfield 52, 3) := by decide +kernel
theorem dd_H_nameBytes_7 : decode bb_H_nameBytes 7 = .ok (.ifCond .ne 7, 3) := by decide +kernel
theorem dd_H_nameBytes_10 : decode bb_H_nameBytes 10 = .ok (.iconst 0, 1) := by decide +kernel
theorem dd_H_nameBytes_11 : decode bb_H_nameBytes 11 = .ok (.goto 12, 3) := by decide +kernel
theorem dd_H_nameBytes_14 : decode bb_H_nameBytes 14 = .ok (.iconst 2, 1) := by decide +kernel
theorem dd_H_nameBytes_15 : decode bb_H_nameBytes 15 = .ok (.aload_n 0, 1) := by decide +kernel
theorem dd_H_nameBytes_16 : decode bb_H_nameBytes 16 = .ok (.getfield 12, 3) := by decide +kernel
theorem dd_H_nameBytes_19 : decode bb_H_nameBytes 19 = .ok (.getfield 52, 3) := by decide +kernel
theorem dd_H_nameBytes_22 : decode bb_H_nameBytes 22 = .ok (.iadd, 1) := by decide +kernel
theorem dd_H_nameBytes_23 : decode bb_H_nameBytes 23 = .ok (.ireturn, 1) := by decide +kernel
theorem dd_H_dataBytes_0 : decode bb_H_dataBytes 0 = .ok (.aload_n 0, 1) := by decide +kernel
theorem dd_H_dataBytes_1 : decode bb_H_dataBytes 1 = .ok (.getfield 36, 3) := by decide +kernel
theorem dd_H_dataBytes_4 : decode bb_H_dataBytes 4 = .ok (.ifCond .ne 5, 3) := by decide +kernel
theorem dd_H_dataBytes_7 : decode bb_H_dataBytes 7 = .ok (.iconst 0, 1) := by decide +kernel
theorem dd_H_dataBytes_8 : decode bb_H_dataBytes 8 = .ok (.ireturn, 1) := by decide +kernel
theorem dd_H_dataBytes_9 : decode bb_H_dataBytes 9 = .ok (.aload_n 0, 1) := by decide +kernel
theorem dd_H_dataBytes_10 : decode bb_H_dataBytes 10 = .ok (.getfield 36, 3) := by decide +kernel
theorem dd_H_dataBytes_13 : decode bb_H_dataBytes 13 = .ok (.iconst 3, 1) := by decide +kernel
theorem dd_H_dataBytes_14 : decode bb_H_dataBytes 14 = .ok (.if_icmp .ne 13, 3) := by decide +kernel
theorem dd_H_dataBytes_17 : decode bb_H_dataBytes 17 = .ok (.aload_n 0, 1) := by decide +kernel
theorem dd_H_dataBytes_18 : decode bb_H_dataBytes 18 = .ok (.getfield 25, 3) := by decide +kernel
theorem dd_H_dataBytes_21 : decode bb_H_dataBytes 21 = .ok (.invokevirtual 55, 3) := by decide +kernel
theorem dd_H_dataBytes_24 : decode bb_H_dataBytes 24 = .ok (.goto 9, 3) := by decide +kernel
theorem dd_H_dataBytes_27 : decode bb_H_dataBytes 27 = .ok (.iconst 2, 1) := by decide +kernel
theorem dd_H_dataBytes_28 : decode bb_H_dataBytes 28 = .ok (.aload_n 0, 1) := by decide +kernel
theorem dd_H_dataBytes_29 : decode bb_H_dataBytes 29 = .ok (.getfield 39, 3) := by decide +kernel
theorem dd_H_dataBytes_32 : decode bb_H_dataBytes 32 = .ok (.iadd, 1) := by decide +kernel
theorem dd_H_dataBytes_33 : decode bb_H_dataBytes 33 = .ok (.ireturn, 1) := by decide +kernel
theorem dd_H_attributeBytes_0 : decode bb_H_attributeBytes 0 = .ok (.aload_n 0, 1) := by decide +kernel
theorem dd_H_attributeBytes_1 : decode bb_H_attributeBytes 1 = .ok (.invokevirtual 59, 3) := by decide +kernel
theorem dd_H_attributeBytes_4 : decode bb_H_attributeBytes 4 = .ok (.aload_n 0, 1) := by decide +kernel
theorem dd_H_attributeBytes_5 : decode bb_H_attributeBytes 5 = .ok (.invokevirtual 62, 3) := by decide +kernel
theorem dd_H_attributeBytes_8 : decode bb_H_attributeBytes 8 = .ok (.iadd, 1) := by decide +kernel
theorem dd_H_attributeBytes_9 : decode bb_H_attributeBytes 9 = .ok (.ireturn, 1) := by decide +kernel
theorem dd_H_mostInside_0 : decode bb_H_mostInside 0 = .ok (.bipush 54, 2) := by decide +kernel
theorem dd_H_mostInside_2 : decode bb_H_mostInside 2 = .ok (.aload_n 0, 1) := by decide +kernel
theorem dd_H_mostInside_3 : decode bb_H_mostInside 3 = .ok (.invokevirtual 59, 3) := by decide +kernel
theorem dd_H_mostInside_6 : decode bb_H_mostInside 6 = .ok (.isub, 1) := by decide +kernel
theorem dd_H_mostInside_7 : decode bb_H_mostInside 7 = .ok (.iconst 2, 1) := by decide +kernel
theorem dd_H_mostInside_8 : decode bb_H_mostInside 8 = .ok (.isub, 1) := by decide +kernel
theorem dd_H_mostInside_9 : decode bb_H_mostInside 9 = .ok (.ireturn, 1) := by decide +kernel
theorem dd_H_putInside_0 : decode bb_H_putInside 0 = .ok (.aload_n 0, 1) := by decide +kernel
theorem dd_H_putInside_1 : decode bb_H_putInside 1 = .ok (.getfield 39, 3) := by decide +kernel
theorem dd_H_putInside_4 : decode bb_H_putInside 4 = .ok (.istore 5, 2) := by decide +kernel
theorem dd_H_putInside_6 : decode bb_H_putInside 6 = .ok (.iload 5, 2) := by decide +kernel
theorem dd_H_putInside_8 : decode bb_H_putInside 8 = .ok (.iload_n 1, 1) := by decide +kernel
theorem dd_H_putInside_9 : decode bb_H_putInside 9 = .ok (.if_icmp .ge 17, 3) := by decide +kernel
theorem dd_H_putInside_12 : decode bb_H_putInside 12 = .ok (.aload_n 0, 1) := by decide +kernel
theorem dd_H_putInside_13 : decode bb_H_putInside 13 = .ok (.getfield 18, 3) := by decide +kernel
theorem dd_H_putInside_16 : decode bb_H_putInside 16 = .ok (.iload 5, 2) := by decide +kernel
theorem dd_H_putInside_18 : decode bb_H_putInside 18 = .ok (.iconst 0, 1) := by decide +kernel
theorem dd_H_putInside_19 : decode bb_H_putInside 19 = .ok (.iastore, 1) := by decide +kernel
theorem dd_H_putInside_20 : decode bb_H_putInside 20 = .ok (.iinc 5 1, 3) := by decide +kernel
theorem dd_H_putInside_23 : decode bb_H_putInside 23 = .ok (.goto (-17), 3) := by decide +kernel
theorem dd_H_putInside_26 : decode bb_H_putInside 26 = .ok (.iconst 0, 1) := by decide +kernel
theorem dd_H_putInside_27 : decode bb_H_putInside 27 = .ok (.istore 5, 2) := by decide +kernel
theorem dd_H_putInside_29 : decode bb_H_putInside 29 = .ok (.iload 5, 2) := by decide +kernel
theorem dd_H_putInside_31 : decode bb_H_putInside 31 = .ok (.iload_n 2, 1) := by decide +kernel
theorem dd_H_putInside_32 : decode bb_H_putInside 32 = .ok (.if_icmp .ge 26, 3) := by decide +kernel
theorem dd_H_putInside_35 : decode bb_H_putInside 35 = .ok (.aload_n 0, 1) := by decide +kernel
theorem dd_H_putInside_36 : decode bb_H_putInside 36 = .ok (.getfield 18, 3) := by decide +kernel
theorem dd_H_putInside_39 : decode bb_H_putInside 39 = .ok (.iload_n 1, 1) := by decide +kernel
theorem dd_H_putInside_40 : decode bb_H_putInside 40 = .ok (.iload 5, 2) := by decide +kernel
theorem dd_H_putInside_42 : decode bb_H_putInside 42 = .ok (.iadd, 1) := by decide +kernel
theorem dd_H_putInside_43 : decode bb_H_putInside 43 = .ok (.iload_n 3, 1) := by decide +kernel
theorem dd_H_putInside_44 : decode bb_H_putInside 44 = .ok (.iload 5, 2) := by decide +kernel
theorem dd_H_putInside_46 : decode bb_H_putInside 46 = .ok (.iadd, 1) := by decide +kernel
theorem dd_H_putInside_47 : decode bb_H_putInside 47 = .ok (.sipush 255, 3) := by decide +kernel
theorem dd_H_putInside_50 : decode bb_H_putInside 50 = .ok (.iand, 1) := by decide +kernel
theorem dd_H_putInside_51 : decode bb_H_putInside 51 = .ok (.iastore, 1) := by decide +kernel
theorem dd_H_putInside_52 : decode bb_H_putInside 52 = .ok (.iinc 5 1, 3) := by decide +kernel
theorem dd_H_putInside_55 : decode bb_H_putInside 55 = .ok (.goto (-26), 3) := by decide +kernel
theorem dd_H_putInside_58 : decode bb_H_putInside 58 = .ok (.aload_n 0, 1) := by decide +kernel
theorem dd_H_putInside_59 : decode bb_H_putInside 59 = .ok (.iload 4, 2) := by decide +kernel
theorem dd_H_putInside_61 : decode bb_H_putInside 61 = .ok (.putfield 39, 3) := by decide +kernel
theorem dd_H_putInside_64 : decode bb_H_putInside 64 = .ok (.return_, 1) := by decide +kernel
theorem dd_H_hasList_0 : decode bb_H_hasList 0 = .ok (.aload_n 0, 1) := by decide +kernel
theorem dd_H_hasList_1 : decode bb_H_hasList 1 = .ok (.getfield 39, 3) := by decide +kernel
theorem dd_H_hasList_4 : decode bb_H_hasList 4 = .ok (.iload_n 2, 1) := by decide +kernel
theorem dd_H_hasList_5 : decode bb_H_hasList 5 = .ok (.if_icmp .eq 5, 3) := by decide +kernel
theorem dd_H_hasList_8 : decode bb_H_hasList 8 = .ok (.iconst 0, 1) := by decide +kernel
theorem dd_H_hasList_9 : decode bb_H_hasList 9 = .ok (.ireturn, 1) := by decide +kernel
theorem dd_H_hasList_10 : decode bb_H_hasList 10 = .ok (.iconst 0, 1) := by decide +kernel
theorem dd_H_hasList_11 : decode bb_H_hasList 11 = .ok (.istore_n 3, 1) := by decide +kernel
theorem dd_H_hasList_12 : decode bb_H_hasList 12 = .ok (.iload_n 3, 1) := by decide +kernel
theorem dd_H_hasList_13 : decode bb_H_hasList 13 = .ok (.iload_n 2, 1) := by decide +kernel
theorem dd_H_hasList_14 : decode bb_H_hasList 14 = .ok (.if_icmp .ge 23, 3) := by decide +kernel
theorem dd_H_hasList_17 : decode bb_H_hasList 17 = .ok (.aload_n 0, 1) := by decide +kernel
theorem dd_H_hasList_18 : decode bb_H_hasList 18 = .ok (.getfield 18, 3) := by decide +kernel
theorem dd_H_hasList_21 : decode bb_H_hasList 21 = .ok (.iload_n 3, 1) := by decide +kernel
theorem dd_H_hasList_22 : decode bb_H_hasList 22 = .ok (.iaload, 1) := by decide +kernel
theorem dd_H_hasList_23 : decode bb_H_hasList 23 = .ok (.aload_n 1, 1) := by decide +kernel
theorem dd_H_hasList_24 : decode bb_H_hasList 24 = .ok (.iload_n 3, 1) := by decide +kernel
theorem dd_H_hasList_25 : decode bb_H_hasList 25 = .ok (.iaload, 1) := by decide +kernel
theorem dd_H_hasList_26 : decode bb_H_hasList 26 = .ok (.if_icmp .eq 5, 3) := by decide +kernel
theorem dd_H_hasList_29 : decode bb_H_hasList 29 = .ok (.iconst 0, 1) := by decide +kernel
theorem dd_H_hasList_30 : decode bb_H_hasList 30 = .ok (.ireturn, 1) := by decide +kernel
theorem dd_H_hasList_31 : decode bb_H_hasList 31 = .ok (.iinc 3 1, 3) := by decide +kernel
theorem dd_H_hasList_34 : decode bb_H_hasList 34 = .ok (.goto (-22), 3) := by decide +kernel
theorem dd_H_hasList_37 : decode bb_H_hasList 37 = .ok (.iconst 1, 1) := by decide +kernel
theorem dd_H_hasList_38 : decode bb_H_hasList 38 = .ok (.ireturn, 1) := by decide +kernel
theorem dd_H_setList_0 : decode bb_H_setList 0 = .ok (.aload_n 1, 1) := by decide +kernel
theorem dd_H_setList_1 : decode bb_H_setList 1 = .ok (.iconst 0, 1) := by decide +kernel
theorem dd_H_setList_2 : decode bb_H_setList 2 = .ok (.aload_n 0, 1) := by decide +kernel
theorem dd_H_setList_3 : decode bb_H_setList 3 = .ok (.getfield 18, 3) := by decide +kernel
theorem dd_H_setList_6 : decode bb_H_setList 6 = .ok (.iconst 0, 1) := by decide +kernel
theorem dd_H_setList_7 : decode bb_H_setList 7 = .ok (.iload_n 2, 1) := by decide +kernel
theorem dd_H_setList_8 : decode bb_H_setList 8 = .ok (.invokestatic 65, 3) := by decide +kernel
theorem dd_H_setList_11 : decode bb_H_setList 11 = .ok (.aload_n 0, 1) := by decide +kernel
theorem dd_H_setList_12 : decode bb_H_setList 12 = .ok (.iload_n 2, 1) := by decide +kernel
theorem dd_H_setList_13 : decode bb_H_setList 13 = .ok (.putfield 39, 3) := by decide +kernel
theorem dd_H_setList_16 : decode bb_H_setList 16 = .ok (.return_, 1) := by decide +kernel
theorem dd_H_encode_0 : decode bb_H_encode 0 = .ok (.aload_n 1, 1) := by decide +kernel
theorem dd_H_encode_1 : decode bb_H_encode 1 = .ok (.iconst 0, 1) := by decide +kernel
theorem dd_H_encode_2 : decode bb_H_encode 2 = .ok (.invokestatic 71, 3) := by decide +kernel
theorem dd_H_encode_5 : decode bb_H_encode 5 = .ok (.aload_n 1, 1) := by decide +kernel
theorem dd_H_encode_6 : decode bb_H_encode 6 = .ok (.iconst 0, 1) := by decide +kernel
theorem dd_H_encode_7 : decode bb_H_encode 7 = .ok (.aload_n 0, 1) := by decide +kernel
theorem dd_H_encode_8 : decode bb_H_encode 8 = .ok (.getfield 29, 3) := by decide +kernel
theorem dd_H_encode_11 : decode bb_H_encode 11 = .ok (.iastore, 1) := by decide +kernel
theorem dd_H_encode_12 : decode bb_H_encode 12 = .ok (.aload_n 1, 1) := by decide +kernel
theorem dd_H_encode_13 : decode bb_H_encode 13 = .ok (.iconst 1, 1) := by decide +kernel
theorem dd_H_encode_14 : decode bb_H_encode 14 = .ok (.aload_n 0, 1) := by decide +kernel
theorem dd_H_encode_15 : decode bb_H_encode 15 = .ok (.getfield 33, 3) := by decide +kernel
theorem dd_H_encode_18 : decode bb_H_encode 18 = .ok (.iastore, 1) := by decide +kernel
theorem dd_H_encode_19 : decode bb_H_encode 19 = .ok (.aload_n 1, 1) := by decide +kernel
theorem dd_H_encode_20 : decode bb_H_encode 20 = .ok (.iconst 2, 1) := by decide +kernel
theorem dd_H_encode_21 : decode bb_H_encode 21 = .ok (.aload_n 0, 1) := by decide +kernel
theorem dd_H_encode_22 : decode bb_H_encode 22 = .ok (.getfield 48, 3) := by decide +kernel
theorem dd_H_encode_25 : decode bb_H_encode 25 = .ok (.invokestatic 77, 3) := by decide +kernel
theorem dd_H_encode_28 : decode bb_H_encode 28 = .ok (.aload_n 0, 1) := by decide +kernel
theorem dd_H_encode_29 : decode bb_H_encode 29 = .ok (.aload_n 1, 1) := by decide +kernel
theorem dd_H_encode_30 : decode bb_H_encode 30 = .ok (.aload_n 0, 1) := by decide +kernel
theorem dd_H_encode_31 : decode bb_H_encode 31 = .ok (.aload_n 1, 1) := by decide +kernel
theorem dd_H_encode_32 : decode bb_H_encode 32 = .ok (.invokevirtual 81, 3) := by decide +kernel
theorem dd_H_encode_35 : decode bb_H_encode 35 = .ok (.invokevirtual 85, 3) := by decide +kernel
theorem dd_H_encode_38 : decode bb_H_encode 38 = .ok (.istore_n 2, 1) := by decide +kernel
theorem dd_H_encode_39 : decode bb_H_encode 39 = .ok (.aload_n 1, 1) := by decide +kernel
theorem dd_H_encode_40 : decode bb_H_encode 40 = .ok (.bipush 8, 2) := by decide +kernel
theorem dd_H_encode_42 : decode bb_H_encode 42 = .ok (.iload_n 2, 1) := by decide +kernel
theorem dd_H_encode_43 : decode bb_H_encode 43 = .ok (.bipush 10, 2) := by decide +kernel
theorem dd_H_encode_45 : decode bb_H_encode 45 = .ok (.isub, 1) := by decide +kernel
theorem dd_H_encode_46 : decode bb_H_encode 46 = .ok (.iastore, 1) := by decide +kernel
theorem dd_H_encode_47 : decode bb_H_encode 47 = .ok (.aload_n 0, 1) := by decide +kernel
theorem dd_H_encode_48 : decode bb_H_encode 48 = .ok (.aload_n 1, 1) := by decide +kernel
theorem dd_H_encode_49 : decode bb_H_encode 49 = .ok (.iconst 4, 1) := by decide +kernel
theorem dd_H_encode_50 : decode bb_H_encode 50 = .ok (.bipush 30, 2) := by decide +kernel
theorem dd_H_encode_52 : decode bb_H_encode 52 = .ok (.invokevirtual 89, 3) := by decide +kernel
theorem dd_H_encode_55 : decode bb_H_encode 55 = .ok (.aload_n 0, 1) := by decide +kernel
theorem dd_H_encode_56 : decode bb_H_encode 56 = .ok (.aload_n 1, 1) := by decide +kernel
theorem dd_H_encode_57 : decode bb_H_encode 57 = .ok (.bipush 6, 2) := by decide +kernel
theorem dd_H_encode_59 : decode bb_H_encode 59 = .ok (.bipush 62, 2) := by decide +kernel
theorem dd_H_encode_61 : decode bb_H_encode 61 = .ok (.invokevirtual 89, 3) := by decide +kernel
theorem dd_H_encode_64 : decode bb_H_encode 64 = .ok (.return_, 1) := by decide +kernel
theorem dd_H_encodeName_0 : decode bb_H_encodeName 0 = .ok (.aload_n 0, 1) := by decide +kernel
theorem dd_H_encodeName_1 : decode bb_H_encodeName 1 = .ok (.getfield 12, 3) := by decide +kernel
theorem dd_H_encodeName_4 : decode bb_H_encodeName 4 = .ok (.getfield 52, 3) := by decide +kernel
theorem dd_H_encodeName_7 : decode bb_H_encodeName 7 = .ok (.ifCond .ne 6, 3) := by decide +kernel
theorem dd_H_encodeName_10 : decode bb_H_encodeName 10 = .ok (.bipush 10, 2) := by decide +kernel
theorem dd_H_encodeName_12 : decode bb_H_encodeName 12 = .ok (.ireturn, 1) := by decide +kernel
theorem dd_H_encodeName_13 : decode bb_H_encodeName 13 = .ok (.aload_n 1, 1) := by decide +kernel
theorem dd_H_encodeName_14 : decode bb_H_encodeName 14 = .ok (.bipush 10, 2) := by decide +kernel
theorem dd_H_encodeName_16 : decode bb_H_encodeName 16 = .ok (.iconst 1, 1) := by decide +kernel
theorem dd_H_encodeName_17 : decode bb_H_encodeName 17 = .ok (.iastore, 1) := by decide +kernel
theorem dd_H_encodeName_18 : decode bb_H_encodeName 18 = .ok (.aload_n 1, 1) := by decide +kernel
theorem dd_H_encodeName_19 : decode bb_H_encodeName 19 = .ok (.bipush 11, 2) := by decide +kernel
theorem dd_H_encodeName_21 : decode bb_H_encodeName 21 = .ok (.iconst 2, 1) := by decide +kernel
theorem dd_H_encodeName_22 : decode bb_H_encodeName 22 = .ok (.aload_n 0, 1) := by decide +kernel
theorem dd_H_encodeName_23 : decode bb_H_encodeName 23 = .ok (.getfield 12, 3) := by decide +kernel
theorem dd_H_encodeName_26 : decode bb_H_encodeName 26 = .ok (.getfield 52, 3) := by decide +kernel
theorem dd_H_encodeName_29 : decode bb_H_encodeName 29 = .ok (.iadd, 1) := by decide +kernel
theorem dd_H_encodeName_30 : decode bb_H_encodeName 30 = .ok (.iastore, 1) := by decide +kernel
theorem dd_H_encodeName_31 : decode bb_H_encodeName 31 = .ok (.aload_n 0, 1) := by decide +kernel
theorem dd_H_encodeName_32 : decode bb_H_encodeName 32 = .ok (.getfield 12, 3) := by decide +kernel
theorem dd_H_encodeName_35 : decode bb_H_encodeName 35 = .ok (.getfield 92, 3) := by decide +kernel
theorem dd_H_encodeName_38 : decode bb_H_encodeName 38 = .ok (.iconst 0, 1) := by decide +kernel
theorem dd_H_encodeName_39 : decode bb_H_encodeName 39 = .ok (.aload_n 1, 1) := by decide +kernel
theorem dd_H_encodeName_40 : decode bb_H_encodeName 40 = .ok (.bipush 12, 2) := by decide +kernel
theorem dd_H_encodeName_42 : decode bb_H_encodeName 42 = .ok (.aload_n 0, 1) := by decide +kernel
theorem dd_H_encodeName_43 : decode bb_H_encodeName 43 = .ok (.getfield 12, 3) := by decide +kernel
theorem dd_H_encodeName_46 : decode bb_H_encodeName 46 = .ok (.getfield 52, 3) := by decide +kernel
theorem dd_H_encodeName_49 : decode bb_H_encodeName 49 = .ok (.invokestatic 65, 3) := by decide +kernel
theorem dd_H_encodeName_52 : decode bb_H_encodeName 52 = .ok (.bipush 12, 2) := by decide +kernel
theorem dd_H_encodeName_54 : decode bb_H_encodeName 54 = .ok (.aload_n 0, 1) := by decide +kernel
theorem dd_H_encodeName_55 : decode bb_H_encodeName 55 = .ok (.getfield 12, 3) := by decide +kernel
theorem dd_H_encodeName_58 : decode bb_H_encodeName 58 = .ok (.getfield 52, 3) := by decide +kernel
theorem dd_H_encodeName_61 : decode bb_H_encodeName 61 = .ok (.iadd, 1) := by decide +kernel
theorem dd_H_encodeName_62 : decode bb_H_encodeName 62 = .ok (.ireturn, 1) := by decide +kernel
theorem dd_H_encodeData_0 : decode bb_H_encodeData 0 = .ok (.aload_n 0, 1) := by decide +kernel
theorem dd_H_encodeData_1 : decode bb_H_encodeData 1 = .ok (.getfield 36, 3) := by decide +kernel
theorem dd_H_encodeData_4 : decode bb_H_encodeData 4 = .ok (.ifCond .ne 5, 3) := by decide +kernel
theorem dd_H_encodeData_7 : decode bb_H_encodeData 7 = .ok (.iload_n 2, 1) := by decide +kernel
theorem dd_H_encodeData_8 : decode bb_H_encodeData 8 = .ok (.ireturn, 1) := by decide +kernel
theorem dd_H_encodeData_9 : decode bb_H_encodeData 9 = .ok (.iload_n 2, 1) := by decide +kernel
theorem dd_H_encodeData_10 : decode bb_H_encodeData 10 = .ok (.iconst 2, 1) := by decide +kernel
theorem dd_H_encodeData_11 : decode bb_H_encodeData 11 = .ok (.iadd, 1) := by decide +kernel
theorem dd_H_encodeData_12 : decode bb_H_encodeData 12 = .ok (.istore_n 3, 1) := by decide +kernel
theorem dd_H_encodeData_13 : decode bb_H_encodeData 13 = .ok (.aload_n 0, 1) := by decide +kernel
theorem dd_H_encodeData_14 : decode bb_H_encodeData 14 = .ok (.getfield 36, 3) := by decide +kernel
theorem dd_H_encodeData_17 : decode bb_H_encodeData 17 = .ok (.iconst 3, 1) := by decide +kernel
theorem dd_H_encodeData_18 : decode bb_H_encodeData 18 = .ok (.if_icmp .ne 29, 3) := by decide +kernel
theorem dd_H_encodeData_21 : decode bb_H_encodeData 21 = .ok (.aload_n 1, 1) := by decide +kernel
theorem dd_H_encodeData_22 : decode bb_H_encodeData 22 = .ok (.iload_n 3, 1) := by decide +kernel
theorem dd_H_encodeData_23 : decode bb_H_encodeData 23 = .ok (.aload_n 0, 1) := by decide +kernel
theorem dd_H_encodeData_24 : decode bb_H_encodeData 24 = .ok (.getfield 39, 3) := by decide +kernel
theorem dd_H_encodeData_27 : decode bb_H_encodeData 27 = .ok (.invokestatic 77, 3) := by decide +kernel
theorem dd_H_encodeData_30 : decode bb_H_encodeData 30 = .ok (.aload_n 0, 1) := by decide +kernel
theorem dd_H_encodeData_31 : decode bb_H_encodeData 31 = .ok (.getfield 25, 3) := by decide +kernel
theorem dd_H_encodeData_34 : decode bb_H_encodeData 34 = .ok (.aload_n 1, 1) := by decide +kernel
theorem dd_H_encodeData_35 : decode bb_H_encodeData 35 = .ok (.iload_n 3, 1) := by decide +kernel
theorem dd_H_encodeData_36 : decode bb_H_encodeData 36 = .ok (.iconst 2, 1) := by decide +kernel
theorem dd_H_encodeData_37 : decode bb_H_encodeData 37 = .ok (.iadd, 1) := by decide +kernel
theorem dd_H_encodeData_38 : decode bb_H_encodeData 38 = .ok (.invokevirtual 95, 3) := by decide +kernel
theorem dd_H_encodeData_41 : decode bb_H_encodeData 41 = .ok (.iconst 1, 1) := by decide +kernel
theorem dd_H_encodeData_42 : decode bb_H_encodeData 42 = .ok (.iadd, 1) := by decide +kernel
theorem dd_H_encodeData_43 : decode bb_H_encodeData 43 = .ok (.istore_n 3, 1) := by decide +kernel
theorem dd_H_encodeData_44 : decode bb_H_encodeData 44 = .ok (.goto 24, 3) := by decide +kernel
theorem dd_H_encodeData_47 : decode bb_H_encodeData 47 = .ok (.aload_n 0, 1) := by decide +kernel
theorem dd_H_encodeData_48 : decode bb_H_encodeData 48 = .ok (.getfield 18, 3) := by decide +kernel
theorem dd_H_encodeData_51 : decode bb_H_encodeData 51 = .ok (.iconst 0, 1) := by decide +kernel
theorem dd_H_encodeData_52 : decode bb_H_encodeData 52 = .ok (.aload_n 1, 1) := by decide +kernel
theorem dd_H_encodeData_53 : decode bb_H_encodeData 53 = .ok (.iload_n 3, 1) := by decide +kernel
theorem dd_H_encodeData_54 : decode bb_H_encodeData 54 = .ok (.aload_n 0, 1) := by decide +kernel
theorem dd_H_encodeData_55 : decode bb_H_encodeData 55 = .ok (.getfield 39, 3) := by decide +kernel
theorem dd_H_encodeData_58 : decode bb_H_encodeData 58 = .ok (.invokestatic 65, 3) := by decide +kernel
theorem dd_H_encodeData_61 : decode bb_H_encodeData 61 = .ok (.iload_n 3, 1) := by decide +kernel
theorem dd_H_encodeData_62 : decode bb_H_encodeData 62 = .ok (.aload_n 0, 1) := by decide +kernel
theorem dd_H_encodeData_63 : decode bb_H_encodeData 63 = .ok (.getfield 39, 3) := by decide +kernel
theorem dd_H_encodeData_66 : decode bb_H_encodeData 66 = .ok (.iadd, 1) := by decide +kernel
theorem dd_H_encodeData_67 : decode bb_H_encodeData 67 = .ok (.istore_n 3, 1) := by decide +kernel
theorem dd_H_encodeData_68 : decode bb_H_encodeData 68 = .ok (.aload_n 1, 1) := by decide +kernel
theorem dd_H_encodeData_69 : decode bb_H_encodeData 69 = .ok (.iload_n 2, 1) := by decide +kernel
theorem dd_H_encodeData_70 : decode bb_H_encodeData 70 = .ok (.aload_n 0, 1) := by decide +kernel
theorem dd_H_encodeData_71 : decode bb_H_encodeData 71 = .ok (.getfield 36, 3) := by decide +kernel
theorem dd_H_encodeData_74 : decode bb_H_encodeData 74 = .ok (.iastore, 1) := by decide +kernel
theorem dd_H_encodeData_75 : decode bb_H_encodeData 75 = .ok (.aload_n 1, 1) := by decide +kernel
theorem dd_H_encodeData_76 : decode bb_H_encodeData 76 = .ok (.iload_n 2, 1) := by decide +kernel
theorem dd_H_encodeData_77 : decode bb_H_encodeData 77 = .ok (.iconst 1, 1) := by decide +kernel
theorem dd_H_encodeData_78 : decode bb_H_encodeData 78 = .ok (.iadd, 1) := by decide +kernel
theorem dd_H_encodeData_79 : decode bb_H_encodeData 79 = .ok (.iload_n 3, 1) := by decide +kernel
theorem dd_H_encodeData_80 : decode bb_H_encodeData 80 = .ok (.iload_n 2, 1) := by decide +kernel
theorem dd_H_encodeData_81 : decode bb_H_encodeData 81 = .ok (.isub, 1) := by decide +kernel
theorem dd_H_encodeData_82 : decode bb_H_encodeData 82 = .ok (.iastore, 1) := by decide +kernel
theorem dd_H_encodeData_83 : decode bb_H_encodeData 83 = .ok (.iload_n 3, 1) := by decide +kernel
theorem dd_H_encodeData_84 : decode bb_H_encodeData 84 = .ok (.ireturn, 1) := by decide +kernel
theorem dd_H_setAside_0 : decode bb_H_setAside 0 = .ok (.aload_n 1, 1) := by decide +kernel
theorem dd_H_setAside_1 : decode bb_H_setAside 1 = .ok (.iload_n 2, 1) := by decide +kernel
theorem dd_H_setAside_2 : decode bb_H_setAside 2 = .ok (.aload_n 1, 1) := by decide +kernel
theorem dd_H_setAside_3 : decode bb_H_setAside 3 = .ok (.iload_n 3, 1) := by decide +kernel
theorem dd_H_setAside_4 : decode bb_H_setAside 4 = .ok (.invokestatic 98, 3) := by decide +kernel
theorem dd_H_setAside_7 : decode bb_H_setAside 7 = .ok (.invokestatic 77, 3) := by decide +kernel
theorem dd_H_setAside_10 : decode bb_H_setAside 10 = .ok (.aload_n 1, 1) := by decide +kernel
theorem dd_H_setAside_11 : decode bb_H_setAside 11 = .ok (.iload_n 3, 1) := by decide +kernel
theorem dd_H_setAside_12 : decode bb_H_setAside 12 = .ok (.aload_n 0, 1) := by decide +kernel
theorem dd_H_setAside_13 : decode bb_H_setAside 13 = .ok (.getfield 48, 3) := by decide +kernel
theorem dd_H_setAside_16 : decode bb_H_setAside 16 = .ok (.invokestatic 77, 3) := by decide +kernel
theorem dd_H_setAside_19 : decode bb_H_setAside 19 = .ok (.return_, 1) := by decide +kernel
theorem dd_H_decode_0 : decode bb_H_decode 0 = .ok (.aload_n 1, 1) := by decide +kernel
theorem dd_H_decode_1 : decode bb_H_decode 1 = .ok (.iconst 0, 1) := by decide +kernel
theorem dd_H_decode_2 : decode bb_H_decode 2 = .ok (.iaload, 1) := by decide +kernel
theorem dd_H_decode_3 : decode bb_H_decode 3 = .ok (.istore_n 2, 1) := by decide +kernel
theorem dd_H_decode_4 : decode bb_H_decode 4 = .ok (.aload_n 0, 1) := by decide +kernel
theorem dd_H_decode_5 : decode bb_H_decode 5 = .ok (.aload_n 1, 1) := by decide +kernel
theorem dd_H_decode_6 : decode bb_H_decode 6 = .ok (.iconst 2, 1) := by decide +kernel
theorem dd_H_decode_7 : decode bb_H_decode 7 = .ok (.invokestatic 98, 3) := by decide +kernel
theorem dd_H_decode_10 : decode bb_H_decode 10 = .ok (.putfield 48, 3) := by decide +kernel
theorem dd_H_decode_13 : decode bb_H_decode 13 = .ok (.aload_n 0, 1) := by decide +kernel
theorem dd_H_decode_14 : decode bb_H_decode 14 = .ok (.aload_n 1, 1) := by decide +kernel
theorem dd_H_decode_15 : decode bb_H_decode 15 = .ok (.invokevirtual 101, 3) := by decide +kernel
theorem dd_H_decode_18 : decode bb_H_decode 18 = .ok (.ifCond .ne 13, 3) := by decide +kernel
theorem dd_H_decode_21 : decode bb_H_decode 21 = .ok (.iload_n 2, 1) := by decide +kernel
theorem dd_H_decode_22 : decode bb_H_decode 22 = .ok (.iconst 1, 1) := by decide +kernel
theorem dd_H_decode_23 : decode bb_H_decode 23 = .ok (.if_icmp .eq 15, 3) := by decide +kernel
theorem dd_H_decode_26 : decode bb_H_decode 26 = .ok (.iload_n 2, 1) := by decide +kernel
theorem dd_H_decode_27 : decode bb_H_decode 27 = .ok (.iconst 2, 1) := by decide +kernel
theorem dd_H_decode_28 : decode bb_H_decode 28 = .ok (.if_icmp .eq 10, 3) := by decide +kernel
theorem dd_H_decode_31 : decode bb_H_decode 31 = .ok (.aload_n 0, 1) := by decide +kernel
theorem dd_H_decode_32 : decode bb_H_decode 32 = .ok (.iconst 0, 1) := by decide +kernel
theorem dd_H_decode_33 : decode bb_H_decode 33 = .ok (.iconst 0, 1) := by decide +kernel
theorem dd_H_decode_34 : decode bb_H_decode 34 = .ok (.invokevirtual 105, 3) := by decide +kernel
theorem dd_H_decode_37 : decode bb_H_decode 37 = .ok (.return_, 1) := by decide +kernel
theorem dd_H_decode_38 : decode bb_H_decode 38 = .ok (.aload_n 1, 1) := by decide +kernel
theorem dd_H_decode_39 : decode bb_H_decode 39 = .ok (.bipush 30, 2) := by decide +kernel
theorem dd_H_decode_41 : decode bb_H_decode 41 = .ok (.aload_n 1, 1) := by decide +kernel
theorem dd_H_decode_42 : decode bb_H_decode 42 = .ok (.iconst 4, 1) := by decide +kernel
theorem dd_H_decode_43 : decode bb_H_decode 43 = .ok (.invokestatic 98, 3) := by decide +kernel
theorem dd_H_decode_46 : decode bb_H_decode 46 = .ok (.invokestatic 77, 3) := by decide +kernel
theorem dd_H_decode_49 : decode bb_H_decode 49 = .ok (.aload_n 1, 1) := by decide +kernel
theorem dd_H_decode_50 : decode bb_H_decode 50 = .ok (.bipush 62, 2) := by decide +kernel
theorem dd_H_decode_52 : decode bb_H_decode 52 = .ok (.aload_n 1, 1) := by decide +kernel
theorem dd_H_decode_53 : decode bb_H_decode 53 = .ok (.bipush 6, 2) := by decide +kernel
theorem dd_H_decode_55 : decode bb_H_decode 55 = .ok (.invokestatic 98, 3) := by decide +kernel
theorem dd_H_decode_58 : decode bb_H_decode 58 = .ok (.invokestatic 77, 3) := by decide +kernel
theorem dd_H_decode_61 : decode bb_H_decode 61 = .ok (.aload_n 0, 1) := by decide +kernel
theorem dd_H_decode_62 : decode bb_H_decode 62 = .ok (.iload_n 2, 1) := by decide +kernel
theorem dd_H_decode_63 : decode bb_H_decode 63 = .ok (.aload_n 1, 1) := by decide +kernel
theorem dd_H_decode_64 : decode bb_H_decode 64 = .ok (.iconst 1, 1) := by decide +kernel
theorem dd_H_decode_65 : decode bb_H_decode 65 = .ok (.iaload, 1) := by decide +kernel
theorem dd_H_decode_66 : decode bb_H_decode 66 = .ok (.invokevirtual 105, 3) := by decide +kernel
theorem dd_H_decode_69 : decode bb_H_decode 69 = .ok (.aload_n 0, 1) := by decide +kernel
theorem dd_H_decode_70 : decode bb_H_decode 70 = .ok (.aload_n 1, 1) := by decide +kernel
theorem dd_H_decode_71 : decode bb_H_decode 71 = .ok (.invokevirtual 109, 3) := by decide +kernel
theorem dd_H_decode_74 : decode bb_H_decode 74 = .ok (.return_, 1) := by decide +kernel
theorem dd_H_isTorn_0 : decode bb_H_isTorn 0 = .ok (.aload_n 1, 1) := by decide +kernel
theorem dd_H_isTorn_1 : decode bb_H_isTorn 1 = .ok (.bipush 30, 2) := by decide +kernel
theorem dd_H_isTorn_3 : decode bb_H_isTorn 3 = .ok (.invokestatic 98, 3) := by decide +kernel
theorem dd_H_isTorn_6 : decode bb_H_isTorn 6 = .ok (.aload_n 0, 1) := by decide +kernel
theorem dd_H_isTorn_7 : decode bb_H_isTorn 7 = .ok (.getfield 48, 3) := by decide +kernel
theorem dd_H_isTorn_10 : decode bb_H_isTorn 10 = .ok (.if_icmp .ne 16, 3) := by decide +kernel
theorem dd_H_isTorn_13 : decode bb_H_isTorn 13 = .ok (.aload_n 1, 1) := by decide +kernel
theorem dd_H_isTorn_14 : decode bb_H_isTorn 14 = .ok (.bipush 62, 2) := by decide +kernel
theorem dd_H_isTorn_16 : decode bb_H_isTorn 16 = .ok (.invokestatic 98, 3) := by decide +kernel
theorem dd_H_isTorn_19 : decode bb_H_isTorn 19 = .ok (.aload_n 0, 1) := by decide +kernel
theorem dd_H_isTorn_20 : decode bb_H_isTorn 20 = .ok (.getfield 48, 3) := by decide +kernel
theorem dd_H_isTorn_23 : decode bb_H_isTorn 23 = .ok (.if_icmp .eq 7, 3) := by decide +kernel
theorem dd_H_isTorn_26 : decode bb_H_isTorn 26 = .ok (.iconst 1, 1) := by decide +kernel
theorem dd_H_isTorn_27 : decode bb_H_isTorn 27 = .ok (.goto 4, 3) := by decide +kernel
theorem dd_H_isTorn_30 : decode bb_H_isTorn 30 = .ok (.iconst 0, 1) := by decide +kernel
theorem dd_H_isTorn_31 : decode bb_H_isTorn 31 = .ok (.ireturn, 1) := by decide +kernel
end
section
theorem dd_H_decodeAttributes_0 : decode bb_H_decodeAttributes 0 = .ok (.bipush 10, 2) := by decide +kernel
theorem dd_H_decodeAttributes_2 : decode bb_H_decodeAttributes 2 = .ok (.aload_n 1, 1) := by decide +kernel
theorem dd_H_decodeAttributes_3 : decode bb_H_decodeAttributes 3 = .ok (.bipush 8, 2) := by decide +kernel
theorem dd_H_decodeAttributes_5 : decode bb_H_decodeAttributes 5 = .ok (.iaload, 1) := by decide +kernel
theorem dd_H_decodeAttributes_6 : decode bb_H_decodeAttributes 6 = .ok (.iadd, 1) := by decide +kernel
theorem dd_H_decodeAttributes_7 : decode bb_H_decodeAttributes 7 = .ok (.bipush 64, 2) := by decide +kernel
theorem dd_H_decodeAttributes_9 : decode bb_H_decodeAttributes 9 = .ok (.invokestatic 113, 3) := by decide +kernel
theorem dd_H_decodeAttributes_12 : decode bb_H_decodeAttributes 12 = .ok (.istore_n 2, 1) := by decide +kernel
theorem dd_H_decodeAttributes_13 : decode bb_H_decodeAttributes 13 = .ok (.bipush 10, 2) := by decide +kernel
theorem dd_H_decodeAttributes_15 : decode bb_H_decodeAttributes 15 = .ok (.istore_n 3, 1) := by decide +kernel
theorem dd_H_decodeAttributes_16 : decode bb_H_decodeAttributes 16 = .ok (.iload_n 3, 1) := by decide +kernel
theorem dd_H_decodeAttributes_17 : decode bb_H_decodeAttributes 17 = .ok (.iconst 2, 1) := by decide +kernel
theorem dd_H_decodeAttributes_18 : decode bb_H_decodeAttributes 18 = .ok (.iadd, 1) := by decide +kernel
theorem dd_H_decodeAttributes_19 : decode bb_H_decodeAttributes 19 = .ok (.iload_n 2, 1) := by decide +kernel
theorem dd_H_decodeAttributes_20 : decode bb_H_decodeAttributes 20 = .ok (.if_icmp .gt 34, 3) := by decide +kernel
theorem dd_H_decodeAttributes_23 : decode bb_H_decodeAttributes 23 = .ok (.iload_n 3, 1) := by decide +kernel
theorem dd_H_decodeAttributes_24 : decode bb_H_decodeAttributes 24 = .ok (.aload_n 1, 1) := by decide +kernel
theorem dd_H_decodeAttributes_25 : decode bb_H_decodeAttributes 25 = .ok (.iload_n 3, 1) := by decide +kernel
theorem dd_H_decodeAttributes_26 : decode bb_H_decodeAttributes 26 = .ok (.iconst 1, 1) := by decide +kernel
theorem dd_H_decodeAttributes_27 : decode bb_H_decodeAttributes 27 = .ok (.iadd, 1) := by decide +kernel
theorem dd_H_decodeAttributes_28 : decode bb_H_decodeAttributes 28 = .ok (.iaload, 1) := by decide +kernel
theorem dd_H_decodeAttributes_29 : decode bb_H_decodeAttributes 29 = .ok (.iconst 2, 1) := by decide +kernel
theorem dd_H_decodeAttributes_30 : decode bb_H_decodeAttributes 30 = .ok (.invokestatic 119, 3) := by decide +kernel
theorem dd_H_decodeAttributes_33 : decode bb_H_decodeAttributes 33 = .ok (.iadd, 1) := by decide +kernel
theorem dd_H_decodeAttributes_34 : decode bb_H_decodeAttributes 34 = .ok (.istore 4, 2) := by decide +kernel
theorem dd_H_decodeAttributes_36 : decode bb_H_decodeAttributes 36 = .ok (.aload_n 0, 1) := by decide +kernel
theorem dd_H_decodeAttributes_37 : decode bb_H_decodeAttributes 37 = .ok (.aload_n 1, 1) := by decide +kernel
theorem dd_H_decodeAttributes_38 : decode bb_H_decodeAttributes 38 = .ok (.iload_n 3, 1) := by decide +kernel
theorem dd_H_decodeAttributes_39 : decode bb_H_decodeAttributes 39 = .ok (.iload 4, 2) := by decide +kernel
theorem dd_H_decodeAttributes_41 : decode bb_H_decodeAttributes 41 = .ok (.iload_n 2, 1) := by decide +kernel
theorem dd_H_decodeAttributes_42 : decode bb_H_decodeAttributes 42 = .ok (.invokestatic 113, 3) := by decide +kernel
theorem dd_H_decodeAttributes_45 : decode bb_H_decodeAttributes 45 = .ok (.invokevirtual 122, 3) := by decide +kernel
theorem dd_H_decodeAttributes_48 : decode bb_H_decodeAttributes 48 = .ok (.iload 4, 2) := by decide +kernel
theorem dd_H_decodeAttributes_50 : decode bb_H_decodeAttributes 50 = .ok (.istore_n 3, 1) := by decide +kernel
theorem dd_H_decodeAttributes_51 : decode bb_H_decodeAttributes 51 = .ok (.goto (-35), 3) := by decide +kernel
theorem dd_H_decodeAttributes_54 : decode bb_H_decodeAttributes 54 = .ok (.return_, 1) := by decide +kernel
theorem dd_H_decodeAttribute_0 : decode bb_H_decodeAttribute 0 = .ok (.iload_n 2, 1) := by decide +kernel
theorem dd_H_decodeAttribute_1 : decode bb_H_decodeAttribute 1 = .ok (.iconst 2, 1) := by decide +kernel
theorem dd_H_decodeAttribute_2 : decode bb_H_decodeAttribute 2 = .ok (.iadd, 1) := by decide +kernel
theorem dd_H_decodeAttribute_3 : decode bb_H_decodeAttribute 3 = .ok (.istore 4, 2) := by decide +kernel
theorem dd_H_decodeAttribute_5 : decode bb_H_decodeAttribute 5 = .ok (.aload_n 1, 1) := by decide +kernel
theorem dd_H_decodeAttribute_6 : decode bb_H_decodeAttribute 6 = .ok (.iload_n 2, 1) := by decide +kernel
theorem dd_H_decodeAttribute_7 : decode bb_H_decodeAttribute 7 = .ok (.iaload, 1) := by decide +kernel
theorem dd_H_decodeAttribute_8 : decode bb_H_decodeAttribute 8 = .ok (.iconst 1, 1) := by decide +kernel
theorem dd_H_decodeAttribute_9 : decode bb_H_decodeAttribute 9 = .ok (.if_icmp .ne 34, 3) := by decide +kernel
theorem dd_H_decodeAttribute_12 : decode bb_H_decodeAttribute 12 = .ok (.iload 4, 2) := by decide +kernel
theorem dd_H_decodeAttribute_14 : decode bb_H_decodeAttribute 14 = .ok (.istore 5, 2) := by decide +kernel
theorem dd_H_decodeAttribute_16 : decode bb_H_decodeAttribute 16 = .ok (.iload 5, 2) := by decide +kernel
theorem dd_H_decodeAttribute_18 : decode bb_H_decodeAttribute 18 = .ok (.iload_n 3, 1) := by decide +kernel
theorem dd_H_decodeAttribute_19 : decode bb_H_decodeAttribute 19 = .ok (.if_icmp .ge 21, 3) := by decide +kernel
theorem dd_H_decodeAttribute_22 : decode bb_H_decodeAttribute 22 = .ok (.aload_n 0, 1) := by decide +kernel
theorem dd_H_decodeAttribute_23 : decode bb_H_decodeAttribute 23 = .ok (.getfield 12, 3) := by decide +kernel
theorem dd_H_decodeAttribute_26 : decode bb_H_decodeAttribute 26 = .ok (.aload_n 1, 1) := by decide +kernel
theorem dd_H_decodeAttribute_27 : decode bb_H_decodeAttribute 27 = .ok (.iload 5, 2) := by decide +kernel
theorem dd_H_decodeAttribute_29 : decode bb_H_decodeAttribute 29 = .ok (.iaload, 1) := by decide +kernel
theorem dd_H_decodeAttribute_30 : decode bb_H_decodeAttribute 30 = .ok (.invokevirtual 125, 3) := by decide +kernel
theorem dd_H_decodeAttribute_33 : decode bb_H_decodeAttribute 33 = .ok (.pop, 1) := by decide +kernel
theorem dd_H_decodeAttribute_34 : decode bb_H_decodeAttribute 34 = .ok (.iinc 5 1, 3) := by decide +kernel
theorem dd_H_decodeAttribute_37 : decode bb_H_decodeAttribute 37 = .ok (.goto (-21), 3) := by decide +kernel
theorem dd_H_decodeAttribute_40 : decode bb_H_decodeAttribute 40 = .ok (.goto 79, 3) := by decide +kernel
theorem dd_H_decodeAttribute_43 : decode bb_H_decodeAttribute 43 = .ok (.aload_n 1, 1) := by decide +kernel
theorem dd_H_decodeAttribute_44 : decode bb_H_decodeAttribute 44 = .ok (.iload_n 2, 1) := by decide +kernel
theorem dd_H_decodeAttribute_45 : decode bb_H_decodeAttribute 45 = .ok (.iaload, 1) := by decide +kernel
theorem dd_H_decodeAttribute_46 : decode bb_H_decodeAttribute 46 = .ok (.iconst 3, 1) := by decide +kernel
theorem dd_H_decodeAttribute_47 : decode bb_H_decodeAttribute 47 = .ok (.if_icmp .eq 36, 3) := by decide +kernel
theorem dd_H_decodeAttribute_50 : decode bb_H_decodeAttribute 50 = .ok (.aload_n 0, 1) := by decide +kernel
theorem dd_H_decodeAttribute_51 : decode bb_H_decodeAttribute 51 = .ok (.aload_n 1, 1) := by decide +kernel
theorem dd_H_decodeAttribute_52 : decode bb_H_decodeAttribute 52 = .ok (.iload_n 2, 1) := by decide +kernel
theorem dd_H_decodeAttribute_53 : decode bb_H_decodeAttribute 53 = .ok (.iaload, 1) := by decide +kernel
theorem dd_H_decodeAttribute_54 : decode bb_H_decodeAttribute 54 = .ok (.putfield 36, 3) := by decide +kernel
theorem dd_H_decodeAttribute_57 : decode bb_H_decodeAttribute 57 = .ok (.aload_n 0, 1) := by decide +kernel
theorem dd_H_decodeAttribute_58 : decode bb_H_decodeAttribute 58 = .ok (.iload_n 3, 1) := by decide +kernel
theorem dd_H_decodeAttribute_59 : decode bb_H_decodeAttribute 59 = .ok (.iload 4, 2) := by decide +kernel
theorem dd_H_decodeAttribute_61 : decode bb_H_decodeAttribute 61 = .ok (.isub, 1) := by decide +kernel
theorem dd_H_decodeAttribute_62 : decode bb_H_decodeAttribute 62 = .ok (.putfield 39, 3) := by decide +kernel
theorem dd_H_decodeAttribute_65 : decode bb_H_decodeAttribute 65 = .ok (.aload_n 1, 1) := by decide +kernel
theorem dd_H_decodeAttribute_66 : decode bb_H_decodeAttribute 66 = .ok (.iload 4, 2) := by decide +kernel
theorem dd_H_decodeAttribute_68 : decode bb_H_decodeAttribute 68 = .ok (.aload_n 0, 1) := by decide +kernel
theorem dd_H_decodeAttribute_69 : decode bb_H_decodeAttribute 69 = .ok (.getfield 18, 3) := by decide +kernel
theorem dd_H_decodeAttribute_72 : decode bb_H_decodeAttribute 72 = .ok (.iconst 0, 1) := by decide +kernel
theorem dd_H_decodeAttribute_73 : decode bb_H_decodeAttribute 73 = .ok (.aload_n 0, 1) := by decide +kernel
theorem dd_H_decodeAttribute_74 : decode bb_H_decodeAttribute 74 = .ok (.getfield 39, 3) := by decide +kernel
theorem dd_H_decodeAttribute_77 : decode bb_H_decodeAttribute 77 = .ok (.invokestatic 65, 3) := by decide +kernel
theorem dd_H_decodeAttribute_80 : decode bb_H_decodeAttribute 80 = .ok (.goto 39, 3) := by decide +kernel
theorem dd_H_decodeAttribute_83 : decode bb_H_decodeAttribute 83 = .ok (.iload 4, 2) := by decide +kernel
theorem dd_H_decodeAttribute_85 : decode bb_H_decodeAttribute 85 = .ok (.iconst 2, 1) := by decide +kernel
theorem dd_H_decodeAttribute_86 : decode bb_H_decodeAttribute 86 = .ok (.iadd, 1) := by decide +kernel
theorem dd_H_decodeAttribute_87 : decode bb_H_decodeAttribute 87 = .ok (.iload_n 3, 1) := by decide +kernel
theorem dd_H_decodeAttribute_88 : decode bb_H_decodeAttribute 88 = .ok (.if_icmp .gt 31, 3) := by decide +kernel
theorem dd_H_decodeAttribute_91 : decode bb_H_decodeAttribute 91 = .ok (.aload_n 0, 1) := by decide +kernel
theorem dd_H_decodeAttribute_92 : decode bb_H_decodeAttribute 92 = .ok (.iconst 3, 1) := by decide +kernel
theorem dd_H_decodeAttribute_93 : decode bb_H_decodeAttribute 93 = .ok (.putfield 36, 3) := by decide +kernel
theorem dd_H_decodeAttribute_96 : decode bb_H_decodeAttribute 96 = .ok (.aload_n 0, 1) := by decide +kernel
theorem dd_H_decodeAttribute_97 : decode bb_H_decodeAttribute 97 = .ok (.aload_n 1, 1) := by decide +kernel
theorem dd_H_decodeAttribute_98 : decode bb_H_decodeAttribute 98 = .ok (.iload 4, 2) := by decide +kernel
theorem dd_H_decodeAttribute_100 : decode bb_H_decodeAttribute 100 = .ok (.invokestatic 98, 3) := by decide +kernel
theorem dd_H_decodeAttribute_103 : decode bb_H_decodeAttribute 103 = .ok (.putfield 39, 3) := by decide +kernel
theorem dd_H_decodeAttribute_106 : decode bb_H_decodeAttribute 106 = .ok (.aload_n 0, 1) := by decide +kernel
theorem dd_H_decodeAttribute_107 : decode bb_H_decodeAttribute 107 = .ok (.getfield 25, 3) := by decide +kernel
theorem dd_H_decodeAttribute_110 : decode bb_H_decodeAttribute 110 = .ok (.aload_n 1, 1) := by decide +kernel
theorem dd_H_decodeAttribute_111 : decode bb_H_decodeAttribute 111 = .ok (.iload 4, 2) := by decide +kernel
theorem dd_H_decodeAttribute_113 : decode bb_H_decodeAttribute 113 = .ok (.iconst 2, 1) := by decide +kernel
theorem dd_H_decodeAttribute_114 : decode bb_H_decodeAttribute 114 = .ok (.iadd, 1) := by decide +kernel
theorem dd_H_decodeAttribute_115 : decode bb_H_decodeAttribute 115 = .ok (.iload_n 3, 1) := by decide +kernel
theorem dd_H_decodeAttribute_116 : decode bb_H_decodeAttribute 116 = .ok (.invokevirtual 129, 3) := by decide +kernel
theorem dd_H_decodeAttribute_119 : decode bb_H_decodeAttribute 119 = .ok (.return_, 1) := by decide +kernel
theorem dd_L_create_0 : decode bb_L_create 0 = .ok (.aload_n 3, 1) := by decide +kernel
theorem dd_L_create_1 : decode bb_L_create 1 = .ok (.iconst 0, 1) := by decide +kernel
theorem dd_L_create_2 : decode bb_L_create 2 = .ok (.aload_n 0, 1) := by decide +kernel
theorem dd_L_create_3 : decode bb_L_create 3 = .ok (.iload_n 1, 1) := by decide +kernel
theorem dd_L_create_4 : decode bb_L_create 4 = .ok (.iload_n 2, 1) := by decide +kernel
theorem dd_L_create_5 : decode bb_L_create 5 = .ok (.invokevirtual 7, 3) := by decide +kernel
theorem dd_L_create_8 : decode bb_L_create 8 = .ok (.i2l, 1) := by decide +kernel
theorem dd_L_create_9 : decode bb_L_create 9 = .ok (.lastore, 1) := by decide +kernel
theorem dd_L_create_10 : decode bb_L_create 10 = .ok (.goto 15, 3) := by decide +kernel
theorem dd_L_create_13 : decode bb_L_create 13 = .ok (.astore 4, 2) := by decide +kernel
theorem dd_L_create_15 : decode bb_L_create 15 = .ok (.iconst 1, 1) := by decide +kernel
theorem dd_L_create_16 : decode bb_L_create 16 = .ok (.ireturn, 1) := by decide +kernel
theorem dd_L_create_17 : decode bb_L_create 17 = .ok (.astore 4, 2) := by decide +kernel
theorem dd_L_create_19 : decode bb_L_create 19 = .ok (.iconst 2, 1) := by decide +kernel
theorem dd_L_create_20 : decode bb_L_create 20 = .ok (.ireturn, 1) := by decide +kernel
theorem dd_L_create_21 : decode bb_L_create 21 = .ok (.astore 4, 2) := by decide +kernel
theorem dd_L_create_23 : decode bb_L_create 23 = .ok (.iconst 3, 1) := by decide +kernel
theorem dd_L_create_24 : decode bb_L_create 24 = .ok (.ireturn, 1) := by decide +kernel
theorem dd_L_create_25 : decode bb_L_create 25 = .ok (.iconst 0, 1) := by decide +kernel
theorem dd_L_create_26 : decode bb_L_create 26 = .ok (.ireturn, 1) := by decide +kernel
theorem dd_L_write_0 : decode bb_L_write 0 = .ok (.aload 5, 2) := by decide +kernel
theorem dd_L_write_2 : decode bb_L_write 2 = .ok (.iconst 0, 1) := by decide +kernel
theorem dd_L_write_3 : decode bb_L_write 3 = .ok (.aload_n 0, 1) := by decide +kernel
theorem dd_L_write_4 : decode bb_L_write 4 = .ok (.iload_n 1, 1) := by decide +kernel
theorem dd_L_write_5 : decode bb_L_write 5 = .ok (.iload_n 2, 1) := by decide +kernel
theorem dd_L_write_6 : decode bb_L_write 6 = .ok (.iload_n 3, 1) := by decide +kernel
theorem dd_L_write_7 : decode bb_L_write 7 = .ok (.iload 4, 2) := by decide +kernel
theorem dd_L_write_9 : decode bb_L_write 9 = .ok (.invokevirtual 19, 3) := by decide +kernel
theorem dd_L_write_12 : decode bb_L_write 12 = .ok (.i2l, 1) := by decide +kernel
theorem dd_L_write_13 : decode bb_L_write 13 = .ok (.lastore, 1) := by decide +kernel
theorem dd_L_write_14 : decode bb_L_write 14 = .ok (.goto 15, 3) := by decide +kernel
theorem dd_L_write_17 : decode bb_L_write 17 = .ok (.astore 6, 2) := by decide +kernel
theorem dd_L_write_19 : decode bb_L_write 19 = .ok (.iconst 1, 1) := by decide +kernel
theorem dd_L_write_20 : decode bb_L_write 20 = .ok (.ireturn, 1) := by decide +kernel
theorem dd_L_write_21 : decode bb_L_write 21 = .ok (.astore 6, 2) := by decide +kernel
theorem dd_L_write_23 : decode bb_L_write 23 = .ok (.iconst 2, 1) := by decide +kernel
theorem dd_L_write_24 : decode bb_L_write 24 = .ok (.ireturn, 1) := by decide +kernel
theorem dd_L_write_25 : decode bb_L_write 25 = .ok (.astore 6, 2) := by decide +kernel
theorem dd_L_write_27 : decode bb_L_write 27 = .ok (.iconst 3, 1) := by decide +kernel
theorem dd_L_write_28 : decode bb_L_write 28 = .ok (.ireturn, 1) := by decide +kernel
theorem dd_L_write_29 : decode bb_L_write 29 = .ok (.iconst 0, 1) := by decide +kernel
theorem dd_L_write_30 : decode bb_L_write 30 = .ok (.ireturn, 1) := by decide +kernel
theorem dd_L_cut_0 : decode bb_L_cut 0 = .ok (.aload_n 3, 1) := by decide +kernel
theorem dd_L_cut_1 : decode bb_L_cut 1 = .ok (.iconst 0, 1) := by decide +kernel
theorem dd_L_cut_2 : decode bb_L_cut 2 = .ok (.aload_n 0, 1) := by decide +kernel
theorem dd_L_cut_3 : decode bb_L_cut 3 = .ok (.iload_n 1, 1) := by decide +kernel
theorem dd_L_cut_4 : decode bb_L_cut 4 = .ok (.iload_n 2, 1) := by decide +kernel
theorem dd_L_cut_5 : decode bb_L_cut 5 = .ok (.invokevirtual 23, 3) := by decide +kernel
theorem dd_L_cut_8 : decode bb_L_cut 8 = .ok (.i2l, 1) := by decide +kernel
theorem dd_L_cut_9 : decode bb_L_cut 9 = .ok (.lastore, 1) := by decide +kernel
theorem dd_L_cut_10 : decode bb_L_cut 10 = .ok (.goto 11, 3) := by decide +kernel
theorem dd_L_cut_13 : decode bb_L_cut 13 = .ok (.astore 4, 2) := by decide +kernel
theorem dd_L_cut_15 : decode bb_L_cut 15 = .ok (.iconst 1, 1) := by decide +kernel
theorem dd_L_cut_16 : decode bb_L_cut 16 = .ok (.ireturn, 1) := by decide +kernel
theorem dd_L_cut_17 : decode bb_L_cut 17 = .ok (.astore 4, 2) := by decide +kernel
theorem dd_L_cut_19 : decode bb_L_cut 19 = .ok (.iconst 2, 1) := by decide +kernel
theorem dd_L_cut_20 : decode bb_L_cut 20 = .ok (.ireturn, 1) := by decide +kernel
theorem dd_L_cut_21 : decode bb_L_cut 21 = .ok (.iconst 0, 1) := by decide +kernel
theorem dd_L_cut_22 : decode bb_L_cut 22 = .ok (.ireturn, 1) := by decide +kernel
theorem dd_L_remove_0 : decode bb_L_remove 0 = .ok (.aload_n 2, 1) := by decide +kernel
theorem dd_L_remove_1 : decode bb_L_remove 1 = .ok (.iconst 0, 1) := by decide +kernel
theorem dd_L_remove_2 : decode bb_L_remove 2 = .ok (.aload_n 0, 1) := by decide +kernel
theorem dd_L_remove_3 : decode bb_L_remove 3 = .ok (.iload_n 1, 1) := by decide +kernel
theorem dd_L_remove_4 : decode bb_L_remove 4 = .ok (.invokevirtual 27, 3) := by decide +kernel
theorem dd_L_remove_7 : decode bb_L_remove 7 = .ok (.i2l, 1) := by decide +kernel
theorem dd_L_remove_8 : decode bb_L_remove 8 = .ok (.lastore, 1) := by decide +kernel
theorem dd_L_remove_9 : decode bb_L_remove 9 = .ok (.goto 9, 3) := by decide +kernel
theorem dd_L_remove_12 : decode bb_L_remove 12 = .ok (.astore_n 3, 1) := by decide +kernel
theorem dd_L_remove_13 : decode bb_L_remove 13 = .ok (.iconst 1, 1) := by decide +kernel
theorem dd_L_remove_14 : decode bb_L_remove 14 = .ok (.ireturn, 1) := by decide +kernel
theorem dd_L_remove_15 : decode bb_L_remove 15 = .ok (.astore_n 3, 1) := by decide +kernel
theorem dd_L_remove_16 : decode bb_L_remove 16 = .ok (.iconst 2, 1) := by decide +kernel
theorem dd_L_remove_17 : decode bb_L_remove 17 = .ok (.ireturn, 1) := by decide +kernel
theorem dd_L_remove_18 : decode bb_L_remove 18 = .ok (.iconst 0, 1) := by decide +kernel
theorem dd_L_remove_19 : decode bb_L_remove 19 = .ok (.ireturn, 1) := by decide +kernel
theorem dd_L_move_0 : decode bb_L_move 0 = .ok (.aload_n 0, 1) := by decide +kernel
theorem dd_L_move_1 : decode bb_L_move 1 = .ok (.iload_n 1, 1) := by decide +kernel
theorem dd_L_move_2 : decode bb_L_move 2 = .ok (.iload_n 2, 1) := by decide +kernel
theorem dd_L_move_3 : decode bb_L_move 3 = .ok (.invokevirtual 31, 3) := by decide +kernel
theorem dd_L_move_6 : decode bb_L_move 6 = .ok (.goto 9, 3) := by decide +kernel
theorem dd_L_move_9 : decode bb_L_move 9 = .ok (.astore_n 3, 1) := by decide +kernel
theorem dd_L_move_10 : decode bb_L_move 10 = .ok (.iconst 1, 1) := by decide +kernel
theorem dd_L_move_11 : decode bb_L_move 11 = .ok (.ireturn, 1) := by decide +kernel
theorem dd_L_move_12 : decode bb_L_move 12 = .ok (.astore_n 3, 1) := by decide +kernel
theorem dd_L_move_13 : decode bb_L_move 13 = .ok (.iconst 2, 1) := by decide +kernel
theorem dd_L_move_14 : decode bb_L_move 14 = .ok (.ireturn, 1) := by decide +kernel
theorem dd_L_move_15 : decode bb_L_move 15 = .ok (.iconst 0, 1) := by decide +kernel
theorem dd_L_move_16 : decode bb_L_move 16 = .ok (.ireturn, 1) := by decide +kernel
theorem dd_L_mount_0 : decode bb_L_mount 0 = .ok (.aload_n 1, 1) := by decide +kernel
theorem dd_L_mount_1 : decode bb_L_mount 1 = .ok (.iconst 0, 1) := by decide +kernel
theorem dd_L_mount_2 : decode bb_L_mount 2 = .ok (.aload_n 0, 1) := by decide +kernel
theorem dd_L_mount_3 : decode bb_L_mount 3 = .ok (.invokevirtual 35, 3) := by decide +kernel
theorem dd_L_mount_6 : decode bb_L_mount 6 = .ok (.i2l, 1) := by decide +kernel
theorem dd_L_mount_7 : decode bb_L_mount 7 = .ok (.lastore, 1) := by decide +kernel
theorem dd_L_mount_8 : decode bb_L_mount 8 = .ok (.goto 6, 3) := by decide +kernel
theorem dd_L_mount_11 : decode bb_L_mount 11 = .ok (.astore_n 2, 1) := by decide +kernel
theorem dd_L_mount_12 : decode bb_L_mount 12 = .ok (.iconst 1, 1) := by decide +kernel
theorem dd_L_mount_13 : decode bb_L_mount 13 = .ok (.ireturn, 1) := by decide +kernel
theorem dd_L_mount_14 : decode bb_L_mount 14 = .ok (.iconst 0, 1) := by decide +kernel
theorem dd_L_mount_15 : decode bb_L_mount 15 = .ok (.ireturn, 1) := by decide +kernel
theorem dd_L_law_0 : decode bb_L_law 0 = .ok (.new 8, 3) := by decide +kernel
theorem dd_L_law_3 : decode bb_L_law 3 = .ok (.dup, 1) := by decide +kernel
theorem dd_L_law_4 : decode bb_L_law 4 = .ok (.invokespecial 39, 3) := by decide +kernel
theorem dd_L_law_7 : decode bb_L_law 7 = .ok (.astore_n 1, 1) := by decide +kernel
theorem dd_L_law_8 : decode bb_L_law 8 = .ok (.new 40, 3) := by decide +kernel
theorem dd_L_law_11 : decode bb_L_law 11 = .ok (.dup, 1) := by decide +kernel
theorem dd_L_law_12 : decode bb_L_law 12 = .ok (.invokespecial 42, 3) := by decide +kernel
theorem dd_L_law_15 : decode bb_L_law 15 = .ok (.astore_n 2, 1) := by decide +kernel
theorem dd_L_law_16 : decode bb_L_law 16 = .ok (.iconst 1, 1) := by decide +kernel
theorem dd_L_law_17 : decode bb_L_law 17 = .ok (.newarray .long, 2) := by decide +kernel
theorem dd_L_law_19 : decode bb_L_law 19 = .ok (.astore_n 3, 1) := by decide +kernel
theorem dd_L_law_20 : decode bb_L_law 20 = .ok (.iconst 0, 1) := by decide +kernel
theorem dd_L_law_21 : decode bb_L_law 21 = .ok (.istore 4, 2) := by decide +kernel
theorem dd_L_law_23 : decode bb_L_law 23 = .ok (.iload 4, 2) := by decide +kernel
theorem dd_L_law_25 : decode bb_L_law 25 = .ok (.aload_n 0, 1) := by decide +kernel
theorem dd_L_law_26 : decode bb_L_law 26 = .ok (.arraylength, 1) := by decide +kernel
theorem dd_L_law_27 : decode bb_L_law 27 = .ok (.iconst 5, 1) := by decide +kernel
theorem dd_L_law_28 : decode bb_L_law 28 = .ok (.isub, 1) := by decide +kernel
theorem dd_L_law_29 : decode bb_L_law 29 = .ok (.if_icmp .gt 732, 3) := by decide +kernel
theorem dd_L_law_32 : decode bb_L_law 32 = .ok (.aload_n 0, 1) := by decide +kernel
theorem dd_L_law_33 : decode bb_L_law 33 = .ok (.iload 4, 2) := by decide +kernel
theorem dd_L_law_35 : decode bb_L_law 35 = .ok (.iaload, 1) := by decide +kernel
theorem dd_L_law_36 : decode bb_L_law 36 = .ok (.bipush 15, 2) := by decide +kernel
theorem dd_L_law_38 : decode bb_L_law 38 = .ok (.iand, 1) := by decide +kernel
theorem dd_L_law_39 : decode bb_L_law 39 = .ok (.tableswitch 716 0 14 #[73, 100, 184, 276, 344, 400, 448, 473, 517, 530, 555, 592, 629, 678, 691], 73) := by decide +kernel
theorem dd_L_law_112 : decode bb_L_law 112 = .ok (.aload_n 1, 1) := by decide +kernel
theorem dd_L_law_113 : decode bb_L_law 113 = .ok (.aload_n 0, 1) := by decide +kernel
theorem dd_L_law_114 : decode bb_L_law 114 = .ok (.iload 4, 2) := by decide +kernel
theorem dd_L_law_116 : decode bb_L_law 116 = .ok (.iconst 1, 1) := by decide +kernel
theorem dd_L_law_117 : decode bb_L_law 117 = .ok (.iadd, 1) := by decide +kernel
theorem dd_L_law_118 : decode bb_L_law 118 = .ok (.iaload, 1) := by decide +kernel
theorem dd_L_law_119 : decode bb_L_law 119 = .ok (.i2c, 1) := by decide +kernel
theorem dd_L_law_120 : decode bb_L_law 120 = .ok (.invokevirtual 43, 3) := by decide +kernel
theorem dd_L_law_123 : decode bb_L_law 123 = .ok (.aload_n 2, 1) := by decide +kernel
theorem dd_L_law_124 : decode bb_L_law 124 = .ok (.aload_n 0, 1) := by decide +kernel
theorem dd_L_law_125 : decode bb_L_law 125 = .ok (.iload 4, 2) := by decide +kernel
theorem dd_L_law_127 : decode bb_L_law 127 = .ok (.iconst 1, 1) := by decide +kernel
theorem dd_L_law_128 : decode bb_L_law 128 = .ok (.iadd, 1) := by decide +kernel
theorem dd_L_law_129 : decode bb_L_law 129 = .ok (.iaload, 1) := by decide +kernel
theorem dd_L_law_130 : decode bb_L_law 130 = .ok (.i2c, 1) := by decide +kernel
theorem dd_L_law_131 : decode bb_L_law 131 = .ok (.invokevirtual 47, 3) := by decide +kernel
theorem dd_L_law_134 : decode bb_L_law 134 = .ok (.if_icmp .eq 621, 3) := by decide +kernel
theorem dd_L_law_137 : decode bb_L_law 137 = .ok (.iconst 0, 1) := by decide +kernel
theorem dd_L_law_138 : decode bb_L_law 138 = .ok (.ireturn, 1) := by decide +kernel
theorem dd_L_law_139 : decode bb_L_law 139 = .ok (.aload_n 1, 1) := by decide +kernel
theorem dd_L_law_140 : decode bb_L_law 140 = .ok (.aload_n 0, 1) := by decide +kernel
theorem dd_L_law_141 : decode bb_L_law 141 = .ok (.iload 4, 2) := by decide +kernel
theorem dd_L_law_143 : decode bb_L_law 143 = .ok (.iconst 1, 1) := by decide +kernel
theorem dd_L_law_144 : decode bb_L_law 144 = .ok (.iadd, 1) := by decide +kernel
theorem dd_L_law_145 : decode bb_L_law 145 = .ok (.iaload, 1) := by decide +kernel
theorem dd_L_law_146 : decode bb_L_law 146 = .ok (.aload_n 0, 1) := by decide +kernel
theorem dd_L_law_147 : decode bb_L_law 147 = .ok (.iload 4, 2) := by decide +kernel
theorem dd_L_law_149 : decode bb_L_law 149 = .ok (.iconst 2, 1) := by decide +kernel
theorem dd_L_law_150 : decode bb_L_law 150 = .ok (.iadd, 1) := by decide +kernel
theorem dd_L_law_151 : decode bb_L_law 151 = .ok (.iaload, 1) := by decide +kernel
theorem dd_L_law_152 : decode bb_L_law 152 = .ok (.ifCond .eq 7, 3) := by decide +kernel
theorem dd_L_law_155 : decode bb_L_law 155 = .ok (.iconst 1, 1) := by decide +kernel
theorem dd_L_law_156 : decode bb_L_law 156 = .ok (.goto 4, 3) := by decide +kernel
theorem dd_L_law_159 : decode bb_L_law 159 = .ok (.iconst 0, 1) := by decide +kernel
theorem dd_L_law_160 : decode bb_L_law 160 = .ok (.aload_n 3, 1) := by decide +kernel
theorem dd_L_law_161 : decode bb_L_law 161 = .ok (.invokestatic 48, 3) := by decide +kernel
theorem dd_L_law_164 : decode bb_L_law 164 = .ok (.istore 5, 2) := by decide +kernel
theorem dd_L_law_166 : decode bb_L_law 166 = .ok (.aload_n 2, 1) := by decide +kernel
theorem dd_L_law_167 : decode bb_L_law 167 = .ok (.aload_n 0, 1) := by decide +kernel
theorem dd_L_law_168 : decode bb_L_law 168 = .ok (.iload 4, 2) := by decide +kernel
theorem dd_L_law_170 : decode bb_L_law 170 = .ok (.iconst 1, 1) := by decide +kernel
theorem dd_L_law_171 : decode bb_L_law 171 = .ok (.iadd, 1) := by decide +kernel
theorem dd_L_law_172 : decode bb_L_law 172 = .ok (.iaload, 1) := by decide +kernel
theorem dd_L_law_173 : decode bb_L_law 173 = .ok (.aload_n 0, 1) := by decide +kernel
theorem dd_L_law_174 : decode bb_L_law 174 = .ok (.iload 4, 2) := by decide +kernel
theorem dd_L_law_176 : decode bb_L_law 176 = .ok (.iconst 2, 1) := by decide +kernel
theorem dd_L_law_177 : decode bb_L_law 177 = .ok (.iadd, 1) := by decide +kernel
theorem dd_L_law_178 : decode bb_L_law 178 = .ok (.iaload, 1) := by decide +kernel
theorem dd_L_law_179 : decode bb_L_law 179 = .ok (.ifCond .eq 7, 3) := by decide +kernel
theorem dd_L_law_182 : decode bb_L_law 182 = .ok (.iconst 1, 1) := by decide +kernel
theorem dd_L_law_183 : decode bb_L_law 183 = .ok (.goto 4, 3) := by decide +kernel
theorem dd_L_law_186 : decode bb_L_law 186 = .ok (.iconst 0, 1) := by decide +kernel
theorem dd_L_law_187 : decode bb_L_law 187 = .ok (.invokevirtual 53, 3) := by decide +kernel
theorem dd_L_law_190 : decode bb_L_law 190 = .ok (.istore 6, 2) := by decide +kernel
theorem dd_L_law_192 : decode bb_L_law 192 = .ok (.aload_n 2, 1) := by decide +kernel
theorem dd_L_law_193 : decode bb_L_law 193 = .ok (.invokevirtual 54, 3) := by decide +kernel
theorem dd_L_law_196 : decode bb_L_law 196 = .ok (.iload 5, 2) := by decide +kernel
theorem dd_L_law_198 : decode bb_L_law 198 = .ok (.if_icmp .eq 5, 3) := by decide +kernel
theorem dd_L_law_201 : decode bb_L_law 201 = .ok (.iconst 0, 1) := by decide +kernel
theorem dd_L_law_202 : decode bb_L_law 202 = .ok (.ireturn, 1) := by decide +kernel
theorem dd_L_law_203 : decode bb_L_law 203 = .ok (.iload 5, 2) := by decide +kernel
theorem dd_L_law_205 : decode bb_L_law 205 = .ok (.ifCond .ne 15, 3) := by decide +kernel
theorem dd_L_law_208 : decode bb_L_law 208 = .ok (.aload_n 3, 1) := by decide +kernel
theorem dd_L_law_209 : decode bb_L_law 209 = .ok (.iconst 0, 1) := by decide +kernel
theorem dd_L_law_210 : decode bb_L_law 210 = .ok (.laload, 1) := by decide +kernel
theorem dd_L_law_211 : decode bb_L_law 211 = .ok (.iload 6, 2) := by decide +kernel
theorem dd_L_law_213 : decode bb_L_law 213 = .ok (.i2l, 1) := by decide +kernel
theorem dd_L_law_214 : decode bb_L_law 214 = .ok (.lcmp, 1) := by decide +kernel
theorem dd_L_law_215 : decode bb_L_law 215 = .ok (.ifCond .eq 5, 3) := by decide +kernel
theorem dd_L_law_218 : decode bb_L_law 218 = .ok (.iconst 0, 1) := by decide +kernel
theorem dd_L_law_219 : decode bb_L_law 219 = .ok (.ireturn, 1) := by decide +kernel
theorem dd_L_law_220 : decode bb_L_law 220 = .ok (.goto 535, 3) := by decide +kernel
theorem dd_L_law_223 : decode bb_L_law 223 = .ok (.aload_n 1, 1) := by decide +kernel
theorem dd_L_law_224 : decode bb_L_law 224 = .ok (.aload_n 0, 1) := by decide +kernel
theorem dd_L_law_225 : decode bb_L_law 225 = .ok (.iload 4, 2) := by decide +kernel
theorem dd_L_law_227 : decode bb_L_law 227 = .ok (.iconst 1, 1) := by decide +kernel
theorem dd_L_law_228 : decode bb_L_law 228 = .ok (.iadd, 1) := by decide +kernel
theorem dd_L_law_229 : decode bb_L_law 229 = .ok (.iaload, 1) := by decide +kernel
theorem dd_L_law_230 : decode bb_L_law 230 = .ok (.aload_n 0, 1) := by decide +kernel
theorem dd_L_law_231 : decode bb_L_law 231 = .ok (.iload 4, 2) := by decide +kernel
theorem dd_L_law_233 : decode bb_L_law 233 = .ok (.iconst 2, 1) := by decide +kernel
theorem dd_L_law_234 : decode bb_L_law 234 = .ok (.iadd, 1) := by decide +kernel
theorem dd_L_law_235 : decode bb_L_law 235 = .ok (.iaload, 1) := by decide +kernel
theorem dd_L_law_236 : decode bb_L_law 236 = .ok (.aload_n 0, 1) := by decide +kernel
theorem dd_L_law_237 : decode bb_L_law 237 = .ok (.iload 4, 2) := by decide +kernel
theorem dd_L_law_239 : decode bb_L_law 239 = .ok (.iconst 3, 1) := by decide +kernel
theorem dd_L_law_240 : decode bb_L_law 240 = .ok (.iadd, 1) := by decide +kernel
theorem dd_L_law_241 : decode bb_L_law 241 = .ok (.iaload, 1) := by decide +kernel
theorem dd_L_law_242 : decode bb_L_law 242 = .ok (.aload_n 0, 1) := by decide +kernel
theorem dd_L_law_243 : decode bb_L_law 243 = .ok (.iload 4, 2) := by decide +kernel
theorem dd_L_law_245 : decode bb_L_law 245 = .ok (.iconst 4, 1) := by decide +kernel
theorem dd_L_law_246 : decode bb_L_law 246 = .ok (.iadd, 1) := by decide +kernel
theorem dd_L_law_247 : decode bb_L_law 247 = .ok (.iaload, 1) := by decide +kernel
theorem dd_L_law_248 : decode bb_L_law 248 = .ok (.aload_n 3, 1) := by decide +kernel
theorem dd_L_law_249 : decode bb_L_law 249 = .ok (.invokestatic 57, 3) := by decide +kernel
theorem dd_L_law_252 : decode bb_L_law 252 = .ok (.istore 5, 2) := by decide +kernel
theorem dd_L_law_254 : decode bb_L_law 254 = .ok (.aload_n 2, 1) := by decide +kernel
theorem dd_L_law_255 : decode bb_L_law 255 = .ok (.aload_n 0, 1) := by decide +kernel
theorem dd_L_law_256 : decode bb_L_law 256 = .ok (.iload 4, 2) := by decide +kernel
theorem dd_L_law_258 : decode bb_L_law 258 = .ok (.iconst 1, 1) := by decide +kernel
theorem dd_L_law_259 : decode bb_L_law 259 = .ok (.iadd, 1) := by decide +kernel
theorem dd_L_law_260 : decode bb_L_law 260 = .ok (.iaload, 1) := by decide +kernel
theorem dd_L_law_261 : decode bb_L_law 261 = .ok (.aload_n 0, 1) := by decide +kernel
theorem dd_L_law_262 : decode bb_L_law 262 = .ok (.iload 4, 2) := by decide +kernel
theorem dd_L_law_264 : decode bb_L_law 264 = .ok (.iconst 2, 1) := by decide +kernel
theorem dd_L_law_265 : decode bb_L_law 265 = .ok (.iadd, 1) := by decide +kernel
theorem dd_L_law_266 : decode bb_L_law 266 = .ok (.iaload, 1) := by decide +kernel
theorem dd_L_law_267 : decode bb_L_law 267 = .ok (.aload_n 0, 1) := by decide +kernel
theorem dd_L_law_268 : decode bb_L_law 268 = .ok (.iload 4, 2) := by decide +kernel
theorem dd_L_law_270 : decode bb_L_law 270 = .ok (.iconst 3, 1) := by decide +kernel
theorem dd_L_law_271 : decode bb_L_law 271 = .ok (.iadd, 1) := by decide +kernel
theorem dd_L_law_272 : decode bb_L_law 272 = .ok (.iaload, 1) := by decide +kernel
theorem dd_L_law_273 : decode bb_L_law 273 = .ok (.aload_n 0, 1) := by decide +kernel
theorem dd_L_law_274 : decode bb_L_law 274 = .ok (.iload 4, 2) := by decide +kernel
theorem dd_L_law_276 : decode bb_L_law 276 = .ok (.iconst 4, 1) := by decide +kernel
theorem dd_L_law_277 : decode bb_L_law 277 = .ok (.iadd, 1) := by decide +kernel
theorem dd_L_law_278 : decode bb_L_law 278 = .ok (.iaload, 1) := by decide +kernel
theorem dd_L_law_279 : decode bb_L_law 279 = .ok (.invokevirtual 60, 3) := by decide +kernel
theorem dd_L_law_282 : decode bb_L_law 282 = .ok (.istore 6, 2) := by decide +kernel
theorem dd_L_law_284 : decode bb_L_law 284 = .ok (.aload_n 2, 1) := by decide +kernel
theorem dd_L_law_285 : decode bb_L_law 285 = .ok (.invokevirtual 54, 3) := by decide +kernel
theorem dd_L_law_288 : decode bb_L_law 288 = .ok (.iload 5, 2) := by decide +kernel
theorem dd_L_law_290 : decode bb_L_law 290 = .ok (.if_icmp .eq 5, 3) := by decide +kernel
theorem dd_L_law_293 : decode bb_L_law 293 = .ok (.iconst 0, 1) := by decide +kernel
theorem dd_L_law_294 : decode bb_L_law 294 = .ok (.ireturn, 1) := by decide +kernel
theorem dd_L_law_295 : decode bb_L_law 295 = .ok (.iload 5, 2) := by decide +kernel
theorem dd_L_law_297 : decode bb_L_law 297 = .ok (.ifCond .ne 15, 3) := by decide +kernel
theorem dd_L_law_300 : decode bb_L_law 300 = .ok (.aload_n 3, 1) := by decide +kernel
theorem dd_L_law_301 : decode bb_L_law 301 = .ok (.iconst 0, 1) := by decide +kernel
theorem dd_L_law_302 : decode bb_L_law 302 = .ok (.laload, 1) := by decide +kernel
theorem dd_L_law_303 : decode bb_L_law 303 = .ok (.iload 6, 2) := by decide +kernel
theorem dd_L_law_305 : decode bb_L_law 305 = .ok (.i2l, 1) := by decide +kernel
theorem dd_L_law_306 : decode bb_L_law 306 = .ok (.lcmp, 1) := by decide +kernel
theorem dd_L_law_307 : decode bb_L_law 307 = .ok (.ifCond .eq 5, 3) := by decide +kernel
theorem dd_L_law_310 : decode bb_L_law 310 = .ok (.iconst 0, 1) := by decide +kernel
theorem dd_L_law_311 : decode bb_L_law 311 = .ok (.ireturn, 1) := by decide +kernel
theorem dd_L_law_312 : decode bb_L_law 312 = .ok (.goto 443, 3) := by decide +kernel
theorem dd_L_law_315 : decode bb_L_law 315 = .ok (.aload_n 1, 1) := by decide +kernel
theorem dd_L_law_316 : decode bb_L_law 316 = .ok (.aload_n 0, 1) := by decide +kernel
theorem dd_L_law_317 : decode bb_L_law 317 = .ok (.iload 4, 2) := by decide +kernel
theorem dd_L_law_319 : decode bb_L_law 319 = .ok (.iconst 1, 1) := by decide +kernel
theorem dd_L_law_320 : decode bb_L_law 320 = .ok (.iadd, 1) := by decide +kernel
theorem dd_L_law_321 : decode bb_L_law 321 = .ok (.iaload, 1) := by decide +kernel
theorem dd_L_law_322 : decode bb_L_law 322 = .ok (.aload_n 0, 1) := by decide +kernel
theorem dd_L_law_323 : decode bb_L_law 323 = .ok (.iload 4, 2) := by decide +kernel
theorem dd_L_law_325 : decode bb_L_law 325 = .ok (.iconst 2, 1) := by decide +kernel
theorem dd_L_law_326 : decode bb_L_law 326 = .ok (.iadd, 1) := by decide +kernel
theorem dd_L_law_327 : decode bb_L_law 327 = .ok (.iaload, 1) := by decide +kernel
theorem dd_L_law_328 : decode bb_L_law 328 = .ok (.aload_n 3, 1) := by decide +kernel
theorem dd_L_law_329 : decode bb_L_law 329 = .ok (.invokestatic 61, 3) := by decide +kernel
theorem dd_L_law_332 : decode bb_L_law 332 = .ok (.istore 5, 2) := by decide +kernel
theorem dd_L_law_334 : decode bb_L_law 334 = .ok (.aload_n 2, 1) := by decide +kernel
theorem dd_L_law_335 : decode bb_L_law 335 = .ok (.aload_n 0, 1) := by decide +kernel
theorem dd_L_law_336 : decode bb_L_law 336 = .ok (.iload 4, 2) := by decide +kernel
theorem dd_L_law_338 : decode bb_L_law 338 = .ok (.iconst 1, 1) := by decide +kernel
theorem dd_L_law_339 : decode bb_L_law 339 = .ok (.iadd, 1) := by decide +kernel
theorem dd_L_law_340 : decode bb_L_law 340 = .ok (.iaload, 1) := by decide +kernel
theorem dd_L_law_341 : decode bb_L_law 341 = .ok (.aload_n 0, 1) := by decide +kernel
theorem dd_L_law_342 : decode bb_L_law 342 = .ok (.iload 4, 2) := by decide +kernel
theorem dd_L_law_344 : decode bb_L_law 344 = .ok (.iconst 2, 1) := by decide +kernel
theorem dd_L_law_345 : decode bb_L_law 345 = .ok (.iadd, 1) := by decide +kernel
theorem dd_L_law_346 : decode bb_L_law 346 = .ok (.iaload, 1) := by decide +kernel
theorem dd_L_law_347 : decode bb_L_law 347 = .ok (.invokevirtual 64, 3) := by decide +kernel
theorem dd_L_law_350 : decode bb_L_law 350 = .ok (.istore 6, 2) := by decide +kernel
theorem dd_L_law_352 : decode bb_L_law 352 = .ok (.aload_n 2, 1) := by decide +kernel
theorem dd_L_law_353 : decode bb_L_law 353 = .ok (.invokevirtual 54, 3) := by decide +kernel
theorem dd_L_law_356 : decode bb_L_law 356 = .ok (.iload 5, 2) := by decide +kernel
theorem dd_L_law_358 : decode bb_L_law 358 = .ok (.if_icmp .eq 5, 3) := by decide +kernel
theorem dd_L_law_361 : decode bb_L_law 361 = .ok (.iconst 0, 1) := by decide +kernel
theorem dd_L_law_362 : decode bb_L_law 362 = .ok (.ireturn, 1) := by decide +kernel
theorem dd_L_law_363 : decode bb_L_law 363 = .ok (.iload 5, 2) := by decide +kernel
theorem dd_L_law_365 : decode bb_L_law 365 = .ok (.ifCond .ne 15, 3) := by decide +kernel
theorem dd_L_law_368 : decode bb_L_law 368 = .ok (.aload_n 3, 1) := by decide +kernel
theorem dd_L_law_369 : decode bb_L_law 369 = .ok (.iconst 0, 1) := by decide +kernel
theorem dd_L_law_370 : decode bb_L_law 370 = .ok (.laload, 1) := by decide +kernel
theorem dd_L_law_371 : decode bb_L_law 371 = .ok (.iload 6, 2) := by decide +kernel
theorem dd_L_law_373 : decode bb_L_law 373 = .ok (.i2l, 1) := by decide +kernel
theorem dd_L_law_374 : decode bb_L_law 374 = .ok (.lcmp, 1) := by decide +kernel
theorem dd_L_law_375 : decode bb_L_law 375 = .ok (.ifCond .eq 5, 3) := by decide +kernel
theorem dd_L_law_378 : decode bb_L_law 378 = .ok (.iconst 0, 1) := by decide +kernel
theorem dd_L_law_379 : decode bb_L_law 379 = .ok (.ireturn, 1) := by decide +kernel
theorem dd_L_law_380 : decode bb_L_law 380 = .ok (.goto 375, 3) := by decide +kernel
theorem dd_L_law_383 : decode bb_L_law 383 = .ok (.aload_n 1, 1) := by decide +kernel
theorem dd_L_law_384 : decode bb_L_law 384 = .ok (.aload_n 0, 1) := by decide +kernel
theorem dd_L_law_385 : decode bb_L_law 385 = .ok (.iload 4, 2) := by decide +kernel
theorem dd_L_law_387 : decode bb_L_law 387 = .ok (.iconst 1, 1) := by decide +kernel
theorem dd_L_law_388 : decode bb_L_law 388 = .ok (.iadd, 1) := by decide +kernel
theorem dd_L_law_389 : decode bb_L_law 389 = .ok (.iaload, 1) := by decide +kernel
theorem dd_L_law_390 : decode bb_L_law 390 = .ok (.aload_n 3, 1) := by decide +kernel
theorem dd_L_law_391 : decode bb_L_law 391 = .ok (.invokestatic 65, 3) := by decide +kernel
theorem dd_L_law_394 : decode bb_L_law 394 = .ok (.istore 5, 2) := by decide +kernel
theorem dd_L_law_396 : decode bb_L_law 396 = .ok (.aload_n 2, 1) := by decide +kernel
theorem dd_L_law_397 : decode bb_L_law 397 = .ok (.aload_n 0, 1) := by decide +kernel
theorem dd_L_law_398 : decode bb_L_law 398 = .ok (.iload 4, 2) := by decide +kernel
theorem dd_L_law_400 : decode bb_L_law 400 = .ok (.iconst 1, 1) := by decide +kernel
theorem dd_L_law_401 : decode bb_L_law 401 = .ok (.iadd, 1) := by decide +kernel
theorem dd_L_law_402 : decode bb_L_law 402 = .ok (.iaload, 1) := by decide +kernel
theorem dd_L_law_403 : decode bb_L_law 403 = .ok (.invokevirtual 68, 3) := by decide +kernel
theorem dd_L_law_406 : decode bb_L_law 406 = .ok (.istore 6, 2) := by decide +kernel
theorem dd_L_law_408 : decode bb_L_law 408 = .ok (.aload_n 2, 1) := by decide +kernel
theorem dd_L_law_409 : decode bb_L_law 409 = .ok (.invokevirtual 54, 3) := by decide +kernel
theorem dd_L_law_412 : decode bb_L_law 412 = .ok (.iload 5, 2) := by decide +kernel
theorem dd_L_law_414 : decode bb_L_law 414 = .ok (.if_icmp .eq 5, 3) := by decide +kernel
theorem dd_L_law_417 : decode bb_L_law 417 = .ok (.iconst 0, 1) := by decide +kernel
theorem dd_L_law_418 : decode bb_L_law 418 = .ok (.ireturn, 1) := by decide +kernel
theorem dd_L_law_419 : decode bb_L_law 419 = .ok (.iload 5, 2) := by decide +kernel
theorem dd_L_law_421 : decode bb_L_law 421 = .ok (.ifCond .ne 15, 3) := by decide +kernel
theorem dd_L_law_424 : decode bb_L_law 424 = .ok (.aload_n 3, 1) := by decide +kernel
theorem dd_L_law_425 : decode bb_L_law 425 = .ok (.iconst 0, 1) := by decide +kernel
theorem dd_L_law_426 : decode bb_L_law 426 = .ok (.laload, 1) := by decide +kernel
theorem dd_L_law_427 : decode bb_L_law 427 = .ok (.iload 6, 2) := by decide +kernel
theorem dd_L_law_429 : decode bb_L_law 429 = .ok (.i2l, 1) := by decide +kernel
theorem dd_L_law_430 : decode bb_L_law 430 = .ok (.lcmp, 1) := by decide +kernel
theorem dd_L_law_431 : decode bb_L_law 431 = .ok (.ifCond .eq 5, 3) := by decide +kernel
theorem dd_L_law_434 : decode bb_L_law 434 = .ok (.iconst 0, 1) := by decide +kernel
theorem dd_L_law_435 : decode bb_L_law 435 = .ok (.ireturn, 1) := by decide +kernel
theorem dd_L_law_436 : decode bb_L_law 436 = .ok (.goto 319, 3) := by decide +kernel
theorem dd_L_law_439 : decode bb_L_law 439 = .ok (.aload_n 1, 1) := by decide +kernel
theorem dd_L_law_440 : decode bb_L_law 440 = .ok (.aload_n 0, 1) := by decide +kernel
theorem dd_L_law_441 : decode bb_L_law 441 = .ok (.iload 4, 2) := by decide +kernel
theorem dd_L_law_443 : decode bb_L_law 443 = .ok (.iconst 1, 1) := by decide +kernel
theorem dd_L_law_444 : decode bb_L_law 444 = .ok (.iadd, 1) := by decide +kernel
theorem dd_L_law_445 : decode bb_L_law 445 = .ok (.iaload, 1) := by decide +kernel
theorem dd_L_law_446 : decode bb_L_law 446 = .ok (.aload_n 0, 1) := by decide +kernel
theorem dd_L_law_447 : decode bb_L_law 447 = .ok (.iload 4, 2) := by decide +kernel
theorem dd_L_law_449 : decode bb_L_law 449 = .ok (.iconst 2, 1) := by decide +kernel
theorem dd_L_law_450 : decode bb_L_law 450 = .ok (.iadd, 1) := by decide +kernel
theorem dd_L_law_451 : decode bb_L_law 451 = .ok (.iaload, 1) := by decide +kernel
theorem dd_L_law_452 : decode bb_L_law 452 = .ok (.invokestatic 69, 3) := by decide +kernel
theorem dd_L_law_455 : decode bb_L_law 455 = .ok (.istore 5, 2) := by decide +kernel
theorem dd_L_law_457 : decode bb_L_law 457 = .ok (.aload_n 2, 1) := by decide +kernel
theorem dd_L_law_458 : decode bb_L_law 458 = .ok (.aload_n 0, 1) := by decide +kernel
theorem dd_L_law_459 : decode bb_L_law 459 = .ok (.iload 4, 2) := by decide +kernel
theorem dd_L_law_461 : decode bb_L_law 461 = .ok (.iconst 1, 1) := by decide +kernel
theorem dd_L_law_462 : decode bb_L_law 462 = .ok (.iadd, 1) := by decide +kernel
theorem dd_L_law_463 : decode bb_L_law 463 = .ok (.iaload, 1) := by decide +kernel
theorem dd_L_law_464 : decode bb_L_law 464 = .ok (.aload_n 0, 1) := by decide +kernel
theorem dd_L_law_465 : decode bb_L_law 465 = .ok (.iload 4, 2) := by decide +kernel
theorem dd_L_law_467 : decode bb_L_law 467 = .ok (.iconst 2, 1) := by decide +kernel
theorem dd_L_law_468 : decode bb_L_law 468 = .ok (.iadd, 1) := by decide +kernel
theorem dd_L_law_469 : decode bb_L_law 469 = .ok (.iaload, 1) := by decide +kernel
theorem dd_L_law_470 : decode bb_L_law 470 = .ok (.invokevirtual 72, 3) := by decide +kernel
theorem dd_L_law_473 : decode bb_L_law 473 = .ok (.aload_n 2, 1) := by decide +kernel
theorem dd_L_law_474 : decode bb_L_law 474 = .ok (.invokevirtual 54, 3) := by decide +kernel
theorem dd_L_law_477 : decode bb_L_law 477 = .ok (.iload 5, 2) := by decide +kernel
theorem dd_L_law_479 : decode bb_L_law 479 = .ok (.if_icmp .eq 5, 3) := by decide +kernel
theorem dd_L_law_482 : decode bb_L_law 482 = .ok (.iconst 0, 1) := by decide +kernel
theorem dd_L_law_483 : decode bb_L_law 483 = .ok (.ireturn, 1) := by decide +kernel
theorem dd_L_law_484 : decode bb_L_law 484 = .ok (.goto 271, 3) := by decide +kernel
theorem dd_L_law_487 : decode bb_L_law 487 = .ok (.aload_n 1, 1) := by decide +kernel
theorem dd_L_law_488 : decode bb_L_law 488 = .ok (.aload_n 0, 1) := by decide +kernel
theorem dd_L_law_489 : decode bb_L_law 489 = .ok (.iload 4, 2) := by decide +kernel
theorem dd_L_law_491 : decode bb_L_law 491 = .ok (.iconst 1, 1) := by decide +kernel
theorem dd_L_law_492 : decode bb_L_law 492 = .ok (.iadd, 1) := by decide +kernel
theorem dd_L_law_493 : decode bb_L_law 493 = .ok (.iaload, 1) := by decide +kernel
theorem dd_L_law_494 : decode bb_L_law 494 = .ok (.invokevirtual 73, 3) := by decide +kernel
theorem dd_L_law_497 : decode bb_L_law 497 = .ok (.aload_n 2, 1) := by decide +kernel
theorem dd_L_law_498 : decode bb_L_law 498 = .ok (.aload_n 0, 1) := by decide +kernel
theorem dd_L_law_499 : decode bb_L_law 499 = .ok (.iload 4, 2) := by decide +kernel
theorem dd_L_law_501 : decode bb_L_law 501 = .ok (.iconst 1, 1) := by decide +kernel
theorem dd_L_law_502 : decode bb_L_law 502 = .ok (.iadd, 1) := by decide +kernel
theorem dd_L_law_503 : decode bb_L_law 503 = .ok (.iaload, 1) := by decide +kernel
theorem dd_L_law_504 : decode bb_L_law 504 = .ok (.invokevirtual 77, 3) := by decide +kernel
theorem dd_L_law_507 : decode bb_L_law 507 = .ok (.if_icmp .eq 248, 3) := by decide +kernel
theorem dd_L_law_510 : decode bb_L_law 510 = .ok (.iconst 0, 1) := by decide +kernel
theorem dd_L_law_511 : decode bb_L_law 511 = .ok (.ireturn, 1) := by decide +kernel
theorem dd_L_law_512 : decode bb_L_law 512 = .ok (.aload_n 1, 1) := by decide +kernel
theorem dd_L_law_513 : decode bb_L_law 513 = .ok (.aload_n 3, 1) := by decide +kernel
theorem dd_L_law_514 : decode bb_L_law 514 = .ok (.invokestatic 78, 3) := by decide +kernel
theorem dd_L_law_517 : decode bb_L_law 517 = .ok (.istore 5, 2) := by decide +kernel
theorem dd_L_law_519 : decode bb_L_law 519 = .ok (.aload_n 2, 1) := by decide +kernel
theorem dd_L_law_520 : decode bb_L_law 520 = .ok (.invokevirtual 81, 3) := by decide +kernel
theorem dd_L_law_523 : decode bb_L_law 523 = .ok (.istore 6, 2) := by decide +kernel
theorem dd_L_law_525 : decode bb_L_law 525 = .ok (.aload_n 2, 1) := by decide +kernel
theorem dd_L_law_526 : decode bb_L_law 526 = .ok (.invokevirtual 54, 3) := by decide +kernel
theorem dd_L_law_529 : decode bb_L_law 529 = .ok (.iload 5, 2) := by decide +kernel
theorem dd_L_law_531 : decode bb_L_law 531 = .ok (.if_icmp .eq 5, 3) := by decide +kernel
theorem dd_L_law_534 : decode bb_L_law 534 = .ok (.iconst 0, 1) := by decide +kernel
theorem dd_L_law_535 : decode bb_L_law 535 = .ok (.ireturn, 1) := by decide +kernel
theorem dd_L_law_536 : decode bb_L_law 536 = .ok (.iload 5, 2) := by decide +kernel
theorem dd_L_law_538 : decode bb_L_law 538 = .ok (.ifCond .ne 15, 3) := by decide +kernel
theorem dd_L_law_541 : decode bb_L_law 541 = .ok (.aload_n 3, 1) := by decide +kernel
theorem dd_L_law_542 : decode bb_L_law 542 = .ok (.iconst 0, 1) := by decide +kernel
theorem dd_L_law_543 : decode bb_L_law 543 = .ok (.laload, 1) := by decide +kernel
theorem dd_L_law_544 : decode bb_L_law 544 = .ok (.iload 6, 2) := by decide +kernel
theorem dd_L_law_546 : decode bb_L_law 546 = .ok (.i2l, 1) := by decide +kernel
theorem dd_L_law_547 : decode bb_L_law 547 = .ok (.lcmp, 1) := by decide +kernel
theorem dd_L_law_548 : decode bb_L_law 548 = .ok (.ifCond .eq 5, 3) := by decide +kernel
theorem dd_L_law_551 : decode bb_L_law 551 = .ok (.iconst 0, 1) := by decide +kernel
theorem dd_L_law_552 : decode bb_L_law 552 = .ok (.ireturn, 1) := by decide +kernel
theorem dd_L_law_553 : decode bb_L_law 553 = .ok (.goto 202, 3) := by decide +kernel
theorem dd_L_law_556 : decode bb_L_law 556 = .ok (.aload_n 1, 1) := by decide +kernel
theorem dd_L_law_557 : decode bb_L_law 557 = .ok (.invokevirtual 82, 3) := by decide +kernel
theorem dd_L_law_560 : decode bb_L_law 560 = .ok (.aload_n 2, 1) := by decide +kernel
theorem dd_L_law_561 : decode bb_L_law 561 = .ok (.invokevirtual 86, 3) := by decide +kernel
theorem dd_L_law_564 : decode bb_L_law 564 = .ok (.if_icmp .eq 191, 3) := by decide +kernel
theorem dd_L_law_567 : decode bb_L_law 567 = .ok (.iconst 0, 1) := by decide +kernel
theorem dd_L_law_568 : decode bb_L_law 568 = .ok (.ireturn, 1) := by decide +kernel
theorem dd_L_law_569 : decode bb_L_law 569 = .ok (.aload_n 1, 1) := by decide +kernel
theorem dd_L_law_570 : decode bb_L_law 570 = .ok (.aload_n 0, 1) := by decide +kernel
theorem dd_L_law_571 : decode bb_L_law 571 = .ok (.iload 4, 2) := by decide +kernel
theorem dd_L_law_573 : decode bb_L_law 573 = .ok (.iconst 1, 1) := by decide +kernel
theorem dd_L_law_574 : decode bb_L_law 574 = .ok (.iadd, 1) := by decide +kernel
theorem dd_L_law_575 : decode bb_L_law 575 = .ok (.iaload, 1) := by decide +kernel
theorem dd_L_law_576 : decode bb_L_law 576 = .ok (.invokevirtual 87, 3) := by decide +kernel
theorem dd_L_law_579 : decode bb_L_law 579 = .ok (.aload_n 2, 1) := by decide +kernel
theorem dd_L_law_580 : decode bb_L_law 580 = .ok (.aload_n 0, 1) := by decide +kernel
theorem dd_L_law_581 : decode bb_L_law 581 = .ok (.iload 4, 2) := by decide +kernel
theorem dd_L_law_583 : decode bb_L_law 583 = .ok (.iconst 1, 1) := by decide +kernel
theorem dd_L_law_584 : decode bb_L_law 584 = .ok (.iadd, 1) := by decide +kernel
theorem dd_L_law_585 : decode bb_L_law 585 = .ok (.iaload, 1) := by decide +kernel
theorem dd_L_law_586 : decode bb_L_law 586 = .ok (.invokevirtual 90, 3) := by decide +kernel
theorem dd_L_law_589 : decode bb_L_law 589 = .ok (.if_icmp .eq 166, 3) := by decide +kernel
theorem dd_L_law_592 : decode bb_L_law 592 = .ok (.iconst 0, 1) := by decide +kernel
theorem dd_L_law_593 : decode bb_L_law 593 = .ok (.ireturn, 1) := by decide +kernel
theorem dd_L_law_594 : decode bb_L_law 594 = .ok (.aload_n 1, 1) := by decide +kernel
theorem dd_L_law_595 : decode bb_L_law 595 = .ok (.aload_n 0, 1) := by decide +kernel
theorem dd_L_law_596 : decode bb_L_law 596 = .ok (.iload 4, 2) := by decide +kernel
theorem dd_L_law_598 : decode bb_L_law 598 = .ok (.iconst 1, 1) := by decide +kernel
theorem dd_L_law_599 : decode bb_L_law 599 = .ok (.iadd, 1) := by decide +kernel
theorem dd_L_law_600 : decode bb_L_law 600 = .ok (.iaload, 1) := by decide +kernel
theorem dd_L_law_601 : decode bb_L_law 601 = .ok (.aload_n 0, 1) := by decide +kernel
theorem dd_L_law_602 : decode bb_L_law 602 = .ok (.iload 4, 2) := by decide +kernel
theorem dd_L_law_604 : decode bb_L_law 604 = .ok (.iconst 2, 1) := by decide +kernel
theorem dd_L_law_605 : decode bb_L_law 605 = .ok (.iadd, 1) := by decide +kernel
theorem dd_L_law_606 : decode bb_L_law 606 = .ok (.iaload, 1) := by decide +kernel
theorem dd_L_law_607 : decode bb_L_law 607 = .ok (.invokevirtual 91, 3) := by decide +kernel
theorem dd_L_law_610 : decode bb_L_law 610 = .ok (.aload_n 2, 1) := by decide +kernel
theorem dd_L_law_611 : decode bb_L_law 611 = .ok (.aload_n 0, 1) := by decide +kernel
theorem dd_L_law_612 : decode bb_L_law 612 = .ok (.iload 4, 2) := by decide +kernel
theorem dd_L_law_614 : decode bb_L_law 614 = .ok (.iconst 1, 1) := by decide +kernel
theorem dd_L_law_615 : decode bb_L_law 615 = .ok (.iadd, 1) := by decide +kernel
theorem dd_L_law_616 : decode bb_L_law 616 = .ok (.iaload, 1) := by decide +kernel
theorem dd_L_law_617 : decode bb_L_law 617 = .ok (.aload_n 0, 1) := by decide +kernel
theorem dd_L_law_618 : decode bb_L_law 618 = .ok (.iload 4, 2) := by decide +kernel
theorem dd_L_law_620 : decode bb_L_law 620 = .ok (.iconst 2, 1) := by decide +kernel
theorem dd_L_law_621 : decode bb_L_law 621 = .ok (.iadd, 1) := by decide +kernel
theorem dd_L_law_622 : decode bb_L_law 622 = .ok (.iaload, 1) := by decide +kernel
theorem dd_L_law_623 : decode bb_L_law 623 = .ok (.invokevirtual 94, 3) := by decide +kernel
theorem dd_L_law_626 : decode bb_L_law 626 = .ok (.if_icmp .eq 129, 3) := by decide +kernel
theorem dd_L_law_629 : decode bb_L_law 629 = .ok (.iconst 0, 1) := by decide +kernel
theorem dd_L_law_630 : decode bb_L_law 630 = .ok (.ireturn, 1) := by decide +kernel
theorem dd_L_law_631 : decode bb_L_law 631 = .ok (.aload_n 1, 1) := by decide +kernel
theorem dd_L_law_632 : decode bb_L_law 632 = .ok (.aload_n 0, 1) := by decide +kernel
theorem dd_L_law_633 : decode bb_L_law 633 = .ok (.iload 4, 2) := by decide +kernel
theorem dd_L_law_635 : decode bb_L_law 635 = .ok (.iconst 1, 1) := by decide +kernel
theorem dd_L_law_636 : decode bb_L_law 636 = .ok (.iadd, 1) := by decide +kernel
theorem dd_L_law_637 : decode bb_L_law 637 = .ok (.iaload, 1) := by decide +kernel
theorem dd_L_law_638 : decode bb_L_law 638 = .ok (.aload_n 0, 1) := by decide +kernel
theorem dd_L_law_639 : decode bb_L_law 639 = .ok (.iload 4, 2) := by decide +kernel
theorem dd_L_law_641 : decode bb_L_law 641 = .ok (.iconst 2, 1) := by decide +kernel
theorem dd_L_law_642 : decode bb_L_law 642 = .ok (.iadd, 1) := by decide +kernel
theorem dd_L_law_643 : decode bb_L_law 643 = .ok (.iaload, 1) := by decide +kernel
theorem dd_L_law_644 : decode bb_L_law 644 = .ok (.invokevirtual 95, 3) := by decide +kernel
theorem dd_L_law_647 : decode bb_L_law 647 = .ok (.aload_n 2, 1) := by decide +kernel
theorem dd_L_law_648 : decode bb_L_law 648 = .ok (.aload_n 0, 1) := by decide +kernel
theorem dd_L_law_649 : decode bb_L_law 649 = .ok (.iload 4, 2) := by decide +kernel
theorem dd_L_law_651 : decode bb_L_law 651 = .ok (.iconst 1, 1) := by decide +kernel
theorem dd_L_law_652 : decode bb_L_law 652 = .ok (.iadd, 1) := by decide +kernel
theorem dd_L_law_653 : decode bb_L_law 653 = .ok (.iaload, 1) := by decide +kernel
theorem dd_L_law_654 : decode bb_L_law 654 = .ok (.aload_n 0, 1) := by decide +kernel
theorem dd_L_law_655 : decode bb_L_law 655 = .ok (.iload 4, 2) := by decide +kernel
theorem dd_L_law_657 : decode bb_L_law 657 = .ok (.iconst 2, 1) := by decide +kernel
theorem dd_L_law_658 : decode bb_L_law 658 = .ok (.iadd, 1) := by decide +kernel
theorem dd_L_law_659 : decode bb_L_law 659 = .ok (.iaload, 1) := by decide +kernel
theorem dd_L_law_660 : decode bb_L_law 660 = .ok (.invokevirtual 98, 3) := by decide +kernel
theorem dd_L_law_663 : decode bb_L_law 663 = .ok (.if_icmp .eq 92, 3) := by decide +kernel
theorem dd_L_law_666 : decode bb_L_law 666 = .ok (.iconst 0, 1) := by decide +kernel
theorem dd_L_law_667 : decode bb_L_law 667 = .ok (.ireturn, 1) := by decide +kernel
theorem dd_L_law_668 : decode bb_L_law 668 = .ok (.aload_n 1, 1) := by decide +kernel
theorem dd_L_law_669 : decode bb_L_law 669 = .ok (.aload_n 0, 1) := by decide +kernel
theorem dd_L_law_670 : decode bb_L_law 670 = .ok (.iload 4, 2) := by decide +kernel
theorem dd_L_law_672 : decode bb_L_law 672 = .ok (.iconst 1, 1) := by decide +kernel
theorem dd_L_law_673 : decode bb_L_law 673 = .ok (.iadd, 1) := by decide +kernel
theorem dd_L_law_674 : decode bb_L_law 674 = .ok (.iaload, 1) := by decide +kernel
theorem dd_L_law_675 : decode bb_L_law 675 = .ok (.aload_n 0, 1) := by decide +kernel
theorem dd_L_law_676 : decode bb_L_law 676 = .ok (.iload 4, 2) := by decide +kernel
theorem dd_L_law_678 : decode bb_L_law 678 = .ok (.iconst 2, 1) := by decide +kernel
theorem dd_L_law_679 : decode bb_L_law 679 = .ok (.iadd, 1) := by decide +kernel
theorem dd_L_law_680 : decode bb_L_law 680 = .ok (.iaload, 1) := by decide +kernel
theorem dd_L_law_681 : decode bb_L_law 681 = .ok (.aload_n 0, 1) := by decide +kernel
theorem dd_L_law_682 : decode bb_L_law 682 = .ok (.iload 4, 2) := by decide +kernel
theorem dd_L_law_684 : decode bb_L_law 684 = .ok (.iconst 3, 1) := by decide +kernel
theorem dd_L_law_685 : decode bb_L_law 685 = .ok (.iadd, 1) := by decide +kernel
theorem dd_L_law_686 : decode bb_L_law 686 = .ok (.iaload, 1) := by decide +kernel
theorem dd_L_law_687 : decode bb_L_law 687 = .ok (.invokevirtual 99, 3) := by decide +kernel
theorem dd_L_law_690 : decode bb_L_law 690 = .ok (.aload_n 2, 1) := by decide +kernel
theorem dd_L_law_691 : decode bb_L_law 691 = .ok (.aload_n 0, 1) := by decide +kernel
theorem dd_L_law_692 : decode bb_L_law 692 = .ok (.iload 4, 2) := by decide +kernel
theorem dd_L_law_694 : decode bb_L_law 694 = .ok (.iconst 1, 1) := by decide +kernel
theorem dd_L_law_695 : decode bb_L_law 695 = .ok (.iadd, 1) := by decide +kernel
theorem dd_L_law_696 : decode bb_L_law 696 = .ok (.iaload, 1) := by decide +kernel
theorem dd_L_law_697 : decode bb_L_law 697 = .ok (.aload_n 0, 1) := by decide +kernel
theorem dd_L_law_698 : decode bb_L_law 698 = .ok (.iload 4, 2) := by decide +kernel
theorem dd_L_law_700 : decode bb_L_law 700 = .ok (.iconst 2, 1) := by decide +kernel
theorem dd_L_law_701 : decode bb_L_law 701 = .ok (.iadd, 1) := by decide +kernel
theorem dd_L_law_702 : decode bb_L_law 702 = .ok (.iaload, 1) := by decide +kernel
theorem dd_L_law_703 : decode bb_L_law 703 = .ok (.aload_n 0, 1) := by decide +kernel
theorem dd_L_law_704 : decode bb_L_law 704 = .ok (.iload 4, 2) := by decide +kernel
theorem dd_L_law_706 : decode bb_L_law 706 = .ok (.iconst 3, 1) := by decide +kernel
theorem dd_L_law_707 : decode bb_L_law 707 = .ok (.iadd, 1) := by decide +kernel
theorem dd_L_law_708 : decode bb_L_law 708 = .ok (.iaload, 1) := by decide +kernel
theorem dd_L_law_709 : decode bb_L_law 709 = .ok (.invokevirtual 103, 3) := by decide +kernel
theorem dd_L_law_712 : decode bb_L_law 712 = .ok (.if_icmp .eq 43, 3) := by decide +kernel
theorem dd_L_law_715 : decode bb_L_law 715 = .ok (.iconst 0, 1) := by decide +kernel
theorem dd_L_law_716 : decode bb_L_law 716 = .ok (.ireturn, 1) := by decide +kernel
theorem dd_L_law_717 : decode bb_L_law 717 = .ok (.aload_n 1, 1) := by decide +kernel
theorem dd_L_law_718 : decode bb_L_law 718 = .ok (.invokevirtual 104, 3) := by decide +kernel
theorem dd_L_law_721 : decode bb_L_law 721 = .ok (.aload_n 2, 1) := by decide +kernel
theorem dd_L_law_722 : decode bb_L_law 722 = .ok (.invokevirtual 107, 3) := by decide +kernel
theorem dd_L_law_725 : decode bb_L_law 725 = .ok (.if_icmp .eq 30, 3) := by decide +kernel
theorem dd_L_law_728 : decode bb_L_law 728 = .ok (.iconst 0, 1) := by decide +kernel
theorem dd_L_law_729 : decode bb_L_law 729 = .ok (.ireturn, 1) := by decide +kernel
theorem dd_L_law_730 : decode bb_L_law 730 = .ok (.aload_n 1, 1) := by decide +kernel
theorem dd_L_law_731 : decode bb_L_law 731 = .ok (.aload_n 0, 1) := by decide +kernel
theorem dd_L_law_732 : decode bb_L_law 732 = .ok (.iload 4, 2) := by decide +kernel
theorem dd_L_law_734 : decode bb_L_law 734 = .ok (.iconst 1, 1) := by decide +kernel
theorem dd_L_law_735 : decode bb_L_law 735 = .ok (.iadd, 1) := by decide +kernel
theorem dd_L_law_736 : decode bb_L_law 736 = .ok (.iaload, 1) := by decide +kernel
theorem dd_L_law_737 : decode bb_L_law 737 = .ok (.invokevirtual 108, 3) := by decide +kernel
theorem dd_L_law_740 : decode bb_L_law 740 = .ok (.aload_n 2, 1) := by decide +kernel
theorem dd_L_law_741 : decode bb_L_law 741 = .ok (.aload_n 0, 1) := by decide +kernel
theorem dd_L_law_742 : decode bb_L_law 742 = .ok (.iload 4, 2) := by decide +kernel
theorem dd_L_law_744 : decode bb_L_law 744 = .ok (.iconst 1, 1) := by decide +kernel
theorem dd_L_law_745 : decode bb_L_law 745 = .ok (.iadd, 1) := by decide +kernel
theorem dd_L_law_746 : decode bb_L_law 746 = .ok (.iaload, 1) := by decide +kernel
theorem dd_L_law_747 : decode bb_L_law 747 = .ok (.invokevirtual 111, 3) := by decide +kernel
theorem dd_L_law_750 : decode bb_L_law 750 = .ok (.if_icmp .eq 5, 3) := by decide +kernel
theorem dd_L_law_753 : decode bb_L_law 753 = .ok (.iconst 0, 1) := by decide +kernel
theorem dd_L_law_754 : decode bb_L_law 754 = .ok (.ireturn, 1) := by decide +kernel
theorem dd_L_law_755 : decode bb_L_law 755 = .ok (.iinc 4 5, 3) := by decide +kernel
theorem dd_L_law_758 : decode bb_L_law 758 = .ok (.goto (-735), 3) := by decide +kernel
theorem dd_L_law_761 : decode bb_L_law 761 = .ok (.iconst 1, 1) := by decide +kernel
theorem dd_L_law_762 : decode bb_L_law 762 = .ok (.ireturn, 1) := by decide +kernel
end
section
/-! the rows of the tables, one by one -/
theorem tb_1 {w : Cond} (h : w ∈ tables_1_1) : w ∈ lw_tbl := List.mem_append_right _ (show w ∈ tables_1 from List.mem_append_left _ h)
theorem tb_2 {w : Cond} (h : w ∈ tables_1_2) : w ∈ lw_tbl := List.mem_append_right _ (show w ∈ tables_1 from List.mem_append_right _ (List.mem_append_left _ h))
theorem tb_3 {w : Cond} (h : w ∈ tables_1_3) : w ∈ lw_tbl := List.mem_append_right _ (show w ∈ tables_1 from List.mem_append_right _ (List.mem_append_right _ (List.mem_append_left _ h)))
theorem tb_4 {w : Cond} (h : w ∈ tables_1_4) : w ∈ lw_tbl := List.mem_append_right _ (show w ∈ tables_1 from List.mem_append_right _ (List.mem_append_right _ (List.mem_append_right _ (h))))
theorem wd_0 : (Jvm.Cond.initialized "FixupVolumeLaw") ∈ lw_tbl := tb_1 (List.mem_of_getElem? (i := 0) rfl)
theorem wd_1 : (Jvm.Cond.initialized "FixupVolume") ∈ lw_tbl := tb_1 (List.mem_of_getElem? (i := 1) rfl)
theorem wd_2 : (Jvm.Cond.initialized "FixupVolume$Disk") ∈ lw_tbl := tb_1 (List.mem_of_getElem? (i := 2) rfl)
theorem wd_3 : (Jvm.Cond.initialized "FixupVolume$Sheet") ∈ lw_tbl := tb_1 (List.mem_of_getElem? (i := 3) rfl)
theorem wd_4 : (Jvm.Cond.initialized "FixupVolume$Name") ∈ lw_tbl := tb_1 (List.mem_of_getElem? (i := 4) rfl)
theorem wd_5 : (Jvm.Cond.initialized "FixupVolume$Layout") ∈ lw_tbl := tb_1 (List.mem_of_getElem? (i := 5) rfl)
theorem wd_6 : (Jvm.Cond.initialized "java/util/Arrays") ∈ lw_tbl := tb_1 (List.mem_of_getElem? (i := 6) rfl)
theorem wd_7 : (Jvm.Cond.initialized "java/lang/System") ∈ lw_tbl := tb_1 (List.mem_of_getElem? (i := 7) rfl)
theorem wd_8 : (Jvm.Cond.initialized "FixupVolumeModel") ∈ lw_tbl := tb_1 (List.mem_of_getElem? (i := 8) rfl)
theorem wd_9 : (Jvm.Cond.initialized "java/lang/Throwable") ∈ lw_tbl := tb_1 (List.mem_of_getElem? (i := 9) rfl)
theorem wd_10 : (Jvm.Cond.initialized "java/lang/Exception") ∈ lw_tbl := tb_1 (List.mem_of_getElem? (i := 10) rfl)
theorem wd_11 : (Jvm.Cond.initialized "java/lang/RuntimeException") ∈ lw_tbl := tb_1 (List.mem_of_getElem? (i := 11) rfl)
theorem wd_12 : (Jvm.Cond.initialized "java/lang/IllegalStateException") ∈ lw_tbl := tb_1 (List.mem_of_getElem? (i := 12) rfl)
theorem wd_13 : (Jvm.Cond.initialized "java/lang/Math") ∈ lw_tbl := tb_1 (List.mem_of_getElem? (i := 13) rfl)
theorem wd_14 : (Jvm.Cond.initialized "java/lang/IllegalArgumentException") ∈ lw_tbl := tb_1 (List.mem_of_getElem? (i := 14) rfl)
theorem wd_15 : (Jvm.Cond.initialized "java/lang/UnsupportedOperationException") ∈ lw_tbl := tb_1 (List.mem_of_getElem? (i := 15) rfl)
theorem wd_16 : (Jvm.Cond.classLink "FixupVolumeLaw" (8 : Nat) "FixupVolume") ∈ lw_tbl := tb_1 (List.mem_of_getElem? (i := 16) rfl)
theorem wd_17 : (Jvm.Cond.instantiable "FixupVolume" (9 : Nat)) ∈ lw_tbl := tb_1 (List.mem_of_getElem? (i := 17) rfl)
theorem wd_18 : (Jvm.Cond.methodLink "FixupVolumeLaw" (39 : Nat) ({ cls := "FixupVolume", name := "<init>", desc := "()V" } : Jvm.MethodName)) ∈ lw_tbl := tb_1 (List.mem_of_getElem? (i := 18) rfl)
theorem wd_19 : (Jvm.Cond.instanceMethod ({ cls := "FixupVolume", name := "<init>", desc := "()V" } : Jvm.MethodName)) ∈ lw_tbl := tb_1 (List.mem_of_getElem? (i := 19) rfl)
theorem wd_20 : (Jvm.Cond.code ({ cls := "FixupVolume", name := "<init>", desc := "()V" } : Jvm.MethodName) prog_1_method_1_code (2 : Nat) (Option.none : Option Jvm.ClassFile.FieldType)) ∈ lw_tbl := tb_1 (List.mem_of_getElem? (i := 20) rfl)
theorem wd_21 : (Jvm.Cond.methodLink "FixupVolume" (3 : Nat) ({ cls := "java/lang/Object", name := "<init>", desc := "()V" } : Jvm.MethodName)) ∈ lw_tbl := tb_1 (List.mem_of_getElem? (i := 21) rfl)
theorem wd_22 : (Jvm.Cond.instanceMethod ({ cls := "java/lang/Object", name := "<init>", desc := "()V" } : Jvm.MethodName)) ∈ lw_tbl := tb_1 (List.mem_of_getElem? (i := 22) rfl)
theorem wd_23 : (Jvm.Cond.code ({ cls := "java/lang/Object", name := "<init>", desc := "()V" } : Jvm.MethodName) object_method_1_code (1 : Nat) (Option.none : Option Jvm.ClassFile.FieldType)) ∈ lw_tbl := tb_1 (List.mem_of_getElem? (i := 23) rfl)
theorem wd_24 : (Jvm.Cond.classLink "FixupVolume" (9 : Nat) "FixupVolume$Disk") ∈ lw_tbl := tb_1 (List.mem_of_getElem? (i := 24) rfl)
theorem wd_25 : (Jvm.Cond.instantiable "FixupVolume$Disk" (2 : Nat)) ∈ lw_tbl := tb_1 (List.mem_of_getElem? (i := 25) rfl)
theorem wd_26 : (Jvm.Cond.methodLinkNest "FixupVolume" (11 : Nat) ({ cls := "FixupVolume$Disk", name := "<init>", desc := "()V" } : Jvm.MethodName) "FixupVolume") ∈ lw_tbl := tb_1 (List.mem_of_getElem? (i := 26) rfl)
theorem wd_27 : (Jvm.Cond.instanceMethod ({ cls := "FixupVolume$Disk", name := "<init>", desc := "()V" } : Jvm.MethodName)) ∈ lw_tbl := tb_1 (List.mem_of_getElem? (i := 27) rfl)
theorem wd_28 : (Jvm.Cond.code ({ cls := "FixupVolume$Disk", name := "<init>", desc := "()V" } : Jvm.MethodName) prog_2_method_1_code (1 : Nat) (Option.none : Option Jvm.ClassFile.FieldType)) ∈ lw_tbl := tb_1 (List.mem_of_getElem? (i := 28) rfl)
theorem wd_29 : (Jvm.Cond.methodLink "FixupVolume$Disk" (3 : Nat) ({ cls := "java/lang/Object", name := "<init>", desc := "()V" } : Jvm.MethodName)) ∈ lw_tbl := tb_1 (List.mem_of_getElem? (i := 29) rfl)
theorem wd_30 : (Jvm.Cond.fieldLink "FixupVolume$Disk" (9 : Nat) "FixupVolume$Disk" "cells" "[I") ∈ lw_tbl := tb_1 (List.mem_of_getElem? (i := 30) rfl)
theorem wd_31 : (Jvm.Cond.fieldLink "FixupVolume" (232 : Nat) "FixupVolume$Disk" "cells" "[I") ∈ lw_tbl := tb_1 (List.mem_of_getElem? (i := 31) rfl)
theorem wd_32 : (Jvm.Cond.fieldLink "FixupVolume$Disk" (15 : Nat) "FixupVolume$Disk" "sectorsToCut" "I") ∈ lw_tbl := tb_1 (List.mem_of_getElem? (i := 32) rfl)
theorem wd_33 : (Jvm.Cond.fieldLink "FixupVolume" (183 : Nat) "FixupVolume$Disk" "sectorsToCut" "I") ∈ lw_tbl := tb_1 (List.mem_of_getElem? (i := 33) rfl)
theorem wd_34 : (Jvm.Cond.laysFinal "FixupVolume$Disk" "FixupVolume$Disk" "cells" "[I") ∈ lw_tbl := tb_1 (List.mem_of_getElem? (i := 34) rfl)
theorem wd_35 : (Jvm.Cond.soleField "FixupVolume$Disk" "cells") ∈ lw_tbl := tb_1 (List.mem_of_getElem? (i := 35) rfl)
theorem wd_36 : (Jvm.Cond.lays "FixupVolume$Disk" "FixupVolume$Disk" "sectorsToCut" "I") ∈ lw_tbl := tb_1 (List.mem_of_getElem? (i := 36) rfl)
theorem wd_37 : (Jvm.Cond.soleField "FixupVolume$Disk" "sectorsToCut") ∈ lw_tbl := tb_1 (List.mem_of_getElem? (i := 37) rfl)
theorem wd_38 : (Jvm.Cond.superclass "FixupVolume$Disk" "java/lang/Object") ∈ lw_tbl := tb_1 (List.mem_of_getElem? (i := 38) rfl)
theorem wd_39 : (Jvm.Cond.arrayClass Jvm.ClassFile.FieldType.int) ∈ lw_tbl := tb_1 (List.mem_of_getElem? (i := 39) rfl)
theorem wd_40 : (Jvm.Cond.classLink "FixupVolume" (16 : Nat) "FixupVolume$Sheet") ∈ lw_tbl := tb_1 (List.mem_of_getElem? (i := 40) rfl)
theorem wd_41 : (Jvm.Cond.arrayOver (Jvm.ClassFile.FieldType.object "FixupVolume$Sheet")) ∈ lw_tbl := tb_1 (List.mem_of_getElem? (i := 41) rfl)
theorem wd_42 : (Jvm.Cond.instantiable "FixupVolume$Sheet" (8 : Nat)) ∈ lw_tbl := tb_1 (List.mem_of_getElem? (i := 42) rfl)
theorem wd_43 : (Jvm.Cond.methodLinkNest "FixupVolume" (22 : Nat) ({ cls := "FixupVolume$Sheet", name := "<init>", desc := "()V" } : Jvm.MethodName) "FixupVolume") ∈ lw_tbl := tb_1 (List.mem_of_getElem? (i := 43) rfl)
theorem wd_44 : (Jvm.Cond.instanceMethod ({ cls := "FixupVolume$Sheet", name := "<init>", desc := "()V" } : Jvm.MethodName)) ∈ lw_tbl := tb_1 (List.mem_of_getElem? (i := 44) rfl)
theorem wd_45 : (Jvm.Cond.code ({ cls := "FixupVolume$Sheet", name := "<init>", desc := "()V" } : Jvm.MethodName) prog_5_method_1_code (1 : Nat) (Option.none : Option Jvm.ClassFile.FieldType)) ∈ lw_tbl := tb_1 (List.mem_of_getElem? (i := 45) rfl)
theorem wd_46 : (Jvm.Cond.methodLink "FixupVolume$Sheet" (3 : Nat) ({ cls := "java/lang/Object", name := "<init>", desc := "()V" } : Jvm.MethodName)) ∈ lw_tbl := tb_1 (List.mem_of_getElem? (i := 46) rfl)
theorem wd_47 : (Jvm.Cond.classLink "FixupVolume$Sheet" (9 : Nat) "FixupVolume$Name") ∈ lw_tbl := tb_1 (List.mem_of_getElem? (i := 47) rfl)
theorem wd_48 : (Jvm.Cond.instantiable "FixupVolume$Name" (2 : Nat)) ∈ lw_tbl := tb_1 (List.mem_of_getElem? (i := 48) rfl)
theorem wd_49 : (Jvm.Cond.methodLinkNest "FixupVolume$Sheet" (11 : Nat) ({ cls := "FixupVolume$Name", name := "<init>", desc := "()V" } : Jvm.MethodName) "FixupVolume") ∈ lw_tbl := tb_1 (List.mem_of_getElem? (i := 49) rfl)
theorem wd_50 : (Jvm.Cond.instanceMethod ({ cls := "FixupVolume$Name", name := "<init>", desc := "()V" } : Jvm.MethodName)) ∈ lw_tbl := tb_1 (List.mem_of_getElem? (i := 50) rfl)
theorem wd_51 : (Jvm.Cond.code ({ cls := "FixupVolume$Name", name := "<init>", desc := "()V" } : Jvm.MethodName) prog_4_method_1_code (1 : Nat) (Option.none : Option Jvm.ClassFile.FieldType)) ∈ lw_tbl := tb_1 (List.mem_of_getElem? (i := 51) rfl)
theorem wd_52 : (Jvm.Cond.methodLink "FixupVolume$Name" (3 : Nat) ({ cls := "java/lang/Object", name := "<init>", desc := "()V" } : Jvm.MethodName)) ∈ lw_tbl := tb_1 (List.mem_of_getElem? (i := 52) rfl)
theorem wd_53 : (Jvm.Cond.fieldLink "FixupVolume$Name" (9 : Nat) "FixupVolume$Name" "letters" "[I") ∈ lw_tbl := tb_1 (List.mem_of_getElem? (i := 53) rfl)
theorem wd_54 : (Jvm.Cond.fieldLink "FixupVolume$Sheet" (92 : Nat) "FixupVolume$Name" "letters" "[I") ∈ lw_tbl := tb_1 (List.mem_of_getElem? (i := 54) rfl)
theorem wd_55 : (Jvm.Cond.fieldLink "FixupVolume$Name" (15 : Nat) "FixupVolume$Name" "length" "I") ∈ lw_tbl := tb_1 (List.mem_of_getElem? (i := 55) rfl)
theorem wd_56 : (Jvm.Cond.fieldLink "FixupVolume" (87 : Nat) "FixupVolume$Name" "length" "I") ∈ lw_tbl := tb_1 (List.mem_of_getElem? (i := 56) rfl)
theorem wd_57 : (Jvm.Cond.fieldLink "FixupVolume$Sheet" (52 : Nat) "FixupVolume$Name" "length" "I") ∈ lw_tbl := tb_1 (List.mem_of_getElem? (i := 57) rfl)
theorem wd_58 : (Jvm.Cond.laysFinal "FixupVolume$Name" "FixupVolume$Name" "letters" "[I") ∈ lw_tbl := tb_1 (List.mem_of_getElem? (i := 58) rfl)
theorem wd_59 : (Jvm.Cond.soleField "FixupVolume$Name" "letters") ∈ lw_tbl := tb_1 (List.mem_of_getElem? (i := 59) rfl)
theorem wd_60 : (Jvm.Cond.lays "FixupVolume$Name" "FixupVolume$Name" "length" "I") ∈ lw_tbl := tb_1 (List.mem_of_getElem? (i := 60) rfl)
theorem wd_61 : (Jvm.Cond.soleField "FixupVolume$Name" "length") ∈ lw_tbl := tb_1 (List.mem_of_getElem? (i := 61) rfl)
theorem wd_62 : (Jvm.Cond.superclass "FixupVolume$Name" "java/lang/Object") ∈ lw_tbl := tb_1 (List.mem_of_getElem? (i := 62) rfl)
theorem wd_63 : (Jvm.Cond.classLink "FixupVolume$Sheet" (22 : Nat) "FixupVolume$Layout") ∈ lw_tbl := tb_1 (List.mem_of_getElem? (i := 63) rfl)
theorem wd_64 : (Jvm.Cond.instantiable "FixupVolume$Layout" (2 : Nat)) ∈ lw_tbl := tb_1 (List.mem_of_getElem? (i := 64) rfl)
theorem wd_65 : (Jvm.Cond.methodLinkNest "FixupVolume$Sheet" (24 : Nat) ({ cls := "FixupVolume$Layout", name := "<init>", desc := "()V" } : Jvm.MethodName) "FixupVolume") ∈ lw_tbl := tb_1 (List.mem_of_getElem? (i := 65) rfl)
theorem wd_66 : (Jvm.Cond.instanceMethod ({ cls := "FixupVolume$Layout", name := "<init>", desc := "()V" } : Jvm.MethodName)) ∈ lw_tbl := tb_1 (List.mem_of_getElem? (i := 66) rfl)
theorem wd_67 : (Jvm.Cond.code ({ cls := "FixupVolume$Layout", name := "<init>", desc := "()V" } : Jvm.MethodName) prog_3_method_1_code (1 : Nat) (Option.none : Option Jvm.ClassFile.FieldType)) ∈ lw_tbl := tb_1 (List.mem_of_getElem? (i := 67) rfl)
theorem wd_68 : (Jvm.Cond.methodLink "FixupVolume$Layout" (3 : Nat) ({ cls := "java/lang/Object", name := "<init>", desc := "()V" } : Jvm.MethodName)) ∈ lw_tbl := tb_1 (List.mem_of_getElem? (i := 68) rfl)
theorem wd_69 : (Jvm.Cond.fieldLink "FixupVolume$Layout" (9 : Nat) "FixupVolume$Layout" "places" "[I") ∈ lw_tbl := tb_1 (List.mem_of_getElem? (i := 69) rfl)
theorem wd_70 : (Jvm.Cond.fieldLink "FixupVolume" (286 : Nat) "FixupVolume$Layout" "places" "[I") ∈ lw_tbl := tb_1 (List.mem_of_getElem? (i := 70) rfl)
theorem wd_71 : (Jvm.Cond.fieldLink "FixupVolume$Layout" (15 : Nat) "FixupVolume$Layout" "count" "I") ∈ lw_tbl := tb_1 (List.mem_of_getElem? (i := 71) rfl)
theorem wd_72 : (Jvm.Cond.fieldLink "FixupVolume$Sheet" (45 : Nat) "FixupVolume$Layout" "count" "I") ∈ lw_tbl := tb_1 (List.mem_of_getElem? (i := 72) rfl)
theorem wd_73 : (Jvm.Cond.fieldLink "FixupVolume" (262 : Nat) "FixupVolume$Layout" "count" "I") ∈ lw_tbl := tb_1 (List.mem_of_getElem? (i := 73) rfl)
theorem wd_74 : (Jvm.Cond.laysFinal "FixupVolume$Layout" "FixupVolume$Layout" "places" "[I") ∈ lw_tbl := tb_1 (List.mem_of_getElem? (i := 74) rfl)
theorem wd_75 : (Jvm.Cond.soleField "FixupVolume$Layout" "places") ∈ lw_tbl := tb_1 (List.mem_of_getElem? (i := 75) rfl)
theorem wd_76 : (Jvm.Cond.lays "FixupVolume$Layout" "FixupVolume$Layout" "count" "I") ∈ lw_tbl := tb_1 (List.mem_of_getElem? (i := 76) rfl)
theorem wd_77 : (Jvm.Cond.soleField "FixupVolume$Layout" "count") ∈ lw_tbl := tb_1 (List.mem_of_getElem? (i := 77) rfl)
theorem wd_78 : (Jvm.Cond.superclass "FixupVolume$Layout" "java/lang/Object") ∈ lw_tbl := tb_1 (List.mem_of_getElem? (i := 78) rfl)
theorem wd_79 : (Jvm.Cond.fieldLink "FixupVolume$Sheet" (29 : Nat) "FixupVolume$Sheet" "state" "I") ∈ lw_tbl := tb_1 (List.mem_of_getElem? (i := 79) rfl)
theorem wd_80 : (Jvm.Cond.fieldLink "FixupVolume" (205 : Nat) "FixupVolume$Sheet" "state" "I") ∈ lw_tbl := tb_1 (List.mem_of_getElem? (i := 80) rfl)
theorem wd_81 : (Jvm.Cond.fieldLink "FixupVolume$Sheet" (33 : Nat) "FixupVolume$Sheet" "parent" "I") ∈ lw_tbl := tb_1 (List.mem_of_getElem? (i := 81) rfl)
theorem wd_82 : (Jvm.Cond.fieldLink "FixupVolume" (173 : Nat) "FixupVolume$Sheet" "parent" "I") ∈ lw_tbl := tb_1 (List.mem_of_getElem? (i := 82) rfl)
theorem wd_83 : (Jvm.Cond.fieldLink "FixupVolume$Sheet" (48 : Nat) "FixupVolume$Sheet" "number" "I") ∈ lw_tbl := tb_1 (List.mem_of_getElem? (i := 83) rfl)
theorem wd_84 : (Jvm.Cond.fieldLink "FixupVolume" (208 : Nat) "FixupVolume$Sheet" "number" "I") ∈ lw_tbl := tb_1 (List.mem_of_getElem? (i := 84) rfl)
theorem wd_85 : (Jvm.Cond.fieldLink "FixupVolume$Sheet" (36 : Nat) "FixupVolume$Sheet" "kind" "I") ∈ lw_tbl := tb_1 (List.mem_of_getElem? (i := 85) rfl)
theorem wd_86 : (Jvm.Cond.fieldLink "FixupVolume" (132 : Nat) "FixupVolume$Sheet" "kind" "I") ∈ lw_tbl := tb_1 (List.mem_of_getElem? (i := 86) rfl)
theorem wd_87 : (Jvm.Cond.fieldLink "FixupVolume$Sheet" (39 : Nat) "FixupVolume$Sheet" "size" "I") ∈ lw_tbl := tb_1 (List.mem_of_getElem? (i := 87) rfl)
theorem wd_88 : (Jvm.Cond.fieldLink "FixupVolume" (123 : Nat) "FixupVolume$Sheet" "size" "I") ∈ lw_tbl := tb_1 (List.mem_of_getElem? (i := 88) rfl)
theorem wd_89 : (Jvm.Cond.fieldLink "FixupVolume$Sheet" (12 : Nat) "FixupVolume$Sheet" "name" "LFixupVolume$Name;") ∈ lw_tbl := tb_1 (List.mem_of_getElem? (i := 89) rfl)
theorem wd_90 : (Jvm.Cond.fieldLink "FixupVolume" (110 : Nat) "FixupVolume$Sheet" "name" "LFixupVolume$Name;") ∈ lw_tbl := tb_1 (List.mem_of_getElem? (i := 90) rfl)
theorem wd_91 : (Jvm.Cond.fieldLink "FixupVolume$Sheet" (18 : Nat) "FixupVolume$Sheet" "held" "[I") ∈ lw_tbl := tb_1 (List.mem_of_getElem? (i := 91) rfl)
theorem wd_92 : (Jvm.Cond.fieldLink "FixupVolume" (220 : Nat) "FixupVolume$Sheet" "held" "[I") ∈ lw_tbl := tb_1 (List.mem_of_getElem? (i := 92) rfl)
theorem wd_93 : (Jvm.Cond.fieldLink "FixupVolume$Sheet" (25 : Nat) "FixupVolume$Sheet" "layout" "LFixupVolume$Layout;") ∈ lw_tbl := tb_1 (List.mem_of_getElem? (i := 93) rfl)
theorem wd_94 : (Jvm.Cond.fieldLink "FixupVolume" (152 : Nat) "FixupVolume$Sheet" "layout" "LFixupVolume$Layout;") ∈ lw_tbl := tb_1 (List.mem_of_getElem? (i := 94) rfl)
theorem wd_95 : (Jvm.Cond.lays "FixupVolume$Sheet" "FixupVolume$Sheet" "state" "I") ∈ lw_tbl := tb_1 (List.mem_of_getElem? (i := 95) rfl)
theorem wd_96 : (Jvm.Cond.soleField "FixupVolume$Sheet" "state") ∈ lw_tbl := tb_1 (List.mem_of_getElem? (i := 96) rfl)
theorem wd_97 : (Jvm.Cond.lays "FixupVolume$Sheet" "FixupVolume$Sheet" "parent" "I") ∈ lw_tbl := tb_1 (List.mem_of_getElem? (i := 97) rfl)
theorem wd_98 : (Jvm.Cond.soleField "FixupVolume$Sheet" "parent") ∈ lw_tbl := tb_1 (List.mem_of_getElem? (i := 98) rfl)
theorem wd_99 : (Jvm.Cond.lays "FixupVolume$Sheet" "FixupVolume$Sheet" "number" "I") ∈ lw_tbl := tb_1 (List.mem_of_getElem? (i := 99) rfl)
theorem wd_100 : (Jvm.Cond.soleField "FixupVolume$Sheet" "number") ∈ lw_tbl := tb_1 (List.mem_of_getElem? (i := 100) rfl)
theorem wd_101 : (Jvm.Cond.lays "FixupVolume$Sheet" "FixupVolume$Sheet" "kind" "I") ∈ lw_tbl := tb_1 (List.mem_of_getElem? (i := 101) rfl)
theorem wd_102 : (Jvm.Cond.soleField "FixupVolume$Sheet" "kind") ∈ lw_tbl := tb_1 (List.mem_of_getElem? (i := 102) rfl)
theorem wd_103 : (Jvm.Cond.lays "FixupVolume$Sheet" "FixupVolume$Sheet" "size" "I") ∈ lw_tbl := tb_1 (List.mem_of_getElem? (i := 103) rfl)
theorem wd_104 : (Jvm.Cond.soleField "FixupVolume$Sheet" "size") ∈ lw_tbl := tb_1 (List.mem_of_getElem? (i := 104) rfl)
theorem wd_105 : (Jvm.Cond.laysFinal "FixupVolume$Sheet" "FixupVolume$Sheet" "name" "LFixupVolume$Name;") ∈ lw_tbl := tb_1 (List.mem_of_getElem? (i := 105) rfl)
theorem wd_106 : (Jvm.Cond.soleField "FixupVolume$Sheet" "name") ∈ lw_tbl := tb_1 (List.mem_of_getElem? (i := 106) rfl)
theorem wd_107 : (Jvm.Cond.laysFinal "FixupVolume$Sheet" "FixupVolume$Sheet" "held" "[I") ∈ lw_tbl := tb_1 (List.mem_of_getElem? (i := 107) rfl)
theorem wd_108 : (Jvm.Cond.soleField "FixupVolume$Sheet" "held") ∈ lw_tbl := tb_1 (List.mem_of_getElem? (i := 108) rfl)
theorem wd_109 : (Jvm.Cond.laysFinal "FixupVolume$Sheet" "FixupVolume$Sheet" "layout" "LFixupVolume$Layout;") ∈ lw_tbl := tb_1 (List.mem_of_getElem? (i := 109) rfl)
theorem wd_110 : (Jvm.Cond.soleField "FixupVolume$Sheet" "layout") ∈ lw_tbl := tb_1 (List.mem_of_getElem? (i := 110) rfl)
theorem wd_111 : (Jvm.Cond.superclass "FixupVolume$Sheet" "java/lang/Object") ∈ lw_tbl := tb_1 (List.mem_of_getElem? (i := 111) rfl)
theorem wd_112 : (Jvm.Cond.classLink "FixupVolume" (27 : Nat) "FixupVolume$Name") ∈ lw_tbl := tb_1 (List.mem_of_getElem? (i := 112) rfl)
theorem wd_113 : (Jvm.Cond.methodLinkNest "FixupVolume" (29 : Nat) ({ cls := "FixupVolume$Name", name := "<init>", desc := "()V" } : Jvm.MethodName) "FixupVolume") ∈ lw_tbl := tb_1 (List.mem_of_getElem? (i := 113) rfl)
theorem wd_114 : (Jvm.Cond.classLink "FixupVolume" (37 : Nat) "FixupVolume$Layout") ∈ lw_tbl := tb_1 (List.mem_of_getElem? (i := 114) rfl)
theorem wd_115 : (Jvm.Cond.methodLinkNest "FixupVolume" (39 : Nat) ({ cls := "FixupVolume$Layout", name := "<init>", desc := "()V" } : Jvm.MethodName) "FixupVolume") ∈ lw_tbl := tb_1 (List.mem_of_getElem? (i := 115) rfl)
theorem wd_116 : (Jvm.Cond.methodLink "FixupVolume" (51 : Nat) ({ cls := "FixupVolume$Sheet", name := "become", desc := "(II)V" } : Jvm.MethodName)) ∈ lw_tbl := tb_1 (List.mem_of_getElem? (i := 116) rfl)
theorem wd_117 : (Jvm.Cond.instanceMethod ({ cls := "FixupVolume$Sheet", name := "become", desc := "(II)V" } : Jvm.MethodName)) ∈ lw_tbl := tb_1 (List.mem_of_getElem? (i := 117) rfl)
theorem wd_118 : (Jvm.Cond.selects "FixupVolume$Sheet" ({ cls := "FixupVolume$Sheet", name := "become", desc := "(II)V" } : Jvm.MethodName) ({ cls := "FixupVolume$Sheet", name := "become", desc := "(II)V" } : Jvm.MethodName)) ∈ lw_tbl := tb_1 (List.mem_of_getElem? (i := 118) rfl)
theorem wd_119 : (Jvm.Cond.code ({ cls := "FixupVolume$Sheet", name := "become", desc := "(II)V" } : Jvm.MethodName) prog_5_method_2_code (3 : Nat) (Option.none : Option Jvm.ClassFile.FieldType)) ∈ lw_tbl := tb_1 (List.mem_of_getElem? (i := 119) rfl)
theorem wd_120 : (Jvm.Cond.methodLink "FixupVolume$Sheet" (42 : Nat) ({ cls := "FixupVolume$Name", name := "clear", desc := "()V" } : Jvm.MethodName)) ∈ lw_tbl := tb_1 (List.mem_of_getElem? (i := 120) rfl)
theorem wd_121 : (Jvm.Cond.instanceMethod ({ cls := "FixupVolume$Name", name := "clear", desc := "()V" } : Jvm.MethodName)) ∈ lw_tbl := tb_1 (List.mem_of_getElem? (i := 121) rfl)
theorem wd_122 : (Jvm.Cond.selects "FixupVolume$Name" ({ cls := "FixupVolume$Name", name := "clear", desc := "()V" } : Jvm.MethodName) ({ cls := "FixupVolume$Name", name := "clear", desc := "()V" } : Jvm.MethodName)) ∈ lw_tbl := tb_1 (List.mem_of_getElem? (i := 122) rfl)
theorem wd_123 : (Jvm.Cond.code ({ cls := "FixupVolume$Name", name := "clear", desc := "()V" } : Jvm.MethodName) prog_4_method_3_code (1 : Nat) (Option.none : Option Jvm.ClassFile.FieldType)) ∈ lw_tbl := tb_1 (List.mem_of_getElem? (i := 123) rfl)
theorem wd_124 : (Jvm.Cond.methodLink "FixupVolume" (55 : Nat) ({ cls := "FixupVolume$Sheet", name := "takeNextNumber", desc := "()V" } : Jvm.MethodName)) ∈ lw_tbl := tb_1 (List.mem_of_getElem? (i := 124) rfl)
theorem wd_125 : (Jvm.Cond.instanceMethod ({ cls := "FixupVolume$Sheet", name := "takeNextNumber", desc := "()V" } : Jvm.MethodName)) ∈ lw_tbl := tb_1 (List.mem_of_getElem? (i := 125) rfl)
theorem wd_126 : (Jvm.Cond.selects "FixupVolume$Sheet" ({ cls := "FixupVolume$Sheet", name := "takeNextNumber", desc := "()V" } : Jvm.MethodName) ({ cls := "FixupVolume$Sheet", name := "takeNextNumber", desc := "()V" } : Jvm.MethodName)) ∈ lw_tbl := tb_1 (List.mem_of_getElem? (i := 126) rfl)
theorem wd_127 : (Jvm.Cond.code ({ cls := "FixupVolume$Sheet", name := "takeNextNumber", desc := "()V" } : Jvm.MethodName) prog_5_method_3_code (1 : Nat) (Option.none : Option Jvm.ClassFile.FieldType)) ∈ lw_tbl := tb_1 (List.mem_of_getElem? (i := 127) rfl)
theorem wd_128 : (Jvm.Cond.constant "FixupVolume$Sheet" (51 : Nat) (65535 : Int32)) ∈ lw_tbl := tb_1 (List.mem_of_getElem? (i := 128) rfl)
theorem wd_129 : (Jvm.Cond.methodLink "FixupVolume" (58 : Nat) ({ cls := "FixupVolume$Sheet", name := "encode", desc := "([I)V" } : Jvm.MethodName)) ∈ lw_tbl := tb_1 (List.mem_of_getElem? (i := 129) rfl)
theorem wd_130 : (Jvm.Cond.instanceMethod ({ cls := "FixupVolume$Sheet", name := "encode", desc := "([I)V" } : Jvm.MethodName)) ∈ lw_tbl := tb_1 (List.mem_of_getElem? (i := 130) rfl)
theorem wd_131 : (Jvm.Cond.selects "FixupVolume$Sheet" ({ cls := "FixupVolume$Sheet", name := "encode", desc := "([I)V" } : Jvm.MethodName) ({ cls := "FixupVolume$Sheet", name := "encode", desc := "([I)V" } : Jvm.MethodName)) ∈ lw_tbl := tb_1 (List.mem_of_getElem? (i := 131) rfl)
theorem wd_132 : (Jvm.Cond.code ({ cls := "FixupVolume$Sheet", name := "encode", desc := "([I)V" } : Jvm.MethodName) prog_5_method_11_code (3 : Nat) (Option.none : Option Jvm.ClassFile.FieldType)) ∈ lw_tbl := tb_1 (List.mem_of_getElem? (i := 132) rfl)
theorem wd_133 : (Jvm.Cond.methodLink "FixupVolume$Sheet" (71 : Nat) ({ cls := "java/util/Arrays", name := "fill", desc := "([II)V" } : Jvm.MethodName)) ∈ lw_tbl := tb_1 (List.mem_of_getElem? (i := 133) rfl)
theorem wd_134 : (Jvm.Cond.static ({ cls := "java/util/Arrays", name := "fill", desc := "([II)V" } : Jvm.MethodName)) ∈ lw_tbl := tb_1 (List.mem_of_getElem? (i := 134) rfl)
theorem wd_135 : (Jvm.Cond.code ({ cls := "java/util/Arrays", name := "fill", desc := "([II)V" } : Jvm.MethodName) prog_17_method_103_code (4 : Nat) (Option.none : Option Jvm.ClassFile.FieldType)) ∈ lw_tbl := tb_1 (List.mem_of_getElem? (i := 135) rfl)
theorem wd_136 : (Jvm.Cond.methodLinkNest "FixupVolume$Sheet" (77 : Nat) ({ cls := "FixupVolume", name := "putWord", desc := "([III)V" } : Jvm.MethodName) "FixupVolume") ∈ lw_tbl := tb_1 (List.mem_of_getElem? (i := 136) rfl)
theorem wd_137 : (Jvm.Cond.static ({ cls := "FixupVolume", name := "putWord", desc := "([III)V" } : Jvm.MethodName)) ∈ lw_tbl := tb_1 (List.mem_of_getElem? (i := 137) rfl)
theorem wd_138 : (Jvm.Cond.code ({ cls := "FixupVolume", name := "putWord", desc := "([III)V" } : Jvm.MethodName) prog_1_method_46_code (3 : Nat) (Option.none : Option Jvm.ClassFile.FieldType)) ∈ lw_tbl := tb_1 (List.mem_of_getElem? (i := 138) rfl)
theorem wd_139 : (Jvm.Cond.methodLink "FixupVolume$Sheet" (81 : Nat) ({ cls := "FixupVolume$Sheet", name := "encodeName", desc := "([I)I" } : Jvm.MethodName)) ∈ lw_tbl := tb_1 (List.mem_of_getElem? (i := 139) rfl)
theorem wd_140 : (Jvm.Cond.privateMethod ({ cls := "FixupVolume$Sheet", name := "encodeName", desc := "([I)I" } : Jvm.MethodName)) ∈ lw_tbl := tb_1 (List.mem_of_getElem? (i := 140) rfl)
theorem wd_141 : (Jvm.Cond.instanceMethod ({ cls := "FixupVolume$Sheet", name := "encodeName", desc := "([I)I" } : Jvm.MethodName)) ∈ lw_tbl := tb_1 (List.mem_of_getElem? (i := 141) rfl)
theorem wd_142 : (Jvm.Cond.code ({ cls := "FixupVolume$Sheet", name := "encodeName", desc := "([I)I" } : Jvm.MethodName) prog_5_method_12_code (2 : Nat) (Option.some Jvm.ClassFile.FieldType.int)) ∈ lw_tbl := tb_1 (List.mem_of_getElem? (i := 142) rfl)
theorem wd_143 : (Jvm.Cond.methodLink "FixupVolume$Sheet" (65 : Nat) ({ cls := "java/lang/System", name := "arraycopy", desc := "(Ljava/lang/Object;ILjava/lang/Object;II)V" } : Jvm.MethodName)) ∈ lw_tbl := tb_1 (List.mem_of_getElem? (i := 143) rfl)
theorem wd_144 : (Jvm.Cond.static ({ cls := "java/lang/System", name := "arraycopy", desc := "(Ljava/lang/Object;ILjava/lang/Object;II)V" } : Jvm.MethodName)) ∈ lw_tbl := tb_1 (List.mem_of_getElem? (i := 144) rfl)
theorem wd_145 : (Jvm.Cond.native ({ cls := "java/lang/System", name := "arraycopy", desc := "(Ljava/lang/Object;ILjava/lang/Object;II)V" } : Jvm.MethodName)) ∈ lw_tbl := tb_1 (List.mem_of_getElem? (i := 145) rfl)
theorem wd_146 : (Jvm.Cond.methodLink "FixupVolume$Sheet" (85 : Nat) ({ cls := "FixupVolume$Sheet", name := "encodeData", desc := "([II)I" } : Jvm.MethodName)) ∈ lw_tbl := tb_1 (List.mem_of_getElem? (i := 146) rfl)
theorem wd_147 : (Jvm.Cond.privateMethod ({ cls := "FixupVolume$Sheet", name := "encodeData", desc := "([II)I" } : Jvm.MethodName)) ∈ lw_tbl := tb_1 (List.mem_of_getElem? (i := 147) rfl)
theorem wd_148 : (Jvm.Cond.instanceMethod ({ cls := "FixupVolume$Sheet", name := "encodeData", desc := "([II)I" } : Jvm.MethodName)) ∈ lw_tbl := tb_1 (List.mem_of_getElem? (i := 148) rfl)
theorem wd_149 : (Jvm.Cond.code ({ cls := "FixupVolume$Sheet", name := "encodeData", desc := "([II)I" } : Jvm.MethodName) prog_5_method_13_code (4 : Nat) (Option.some Jvm.ClassFile.FieldType.int)) ∈ lw_tbl := tb_1 (List.mem_of_getElem? (i := 149) rfl)
theorem wd_150 : (Jvm.Cond.methodLink "FixupVolume$Sheet" (95 : Nat) ({ cls := "FixupVolume$Layout", name := "encode", desc := "([II)I" } : Jvm.MethodName)) ∈ lw_tbl := tb_1 (List.mem_of_getElem? (i := 150) rfl)
theorem wd_151 : (Jvm.Cond.instanceMethod ({ cls := "FixupVolume$Layout", name := "encode", desc := "([II)I" } : Jvm.MethodName)) ∈ lw_tbl := tb_1 (List.mem_of_getElem? (i := 151) rfl)
theorem wd_152 : (Jvm.Cond.selects "FixupVolume$Layout" ({ cls := "FixupVolume$Layout", name := "encode", desc := "([II)I" } : Jvm.MethodName) ({ cls := "FixupVolume$Layout", name := "encode", desc := "([II)I" } : Jvm.MethodName)) ∈ lw_tbl := tb_1 (List.mem_of_getElem? (i := 152) rfl)
theorem wd_153 : (Jvm.Cond.code ({ cls := "FixupVolume$Layout", name := "encode", desc := "([II)I" } : Jvm.MethodName) prog_3_method_10_code (7 : Nat) (Option.some Jvm.ClassFile.FieldType.int)) ∈ lw_tbl := tb_1 (List.mem_of_getElem? (i := 153) rfl)
theorem wd_154 : (Jvm.Cond.methodLink "FixupVolume$Layout" (25 : Nat) ({ cls := "FixupVolume$Layout", name := "startsRun", desc := "(I)Z" } : Jvm.MethodName)) ∈ lw_tbl := tb_1 (List.mem_of_getElem? (i := 154) rfl)
theorem wd_155 : (Jvm.Cond.instanceMethod ({ cls := "FixupVolume$Layout", name := "startsRun", desc := "(I)Z" } : Jvm.MethodName)) ∈ lw_tbl := tb_1 (List.mem_of_getElem? (i := 155) rfl)
theorem wd_156 : (Jvm.Cond.selects "FixupVolume$Layout" ({ cls := "FixupVolume$Layout", name := "startsRun", desc := "(I)Z" } : Jvm.MethodName) ({ cls := "FixupVolume$Layout", name := "startsRun", desc := "(I)Z" } : Jvm.MethodName)) ∈ lw_tbl := tb_1 (List.mem_of_getElem? (i := 156) rfl)
theorem wd_157 : (Jvm.Cond.code ({ cls := "FixupVolume$Layout", name := "startsRun", desc := "(I)Z" } : Jvm.MethodName) prog_3_method_5_code (2 : Nat) (Option.some Jvm.ClassFile.FieldType.boolean)) ∈ lw_tbl := tb_1 (List.mem_of_getElem? (i := 157) rfl)
theorem wd_158 : (Jvm.Cond.methodLink "FixupVolume$Sheet" (89 : Nat) ({ cls := "FixupVolume$Sheet", name := "setAside", desc := "([III)V" } : Jvm.MethodName)) ∈ lw_tbl := tb_1 (List.mem_of_getElem? (i := 158) rfl)
theorem wd_159 : (Jvm.Cond.privateMethod ({ cls := "FixupVolume$Sheet", name := "setAside", desc := "([III)V" } : Jvm.MethodName)) ∈ lw_tbl := tb_1 (List.mem_of_getElem? (i := 159) rfl)
theorem wd_160 : (Jvm.Cond.instanceMethod ({ cls := "FixupVolume$Sheet", name := "setAside", desc := "([III)V" } : Jvm.MethodName)) ∈ lw_tbl := tb_1 (List.mem_of_getElem? (i := 160) rfl)
theorem wd_161 : (Jvm.Cond.code ({ cls := "FixupVolume$Sheet", name := "setAside", desc := "([III)V" } : Jvm.MethodName) prog_5_method_14_code (4 : Nat) (Option.none : Option Jvm.ClassFile.FieldType)) ∈ lw_tbl := tb_1 (List.mem_of_getElem? (i := 161) rfl)
theorem wd_162 : (Jvm.Cond.methodLinkNest "FixupVolume$Sheet" (98 : Nat) ({ cls := "FixupVolume", name := "wordAt", desc := "([II)I" } : Jvm.MethodName) "FixupVolume") ∈ lw_tbl := tb_1 (List.mem_of_getElem? (i := 162) rfl)
theorem wd_163 : (Jvm.Cond.static ({ cls := "FixupVolume", name := "wordAt", desc := "([II)I" } : Jvm.MethodName)) ∈ lw_tbl := tb_1 (List.mem_of_getElem? (i := 163) rfl)
theorem wd_164 : (Jvm.Cond.code ({ cls := "FixupVolume", name := "wordAt", desc := "([II)I" } : Jvm.MethodName) prog_1_method_45_code (2 : Nat) (Option.some Jvm.ClassFile.FieldType.int)) ∈ lw_tbl := tb_1 (List.mem_of_getElem? (i := 164) rfl)
theorem wd_165 : (Jvm.Cond.methodLink "FixupVolume" (62 : Nat) ({ cls := "FixupVolume$Disk", name := "laySector", desc := "(II[I)V" } : Jvm.MethodName)) ∈ lw_tbl := tb_1 (List.mem_of_getElem? (i := 165) rfl)
theorem wd_166 : (Jvm.Cond.instanceMethod ({ cls := "FixupVolume$Disk", name := "laySector", desc := "(II[I)V" } : Jvm.MethodName)) ∈ lw_tbl := tb_1 (List.mem_of_getElem? (i := 166) rfl)
theorem wd_167 : (Jvm.Cond.selects "FixupVolume$Disk" ({ cls := "FixupVolume$Disk", name := "laySector", desc := "(II[I)V" } : Jvm.MethodName) ({ cls := "FixupVolume$Disk", name := "laySector", desc := "(II[I)V" } : Jvm.MethodName)) ∈ lw_tbl := tb_1 (List.mem_of_getElem? (i := 167) rfl)
theorem wd_168 : (Jvm.Cond.code ({ cls := "FixupVolume$Disk", name := "laySector", desc := "(II[I)V" } : Jvm.MethodName) prog_2_method_3_code (5 : Nat) (Option.none : Option Jvm.ClassFile.FieldType)) ∈ lw_tbl := tb_1 (List.mem_of_getElem? (i := 168) rfl)
theorem wd_169 : (Jvm.Cond.methodLink "FixupVolume$Disk" (19 : Nat) ({ cls := "java/lang/System", name := "arraycopy", desc := "(Ljava/lang/Object;ILjava/lang/Object;II)V" } : Jvm.MethodName)) ∈ lw_tbl := tb_1 (List.mem_of_getElem? (i := 169) rfl)
theorem wd_170 : (Jvm.Cond.fieldLink "FixupVolume" (12 : Nat) "FixupVolume" "disk" "LFixupVolume$Disk;") ∈ lw_tbl := tb_1 (List.mem_of_getElem? (i := 170) rfl)
theorem wd_171 : (Jvm.Cond.fieldLink "FixupVolume" (18 : Nat) "FixupVolume" "sheets" "[LFixupVolume$Sheet;") ∈ lw_tbl := tb_1 (List.mem_of_getElem? (i := 171) rfl)
theorem wd_172 : (Jvm.Cond.fieldLink "FixupVolume" (23 : Nat) "FixupVolume" "taken" "[Z") ∈ lw_tbl := tb_1 (List.mem_of_getElem? (i := 172) rfl)
theorem wd_173 : (Jvm.Cond.fieldLink "FixupVolume" (30 : Nat) "FixupVolume" "draft" "LFixupVolume$Name;") ∈ lw_tbl := tb_1 (List.mem_of_getElem? (i := 173) rfl)
theorem wd_174 : (Jvm.Cond.fieldLink "FixupVolume" (66 : Nat) "FixupVolume" "running" "Z") ∈ lw_tbl := tb_1 (List.mem_of_getElem? (i := 174) rfl)
theorem wd_175 : (Jvm.Cond.fieldLink "FixupVolume" (34 : Nat) "FixupVolume" "givenName" "LFixupVolume$Name;") ∈ lw_tbl := tb_1 (List.mem_of_getElem? (i := 175) rfl)
theorem wd_176 : (Jvm.Cond.fieldLink "FixupVolume" (40 : Nat) "FixupVolume" "plan" "LFixupVolume$Layout;") ∈ lw_tbl := tb_1 (List.mem_of_getElem? (i := 176) rfl)
theorem wd_177 : (Jvm.Cond.fieldLink "FixupVolume" (44 : Nat) "FixupVolume" "image" "[I") ∈ lw_tbl := tb_1 (List.mem_of_getElem? (i := 177) rfl)
theorem wd_178 : (Jvm.Cond.fieldLink "FixupVolume" (48 : Nat) "FixupVolume" "entries" "[I") ∈ lw_tbl := tb_1 (List.mem_of_getElem? (i := 178) rfl)
theorem wd_179 : (Jvm.Cond.laysFinal "FixupVolume" "FixupVolume" "disk" "LFixupVolume$Disk;") ∈ lw_tbl := tb_1 (List.mem_of_getElem? (i := 179) rfl)
theorem wd_180 : (Jvm.Cond.soleField "FixupVolume" "disk") ∈ lw_tbl := tb_1 (List.mem_of_getElem? (i := 180) rfl)
theorem wd_181 : (Jvm.Cond.laysFinal "FixupVolume" "FixupVolume" "sheets" "[LFixupVolume$Sheet;") ∈ lw_tbl := tb_1 (List.mem_of_getElem? (i := 181) rfl)
theorem wd_182 : (Jvm.Cond.soleField "FixupVolume" "sheets") ∈ lw_tbl := tb_1 (List.mem_of_getElem? (i := 182) rfl)
theorem wd_183 : (Jvm.Cond.laysFinal "FixupVolume" "FixupVolume" "taken" "[Z") ∈ lw_tbl := tb_1 (List.mem_of_getElem? (i := 183) rfl)
theorem wd_184 : (Jvm.Cond.soleField "FixupVolume" "taken") ∈ lw_tbl := tb_1 (List.mem_of_getElem? (i := 184) rfl)
theorem wd_185 : (Jvm.Cond.laysFinal "FixupVolume" "FixupVolume" "draft" "LFixupVolume$Name;") ∈ lw_tbl := tb_1 (List.mem_of_getElem? (i := 185) rfl)
theorem wd_186 : (Jvm.Cond.soleField "FixupVolume" "draft") ∈ lw_tbl := tb_1 (List.mem_of_getElem? (i := 186) rfl)
theorem wd_187 : (Jvm.Cond.lays "FixupVolume" "FixupVolume" "running" "Z") ∈ lw_tbl := tb_1 (List.mem_of_getElem? (i := 187) rfl)
theorem wd_188 : (Jvm.Cond.soleField "FixupVolume" "running") ∈ lw_tbl := tb_1 (List.mem_of_getElem? (i := 188) rfl)
theorem wd_189 : (Jvm.Cond.laysFinal "FixupVolume" "FixupVolume" "givenName" "LFixupVolume$Name;") ∈ lw_tbl := tb_1 (List.mem_of_getElem? (i := 189) rfl)
theorem wd_190 : (Jvm.Cond.soleField "FixupVolume" "givenName") ∈ lw_tbl := tb_1 (List.mem_of_getElem? (i := 190) rfl)
theorem wd_191 : (Jvm.Cond.laysFinal "FixupVolume" "FixupVolume" "plan" "LFixupVolume$Layout;") ∈ lw_tbl := tb_1 (List.mem_of_getElem? (i := 191) rfl)
theorem wd_192 : (Jvm.Cond.soleField "FixupVolume" "plan") ∈ lw_tbl := tb_1 (List.mem_of_getElem? (i := 192) rfl)
theorem wd_193 : (Jvm.Cond.laysFinal "FixupVolume" "FixupVolume" "image" "[I") ∈ lw_tbl := tb_1 (List.mem_of_getElem? (i := 193) rfl)
theorem wd_194 : (Jvm.Cond.soleField "FixupVolume" "image") ∈ lw_tbl := tb_1 (List.mem_of_getElem? (i := 194) rfl)
theorem wd_195 : (Jvm.Cond.laysFinal "FixupVolume" "FixupVolume" "entries" "[I") ∈ lw_tbl := tb_1 (List.mem_of_getElem? (i := 195) rfl)
theorem wd_196 : (Jvm.Cond.soleField "FixupVolume" "entries") ∈ lw_tbl := tb_1 (List.mem_of_getElem? (i := 196) rfl)
theorem wd_197 : (Jvm.Cond.superclass "FixupVolume" "java/lang/Object") ∈ lw_tbl := tb_1 (List.mem_of_getElem? (i := 197) rfl)
theorem wd_198 : (Jvm.Cond.arrayClass Jvm.ClassFile.FieldType.boolean) ∈ lw_tbl := tb_1 (List.mem_of_getElem? (i := 198) rfl)
theorem wd_199 : (Jvm.Cond.methodLink "FixupVolumeLaw" (43 : Nat) ({ cls := "FixupVolume", name := "type", desc := "(C)Z" } : Jvm.MethodName)) ∈ lw_tbl := tb_1 (List.mem_of_getElem? (i := 199) rfl)
theorem wd_200 : (Jvm.Cond.instanceMethod ({ cls := "FixupVolume", name := "type", desc := "(C)Z" } : Jvm.MethodName)) ∈ lw_tbl := tb_1 (List.mem_of_getElem? (i := 200) rfl)
theorem wd_201 : (Jvm.Cond.selects "FixupVolume" ({ cls := "FixupVolume", name := "type", desc := "(C)Z" } : Jvm.MethodName) ({ cls := "FixupVolume", name := "type", desc := "(C)Z" } : Jvm.MethodName)) ∈ lw_tbl := tb_1 (List.mem_of_getElem? (i := 201) rfl)
theorem wd_202 : (Jvm.Cond.code ({ cls := "FixupVolume", name := "type", desc := "(C)Z" } : Jvm.MethodName) prog_1_method_2_code (2 : Nat) (Option.some Jvm.ClassFile.FieldType.boolean)) ∈ lw_tbl := tb_1 (List.mem_of_getElem? (i := 202) rfl)
theorem wd_203 : (Jvm.Cond.methodLink "FixupVolume" (70 : Nat) ({ cls := "FixupVolume$Name", name := "append", desc := "(I)Z" } : Jvm.MethodName)) ∈ lw_tbl := tb_1 (List.mem_of_getElem? (i := 203) rfl)
theorem wd_204 : (Jvm.Cond.instanceMethod ({ cls := "FixupVolume$Name", name := "append", desc := "(I)Z" } : Jvm.MethodName)) ∈ lw_tbl := tb_1 (List.mem_of_getElem? (i := 204) rfl)
theorem wd_205 : (Jvm.Cond.selects "FixupVolume$Name" ({ cls := "FixupVolume$Name", name := "append", desc := "(I)Z" } : Jvm.MethodName) ({ cls := "FixupVolume$Name", name := "append", desc := "(I)Z" } : Jvm.MethodName)) ∈ lw_tbl := tb_1 (List.mem_of_getElem? (i := 205) rfl)
theorem wd_206 : (Jvm.Cond.code ({ cls := "FixupVolume$Name", name := "append", desc := "(I)Z" } : Jvm.MethodName) prog_4_method_2_code (3 : Nat) (Option.some Jvm.ClassFile.FieldType.boolean)) ∈ lw_tbl := tb_1 (List.mem_of_getElem? (i := 206) rfl)
theorem wd_207 : (Jvm.Cond.methodLink "FixupVolumeLaw" (73 : Nat) ({ cls := "FixupVolume", name := "fail", desc := "(I)Z" } : Jvm.MethodName)) ∈ lw_tbl := tb_1 (List.mem_of_getElem? (i := 207) rfl)
theorem wd_208 : (Jvm.Cond.instanceMethod ({ cls := "FixupVolume", name := "fail", desc := "(I)Z" } : Jvm.MethodName)) ∈ lw_tbl := tb_1 (List.mem_of_getElem? (i := 208) rfl)
theorem wd_209 : (Jvm.Cond.selects "FixupVolume" ({ cls := "FixupVolume", name := "fail", desc := "(I)Z" } : Jvm.MethodName) ({ cls := "FixupVolume", name := "fail", desc := "(I)Z" } : Jvm.MethodName)) ∈ lw_tbl := tb_1 (List.mem_of_getElem? (i := 209) rfl)
theorem wd_210 : (Jvm.Cond.code ({ cls := "FixupVolume", name := "fail", desc := "(I)Z" } : Jvm.MethodName) prog_1_method_8_code (2 : Nat) (Option.some Jvm.ClassFile.FieldType.boolean)) ∈ lw_tbl := tb_1 (List.mem_of_getElem? (i := 210) rfl)
theorem wd_211 : (Jvm.Cond.methodLink "FixupVolumeLaw" (82 : Nat) ({ cls := "FixupVolume", name := "on", desc := "()Z" } : Jvm.MethodName)) ∈ lw_tbl := tb_1 (List.mem_of_getElem? (i := 211) rfl)
theorem wd_212 : (Jvm.Cond.instanceMethod ({ cls := "FixupVolume", name := "on", desc := "()Z" } : Jvm.MethodName)) ∈ lw_tbl := tb_1 (List.mem_of_getElem? (i := 212) rfl)
theorem wd_213 : (Jvm.Cond.selects "FixupVolume" ({ cls := "FixupVolume", name := "on", desc := "()Z" } : Jvm.MethodName) ({ cls := "FixupVolume", name := "on", desc := "()Z" } : Jvm.MethodName)) ∈ lw_tbl := tb_1 (List.mem_of_getElem? (i := 213) rfl)
theorem wd_214 : (Jvm.Cond.code ({ cls := "FixupVolume", name := "on", desc := "()Z" } : Jvm.MethodName) prog_1_method_10_code (1 : Nat) (Option.some Jvm.ClassFile.FieldType.boolean)) ∈ lw_tbl := tb_1 (List.mem_of_getElem? (i := 214) rfl)
theorem wd_215 : (Jvm.Cond.methodLink "FixupVolumeLaw" (87 : Nat) ({ cls := "FixupVolume", name := "find", desc := "(I)I" } : Jvm.MethodName)) ∈ lw_tbl := tb_1 (List.mem_of_getElem? (i := 215) rfl)
theorem wd_216 : (Jvm.Cond.instanceMethod ({ cls := "FixupVolume", name := "find", desc := "(I)I" } : Jvm.MethodName)) ∈ lw_tbl := tb_1 (List.mem_of_getElem? (i := 216) rfl)
theorem wd_217 : (Jvm.Cond.selects "FixupVolume" ({ cls := "FixupVolume", name := "find", desc := "(I)I" } : Jvm.MethodName) ({ cls := "FixupVolume", name := "find", desc := "(I)I" } : Jvm.MethodName)) ∈ lw_tbl := tb_1 (List.mem_of_getElem? (i := 217) rfl)
theorem wd_218 : (Jvm.Cond.code ({ cls := "FixupVolume", name := "find", desc := "(I)I" } : Jvm.MethodName) prog_1_method_11_code (3 : Nat) (Option.some Jvm.ClassFile.FieldType.int)) ∈ lw_tbl := tb_1 (List.mem_of_getElem? (i := 218) rfl)
theorem wd_219 : (Jvm.Cond.methodLink "FixupVolume" (84 : Nat) ({ cls := "FixupVolume", name := "isDirectory", desc := "(I)Z" } : Jvm.MethodName)) ∈ lw_tbl := tb_1 (List.mem_of_getElem? (i := 219) rfl)
theorem wd_220 : (Jvm.Cond.privateMethod ({ cls := "FixupVolume", name := "isDirectory", desc := "(I)Z" } : Jvm.MethodName)) ∈ lw_tbl := tb_1 (List.mem_of_getElem? (i := 220) rfl)
theorem wd_221 : (Jvm.Cond.instanceMethod ({ cls := "FixupVolume", name := "isDirectory", desc := "(I)Z" } : Jvm.MethodName)) ∈ lw_tbl := tb_1 (List.mem_of_getElem? (i := 221) rfl)
theorem wd_222 : (Jvm.Cond.code ({ cls := "FixupVolume", name := "isDirectory", desc := "(I)Z" } : Jvm.MethodName) prog_1_method_21_code (2 : Nat) (Option.some Jvm.ClassFile.FieldType.boolean)) ∈ lw_tbl := tb_1 (List.mem_of_getElem? (i := 222) rfl)
theorem wd_223 : (Jvm.Cond.methodLink "FixupVolume" (170 : Nat) ({ cls := "FixupVolume", name := "isUsed", desc := "(I)Z" } : Jvm.MethodName)) ∈ lw_tbl := tb_1 (List.mem_of_getElem? (i := 223) rfl)
theorem wd_224 : (Jvm.Cond.privateMethod ({ cls := "FixupVolume", name := "isUsed", desc := "(I)Z" } : Jvm.MethodName)) ∈ lw_tbl := tb_1 (List.mem_of_getElem? (i := 224) rfl)
theorem wd_225 : (Jvm.Cond.instanceMethod ({ cls := "FixupVolume", name := "isUsed", desc := "(I)Z" } : Jvm.MethodName)) ∈ lw_tbl := tb_1 (List.mem_of_getElem? (i := 225) rfl)
theorem wd_226 : (Jvm.Cond.code ({ cls := "FixupVolume", name := "isUsed", desc := "(I)Z" } : Jvm.MethodName) prog_1_method_19_code (2 : Nat) (Option.some Jvm.ClassFile.FieldType.boolean)) ∈ lw_tbl := tb_1 (List.mem_of_getElem? (i := 226) rfl)
theorem wd_227 : (Jvm.Cond.methodLink "FixupVolume" (91 : Nat) ({ cls := "FixupVolume", name := "entryNamed", desc := "(ILFixupVolume$Name;)I" } : Jvm.MethodName)) ∈ lw_tbl := tb_1 (List.mem_of_getElem? (i := 227) rfl)
theorem wd_228 : (Jvm.Cond.privateMethod ({ cls := "FixupVolume", name := "entryNamed", desc := "(ILFixupVolume$Name;)I" } : Jvm.MethodName)) ∈ lw_tbl := tb_1 (List.mem_of_getElem? (i := 228) rfl)
theorem wd_229 : (Jvm.Cond.instanceMethod ({ cls := "FixupVolume", name := "entryNamed", desc := "(ILFixupVolume$Name;)I" } : Jvm.MethodName)) ∈ lw_tbl := tb_1 (List.mem_of_getElem? (i := 229) rfl)
theorem wd_230 : (Jvm.Cond.code ({ cls := "FixupVolume", name := "entryNamed", desc := "(ILFixupVolume$Name;)I" } : Jvm.MethodName) prog_1_method_26_code (5 : Nat) (Option.some Jvm.ClassFile.FieldType.int)) ∈ lw_tbl := tb_1 (List.mem_of_getElem? (i := 230) rfl)
theorem wd_231 : (Jvm.Cond.methodLink "FixupVolume" (245 : Nat) ({ cls := "FixupVolume$Name", name := "compare", desc := "(LFixupVolume$Name;)I" } : Jvm.MethodName)) ∈ lw_tbl := tb_1 (List.mem_of_getElem? (i := 231) rfl)
theorem wd_232 : (Jvm.Cond.instanceMethod ({ cls := "FixupVolume$Name", name := "compare", desc := "(LFixupVolume$Name;)I" } : Jvm.MethodName)) ∈ lw_tbl := tb_1 (List.mem_of_getElem? (i := 232) rfl)
theorem wd_233 : (Jvm.Cond.selects "FixupVolume$Name" ({ cls := "FixupVolume$Name", name := "compare", desc := "(LFixupVolume$Name;)I" } : Jvm.MethodName) ({ cls := "FixupVolume$Name", name := "compare", desc := "(LFixupVolume$Name;)I" } : Jvm.MethodName)) ∈ lw_tbl := tb_1 (List.mem_of_getElem? (i := 233) rfl)
theorem wd_234 : (Jvm.Cond.code ({ cls := "FixupVolume$Name", name := "compare", desc := "(LFixupVolume$Name;)I" } : Jvm.MethodName) prog_4_method_5_code (4 : Nat) (Option.some Jvm.ClassFile.FieldType.int)) ∈ lw_tbl := tb_1 (List.mem_of_getElem? (i := 234) rfl)
theorem wd_235 : (Jvm.Cond.methodLink "FixupVolume$Name" (25 : Nat) ({ cls := "java/lang/Math", name := "min", desc := "(II)I" } : Jvm.MethodName)) ∈ lw_tbl := tb_1 (List.mem_of_getElem? (i := 235) rfl)
theorem wd_236 : (Jvm.Cond.static ({ cls := "java/lang/Math", name := "min", desc := "(II)I" } : Jvm.MethodName)) ∈ lw_tbl := tb_1 (List.mem_of_getElem? (i := 236) rfl)
theorem wd_237 : (Jvm.Cond.code ({ cls := "java/lang/Math", name := "min", desc := "(II)I" } : Jvm.MethodName) prog_11_method_69_code (2 : Nat) (Option.some Jvm.ClassFile.FieldType.int)) ∈ lw_tbl := tb_1 (List.mem_of_getElem? (i := 237) rfl)
theorem wd_238 : (Jvm.Cond.methodLink "FixupVolume" (78 : Nat) ({ cls := "FixupVolume$Name", name := "clear", desc := "()V" } : Jvm.MethodName)) ∈ lw_tbl := tb_1 (List.mem_of_getElem? (i := 238) rfl)
theorem wd_239 : (Jvm.Cond.methodLink "FixupVolumeLaw" (91 : Nat) ({ cls := "FixupVolume", name := "record", desc := "(II)I" } : Jvm.MethodName)) ∈ lw_tbl := tb_1 (List.mem_of_getElem? (i := 239) rfl)
theorem wd_240 : (Jvm.Cond.instanceMethod ({ cls := "FixupVolume", name := "record", desc := "(II)I" } : Jvm.MethodName)) ∈ lw_tbl := tb_2 (List.mem_of_getElem? (i := 0) rfl)
theorem wd_241 : (Jvm.Cond.selects "FixupVolume" ({ cls := "FixupVolume", name := "record", desc := "(II)I" } : Jvm.MethodName) ({ cls := "FixupVolume", name := "record", desc := "(II)I" } : Jvm.MethodName)) ∈ lw_tbl := tb_2 (List.mem_of_getElem? (i := 1) rfl)
theorem wd_242 : (Jvm.Cond.code ({ cls := "FixupVolume", name := "record", desc := "(II)I" } : Jvm.MethodName) prog_1_method_12_code (4 : Nat) (Option.some Jvm.ClassFile.FieldType.int)) ∈ lw_tbl := tb_2 (List.mem_of_getElem? (i := 2) rfl)
theorem wd_243 : (Jvm.Cond.methodLink "FixupVolume" (211 : Nat) ({ cls := "FixupVolume$Sheet", name := "attributeBytes", desc := "()I" } : Jvm.MethodName)) ∈ lw_tbl := tb_2 (List.mem_of_getElem? (i := 3) rfl)
theorem wd_244 : (Jvm.Cond.instanceMethod ({ cls := "FixupVolume$Sheet", name := "attributeBytes", desc := "()I" } : Jvm.MethodName)) ∈ lw_tbl := tb_2 (List.mem_of_getElem? (i := 4) rfl)
theorem wd_245 : (Jvm.Cond.selects "FixupVolume$Sheet" ({ cls := "FixupVolume$Sheet", name := "attributeBytes", desc := "()I" } : Jvm.MethodName) ({ cls := "FixupVolume$Sheet", name := "attributeBytes", desc := "()I" } : Jvm.MethodName)) ∈ lw_tbl := tb_2 (List.mem_of_getElem? (i := 5) rfl)
theorem wd_246 : (Jvm.Cond.code ({ cls := "FixupVolume$Sheet", name := "attributeBytes", desc := "()I" } : Jvm.MethodName) prog_5_method_6_code (1 : Nat) (Option.some Jvm.ClassFile.FieldType.int)) ∈ lw_tbl := tb_2 (List.mem_of_getElem? (i := 6) rfl)
theorem wd_247 : (Jvm.Cond.methodLink "FixupVolume$Sheet" (59 : Nat) ({ cls := "FixupVolume$Sheet", name := "nameBytes", desc := "()I" } : Jvm.MethodName)) ∈ lw_tbl := tb_2 (List.mem_of_getElem? (i := 7) rfl)
theorem wd_248 : (Jvm.Cond.instanceMethod ({ cls := "FixupVolume$Sheet", name := "nameBytes", desc := "()I" } : Jvm.MethodName)) ∈ lw_tbl := tb_2 (List.mem_of_getElem? (i := 8) rfl)
theorem wd_249 : (Jvm.Cond.selects "FixupVolume$Sheet" ({ cls := "FixupVolume$Sheet", name := "nameBytes", desc := "()I" } : Jvm.MethodName) ({ cls := "FixupVolume$Sheet", name := "nameBytes", desc := "()I" } : Jvm.MethodName)) ∈ lw_tbl := tb_2 (List.mem_of_getElem? (i := 9) rfl)
theorem wd_250 : (Jvm.Cond.code ({ cls := "FixupVolume$Sheet", name := "nameBytes", desc := "()I" } : Jvm.MethodName) prog_5_method_4_code (1 : Nat) (Option.some Jvm.ClassFile.FieldType.int)) ∈ lw_tbl := tb_2 (List.mem_of_getElem? (i := 10) rfl)
theorem wd_251 : (Jvm.Cond.methodLink "FixupVolume$Sheet" (62 : Nat) ({ cls := "FixupVolume$Sheet", name := "dataBytes", desc := "()I" } : Jvm.MethodName)) ∈ lw_tbl := tb_2 (List.mem_of_getElem? (i := 11) rfl)
theorem wd_252 : (Jvm.Cond.instanceMethod ({ cls := "FixupVolume$Sheet", name := "dataBytes", desc := "()I" } : Jvm.MethodName)) ∈ lw_tbl := tb_2 (List.mem_of_getElem? (i := 12) rfl)
theorem wd_253 : (Jvm.Cond.selects "FixupVolume$Sheet" ({ cls := "FixupVolume$Sheet", name := "dataBytes", desc := "()I" } : Jvm.MethodName) ({ cls := "FixupVolume$Sheet", name := "dataBytes", desc := "()I" } : Jvm.MethodName)) ∈ lw_tbl := tb_2 (List.mem_of_getElem? (i := 13) rfl)
theorem wd_254 : (Jvm.Cond.code ({ cls := "FixupVolume$Sheet", name := "dataBytes", desc := "()I" } : Jvm.MethodName) prog_5_method_5_code (1 : Nat) (Option.some Jvm.ClassFile.FieldType.int)) ∈ lw_tbl := tb_2 (List.mem_of_getElem? (i := 14) rfl)
theorem wd_255 : (Jvm.Cond.methodLink "FixupVolume$Sheet" (55 : Nat) ({ cls := "FixupVolume$Layout", name := "attributeBytes", desc := "()I" } : Jvm.MethodName)) ∈ lw_tbl := tb_2 (List.mem_of_getElem? (i := 15) rfl)
theorem wd_256 : (Jvm.Cond.instanceMethod ({ cls := "FixupVolume$Layout", name := "attributeBytes", desc := "()I" } : Jvm.MethodName)) ∈ lw_tbl := tb_2 (List.mem_of_getElem? (i := 16) rfl)
theorem wd_257 : (Jvm.Cond.selects "FixupVolume$Layout" ({ cls := "FixupVolume$Layout", name := "attributeBytes", desc := "()I" } : Jvm.MethodName) ({ cls := "FixupVolume$Layout", name := "attributeBytes", desc := "()I" } : Jvm.MethodName)) ∈ lw_tbl := tb_2 (List.mem_of_getElem? (i := 17) rfl)
theorem wd_258 : (Jvm.Cond.code ({ cls := "FixupVolume$Layout", name := "attributeBytes", desc := "()I" } : Jvm.MethodName) prog_3_method_9_code (3 : Nat) (Option.some Jvm.ClassFile.FieldType.int)) ∈ lw_tbl := tb_2 (List.mem_of_getElem? (i := 18) rfl)
theorem wd_259 : (Jvm.Cond.methodLink "FixupVolume" (214 : Nat) ({ cls := "FixupVolume$Layout", name := "runCount", desc := "()I" } : Jvm.MethodName)) ∈ lw_tbl := tb_2 (List.mem_of_getElem? (i := 19) rfl)
theorem wd_260 : (Jvm.Cond.instanceMethod ({ cls := "FixupVolume$Layout", name := "runCount", desc := "()I" } : Jvm.MethodName)) ∈ lw_tbl := tb_2 (List.mem_of_getElem? (i := 20) rfl)
theorem wd_261 : (Jvm.Cond.selects "FixupVolume$Layout" ({ cls := "FixupVolume$Layout", name := "runCount", desc := "()I" } : Jvm.MethodName) ({ cls := "FixupVolume$Layout", name := "runCount", desc := "()I" } : Jvm.MethodName)) ∈ lw_tbl := tb_2 (List.mem_of_getElem? (i := 21) rfl)
theorem wd_262 : (Jvm.Cond.code ({ cls := "FixupVolume$Layout", name := "runCount", desc := "()I" } : Jvm.MethodName) prog_3_method_6_code (3 : Nat) (Option.some Jvm.ClassFile.FieldType.int)) ∈ lw_tbl := tb_2 (List.mem_of_getElem? (i := 22) rfl)
theorem wd_263 : (Jvm.Cond.methodLink "FixupVolumeLaw" (95 : Nat) ({ cls := "FixupVolume", name := "read", desc := "(II)I" } : Jvm.MethodName)) ∈ lw_tbl := tb_2 (List.mem_of_getElem? (i := 23) rfl)
theorem wd_264 : (Jvm.Cond.instanceMethod ({ cls := "FixupVolume", name := "read", desc := "(II)I" } : Jvm.MethodName)) ∈ lw_tbl := tb_2 (List.mem_of_getElem? (i := 24) rfl)
theorem wd_265 : (Jvm.Cond.selects "FixupVolume" ({ cls := "FixupVolume", name := "read", desc := "(II)I" } : Jvm.MethodName) ({ cls := "FixupVolume", name := "read", desc := "(II)I" } : Jvm.MethodName)) ∈ lw_tbl := tb_2 (List.mem_of_getElem? (i := 25) rfl)
theorem wd_266 : (Jvm.Cond.code ({ cls := "FixupVolume", name := "read", desc := "(II)I" } : Jvm.MethodName) prog_1_method_13_code (4 : Nat) (Option.some Jvm.ClassFile.FieldType.int)) ∈ lw_tbl := tb_2 (List.mem_of_getElem? (i := 26) rfl)
theorem wd_267 : (Jvm.Cond.methodLink "FixupVolume" (217 : Nat) ({ cls := "FixupVolume$Disk", name := "fileByte", desc := "(LFixupVolume$Layout;I)I" } : Jvm.MethodName)) ∈ lw_tbl := tb_2 (List.mem_of_getElem? (i := 27) rfl)
theorem wd_268 : (Jvm.Cond.instanceMethod ({ cls := "FixupVolume$Disk", name := "fileByte", desc := "(LFixupVolume$Layout;I)I" } : Jvm.MethodName)) ∈ lw_tbl := tb_2 (List.mem_of_getElem? (i := 28) rfl)
theorem wd_269 : (Jvm.Cond.selects "FixupVolume$Disk" ({ cls := "FixupVolume$Disk", name := "fileByte", desc := "(LFixupVolume$Layout;I)I" } : Jvm.MethodName) ({ cls := "FixupVolume$Disk", name := "fileByte", desc := "(LFixupVolume$Layout;I)I" } : Jvm.MethodName)) ∈ lw_tbl := tb_2 (List.mem_of_getElem? (i := 29) rfl)
theorem wd_270 : (Jvm.Cond.code ({ cls := "FixupVolume$Disk", name := "fileByte", desc := "(LFixupVolume$Layout;I)I" } : Jvm.MethodName) prog_2_method_5_code (4 : Nat) (Option.some Jvm.ClassFile.FieldType.int)) ∈ lw_tbl := tb_2 (List.mem_of_getElem? (i := 30) rfl)
theorem wd_271 : (Jvm.Cond.methodLink "FixupVolume$Disk" (25 : Nat) ({ cls := "FixupVolume$Layout", name := "placeOf", desc := "(I)I" } : Jvm.MethodName)) ∈ lw_tbl := tb_2 (List.mem_of_getElem? (i := 31) rfl)
theorem wd_272 : (Jvm.Cond.instanceMethod ({ cls := "FixupVolume$Layout", name := "placeOf", desc := "(I)I" } : Jvm.MethodName)) ∈ lw_tbl := tb_2 (List.mem_of_getElem? (i := 32) rfl)
theorem wd_273 : (Jvm.Cond.selects "FixupVolume$Layout" ({ cls := "FixupVolume$Layout", name := "placeOf", desc := "(I)I" } : Jvm.MethodName) ({ cls := "FixupVolume$Layout", name := "placeOf", desc := "(I)I" } : Jvm.MethodName)) ∈ lw_tbl := tb_2 (List.mem_of_getElem? (i := 33) rfl)
theorem wd_274 : (Jvm.Cond.code ({ cls := "FixupVolume$Layout", name := "placeOf", desc := "(I)I" } : Jvm.MethodName) prog_3_method_2_code (2 : Nat) (Option.some Jvm.ClassFile.FieldType.int)) ∈ lw_tbl := tb_2 (List.mem_of_getElem? (i := 34) rfl)
theorem wd_275 : (Jvm.Cond.methodLinkNest "FixupVolume$Disk" (31 : Nat) ({ cls := "FixupVolume", name := "isDataCluster", desc := "(I)Z" } : Jvm.MethodName) "FixupVolume") ∈ lw_tbl := tb_2 (List.mem_of_getElem? (i := 35) rfl)
theorem wd_276 : (Jvm.Cond.static ({ cls := "FixupVolume", name := "isDataCluster", desc := "(I)Z" } : Jvm.MethodName)) ∈ lw_tbl := tb_2 (List.mem_of_getElem? (i := 36) rfl)
theorem wd_277 : (Jvm.Cond.code ({ cls := "FixupVolume", name := "isDataCluster", desc := "(I)Z" } : Jvm.MethodName) prog_1_method_42_code (1 : Nat) (Option.some Jvm.ClassFile.FieldType.boolean)) ∈ lw_tbl := tb_2 (List.mem_of_getElem? (i := 37) rfl)
theorem wd_278 : (Jvm.Cond.methodLink "FixupVolumeLaw" (99 : Nat) ({ cls := "FixupVolume", name := "run", desc := "(III)I" } : Jvm.MethodName)) ∈ lw_tbl := tb_2 (List.mem_of_getElem? (i := 38) rfl)
theorem wd_279 : (Jvm.Cond.instanceMethod ({ cls := "FixupVolume", name := "run", desc := "(III)I" } : Jvm.MethodName)) ∈ lw_tbl := tb_2 (List.mem_of_getElem? (i := 39) rfl)
theorem wd_280 : (Jvm.Cond.selects "FixupVolume" ({ cls := "FixupVolume", name := "run", desc := "(III)I" } : Jvm.MethodName) ({ cls := "FixupVolume", name := "run", desc := "(III)I" } : Jvm.MethodName)) ∈ lw_tbl := tb_2 (List.mem_of_getElem? (i := 40) rfl)
theorem wd_281 : (Jvm.Cond.code ({ cls := "FixupVolume", name := "run", desc := "(III)I" } : Jvm.MethodName) prog_1_method_14_code (6 : Nat) (Option.some Jvm.ClassFile.FieldType.int)) ∈ lw_tbl := tb_2 (List.mem_of_getElem? (i := 41) rfl)
theorem wd_282 : (Jvm.Cond.methodLink "FixupVolume" (120 : Nat) ({ cls := "FixupVolume", name := "isFile", desc := "(I)Z" } : Jvm.MethodName)) ∈ lw_tbl := tb_2 (List.mem_of_getElem? (i := 42) rfl)
theorem wd_283 : (Jvm.Cond.privateMethod ({ cls := "FixupVolume", name := "isFile", desc := "(I)Z" } : Jvm.MethodName)) ∈ lw_tbl := tb_2 (List.mem_of_getElem? (i := 43) rfl)
theorem wd_284 : (Jvm.Cond.instanceMethod ({ cls := "FixupVolume", name := "isFile", desc := "(I)Z" } : Jvm.MethodName)) ∈ lw_tbl := tb_2 (List.mem_of_getElem? (i := 44) rfl)
theorem wd_285 : (Jvm.Cond.code ({ cls := "FixupVolume", name := "isFile", desc := "(I)Z" } : Jvm.MethodName) prog_1_method_20_code (2 : Nat) (Option.some Jvm.ClassFile.FieldType.boolean)) ∈ lw_tbl := tb_2 (List.mem_of_getElem? (i := 45) rfl)
theorem wd_286 : (Jvm.Cond.methodLink "FixupVolume" (223 : Nat) ({ cls := "FixupVolume$Layout", name := "startOfRun", desc := "(I)I" } : Jvm.MethodName)) ∈ lw_tbl := tb_2 (List.mem_of_getElem? (i := 46) rfl)
theorem wd_287 : (Jvm.Cond.instanceMethod ({ cls := "FixupVolume$Layout", name := "startOfRun", desc := "(I)I" } : Jvm.MethodName)) ∈ lw_tbl := tb_2 (List.mem_of_getElem? (i := 47) rfl)
theorem wd_288 : (Jvm.Cond.selects "FixupVolume$Layout" ({ cls := "FixupVolume$Layout", name := "startOfRun", desc := "(I)I" } : Jvm.MethodName) ({ cls := "FixupVolume$Layout", name := "startOfRun", desc := "(I)I" } : Jvm.MethodName)) ∈ lw_tbl := tb_2 (List.mem_of_getElem? (i := 48) rfl)
theorem wd_289 : (Jvm.Cond.code ({ cls := "FixupVolume$Layout", name := "startOfRun", desc := "(I)I" } : Jvm.MethodName) prog_3_method_7_code (4 : Nat) (Option.some Jvm.ClassFile.FieldType.int)) ∈ lw_tbl := tb_2 (List.mem_of_getElem? (i := 49) rfl)
theorem wd_290 : (Jvm.Cond.methodLink "FixupVolume" (226 : Nat) ({ cls := "FixupVolume$Layout", name := "lengthOfRun", desc := "(I)I" } : Jvm.MethodName)) ∈ lw_tbl := tb_2 (List.mem_of_getElem? (i := 50) rfl)
theorem wd_291 : (Jvm.Cond.instanceMethod ({ cls := "FixupVolume$Layout", name := "lengthOfRun", desc := "(I)I" } : Jvm.MethodName)) ∈ lw_tbl := tb_2 (List.mem_of_getElem? (i := 51) rfl)
theorem wd_292 : (Jvm.Cond.selects "FixupVolume$Layout" ({ cls := "FixupVolume$Layout", name := "lengthOfRun", desc := "(I)I" } : Jvm.MethodName) ({ cls := "FixupVolume$Layout", name := "lengthOfRun", desc := "(I)I" } : Jvm.MethodName)) ∈ lw_tbl := tb_2 (List.mem_of_getElem? (i := 52) rfl)
theorem wd_293 : (Jvm.Cond.code ({ cls := "FixupVolume$Layout", name := "lengthOfRun", desc := "(I)I" } : Jvm.MethodName) prog_3_method_8_code (3 : Nat) (Option.some Jvm.ClassFile.FieldType.int)) ∈ lw_tbl := tb_2 (List.mem_of_getElem? (i := 53) rfl)
theorem wd_294 : (Jvm.Cond.methodLink "FixupVolume" (229 : Nat) ({ cls := "FixupVolume$Layout", name := "placeOf", desc := "(I)I" } : Jvm.MethodName)) ∈ lw_tbl := tb_2 (List.mem_of_getElem? (i := 54) rfl)
theorem wd_295 : (Jvm.Cond.methodLink "FixupVolumeLaw" (104 : Nat) ({ cls := "FixupVolume", name := "free", desc := "()I" } : Jvm.MethodName)) ∈ lw_tbl := tb_2 (List.mem_of_getElem? (i := 55) rfl)
theorem wd_296 : (Jvm.Cond.instanceMethod ({ cls := "FixupVolume", name := "free", desc := "()I" } : Jvm.MethodName)) ∈ lw_tbl := tb_2 (List.mem_of_getElem? (i := 56) rfl)
theorem wd_297 : (Jvm.Cond.selects "FixupVolume" ({ cls := "FixupVolume", name := "free", desc := "()I" } : Jvm.MethodName) ({ cls := "FixupVolume", name := "free", desc := "()I" } : Jvm.MethodName)) ∈ lw_tbl := tb_2 (List.mem_of_getElem? (i := 57) rfl)
theorem wd_298 : (Jvm.Cond.code ({ cls := "FixupVolume", name := "free", desc := "()I" } : Jvm.MethodName) prog_1_method_15_code (3 : Nat) (Option.some Jvm.ClassFile.FieldType.int)) ∈ lw_tbl := tb_2 (List.mem_of_getElem? (i := 58) rfl)
theorem wd_299 : (Jvm.Cond.methodLink "FixupVolumeLaw" (108 : Nat) ({ cls := "FixupVolume", name := "at", desc := "(I)I" } : Jvm.MethodName)) ∈ lw_tbl := tb_2 (List.mem_of_getElem? (i := 59) rfl)
theorem wd_300 : (Jvm.Cond.instanceMethod ({ cls := "FixupVolume", name := "at", desc := "(I)I" } : Jvm.MethodName)) ∈ lw_tbl := tb_2 (List.mem_of_getElem? (i := 60) rfl)
theorem wd_301 : (Jvm.Cond.selects "FixupVolume" ({ cls := "FixupVolume", name := "at", desc := "(I)I" } : Jvm.MethodName) ({ cls := "FixupVolume", name := "at", desc := "(I)I" } : Jvm.MethodName)) ∈ lw_tbl := tb_2 (List.mem_of_getElem? (i := 61) rfl)
theorem wd_302 : (Jvm.Cond.code ({ cls := "FixupVolume", name := "at", desc := "(I)I" } : Jvm.MethodName) prog_1_method_16_code (2 : Nat) (Option.some Jvm.ClassFile.FieldType.int)) ∈ lw_tbl := tb_2 (List.mem_of_getElem? (i := 62) rfl)
theorem wd_303 : (Jvm.Cond.methodLink "FixupVolumeLaw" (48 : Nat) ({ cls := "FixupVolumeLaw", name := "create", desc := "(LFixupVolume;IZ[J)I" } : Jvm.MethodName)) ∈ lw_tbl := tb_2 (List.mem_of_getElem? (i := 63) rfl)
theorem wd_304 : (Jvm.Cond.static ({ cls := "FixupVolumeLaw", name := "create", desc := "(LFixupVolume;IZ[J)I" } : Jvm.MethodName)) ∈ lw_tbl := tb_2 (List.mem_of_getElem? (i := 64) rfl)
theorem wd_305 : (Jvm.Cond.codeWith ({ cls := "FixupVolumeLaw", name := "create", desc := "(LFixupVolume;IZ[J)I" } : Jvm.MethodName) method_3_code (5 : Nat) (Option.some Jvm.ClassFile.FieldType.int) [((0 : Nat), (10 : Nat), (13 : Nat), (13 : Nat)), ((0 : Nat), (10 : Nat), (17 : Nat), (15 : Nat)), ((0 : Nat), (10 : Nat), (21 : Nat), (17 : Nat))]) ∈ lw_tbl := tb_2 (List.mem_of_getElem? (i := 65) rfl)
theorem wd_306 : (Jvm.Cond.classLink "FixupVolumeLaw" (13 : Nat) "java/lang/IllegalStateException") ∈ lw_tbl := tb_2 (List.mem_of_getElem? (i := 66) rfl)
theorem wd_307 : (Jvm.Cond.classLink "FixupVolumeLaw" (15 : Nat) "java/lang/IllegalArgumentException") ∈ lw_tbl := tb_2 (List.mem_of_getElem? (i := 67) rfl)
theorem wd_308 : (Jvm.Cond.classLink "FixupVolumeLaw" (17 : Nat) "java/lang/UnsupportedOperationException") ∈ lw_tbl := tb_2 (List.mem_of_getElem? (i := 68) rfl)
theorem wd_309 : (Jvm.Cond.methodLink "FixupVolumeLaw" (7 : Nat) ({ cls := "FixupVolume", name := "create", desc := "(IZ)I" } : Jvm.MethodName)) ∈ lw_tbl := tb_2 (List.mem_of_getElem? (i := 69) rfl)
theorem wd_310 : (Jvm.Cond.instanceMethod ({ cls := "FixupVolume", name := "create", desc := "(IZ)I" } : Jvm.MethodName)) ∈ lw_tbl := tb_2 (List.mem_of_getElem? (i := 70) rfl)
theorem wd_311 : (Jvm.Cond.selects "FixupVolume" ({ cls := "FixupVolume", name := "create", desc := "(IZ)I" } : Jvm.MethodName) ({ cls := "FixupVolume", name := "create", desc := "(IZ)I" } : Jvm.MethodName)) ∈ lw_tbl := tb_2 (List.mem_of_getElem? (i := 71) rfl)
theorem wd_312 : (Jvm.Cond.code ({ cls := "FixupVolume", name := "create", desc := "(IZ)I" } : Jvm.MethodName) prog_1_method_3_code (4 : Nat) (Option.some Jvm.ClassFile.FieldType.int)) ∈ lw_tbl := tb_2 (List.mem_of_getElem? (i := 72) rfl)
theorem wd_313 : (Jvm.Cond.methodLink "FixupVolume" (74 : Nat) ({ cls := "FixupVolume$Name", name := "copyFrom", desc := "(LFixupVolume$Name;)V" } : Jvm.MethodName)) ∈ lw_tbl := tb_2 (List.mem_of_getElem? (i := 73) rfl)
theorem wd_314 : (Jvm.Cond.instanceMethod ({ cls := "FixupVolume$Name", name := "copyFrom", desc := "(LFixupVolume$Name;)V" } : Jvm.MethodName)) ∈ lw_tbl := tb_2 (List.mem_of_getElem? (i := 74) rfl)
theorem wd_315 : (Jvm.Cond.selects "FixupVolume$Name" ({ cls := "FixupVolume$Name", name := "copyFrom", desc := "(LFixupVolume$Name;)V" } : Jvm.MethodName) ({ cls := "FixupVolume$Name", name := "copyFrom", desc := "(LFixupVolume$Name;)V" } : Jvm.MethodName)) ∈ lw_tbl := tb_2 (List.mem_of_getElem? (i := 75) rfl)
theorem wd_316 : (Jvm.Cond.code ({ cls := "FixupVolume$Name", name := "copyFrom", desc := "(LFixupVolume$Name;)V" } : Jvm.MethodName) prog_4_method_4_code (2 : Nat) (Option.none : Option Jvm.ClassFile.FieldType)) ∈ lw_tbl := tb_2 (List.mem_of_getElem? (i := 76) rfl)
theorem wd_317 : (Jvm.Cond.methodLink "FixupVolume$Name" (19 : Nat) ({ cls := "java/lang/System", name := "arraycopy", desc := "(Ljava/lang/Object;ILjava/lang/Object;II)V" } : Jvm.MethodName)) ∈ lw_tbl := tb_2 (List.mem_of_getElem? (i := 77) rfl)
theorem wd_318 : (Jvm.Cond.methodLink "FixupVolume" (81 : Nat) ({ cls := "FixupVolume", name := "requireRunning", desc := "()V" } : Jvm.MethodName)) ∈ lw_tbl := tb_2 (List.mem_of_getElem? (i := 78) rfl)
theorem wd_319 : (Jvm.Cond.privateMethod ({ cls := "FixupVolume", name := "requireRunning", desc := "()V" } : Jvm.MethodName)) ∈ lw_tbl := tb_2 (List.mem_of_getElem? (i := 79) rfl)
theorem wd_320 : (Jvm.Cond.instanceMethod ({ cls := "FixupVolume", name := "requireRunning", desc := "()V" } : Jvm.MethodName)) ∈ lw_tbl := tb_2 (List.mem_of_getElem? (i := 80) rfl)
theorem wd_321 : (Jvm.Cond.code ({ cls := "FixupVolume", name := "requireRunning", desc := "()V" } : Jvm.MethodName) prog_1_method_17_code (1 : Nat) (Option.none : Option Jvm.ClassFile.FieldType)) ∈ lw_tbl := tb_2 (List.mem_of_getElem? (i := 81) rfl)
theorem wd_322 : (Jvm.Cond.classLink "FixupVolume" (235 : Nat) "java/lang/IllegalStateException") ∈ lw_tbl := tb_2 (List.mem_of_getElem? (i := 82) rfl)
theorem wd_323 : (Jvm.Cond.instantiable "java/lang/IllegalStateException" (6 : Nat)) ∈ lw_tbl := tb_2 (List.mem_of_getElem? (i := 83) rfl)
theorem wd_324 : (Jvm.Cond.castable "java/lang/IllegalStateException" "java/lang/IllegalStateException") ∈ lw_tbl := tb_2 (List.mem_of_getElem? (i := 84) rfl)
theorem wd_325 : (Jvm.Cond.declares ({ cls := "java/lang/RuntimeException", name := "<init>", desc := "()V" } : Jvm.MethodName)) ∈ lw_tbl := tb_2 (List.mem_of_getElem? (i := 85) rfl)
theorem wd_326 : (Jvm.Cond.declares ({ cls := "java/lang/RuntimeException", name := "<init>", desc := "(Ljava/lang/String;)V" } : Jvm.MethodName)) ∈ lw_tbl := tb_2 (List.mem_of_getElem? (i := 86) rfl)
theorem wd_327 : (Jvm.Cond.declares ({ cls := "java/lang/Exception", name := "<init>", desc := "()V" } : Jvm.MethodName)) ∈ lw_tbl := tb_2 (List.mem_of_getElem? (i := 87) rfl)
theorem wd_328 : (Jvm.Cond.declares ({ cls := "java/lang/Exception", name := "<init>", desc := "(Ljava/lang/String;)V" } : Jvm.MethodName)) ∈ lw_tbl := tb_2 (List.mem_of_getElem? (i := 88) rfl)
theorem wd_329 : (Jvm.Cond.declares ({ cls := "java/lang/Throwable", name := "<init>", desc := "()V" } : Jvm.MethodName)) ∈ lw_tbl := tb_2 (List.mem_of_getElem? (i := 89) rfl)
theorem wd_330 : (Jvm.Cond.declares ({ cls := "java/lang/Throwable", name := "<init>", desc := "(Ljava/lang/String;)V" } : Jvm.MethodName)) ∈ lw_tbl := tb_2 (List.mem_of_getElem? (i := 90) rfl)
theorem wd_331 : (Jvm.Cond.selects "java/lang/IllegalStateException" ({ cls := "java/lang/Throwable", name := "fillInStackTrace", desc := "(I)Ljava/lang/Throwable;" } : Jvm.MethodName) ({ cls := "java/lang/Throwable", name := "fillInStackTrace", desc := "(I)Ljava/lang/Throwable;" } : Jvm.MethodName)) ∈ lw_tbl := tb_2 (List.mem_of_getElem? (i := 91) rfl)
theorem wd_332 : (Jvm.Cond.selects "java/lang/IllegalStateException" ({ cls := "java/lang/Throwable", name := "fillInStackTrace", desc := "()Ljava/lang/Throwable;" } : Jvm.MethodName) ({ cls := "java/lang/Throwable", name := "fillInStackTrace", desc := "()Ljava/lang/Throwable;" } : Jvm.MethodName)) ∈ lw_tbl := tb_2 (List.mem_of_getElem? (i := 92) rfl)
theorem wd_333 : (Jvm.Cond.lays "java/lang/IllegalStateException" "java/lang/Throwable" "cause" "Ljava/lang/Throwable;") ∈ lw_tbl := tb_2 (List.mem_of_getElem? (i := 93) rfl)
theorem wd_334 : (Jvm.Cond.lays "java/lang/Throwable" "java/lang/Throwable" "cause" "Ljava/lang/Throwable;") ∈ lw_tbl := tb_2 (List.mem_of_getElem? (i := 94) rfl)
theorem wd_335 : (Jvm.Cond.lays "java/lang/IllegalStateException" "java/lang/Throwable" "stackTrace" "[Ljava/lang/StackTraceElement;") ∈ lw_tbl := tb_2 (List.mem_of_getElem? (i := 95) rfl)
theorem wd_336 : (Jvm.Cond.lays "java/lang/Throwable" "java/lang/Throwable" "stackTrace" "[Ljava/lang/StackTraceElement;") ∈ lw_tbl := tb_2 (List.mem_of_getElem? (i := 96) rfl)
theorem wd_337 : (Jvm.Cond.lays "java/lang/IllegalStateException" "java/lang/Throwable" "suppressedExceptions" "Ljava/util/List;") ∈ lw_tbl := tb_2 (List.mem_of_getElem? (i := 97) rfl)
theorem wd_338 : (Jvm.Cond.lays "java/lang/Throwable" "java/lang/Throwable" "suppressedExceptions" "Ljava/util/List;") ∈ lw_tbl := tb_2 (List.mem_of_getElem? (i := 98) rfl)
theorem wd_339 : (Jvm.Cond.lays "java/lang/IllegalStateException" "java/lang/Throwable" "detailMessage" "Ljava/lang/String;") ∈ lw_tbl := tb_2 (List.mem_of_getElem? (i := 99) rfl)
theorem wd_340 : (Jvm.Cond.lays "java/lang/Throwable" "java/lang/Throwable" "detailMessage" "Ljava/lang/String;") ∈ lw_tbl := tb_2 (List.mem_of_getElem? (i := 100) rfl)
theorem wd_341 : (Jvm.Cond.lays "java/lang/IllegalStateException" "java/lang/Throwable" "backtrace" "Ljava/lang/Object;") ∈ lw_tbl := tb_2 (List.mem_of_getElem? (i := 101) rfl)
theorem wd_342 : (Jvm.Cond.lays "java/lang/Throwable" "java/lang/Throwable" "backtrace" "Ljava/lang/Object;") ∈ lw_tbl := tb_2 (List.mem_of_getElem? (i := 102) rfl)
theorem wd_343 : (Jvm.Cond.fieldLink "java/lang/Throwable" (198 : Nat) "java/lang/Throwable" "backtrace" "Ljava/lang/Object;") ∈ lw_tbl := tb_2 (List.mem_of_getElem? (i := 103) rfl)
theorem wd_344 : (Jvm.Cond.superclass "java/lang/Throwable" "java/lang/Object") ∈ lw_tbl := tb_2 (List.mem_of_getElem? (i := 104) rfl)
theorem wd_345 : (Jvm.Cond.instanceMethod ({ cls := "java/lang/Throwable", name := "<init>", desc := "()V" } : Jvm.MethodName)) ∈ lw_tbl := tb_2 (List.mem_of_getElem? (i := 105) rfl)
theorem wd_346 : (Jvm.Cond.code ({ cls := "java/lang/Throwable", name := "<init>", desc := "()V" } : Jvm.MethodName) prog_15_method_1_code (1 : Nat) (Option.none : Option Jvm.ClassFile.FieldType)) ∈ lw_tbl := tb_2 (List.mem_of_getElem? (i := 106) rfl)
theorem wd_347 : (Jvm.Cond.methodLink "java/lang/Throwable" (1 : Nat) ({ cls := "java/lang/Object", name := "<init>", desc := "()V" } : Jvm.MethodName)) ∈ lw_tbl := tb_2 (List.mem_of_getElem? (i := 107) rfl)
theorem wd_348 : (Jvm.Cond.fieldLink "java/lang/Throwable" (13 : Nat) "java/lang/Throwable" "UNASSIGNED_STACK" "[Ljava/lang/StackTraceElement;") ∈ lw_tbl := tb_2 (List.mem_of_getElem? (i := 108) rfl)
theorem wd_349 : (Jvm.Cond.laysStatic "java/lang/Throwable" "UNASSIGNED_STACK" "[Ljava/lang/StackTraceElement;") ∈ lw_tbl := tb_2 (List.mem_of_getElem? (i := 109) rfl)
theorem wd_350 : (Jvm.Cond.fieldLink "java/lang/Throwable" (20 : Nat) "java/lang/Throwable" "SUPPRESSED_SENTINEL" "Ljava/util/List;") ∈ lw_tbl := tb_2 (List.mem_of_getElem? (i := 110) rfl)
theorem wd_351 : (Jvm.Cond.laysStatic "java/lang/Throwable" "SUPPRESSED_SENTINEL" "Ljava/util/List;") ∈ lw_tbl := tb_2 (List.mem_of_getElem? (i := 111) rfl)
theorem wd_352 : (Jvm.Cond.methodLink "java/lang/Throwable" (27 : Nat) ({ cls := "java/lang/Throwable", name := "fillInStackTrace", desc := "()Ljava/lang/Throwable;" } : Jvm.MethodName)) ∈ lw_tbl := tb_2 (List.mem_of_getElem? (i := 112) rfl)
theorem wd_353 : (Jvm.Cond.instanceMethod ({ cls := "java/lang/Throwable", name := "fillInStackTrace", desc := "()Ljava/lang/Throwable;" } : Jvm.MethodName)) ∈ lw_tbl := tb_2 (List.mem_of_getElem? (i := 113) rfl)
theorem wd_354 : (Jvm.Cond.sameMethod "java/lang/Throwable" "java/lang/Throwable" "fillInStackTrace" "()Ljava/lang/Throwable;") ∈ lw_tbl := tb_2 (List.mem_of_getElem? (i := 114) rfl)
theorem wd_355 : (Jvm.Cond.selects "java/lang/IllegalArgumentException" ({ cls := "java/lang/Throwable", name := "fillInStackTrace", desc := "()Ljava/lang/Throwable;" } : Jvm.MethodName) ({ cls := "java/lang/Throwable", name := "fillInStackTrace", desc := "()Ljava/lang/Throwable;" } : Jvm.MethodName)) ∈ lw_tbl := tb_2 (List.mem_of_getElem? (i := 115) rfl)
theorem wd_356 : (Jvm.Cond.selects "java/lang/UnsupportedOperationException" ({ cls := "java/lang/Throwable", name := "fillInStackTrace", desc := "()Ljava/lang/Throwable;" } : Jvm.MethodName) ({ cls := "java/lang/Throwable", name := "fillInStackTrace", desc := "()Ljava/lang/Throwable;" } : Jvm.MethodName)) ∈ lw_tbl := tb_2 (List.mem_of_getElem? (i := 116) rfl)
theorem wd_357 : (Jvm.Cond.codeSync ({ cls := "java/lang/Throwable", name := "fillInStackTrace", desc := "()Ljava/lang/Throwable;" } : Jvm.MethodName) prog_15_method_18_code (1 : Nat) (Option.some (Jvm.ClassFile.FieldType.object "java/lang/Throwable"))) ∈ lw_tbl := tb_2 (List.mem_of_getElem? (i := 117) rfl)
theorem wd_358 : (Jvm.Cond.methodLink "java/lang/Throwable" (202 : Nat) ({ cls := "java/lang/Throwable", name := "fillInStackTrace", desc := "(I)Ljava/lang/Throwable;" } : Jvm.MethodName)) ∈ lw_tbl := tb_2 (List.mem_of_getElem? (i := 118) rfl)
theorem wd_359 : (Jvm.Cond.privateMethod ({ cls := "java/lang/Throwable", name := "fillInStackTrace", desc := "(I)Ljava/lang/Throwable;" } : Jvm.MethodName)) ∈ lw_tbl := tb_2 (List.mem_of_getElem? (i := 119) rfl)
theorem wd_360 : (Jvm.Cond.instanceMethod ({ cls := "java/lang/Throwable", name := "fillInStackTrace", desc := "(I)Ljava/lang/Throwable;" } : Jvm.MethodName)) ∈ lw_tbl := tb_2 (List.mem_of_getElem? (i := 120) rfl)
theorem wd_361 : (Jvm.Cond.instantiable "java/lang/Throwable" (6 : Nat)) ∈ lw_tbl := tb_2 (List.mem_of_getElem? (i := 121) rfl)
theorem wd_362 : (Jvm.Cond.native ({ cls := "java/lang/Throwable", name := "fillInStackTrace", desc := "(I)Ljava/lang/Throwable;" } : Jvm.MethodName)) ∈ lw_tbl := tb_2 (List.mem_of_getElem? (i := 122) rfl)
theorem wd_363 : (Jvm.Cond.stringRef "FixupVolume" (237 : Nat) "the volume is off") ∈ lw_tbl := tb_2 (List.mem_of_getElem? (i := 123) rfl)
theorem wd_364 : (Jvm.Cond.methodLink "FixupVolume" (239 : Nat) ({ cls := "java/lang/IllegalStateException", name := "<init>", desc := "(Ljava/lang/String;)V" } : Jvm.MethodName)) ∈ lw_tbl := tb_2 (List.mem_of_getElem? (i := 124) rfl)
theorem wd_365 : (Jvm.Cond.instanceMethod ({ cls := "java/lang/IllegalStateException", name := "<init>", desc := "(Ljava/lang/String;)V" } : Jvm.MethodName)) ∈ lw_tbl := tb_2 (List.mem_of_getElem? (i := 125) rfl)
theorem wd_366 : (Jvm.Cond.code ({ cls := "java/lang/IllegalStateException", name := "<init>", desc := "(Ljava/lang/String;)V" } : Jvm.MethodName) prog_10_method_2_code (2 : Nat) (Option.none : Option Jvm.ClassFile.FieldType)) ∈ lw_tbl := tb_2 (List.mem_of_getElem? (i := 126) rfl)
theorem wd_367 : (Jvm.Cond.methodLink "java/lang/IllegalStateException" (7 : Nat) ({ cls := "java/lang/RuntimeException", name := "<init>", desc := "(Ljava/lang/String;)V" } : Jvm.MethodName)) ∈ lw_tbl := tb_2 (List.mem_of_getElem? (i := 127) rfl)
theorem wd_368 : (Jvm.Cond.instanceMethod ({ cls := "java/lang/RuntimeException", name := "<init>", desc := "(Ljava/lang/String;)V" } : Jvm.MethodName)) ∈ lw_tbl := tb_2 (List.mem_of_getElem? (i := 128) rfl)
theorem wd_369 : (Jvm.Cond.code ({ cls := "java/lang/RuntimeException", name := "<init>", desc := "(Ljava/lang/String;)V" } : Jvm.MethodName) prog_12_method_2_code (2 : Nat) (Option.none : Option Jvm.ClassFile.FieldType)) ∈ lw_tbl := tb_2 (List.mem_of_getElem? (i := 129) rfl)
theorem wd_370 : (Jvm.Cond.methodLink "java/lang/RuntimeException" (7 : Nat) ({ cls := "java/lang/Exception", name := "<init>", desc := "(Ljava/lang/String;)V" } : Jvm.MethodName)) ∈ lw_tbl := tb_2 (List.mem_of_getElem? (i := 130) rfl)
theorem wd_371 : (Jvm.Cond.instanceMethod ({ cls := "java/lang/Exception", name := "<init>", desc := "(Ljava/lang/String;)V" } : Jvm.MethodName)) ∈ lw_tbl := tb_2 (List.mem_of_getElem? (i := 131) rfl)
theorem wd_372 : (Jvm.Cond.code ({ cls := "java/lang/Exception", name := "<init>", desc := "(Ljava/lang/String;)V" } : Jvm.MethodName) prog_8_method_2_code (2 : Nat) (Option.none : Option Jvm.ClassFile.FieldType)) ∈ lw_tbl := tb_2 (List.mem_of_getElem? (i := 132) rfl)
theorem wd_373 : (Jvm.Cond.methodLink "java/lang/Exception" (7 : Nat) ({ cls := "java/lang/Throwable", name := "<init>", desc := "(Ljava/lang/String;)V" } : Jvm.MethodName)) ∈ lw_tbl := tb_2 (List.mem_of_getElem? (i := 133) rfl)
theorem wd_374 : (Jvm.Cond.instanceMethod ({ cls := "java/lang/Throwable", name := "<init>", desc := "(Ljava/lang/String;)V" } : Jvm.MethodName)) ∈ lw_tbl := tb_2 (List.mem_of_getElem? (i := 134) rfl)
theorem wd_375 : (Jvm.Cond.code ({ cls := "java/lang/Throwable", name := "<init>", desc := "(Ljava/lang/String;)V" } : Jvm.MethodName) prog_15_method_2_code (2 : Nat) (Option.none : Option Jvm.ClassFile.FieldType)) ∈ lw_tbl := tb_2 (List.mem_of_getElem? (i := 135) rfl)
theorem wd_376 : (Jvm.Cond.fieldLink "java/lang/Throwable" (198 : Nat) "java/lang/Throwable" "backtrace" "Ljava/lang/Object;") ∈ lw_tbl := tb_2 (List.mem_of_getElem? (i := 136) rfl)
theorem wd_377 : (Jvm.Cond.fieldLink "java/lang/Throwable" (31 : Nat) "java/lang/Throwable" "detailMessage" "Ljava/lang/String;") ∈ lw_tbl := tb_2 (List.mem_of_getElem? (i := 137) rfl)
theorem wd_378 : (Jvm.Cond.fieldLink "java/lang/Throwable" (7 : Nat) "java/lang/Throwable" "cause" "Ljava/lang/Throwable;") ∈ lw_tbl := tb_2 (List.mem_of_getElem? (i := 138) rfl)
theorem wd_379 : (Jvm.Cond.fieldLink "java/lang/Throwable" (17 : Nat) "java/lang/Throwable" "stackTrace" "[Ljava/lang/StackTraceElement;") ∈ lw_tbl := tb_2 (List.mem_of_getElem? (i := 139) rfl)
theorem wd_380 : (Jvm.Cond.fieldLink "java/lang/Throwable" (24 : Nat) "java/lang/Throwable" "suppressedExceptions" "Ljava/util/List;") ∈ lw_tbl := tb_2 (List.mem_of_getElem? (i := 140) rfl)
theorem wd_381 : (Jvm.Cond.soleField "java/lang/Throwable" "backtrace") ∈ lw_tbl := tb_2 (List.mem_of_getElem? (i := 141) rfl)
theorem wd_382 : (Jvm.Cond.soleField "java/lang/Throwable" "detailMessage") ∈ lw_tbl := tb_2 (List.mem_of_getElem? (i := 142) rfl)
theorem wd_383 : (Jvm.Cond.soleField "java/lang/Throwable" "cause") ∈ lw_tbl := tb_2 (List.mem_of_getElem? (i := 143) rfl)
theorem wd_384 : (Jvm.Cond.soleField "java/lang/Throwable" "stackTrace") ∈ lw_tbl := tb_2 (List.mem_of_getElem? (i := 144) rfl)
theorem wd_385 : (Jvm.Cond.lays "java/lang/IllegalStateException" "java/lang/Throwable" "depth" "I") ∈ lw_tbl := tb_2 (List.mem_of_getElem? (i := 145) rfl)
theorem wd_386 : (Jvm.Cond.soleField "java/lang/Throwable" "depth") ∈ lw_tbl := tb_2 (List.mem_of_getElem? (i := 146) rfl)
theorem wd_387 : (Jvm.Cond.soleField "java/lang/Throwable" "suppressedExceptions") ∈ lw_tbl := tb_2 (List.mem_of_getElem? (i := 147) rfl)
theorem wd_388 : (Jvm.Cond.superclass "java/lang/IllegalStateException" "java/lang/RuntimeException") ∈ lw_tbl := tb_2 (List.mem_of_getElem? (i := 148) rfl)
theorem wd_389 : (Jvm.Cond.arrayClass Jvm.ClassFile.FieldType.byte) ∈ lw_tbl := tb_2 (List.mem_of_getElem? (i := 149) rfl)
theorem wd_390 : (Jvm.Cond.methodLink "FixupVolume" (95 : Nat) ({ cls := "FixupVolume", name := "require", desc := "(Z)V" } : Jvm.MethodName)) ∈ lw_tbl := tb_2 (List.mem_of_getElem? (i := 150) rfl)
theorem wd_391 : (Jvm.Cond.static ({ cls := "FixupVolume", name := "require", desc := "(Z)V" } : Jvm.MethodName)) ∈ lw_tbl := tb_2 (List.mem_of_getElem? (i := 151) rfl)
theorem wd_392 : (Jvm.Cond.code ({ cls := "FixupVolume", name := "require", desc := "(Z)V" } : Jvm.MethodName) prog_1_method_18_code (1 : Nat) (Option.none : Option Jvm.ClassFile.FieldType)) ∈ lw_tbl := tb_2 (List.mem_of_getElem? (i := 152) rfl)
theorem wd_393 : (Jvm.Cond.classLink "FixupVolume" (240 : Nat) "java/lang/IllegalArgumentException") ∈ lw_tbl := tb_2 (List.mem_of_getElem? (i := 153) rfl)
theorem wd_394 : (Jvm.Cond.instantiable "java/lang/IllegalArgumentException" (6 : Nat)) ∈ lw_tbl := tb_2 (List.mem_of_getElem? (i := 154) rfl)
theorem wd_395 : (Jvm.Cond.castable "java/lang/IllegalArgumentException" "java/lang/IllegalArgumentException") ∈ lw_tbl := tb_2 (List.mem_of_getElem? (i := 155) rfl)
theorem wd_396 : (Jvm.Cond.selects "java/lang/IllegalArgumentException" ({ cls := "java/lang/Throwable", name := "fillInStackTrace", desc := "(I)Ljava/lang/Throwable;" } : Jvm.MethodName) ({ cls := "java/lang/Throwable", name := "fillInStackTrace", desc := "(I)Ljava/lang/Throwable;" } : Jvm.MethodName)) ∈ lw_tbl := tb_2 (List.mem_of_getElem? (i := 156) rfl)
theorem wd_397 : (Jvm.Cond.lays "java/lang/IllegalArgumentException" "java/lang/Throwable" "cause" "Ljava/lang/Throwable;") ∈ lw_tbl := tb_2 (List.mem_of_getElem? (i := 157) rfl)
theorem wd_398 : (Jvm.Cond.lays "java/lang/IllegalArgumentException" "java/lang/Throwable" "stackTrace" "[Ljava/lang/StackTraceElement;") ∈ lw_tbl := tb_2 (List.mem_of_getElem? (i := 158) rfl)
theorem wd_399 : (Jvm.Cond.lays "java/lang/IllegalArgumentException" "java/lang/Throwable" "suppressedExceptions" "Ljava/util/List;") ∈ lw_tbl := tb_2 (List.mem_of_getElem? (i := 159) rfl)
theorem wd_400 : (Jvm.Cond.lays "java/lang/IllegalArgumentException" "java/lang/Throwable" "detailMessage" "Ljava/lang/String;") ∈ lw_tbl := tb_2 (List.mem_of_getElem? (i := 160) rfl)
theorem wd_401 : (Jvm.Cond.lays "java/lang/IllegalArgumentException" "java/lang/Throwable" "backtrace" "Ljava/lang/Object;") ∈ lw_tbl := tb_2 (List.mem_of_getElem? (i := 161) rfl)
theorem wd_402 : (Jvm.Cond.stringRef "FixupVolume" (242 : Nat) "not what the call can be about") ∈ lw_tbl := tb_2 (List.mem_of_getElem? (i := 162) rfl)
theorem wd_403 : (Jvm.Cond.methodLink "FixupVolume" (244 : Nat) ({ cls := "java/lang/IllegalArgumentException", name := "<init>", desc := "(Ljava/lang/String;)V" } : Jvm.MethodName)) ∈ lw_tbl := tb_2 (List.mem_of_getElem? (i := 163) rfl)
theorem wd_404 : (Jvm.Cond.instanceMethod ({ cls := "java/lang/IllegalArgumentException", name := "<init>", desc := "(Ljava/lang/String;)V" } : Jvm.MethodName)) ∈ lw_tbl := tb_2 (List.mem_of_getElem? (i := 164) rfl)
theorem wd_405 : (Jvm.Cond.code ({ cls := "java/lang/IllegalArgumentException", name := "<init>", desc := "(Ljava/lang/String;)V" } : Jvm.MethodName) prog_9_method_2_code (2 : Nat) (Option.none : Option Jvm.ClassFile.FieldType)) ∈ lw_tbl := tb_2 (List.mem_of_getElem? (i := 165) rfl)
theorem wd_406 : (Jvm.Cond.methodLink "java/lang/IllegalArgumentException" (7 : Nat) ({ cls := "java/lang/RuntimeException", name := "<init>", desc := "(Ljava/lang/String;)V" } : Jvm.MethodName)) ∈ lw_tbl := tb_2 (List.mem_of_getElem? (i := 166) rfl)
theorem wd_407 : (Jvm.Cond.lays "java/lang/IllegalArgumentException" "java/lang/Throwable" "depth" "I") ∈ lw_tbl := tb_2 (List.mem_of_getElem? (i := 167) rfl)
theorem wd_408 : (Jvm.Cond.superclass "java/lang/IllegalArgumentException" "java/lang/RuntimeException") ∈ lw_tbl := tb_2 (List.mem_of_getElem? (i := 168) rfl)
theorem wd_409 : (Jvm.Cond.methodLink "FixupVolume" (99 : Nat) ({ cls := "FixupVolume", name := "lowestFreeRecord", desc := "()I" } : Jvm.MethodName)) ∈ lw_tbl := tb_2 (List.mem_of_getElem? (i := 169) rfl)
theorem wd_410 : (Jvm.Cond.privateMethod ({ cls := "FixupVolume", name := "lowestFreeRecord", desc := "()I" } : Jvm.MethodName)) ∈ lw_tbl := tb_2 (List.mem_of_getElem? (i := 170) rfl)
theorem wd_411 : (Jvm.Cond.instanceMethod ({ cls := "FixupVolume", name := "lowestFreeRecord", desc := "()I" } : Jvm.MethodName)) ∈ lw_tbl := tb_2 (List.mem_of_getElem? (i := 171) rfl)
theorem wd_412 : (Jvm.Cond.code ({ cls := "FixupVolume", name := "lowestFreeRecord", desc := "()I" } : Jvm.MethodName) prog_1_method_22_code (2 : Nat) (Option.some Jvm.ClassFile.FieldType.int)) ∈ lw_tbl := tb_2 (List.mem_of_getElem? (i := 172) rfl)
theorem wd_413 : (Jvm.Cond.classLink "FixupVolume" (103 : Nat) "java/lang/UnsupportedOperationException") ∈ lw_tbl := tb_2 (List.mem_of_getElem? (i := 173) rfl)
theorem wd_414 : (Jvm.Cond.instantiable "java/lang/UnsupportedOperationException" (6 : Nat)) ∈ lw_tbl := tb_2 (List.mem_of_getElem? (i := 174) rfl)
theorem wd_415 : (Jvm.Cond.castable "java/lang/UnsupportedOperationException" "java/lang/UnsupportedOperationException") ∈ lw_tbl := tb_2 (List.mem_of_getElem? (i := 175) rfl)
theorem wd_416 : (Jvm.Cond.selects "java/lang/UnsupportedOperationException" ({ cls := "java/lang/Throwable", name := "fillInStackTrace", desc := "(I)Ljava/lang/Throwable;" } : Jvm.MethodName) ({ cls := "java/lang/Throwable", name := "fillInStackTrace", desc := "(I)Ljava/lang/Throwable;" } : Jvm.MethodName)) ∈ lw_tbl := tb_2 (List.mem_of_getElem? (i := 176) rfl)
theorem wd_417 : (Jvm.Cond.lays "java/lang/UnsupportedOperationException" "java/lang/Throwable" "cause" "Ljava/lang/Throwable;") ∈ lw_tbl := tb_2 (List.mem_of_getElem? (i := 177) rfl)
theorem wd_418 : (Jvm.Cond.lays "java/lang/UnsupportedOperationException" "java/lang/Throwable" "stackTrace" "[Ljava/lang/StackTraceElement;") ∈ lw_tbl := tb_2 (List.mem_of_getElem? (i := 178) rfl)
theorem wd_419 : (Jvm.Cond.lays "java/lang/UnsupportedOperationException" "java/lang/Throwable" "suppressedExceptions" "Ljava/util/List;") ∈ lw_tbl := tb_2 (List.mem_of_getElem? (i := 179) rfl)
theorem wd_420 : (Jvm.Cond.lays "java/lang/UnsupportedOperationException" "java/lang/Throwable" "detailMessage" "Ljava/lang/String;") ∈ lw_tbl := tb_2 (List.mem_of_getElem? (i := 180) rfl)
theorem wd_421 : (Jvm.Cond.lays "java/lang/UnsupportedOperationException" "java/lang/Throwable" "backtrace" "Ljava/lang/Object;") ∈ lw_tbl := tb_2 (List.mem_of_getElem? (i := 181) rfl)
theorem wd_422 : (Jvm.Cond.stringRef "FixupVolume" (105 : Nat) "no record is free") ∈ lw_tbl := tb_2 (List.mem_of_getElem? (i := 182) rfl)
theorem wd_423 : (Jvm.Cond.methodLink "FixupVolume" (107 : Nat) ({ cls := "java/lang/UnsupportedOperationException", name := "<init>", desc := "(Ljava/lang/String;)V" } : Jvm.MethodName)) ∈ lw_tbl := tb_2 (List.mem_of_getElem? (i := 183) rfl)
theorem wd_424 : (Jvm.Cond.instanceMethod ({ cls := "java/lang/UnsupportedOperationException", name := "<init>", desc := "(Ljava/lang/String;)V" } : Jvm.MethodName)) ∈ lw_tbl := tb_2 (List.mem_of_getElem? (i := 184) rfl)
theorem wd_425 : (Jvm.Cond.code ({ cls := "java/lang/UnsupportedOperationException", name := "<init>", desc := "(Ljava/lang/String;)V" } : Jvm.MethodName) prog_16_method_2_code (2 : Nat) (Option.none : Option Jvm.ClassFile.FieldType)) ∈ lw_tbl := tb_2 (List.mem_of_getElem? (i := 185) rfl)
theorem wd_426 : (Jvm.Cond.methodLink "java/lang/UnsupportedOperationException" (7 : Nat) ({ cls := "java/lang/RuntimeException", name := "<init>", desc := "(Ljava/lang/String;)V" } : Jvm.MethodName)) ∈ lw_tbl := tb_2 (List.mem_of_getElem? (i := 186) rfl)
theorem wd_427 : (Jvm.Cond.lays "java/lang/UnsupportedOperationException" "java/lang/Throwable" "depth" "I") ∈ lw_tbl := tb_2 (List.mem_of_getElem? (i := 187) rfl)
theorem wd_428 : (Jvm.Cond.superclass "java/lang/UnsupportedOperationException" "java/lang/RuntimeException") ∈ lw_tbl := tb_2 (List.mem_of_getElem? (i := 188) rfl)
theorem wd_429 : (Jvm.Cond.methodLink "FixupVolume" (113 : Nat) ({ cls := "FixupVolume", name := "store", desc := "(I)V" } : Jvm.MethodName)) ∈ lw_tbl := tb_2 (List.mem_of_getElem? (i := 189) rfl)
theorem wd_430 : (Jvm.Cond.privateMethod ({ cls := "FixupVolume", name := "store", desc := "(I)V" } : Jvm.MethodName)) ∈ lw_tbl := tb_2 (List.mem_of_getElem? (i := 190) rfl)
theorem wd_431 : (Jvm.Cond.instanceMethod ({ cls := "FixupVolume", name := "store", desc := "(I)V" } : Jvm.MethodName)) ∈ lw_tbl := tb_2 (List.mem_of_getElem? (i := 191) rfl)
theorem wd_432 : (Jvm.Cond.code ({ cls := "FixupVolume", name := "store", desc := "(I)V" } : Jvm.MethodName) prog_1_method_30_code (2 : Nat) (Option.none : Option Jvm.ClassFile.FieldType)) ∈ lw_tbl := tb_2 (List.mem_of_getElem? (i := 192) rfl)
theorem wd_433 : (Jvm.Cond.methodLink "FixupVolume" (253 : Nat) ({ cls := "FixupVolume", name := "storeSector", desc := "(II)V" } : Jvm.MethodName)) ∈ lw_tbl := tb_2 (List.mem_of_getElem? (i := 193) rfl)
theorem wd_434 : (Jvm.Cond.privateMethod ({ cls := "FixupVolume", name := "storeSector", desc := "(II)V" } : Jvm.MethodName)) ∈ lw_tbl := tb_2 (List.mem_of_getElem? (i := 194) rfl)
theorem wd_435 : (Jvm.Cond.instanceMethod ({ cls := "FixupVolume", name := "storeSector", desc := "(II)V" } : Jvm.MethodName)) ∈ lw_tbl := tb_2 (List.mem_of_getElem? (i := 195) rfl)
theorem wd_436 : (Jvm.Cond.code ({ cls := "FixupVolume", name := "storeSector", desc := "(II)V" } : Jvm.MethodName) prog_1_method_31_code (3 : Nat) (Option.none : Option Jvm.ClassFile.FieldType)) ∈ lw_tbl := tb_2 (List.mem_of_getElem? (i := 196) rfl)
theorem wd_437 : (Jvm.Cond.methodLink "FixupVolume" (256 : Nat) ({ cls := "FixupVolume$Disk", name := "isCutNow", desc := "()Z" } : Jvm.MethodName)) ∈ lw_tbl := tb_2 (List.mem_of_getElem? (i := 197) rfl)
theorem wd_438 : (Jvm.Cond.instanceMethod ({ cls := "FixupVolume$Disk", name := "isCutNow", desc := "()Z" } : Jvm.MethodName)) ∈ lw_tbl := tb_2 (List.mem_of_getElem? (i := 198) rfl)
theorem wd_439 : (Jvm.Cond.selects "FixupVolume$Disk" ({ cls := "FixupVolume$Disk", name := "isCutNow", desc := "()Z" } : Jvm.MethodName) ({ cls := "FixupVolume$Disk", name := "isCutNow", desc := "()Z" } : Jvm.MethodName)) ∈ lw_tbl := tb_2 (List.mem_of_getElem? (i := 199) rfl)
theorem wd_440 : (Jvm.Cond.code ({ cls := "FixupVolume$Disk", name := "isCutNow", desc := "()Z" } : Jvm.MethodName) prog_2_method_2_code (1 : Nat) (Option.some Jvm.ClassFile.FieldType.boolean)) ∈ lw_tbl := tb_2 (List.mem_of_getElem? (i := 200) rfl)
theorem wd_441 : (Jvm.Cond.stringRef "FixupVolume" (260 : Nat) "the volume goes off") ∈ lw_tbl := tb_2 (List.mem_of_getElem? (i := 201) rfl)
theorem wd_442 : (Jvm.Cond.methodLink "FixupVolume" (117 : Nat) ({ cls := "FixupVolume", name := "enter", desc := "(II)V" } : Jvm.MethodName)) ∈ lw_tbl := tb_2 (List.mem_of_getElem? (i := 202) rfl)
theorem wd_443 : (Jvm.Cond.privateMethod ({ cls := "FixupVolume", name := "enter", desc := "(II)V" } : Jvm.MethodName)) ∈ lw_tbl := tb_2 (List.mem_of_getElem? (i := 203) rfl)
theorem wd_444 : (Jvm.Cond.instanceMethod ({ cls := "FixupVolume", name := "enter", desc := "(II)V" } : Jvm.MethodName)) ∈ lw_tbl := tb_2 (List.mem_of_getElem? (i := 204) rfl)
theorem wd_445 : (Jvm.Cond.code ({ cls := "FixupVolume", name := "enter", desc := "(II)V" } : Jvm.MethodName) prog_1_method_27_code (4 : Nat) (Option.none : Option Jvm.ClassFile.FieldType)) ∈ lw_tbl := tb_2 (List.mem_of_getElem? (i := 205) rfl)
theorem wd_446 : (Jvm.Cond.methodLink "FixupVolume" (249 : Nat) ({ cls := "FixupVolume", name := "insertByName", desc := "([III)I" } : Jvm.MethodName)) ∈ lw_tbl := tb_2 (List.mem_of_getElem? (i := 206) rfl)
theorem wd_447 : (Jvm.Cond.privateMethod ({ cls := "FixupVolume", name := "insertByName", desc := "([III)I" } : Jvm.MethodName)) ∈ lw_tbl := tb_2 (List.mem_of_getElem? (i := 207) rfl)
theorem wd_448 : (Jvm.Cond.instanceMethod ({ cls := "FixupVolume", name := "insertByName", desc := "([III)I" } : Jvm.MethodName)) ∈ lw_tbl := tb_2 (List.mem_of_getElem? (i := 208) rfl)
theorem wd_449 : (Jvm.Cond.code ({ cls := "FixupVolume", name := "insertByName", desc := "([III)I" } : Jvm.MethodName) prog_1_method_28_code (5 : Nat) (Option.some Jvm.ClassFile.FieldType.int)) ∈ lw_tbl := tb_2 (List.mem_of_getElem? (i := 209) rfl)
theorem wd_450 : (Jvm.Cond.methodLink "FixupVolumeLaw" (57 : Nat) ({ cls := "FixupVolumeLaw", name := "write", desc := "(LFixupVolume;IIII[J)I" } : Jvm.MethodName)) ∈ lw_tbl := tb_2 (List.mem_of_getElem? (i := 210) rfl)
theorem wd_451 : (Jvm.Cond.static ({ cls := "FixupVolumeLaw", name := "write", desc := "(LFixupVolume;IIII[J)I" } : Jvm.MethodName)) ∈ lw_tbl := tb_2 (List.mem_of_getElem? (i := 211) rfl)
theorem wd_452 : (Jvm.Cond.codeWith ({ cls := "FixupVolumeLaw", name := "write", desc := "(LFixupVolume;IIII[J)I" } : Jvm.MethodName) method_4_code (7 : Nat) (Option.some Jvm.ClassFile.FieldType.int) [((0 : Nat), (14 : Nat), (17 : Nat), (13 : Nat)), ((0 : Nat), (14 : Nat), (21 : Nat), (15 : Nat)), ((0 : Nat), (14 : Nat), (25 : Nat), (17 : Nat))]) ∈ lw_tbl := tb_2 (List.mem_of_getElem? (i := 212) rfl)
theorem wd_453 : (Jvm.Cond.methodLink "FixupVolumeLaw" (19 : Nat) ({ cls := "FixupVolume", name := "write", desc := "(IIII)I" } : Jvm.MethodName)) ∈ lw_tbl := tb_2 (List.mem_of_getElem? (i := 213) rfl)
theorem wd_454 : (Jvm.Cond.instanceMethod ({ cls := "FixupVolume", name := "write", desc := "(IIII)I" } : Jvm.MethodName)) ∈ lw_tbl := tb_2 (List.mem_of_getElem? (i := 214) rfl)
theorem wd_455 : (Jvm.Cond.selects "FixupVolume" ({ cls := "FixupVolume", name := "write", desc := "(IIII)I" } : Jvm.MethodName) ({ cls := "FixupVolume", name := "write", desc := "(IIII)I" } : Jvm.MethodName)) ∈ lw_tbl := tb_2 (List.mem_of_getElem? (i := 215) rfl)
theorem wd_456 : (Jvm.Cond.code ({ cls := "FixupVolume", name := "write", desc := "(IIII)I" } : Jvm.MethodName) prog_1_method_4_code (7 : Nat) (Option.some Jvm.ClassFile.FieldType.int)) ∈ lw_tbl := tb_2 (List.mem_of_getElem? (i := 216) rfl)
theorem wd_457 : (Jvm.Cond.methodLink "FixupVolume" (126 : Nat) ({ cls := "java/lang/Math", name := "max", desc := "(II)I" } : Jvm.MethodName)) ∈ lw_tbl := tb_2 (List.mem_of_getElem? (i := 217) rfl)
theorem wd_458 : (Jvm.Cond.static ({ cls := "java/lang/Math", name := "max", desc := "(II)I" } : Jvm.MethodName)) ∈ lw_tbl := tb_2 (List.mem_of_getElem? (i := 218) rfl)
theorem wd_459 : (Jvm.Cond.code ({ cls := "java/lang/Math", name := "max", desc := "(II)I" } : Jvm.MethodName) prog_11_method_65_code (2 : Nat) (Option.some Jvm.ClassFile.FieldType.int)) ∈ lw_tbl := tb_2 (List.mem_of_getElem? (i := 219) rfl)
theorem wd_460 : (Jvm.Cond.methodLink "FixupVolume" (135 : Nat) ({ cls := "FixupVolume$Sheet", name := "mostInside", desc := "()I" } : Jvm.MethodName)) ∈ lw_tbl := tb_2 (List.mem_of_getElem? (i := 220) rfl)
theorem wd_461 : (Jvm.Cond.instanceMethod ({ cls := "FixupVolume$Sheet", name := "mostInside", desc := "()I" } : Jvm.MethodName)) ∈ lw_tbl := tb_2 (List.mem_of_getElem? (i := 221) rfl)
theorem wd_462 : (Jvm.Cond.selects "FixupVolume$Sheet" ({ cls := "FixupVolume$Sheet", name := "mostInside", desc := "()I" } : Jvm.MethodName) ({ cls := "FixupVolume$Sheet", name := "mostInside", desc := "()I" } : Jvm.MethodName)) ∈ lw_tbl := tb_2 (List.mem_of_getElem? (i := 222) rfl)
theorem wd_463 : (Jvm.Cond.code ({ cls := "FixupVolume$Sheet", name := "mostInside", desc := "()I" } : Jvm.MethodName) prog_5_method_7_code (1 : Nat) (Option.some Jvm.ClassFile.FieldType.int)) ∈ lw_tbl := tb_2 (List.mem_of_getElem? (i := 223) rfl)
theorem wd_464 : (Jvm.Cond.methodLink "FixupVolume" (138 : Nat) ({ cls := "FixupVolume$Sheet", name := "putInside", desc := "(IIII)V" } : Jvm.MethodName)) ∈ lw_tbl := tb_2 (List.mem_of_getElem? (i := 224) rfl)
theorem wd_465 : (Jvm.Cond.instanceMethod ({ cls := "FixupVolume$Sheet", name := "putInside", desc := "(IIII)V" } : Jvm.MethodName)) ∈ lw_tbl := tb_2 (List.mem_of_getElem? (i := 225) rfl)
theorem wd_466 : (Jvm.Cond.selects "FixupVolume$Sheet" ({ cls := "FixupVolume$Sheet", name := "putInside", desc := "(IIII)V" } : Jvm.MethodName) ({ cls := "FixupVolume$Sheet", name := "putInside", desc := "(IIII)V" } : Jvm.MethodName)) ∈ lw_tbl := tb_2 (List.mem_of_getElem? (i := 226) rfl)
theorem wd_467 : (Jvm.Cond.code ({ cls := "FixupVolume$Sheet", name := "putInside", desc := "(IIII)V" } : Jvm.MethodName) prog_5_method_8_code (6 : Nat) (Option.none : Option Jvm.ClassFile.FieldType)) ∈ lw_tbl := tb_2 (List.mem_of_getElem? (i := 227) rfl)
theorem wd_468 : (Jvm.Cond.methodLink "FixupVolume" (142 : Nat) ({ cls := "FixupVolume", name := "makePlan", desc := "(LFixupVolume$Sheet;III)Z" } : Jvm.MethodName)) ∈ lw_tbl := tb_2 (List.mem_of_getElem? (i := 228) rfl)
theorem wd_469 : (Jvm.Cond.privateMethod ({ cls := "FixupVolume", name := "makePlan", desc := "(LFixupVolume$Sheet;III)Z" } : Jvm.MethodName)) ∈ lw_tbl := tb_2 (List.mem_of_getElem? (i := 229) rfl)
theorem wd_470 : (Jvm.Cond.instanceMethod ({ cls := "FixupVolume", name := "makePlan", desc := "(LFixupVolume$Sheet;III)Z" } : Jvm.MethodName)) ∈ lw_tbl := tb_2 (List.mem_of_getElem? (i := 230) rfl)
theorem wd_471 : (Jvm.Cond.code ({ cls := "FixupVolume", name := "makePlan", desc := "(LFixupVolume$Sheet;III)Z" } : Jvm.MethodName) prog_1_method_32_code (8 : Nat) (Option.some Jvm.ClassFile.FieldType.boolean)) ∈ lw_tbl := tb_2 (List.mem_of_getElem? (i := 231) rfl)
theorem wd_472 : (Jvm.Cond.methodLink "FixupVolume" (155 : Nat) ({ cls := "FixupVolume", name := "clustersFor", desc := "(I)I" } : Jvm.MethodName)) ∈ lw_tbl := tb_2 (List.mem_of_getElem? (i := 232) rfl)
theorem wd_473 : (Jvm.Cond.static ({ cls := "FixupVolume", name := "clustersFor", desc := "(I)I" } : Jvm.MethodName)) ∈ lw_tbl := tb_2 (List.mem_of_getElem? (i := 233) rfl)
theorem wd_474 : (Jvm.Cond.code ({ cls := "FixupVolume", name := "clustersFor", desc := "(I)I" } : Jvm.MethodName) prog_1_method_43_code (1 : Nat) (Option.some Jvm.ClassFile.FieldType.int)) ∈ lw_tbl := tb_2 (List.mem_of_getElem? (i := 234) rfl)
theorem wd_475 : (Jvm.Cond.methodLink "FixupVolume" (265 : Nat) ({ cls := "FixupVolume", name := "needsCluster", desc := "(LFixupVolume$Sheet;III)Z" } : Jvm.MethodName)) ∈ lw_tbl := tb_2 (List.mem_of_getElem? (i := 235) rfl)
theorem wd_476 : (Jvm.Cond.static ({ cls := "FixupVolume", name := "needsCluster", desc := "(LFixupVolume$Sheet;III)Z" } : Jvm.MethodName)) ∈ lw_tbl := tb_2 (List.mem_of_getElem? (i := 236) rfl)
theorem wd_477 : (Jvm.Cond.code ({ cls := "FixupVolume", name := "needsCluster", desc := "(LFixupVolume$Sheet;III)Z" } : Jvm.MethodName) prog_1_method_33_code (5 : Nat) (Option.some Jvm.ClassFile.FieldType.boolean)) ∈ lw_tbl := tb_2 (List.mem_of_getElem? (i := 237) rfl)
theorem wd_478 : (Jvm.Cond.methodLink "FixupVolume" (268 : Nat) ({ cls := "FixupVolume", name := "lowestFreeCluster", desc := "(I)I" } : Jvm.MethodName)) ∈ lw_tbl := tb_2 (List.mem_of_getElem? (i := 238) rfl)
theorem wd_479 : (Jvm.Cond.privateMethod ({ cls := "FixupVolume", name := "lowestFreeCluster", desc := "(I)I" } : Jvm.MethodName)) ∈ lw_tbl := tb_2 (List.mem_of_getElem? (i := 239) rfl)
theorem wd_480 : (Jvm.Cond.instanceMethod ({ cls := "FixupVolume", name := "lowestFreeCluster", desc := "(I)I" } : Jvm.MethodName)) ∈ lw_tbl := tb_3 (List.mem_of_getElem? (i := 0) rfl)
theorem wd_481 : (Jvm.Cond.code ({ cls := "FixupVolume", name := "lowestFreeCluster", desc := "(I)I" } : Jvm.MethodName) prog_1_method_23_code (3 : Nat) (Option.some Jvm.ClassFile.FieldType.int)) ∈ lw_tbl := tb_3 (List.mem_of_getElem? (i := 1) rfl)
theorem wd_482 : (Jvm.Cond.methodLink "FixupVolume" (271 : Nat) ({ cls := "FixupVolume$Layout", name := "append", desc := "(II)V" } : Jvm.MethodName)) ∈ lw_tbl := tb_3 (List.mem_of_getElem? (i := 2) rfl)
theorem wd_483 : (Jvm.Cond.instanceMethod ({ cls := "FixupVolume$Layout", name := "append", desc := "(II)V" } : Jvm.MethodName)) ∈ lw_tbl := tb_3 (List.mem_of_getElem? (i := 3) rfl)
theorem wd_484 : (Jvm.Cond.selects "FixupVolume$Layout" ({ cls := "FixupVolume$Layout", name := "append", desc := "(II)V" } : Jvm.MethodName) ({ cls := "FixupVolume$Layout", name := "append", desc := "(II)V" } : Jvm.MethodName)) ∈ lw_tbl := tb_3 (List.mem_of_getElem? (i := 4) rfl)
theorem wd_485 : (Jvm.Cond.code ({ cls := "FixupVolume$Layout", name := "append", desc := "(II)V" } : Jvm.MethodName) prog_3_method_3_code (4 : Nat) (Option.none : Option Jvm.ClassFile.FieldType)) ∈ lw_tbl := tb_3 (List.mem_of_getElem? (i := 5) rfl)
theorem wd_486 : (Jvm.Cond.methodLink "FixupVolume" (273 : Nat) ({ cls := "FixupVolume$Sheet", name := "nameBytes", desc := "()I" } : Jvm.MethodName)) ∈ lw_tbl := tb_3 (List.mem_of_getElem? (i := 6) rfl)
theorem wd_487 : (Jvm.Cond.methodLink "FixupVolume" (276 : Nat) ({ cls := "FixupVolume$Layout", name := "attributeBytes", desc := "()I" } : Jvm.MethodName)) ∈ lw_tbl := tb_3 (List.mem_of_getElem? (i := 7) rfl)
theorem wd_488 : (Jvm.Cond.stringRef "FixupVolume" (146 : Nat) "too few clusters, or too many runs") ∈ lw_tbl := tb_3 (List.mem_of_getElem? (i := 8) rfl)
theorem wd_489 : (Jvm.Cond.methodLink "FixupVolume" (148 : Nat) ({ cls := "FixupVolume", name := "putOutside", desc := "(LFixupVolume$Sheet;IIII)V" } : Jvm.MethodName)) ∈ lw_tbl := tb_3 (List.mem_of_getElem? (i := 9) rfl)
theorem wd_490 : (Jvm.Cond.privateMethod ({ cls := "FixupVolume", name := "putOutside", desc := "(LFixupVolume$Sheet;IIII)V" } : Jvm.MethodName)) ∈ lw_tbl := tb_3 (List.mem_of_getElem? (i := 10) rfl)
theorem wd_491 : (Jvm.Cond.instanceMethod ({ cls := "FixupVolume", name := "putOutside", desc := "(LFixupVolume$Sheet;IIII)V" } : Jvm.MethodName)) ∈ lw_tbl := tb_3 (List.mem_of_getElem? (i := 11) rfl)
theorem wd_492 : (Jvm.Cond.code ({ cls := "FixupVolume", name := "putOutside", desc := "(LFixupVolume$Sheet;IIII)V" } : Jvm.MethodName) prog_1_method_34_code (7 : Nat) (Option.none : Option Jvm.ClassFile.FieldType)) ∈ lw_tbl := tb_3 (List.mem_of_getElem? (i := 12) rfl)
theorem wd_493 : (Jvm.Cond.methodLink "FixupVolume" (277 : Nat) ({ cls := "FixupVolume", name := "takePlanned", desc := "()V" } : Jvm.MethodName)) ∈ lw_tbl := tb_3 (List.mem_of_getElem? (i := 13) rfl)
theorem wd_494 : (Jvm.Cond.privateMethod ({ cls := "FixupVolume", name := "takePlanned", desc := "()V" } : Jvm.MethodName)) ∈ lw_tbl := tb_3 (List.mem_of_getElem? (i := 14) rfl)
theorem wd_495 : (Jvm.Cond.instanceMethod ({ cls := "FixupVolume", name := "takePlanned", desc := "()V" } : Jvm.MethodName)) ∈ lw_tbl := tb_3 (List.mem_of_getElem? (i := 15) rfl)
theorem wd_496 : (Jvm.Cond.code ({ cls := "FixupVolume", name := "takePlanned", desc := "()V" } : Jvm.MethodName) prog_1_method_35_code (3 : Nat) (Option.none : Option Jvm.ClassFile.FieldType)) ∈ lw_tbl := tb_3 (List.mem_of_getElem? (i := 16) rfl)
theorem wd_497 : (Jvm.Cond.methodLink "FixupVolume" (289 : Nat) ({ cls := "FixupVolume", name := "isDataCluster", desc := "(I)Z" } : Jvm.MethodName)) ∈ lw_tbl := tb_3 (List.mem_of_getElem? (i := 17) rfl)
theorem wd_498 : (Jvm.Cond.methodLink "FixupVolume" (166 : Nat) ({ cls := "FixupVolume$Disk", name := "clearFile", desc := "(LFixupVolume$Layout;II)V" } : Jvm.MethodName)) ∈ lw_tbl := tb_3 (List.mem_of_getElem? (i := 18) rfl)
theorem wd_499 : (Jvm.Cond.instanceMethod ({ cls := "FixupVolume$Disk", name := "clearFile", desc := "(LFixupVolume$Layout;II)V" } : Jvm.MethodName)) ∈ lw_tbl := tb_3 (List.mem_of_getElem? (i := 19) rfl)
theorem wd_500 : (Jvm.Cond.selects "FixupVolume$Disk" ({ cls := "FixupVolume$Disk", name := "clearFile", desc := "(LFixupVolume$Layout;II)V" } : Jvm.MethodName) ({ cls := "FixupVolume$Disk", name := "clearFile", desc := "(LFixupVolume$Layout;II)V" } : Jvm.MethodName)) ∈ lw_tbl := tb_3 (List.mem_of_getElem? (i := 20) rfl)
theorem wd_501 : (Jvm.Cond.code ({ cls := "FixupVolume$Disk", name := "clearFile", desc := "(LFixupVolume$Layout;II)V" } : Jvm.MethodName) prog_2_method_7_code (5 : Nat) (Option.none : Option Jvm.ClassFile.FieldType)) ∈ lw_tbl := tb_3 (List.mem_of_getElem? (i := 21) rfl)
theorem wd_502 : (Jvm.Cond.methodLink "FixupVolume$Disk" (35 : Nat) ({ cls := "FixupVolume$Disk", name := "putFileByte", desc := "(LFixupVolume$Layout;II)V" } : Jvm.MethodName)) ∈ lw_tbl := tb_3 (List.mem_of_getElem? (i := 22) rfl)
theorem wd_503 : (Jvm.Cond.instanceMethod ({ cls := "FixupVolume$Disk", name := "putFileByte", desc := "(LFixupVolume$Layout;II)V" } : Jvm.MethodName)) ∈ lw_tbl := tb_3 (List.mem_of_getElem? (i := 23) rfl)
theorem wd_504 : (Jvm.Cond.selects "FixupVolume$Disk" ({ cls := "FixupVolume$Disk", name := "putFileByte", desc := "(LFixupVolume$Layout;II)V" } : Jvm.MethodName) ({ cls := "FixupVolume$Disk", name := "putFileByte", desc := "(LFixupVolume$Layout;II)V" } : Jvm.MethodName)) ∈ lw_tbl := tb_3 (List.mem_of_getElem? (i := 24) rfl)
theorem wd_505 : (Jvm.Cond.code ({ cls := "FixupVolume$Disk", name := "putFileByte", desc := "(LFixupVolume$Layout;II)V" } : Jvm.MethodName) prog_2_method_6_code (5 : Nat) (Option.none : Option Jvm.ClassFile.FieldType)) ∈ lw_tbl := tb_3 (List.mem_of_getElem? (i := 25) rfl)
theorem wd_506 : (Jvm.Cond.methodLink "FixupVolume" (280 : Nat) ({ cls := "FixupVolume$Disk", name := "putFileByte", desc := "(LFixupVolume$Layout;II)V" } : Jvm.MethodName)) ∈ lw_tbl := tb_3 (List.mem_of_getElem? (i := 26) rfl)
theorem wd_507 : (Jvm.Cond.methodLink "FixupVolume" (163 : Nat) ({ cls := "FixupVolume", name := "endOfLastCluster", desc := "(I)I" } : Jvm.MethodName)) ∈ lw_tbl := tb_3 (List.mem_of_getElem? (i := 27) rfl)
theorem wd_508 : (Jvm.Cond.static ({ cls := "FixupVolume", name := "endOfLastCluster", desc := "(I)I" } : Jvm.MethodName)) ∈ lw_tbl := tb_3 (List.mem_of_getElem? (i := 28) rfl)
theorem wd_509 : (Jvm.Cond.code ({ cls := "FixupVolume", name := "endOfLastCluster", desc := "(I)I" } : Jvm.MethodName) prog_1_method_44_code (1 : Nat) (Option.some Jvm.ClassFile.FieldType.int)) ∈ lw_tbl := tb_3 (List.mem_of_getElem? (i := 29) rfl)
theorem wd_510 : (Jvm.Cond.methodLink "FixupVolume" (283 : Nat) ({ cls := "FixupVolume$Layout", name := "copyFrom", desc := "(LFixupVolume$Layout;)V" } : Jvm.MethodName)) ∈ lw_tbl := tb_3 (List.mem_of_getElem? (i := 30) rfl)
theorem wd_511 : (Jvm.Cond.instanceMethod ({ cls := "FixupVolume$Layout", name := "copyFrom", desc := "(LFixupVolume$Layout;)V" } : Jvm.MethodName)) ∈ lw_tbl := tb_3 (List.mem_of_getElem? (i := 31) rfl)
theorem wd_512 : (Jvm.Cond.selects "FixupVolume$Layout" ({ cls := "FixupVolume$Layout", name := "copyFrom", desc := "(LFixupVolume$Layout;)V" } : Jvm.MethodName) ({ cls := "FixupVolume$Layout", name := "copyFrom", desc := "(LFixupVolume$Layout;)V" } : Jvm.MethodName)) ∈ lw_tbl := tb_3 (List.mem_of_getElem? (i := 32) rfl)
theorem wd_513 : (Jvm.Cond.code ({ cls := "FixupVolume$Layout", name := "copyFrom", desc := "(LFixupVolume$Layout;)V" } : Jvm.MethodName) prog_3_method_4_code (2 : Nat) (Option.none : Option Jvm.ClassFile.FieldType)) ∈ lw_tbl := tb_3 (List.mem_of_getElem? (i := 33) rfl)
theorem wd_514 : (Jvm.Cond.methodLink "FixupVolume$Layout" (19 : Nat) ({ cls := "java/lang/System", name := "arraycopy", desc := "(Ljava/lang/Object;ILjava/lang/Object;II)V" } : Jvm.MethodName)) ∈ lw_tbl := tb_3 (List.mem_of_getElem? (i := 34) rfl)
theorem wd_515 : (Jvm.Cond.methodLink "FixupVolumeLaw" (61 : Nat) ({ cls := "FixupVolumeLaw", name := "cut", desc := "(LFixupVolume;II[J)I" } : Jvm.MethodName)) ∈ lw_tbl := tb_3 (List.mem_of_getElem? (i := 35) rfl)
theorem wd_516 : (Jvm.Cond.static ({ cls := "FixupVolumeLaw", name := "cut", desc := "(LFixupVolume;II[J)I" } : Jvm.MethodName)) ∈ lw_tbl := tb_3 (List.mem_of_getElem? (i := 36) rfl)
theorem wd_517 : (Jvm.Cond.codeWith ({ cls := "FixupVolumeLaw", name := "cut", desc := "(LFixupVolume;II[J)I" } : Jvm.MethodName) method_5_code (5 : Nat) (Option.some Jvm.ClassFile.FieldType.int) [((0 : Nat), (10 : Nat), (13 : Nat), (13 : Nat)), ((0 : Nat), (10 : Nat), (17 : Nat), (15 : Nat))]) ∈ lw_tbl := tb_3 (List.mem_of_getElem? (i := 37) rfl)
theorem wd_518 : (Jvm.Cond.methodLink "FixupVolumeLaw" (23 : Nat) ({ cls := "FixupVolume", name := "cut", desc := "(II)I" } : Jvm.MethodName)) ∈ lw_tbl := tb_3 (List.mem_of_getElem? (i := 38) rfl)
theorem wd_519 : (Jvm.Cond.instanceMethod ({ cls := "FixupVolume", name := "cut", desc := "(II)I" } : Jvm.MethodName)) ∈ lw_tbl := tb_3 (List.mem_of_getElem? (i := 39) rfl)
theorem wd_520 : (Jvm.Cond.selects "FixupVolume" ({ cls := "FixupVolume", name := "cut", desc := "(II)I" } : Jvm.MethodName) ({ cls := "FixupVolume", name := "cut", desc := "(II)I" } : Jvm.MethodName)) ∈ lw_tbl := tb_3 (List.mem_of_getElem? (i := 40) rfl)
theorem wd_521 : (Jvm.Cond.code ({ cls := "FixupVolume", name := "cut", desc := "(II)I" } : Jvm.MethodName) prog_1_method_5_code (5 : Nat) (Option.some Jvm.ClassFile.FieldType.int)) ∈ lw_tbl := tb_3 (List.mem_of_getElem? (i := 41) rfl)
theorem wd_522 : (Jvm.Cond.methodLink "FixupVolume" (159 : Nat) ({ cls := "FixupVolume", name := "releaseFrom", desc := "(LFixupVolume$Layout;I)I" } : Jvm.MethodName)) ∈ lw_tbl := tb_3 (List.mem_of_getElem? (i := 42) rfl)
theorem wd_523 : (Jvm.Cond.privateMethod ({ cls := "FixupVolume", name := "releaseFrom", desc := "(LFixupVolume$Layout;I)I" } : Jvm.MethodName)) ∈ lw_tbl := tb_3 (List.mem_of_getElem? (i := 43) rfl)
theorem wd_524 : (Jvm.Cond.instanceMethod ({ cls := "FixupVolume", name := "releaseFrom", desc := "(LFixupVolume$Layout;I)I" } : Jvm.MethodName)) ∈ lw_tbl := tb_3 (List.mem_of_getElem? (i := 44) rfl)
theorem wd_525 : (Jvm.Cond.code ({ cls := "FixupVolume", name := "releaseFrom", desc := "(LFixupVolume$Layout;I)I" } : Jvm.MethodName) prog_1_method_36_code (5 : Nat) (Option.some Jvm.ClassFile.FieldType.int)) ∈ lw_tbl := tb_3 (List.mem_of_getElem? (i := 45) rfl)
theorem wd_526 : (Jvm.Cond.methodLink "FixupVolume" (292 : Nat) ({ cls := "java/lang/Math", name := "min", desc := "(II)I" } : Jvm.MethodName)) ∈ lw_tbl := tb_3 (List.mem_of_getElem? (i := 46) rfl)
theorem wd_527 : (Jvm.Cond.methodLink "FixupVolumeLaw" (65 : Nat) ({ cls := "FixupVolumeLaw", name := "remove", desc := "(LFixupVolume;I[J)I" } : Jvm.MethodName)) ∈ lw_tbl := tb_3 (List.mem_of_getElem? (i := 47) rfl)
theorem wd_528 : (Jvm.Cond.static ({ cls := "FixupVolumeLaw", name := "remove", desc := "(LFixupVolume;I[J)I" } : Jvm.MethodName)) ∈ lw_tbl := tb_3 (List.mem_of_getElem? (i := 48) rfl)
theorem wd_529 : (Jvm.Cond.codeWith ({ cls := "FixupVolumeLaw", name := "remove", desc := "(LFixupVolume;I[J)I" } : Jvm.MethodName) method_6_code (4 : Nat) (Option.some Jvm.ClassFile.FieldType.int) [((0 : Nat), (9 : Nat), (12 : Nat), (13 : Nat)), ((0 : Nat), (9 : Nat), (15 : Nat), (15 : Nat))]) ∈ lw_tbl := tb_3 (List.mem_of_getElem? (i := 49) rfl)
theorem wd_530 : (Jvm.Cond.methodLink "FixupVolumeLaw" (27 : Nat) ({ cls := "FixupVolume", name := "remove", desc := "(I)I" } : Jvm.MethodName)) ∈ lw_tbl := tb_3 (List.mem_of_getElem? (i := 50) rfl)
theorem wd_531 : (Jvm.Cond.instanceMethod ({ cls := "FixupVolume", name := "remove", desc := "(I)I" } : Jvm.MethodName)) ∈ lw_tbl := tb_3 (List.mem_of_getElem? (i := 51) rfl)
theorem wd_532 : (Jvm.Cond.selects "FixupVolume" ({ cls := "FixupVolume", name := "remove", desc := "(I)I" } : Jvm.MethodName) ({ cls := "FixupVolume", name := "remove", desc := "(I)I" } : Jvm.MethodName)) ∈ lw_tbl := tb_3 (List.mem_of_getElem? (i := 52) rfl)
theorem wd_533 : (Jvm.Cond.code ({ cls := "FixupVolume", name := "remove", desc := "(I)I" } : Jvm.MethodName) prog_1_method_6_code (5 : Nat) (Option.some Jvm.ClassFile.FieldType.int)) ∈ lw_tbl := tb_3 (List.mem_of_getElem? (i := 53) rfl)
theorem wd_534 : (Jvm.Cond.methodLink "FixupVolume" (176 : Nat) ({ cls := "FixupVolume", name := "leave", desc := "(II)V" } : Jvm.MethodName)) ∈ lw_tbl := tb_3 (List.mem_of_getElem? (i := 54) rfl)
theorem wd_535 : (Jvm.Cond.privateMethod ({ cls := "FixupVolume", name := "leave", desc := "(II)V" } : Jvm.MethodName)) ∈ lw_tbl := tb_3 (List.mem_of_getElem? (i := 55) rfl)
theorem wd_536 : (Jvm.Cond.instanceMethod ({ cls := "FixupVolume", name := "leave", desc := "(II)V" } : Jvm.MethodName)) ∈ lw_tbl := tb_3 (List.mem_of_getElem? (i := 56) rfl)
theorem wd_537 : (Jvm.Cond.code ({ cls := "FixupVolume", name := "leave", desc := "(II)V" } : Jvm.MethodName) prog_1_method_29_code (6 : Nat) (Option.none : Option Jvm.ClassFile.FieldType)) ∈ lw_tbl := tb_3 (List.mem_of_getElem? (i := 57) rfl)
theorem wd_538 : (Jvm.Cond.methodLink "FixupVolumeLaw" (69 : Nat) ({ cls := "FixupVolumeLaw", name := "move", desc := "(LFixupVolume;II)I" } : Jvm.MethodName)) ∈ lw_tbl := tb_3 (List.mem_of_getElem? (i := 58) rfl)
theorem wd_539 : (Jvm.Cond.static ({ cls := "FixupVolumeLaw", name := "move", desc := "(LFixupVolume;II)I" } : Jvm.MethodName)) ∈ lw_tbl := tb_3 (List.mem_of_getElem? (i := 59) rfl)
theorem wd_540 : (Jvm.Cond.codeWith ({ cls := "FixupVolumeLaw", name := "move", desc := "(LFixupVolume;II)I" } : Jvm.MethodName) method_7_code (4 : Nat) (Option.some Jvm.ClassFile.FieldType.int) [((0 : Nat), (6 : Nat), (9 : Nat), (13 : Nat)), ((0 : Nat), (6 : Nat), (12 : Nat), (15 : Nat))]) ∈ lw_tbl := tb_3 (List.mem_of_getElem? (i := 60) rfl)
theorem wd_541 : (Jvm.Cond.methodLink "FixupVolumeLaw" (31 : Nat) ({ cls := "FixupVolume", name := "move", desc := "(II)V" } : Jvm.MethodName)) ∈ lw_tbl := tb_3 (List.mem_of_getElem? (i := 61) rfl)
theorem wd_542 : (Jvm.Cond.instanceMethod ({ cls := "FixupVolume", name := "move", desc := "(II)V" } : Jvm.MethodName)) ∈ lw_tbl := tb_3 (List.mem_of_getElem? (i := 62) rfl)
theorem wd_543 : (Jvm.Cond.selects "FixupVolume" ({ cls := "FixupVolume", name := "move", desc := "(II)V" } : Jvm.MethodName) ({ cls := "FixupVolume", name := "move", desc := "(II)V" } : Jvm.MethodName)) ∈ lw_tbl := tb_3 (List.mem_of_getElem? (i := 63) rfl)
theorem wd_544 : (Jvm.Cond.code ({ cls := "FixupVolume", name := "move", desc := "(II)V" } : Jvm.MethodName) prog_1_method_7_code (4 : Nat) (Option.none : Option Jvm.ClassFile.FieldType)) ∈ lw_tbl := tb_3 (List.mem_of_getElem? (i := 64) rfl)
theorem wd_545 : (Jvm.Cond.methodLink "FixupVolume" (179 : Nat) ({ cls := "FixupVolume", name := "isAtOrBelow", desc := "(II)Z" } : Jvm.MethodName)) ∈ lw_tbl := tb_3 (List.mem_of_getElem? (i := 65) rfl)
theorem wd_546 : (Jvm.Cond.privateMethod ({ cls := "FixupVolume", name := "isAtOrBelow", desc := "(II)Z" } : Jvm.MethodName)) ∈ lw_tbl := tb_3 (List.mem_of_getElem? (i := 66) rfl)
theorem wd_547 : (Jvm.Cond.instanceMethod ({ cls := "FixupVolume", name := "isAtOrBelow", desc := "(II)Z" } : Jvm.MethodName)) ∈ lw_tbl := tb_3 (List.mem_of_getElem? (i := 67) rfl)
theorem wd_548 : (Jvm.Cond.code ({ cls := "FixupVolume", name := "isAtOrBelow", desc := "(II)Z" } : Jvm.MethodName) prog_1_method_24_code (5 : Nat) (Option.some Jvm.ClassFile.FieldType.boolean)) ∈ lw_tbl := tb_3 (List.mem_of_getElem? (i := 68) rfl)
theorem wd_549 : (Jvm.Cond.methodLink "FixupVolumeLaw" (78 : Nat) ({ cls := "FixupVolumeLaw", name := "mount", desc := "(LFixupVolume;[J)I" } : Jvm.MethodName)) ∈ lw_tbl := tb_3 (List.mem_of_getElem? (i := 69) rfl)
theorem wd_550 : (Jvm.Cond.static ({ cls := "FixupVolumeLaw", name := "mount", desc := "(LFixupVolume;[J)I" } : Jvm.MethodName)) ∈ lw_tbl := tb_3 (List.mem_of_getElem? (i := 70) rfl)
theorem wd_551 : (Jvm.Cond.codeWith ({ cls := "FixupVolumeLaw", name := "mount", desc := "(LFixupVolume;[J)I" } : Jvm.MethodName) method_8_code (3 : Nat) (Option.some Jvm.ClassFile.FieldType.int) [((0 : Nat), (8 : Nat), (11 : Nat), (13 : Nat))]) ∈ lw_tbl := tb_3 (List.mem_of_getElem? (i := 71) rfl)
theorem wd_552 : (Jvm.Cond.methodLink "FixupVolumeLaw" (35 : Nat) ({ cls := "FixupVolume", name := "mount", desc := "()I" } : Jvm.MethodName)) ∈ lw_tbl := tb_3 (List.mem_of_getElem? (i := 72) rfl)
theorem wd_553 : (Jvm.Cond.instanceMethod ({ cls := "FixupVolume", name := "mount", desc := "()I" } : Jvm.MethodName)) ∈ lw_tbl := tb_3 (List.mem_of_getElem? (i := 73) rfl)
theorem wd_554 : (Jvm.Cond.selects "FixupVolume" ({ cls := "FixupVolume", name := "mount", desc := "()I" } : Jvm.MethodName) ({ cls := "FixupVolume", name := "mount", desc := "()I" } : Jvm.MethodName)) ∈ lw_tbl := tb_3 (List.mem_of_getElem? (i := 74) rfl)
theorem wd_555 : (Jvm.Cond.code ({ cls := "FixupVolume", name := "mount", desc := "()I" } : Jvm.MethodName) prog_1_method_9_code (2 : Nat) (Option.some Jvm.ClassFile.FieldType.int)) ∈ lw_tbl := tb_3 (List.mem_of_getElem? (i := 75) rfl)
theorem wd_556 : (Jvm.Cond.methodLink "FixupVolume" (186 : Nat) ({ cls := "FixupVolume$Disk", name := "liftRecord", desc := "(I[I)V" } : Jvm.MethodName)) ∈ lw_tbl := tb_3 (List.mem_of_getElem? (i := 76) rfl)
theorem wd_557 : (Jvm.Cond.instanceMethod ({ cls := "FixupVolume$Disk", name := "liftRecord", desc := "(I[I)V" } : Jvm.MethodName)) ∈ lw_tbl := tb_3 (List.mem_of_getElem? (i := 77) rfl)
theorem wd_558 : (Jvm.Cond.selects "FixupVolume$Disk" ({ cls := "FixupVolume$Disk", name := "liftRecord", desc := "(I[I)V" } : Jvm.MethodName) ({ cls := "FixupVolume$Disk", name := "liftRecord", desc := "(I[I)V" } : Jvm.MethodName)) ∈ lw_tbl := tb_3 (List.mem_of_getElem? (i := 78) rfl)
theorem wd_559 : (Jvm.Cond.code ({ cls := "FixupVolume$Disk", name := "liftRecord", desc := "(I[I)V" } : Jvm.MethodName) prog_2_method_4_code (3 : Nat) (Option.none : Option Jvm.ClassFile.FieldType)) ∈ lw_tbl := tb_3 (List.mem_of_getElem? (i := 79) rfl)
theorem wd_560 : (Jvm.Cond.methodLink "FixupVolume" (190 : Nat) ({ cls := "FixupVolume$Sheet", name := "decode", desc := "([I)V" } : Jvm.MethodName)) ∈ lw_tbl := tb_3 (List.mem_of_getElem? (i := 80) rfl)
theorem wd_561 : (Jvm.Cond.instanceMethod ({ cls := "FixupVolume$Sheet", name := "decode", desc := "([I)V" } : Jvm.MethodName)) ∈ lw_tbl := tb_3 (List.mem_of_getElem? (i := 81) rfl)
theorem wd_562 : (Jvm.Cond.selects "FixupVolume$Sheet" ({ cls := "FixupVolume$Sheet", name := "decode", desc := "([I)V" } : Jvm.MethodName) ({ cls := "FixupVolume$Sheet", name := "decode", desc := "([I)V" } : Jvm.MethodName)) ∈ lw_tbl := tb_3 (List.mem_of_getElem? (i := 82) rfl)
theorem wd_563 : (Jvm.Cond.code ({ cls := "FixupVolume$Sheet", name := "decode", desc := "([I)V" } : Jvm.MethodName) prog_5_method_15_code (3 : Nat) (Option.none : Option Jvm.ClassFile.FieldType)) ∈ lw_tbl := tb_3 (List.mem_of_getElem? (i := 83) rfl)
theorem wd_564 : (Jvm.Cond.methodLink "FixupVolume$Sheet" (101 : Nat) ({ cls := "FixupVolume$Sheet", name := "isTorn", desc := "([I)Z" } : Jvm.MethodName)) ∈ lw_tbl := tb_3 (List.mem_of_getElem? (i := 84) rfl)
theorem wd_565 : (Jvm.Cond.privateMethod ({ cls := "FixupVolume$Sheet", name := "isTorn", desc := "([I)Z" } : Jvm.MethodName)) ∈ lw_tbl := tb_3 (List.mem_of_getElem? (i := 85) rfl)
theorem wd_566 : (Jvm.Cond.instanceMethod ({ cls := "FixupVolume$Sheet", name := "isTorn", desc := "([I)Z" } : Jvm.MethodName)) ∈ lw_tbl := tb_3 (List.mem_of_getElem? (i := 86) rfl)
theorem wd_567 : (Jvm.Cond.code ({ cls := "FixupVolume$Sheet", name := "isTorn", desc := "([I)Z" } : Jvm.MethodName) prog_5_method_16_code (2 : Nat) (Option.some Jvm.ClassFile.FieldType.boolean)) ∈ lw_tbl := tb_3 (List.mem_of_getElem? (i := 87) rfl)
theorem wd_568 : (Jvm.Cond.methodLink "FixupVolume$Sheet" (105 : Nat) ({ cls := "FixupVolume$Sheet", name := "become", desc := "(II)V" } : Jvm.MethodName)) ∈ lw_tbl := tb_3 (List.mem_of_getElem? (i := 88) rfl)
theorem wd_569 : (Jvm.Cond.methodLink "FixupVolume$Sheet" (109 : Nat) ({ cls := "FixupVolume$Sheet", name := "decodeAttributes", desc := "([I)V" } : Jvm.MethodName)) ∈ lw_tbl := tb_3 (List.mem_of_getElem? (i := 89) rfl)
theorem wd_570 : (Jvm.Cond.privateMethod ({ cls := "FixupVolume$Sheet", name := "decodeAttributes", desc := "([I)V" } : Jvm.MethodName)) ∈ lw_tbl := tb_3 (List.mem_of_getElem? (i := 90) rfl)
theorem wd_571 : (Jvm.Cond.instanceMethod ({ cls := "FixupVolume$Sheet", name := "decodeAttributes", desc := "([I)V" } : Jvm.MethodName)) ∈ lw_tbl := tb_3 (List.mem_of_getElem? (i := 91) rfl)
theorem wd_572 : (Jvm.Cond.code ({ cls := "FixupVolume$Sheet", name := "decodeAttributes", desc := "([I)V" } : Jvm.MethodName) prog_5_method_17_code (5 : Nat) (Option.none : Option Jvm.ClassFile.FieldType)) ∈ lw_tbl := tb_3 (List.mem_of_getElem? (i := 92) rfl)
theorem wd_573 : (Jvm.Cond.methodLink "FixupVolume$Sheet" (113 : Nat) ({ cls := "java/lang/Math", name := "min", desc := "(II)I" } : Jvm.MethodName)) ∈ lw_tbl := tb_3 (List.mem_of_getElem? (i := 93) rfl)
theorem wd_574 : (Jvm.Cond.methodLink "FixupVolume$Sheet" (119 : Nat) ({ cls := "java/lang/Math", name := "max", desc := "(II)I" } : Jvm.MethodName)) ∈ lw_tbl := tb_3 (List.mem_of_getElem? (i := 94) rfl)
theorem wd_575 : (Jvm.Cond.methodLink "FixupVolume$Sheet" (122 : Nat) ({ cls := "FixupVolume$Sheet", name := "decodeAttribute", desc := "([III)V" } : Jvm.MethodName)) ∈ lw_tbl := tb_3 (List.mem_of_getElem? (i := 95) rfl)
theorem wd_576 : (Jvm.Cond.privateMethod ({ cls := "FixupVolume$Sheet", name := "decodeAttribute", desc := "([III)V" } : Jvm.MethodName)) ∈ lw_tbl := tb_3 (List.mem_of_getElem? (i := 96) rfl)
theorem wd_577 : (Jvm.Cond.instanceMethod ({ cls := "FixupVolume$Sheet", name := "decodeAttribute", desc := "([III)V" } : Jvm.MethodName)) ∈ lw_tbl := tb_3 (List.mem_of_getElem? (i := 97) rfl)
theorem wd_578 : (Jvm.Cond.code ({ cls := "FixupVolume$Sheet", name := "decodeAttribute", desc := "([III)V" } : Jvm.MethodName) prog_5_method_18_code (6 : Nat) (Option.none : Option Jvm.ClassFile.FieldType)) ∈ lw_tbl := tb_3 (List.mem_of_getElem? (i := 98) rfl)
theorem wd_579 : (Jvm.Cond.methodLink "FixupVolume$Sheet" (125 : Nat) ({ cls := "FixupVolume$Name", name := "append", desc := "(I)Z" } : Jvm.MethodName)) ∈ lw_tbl := tb_3 (List.mem_of_getElem? (i := 99) rfl)
theorem wd_580 : (Jvm.Cond.methodLink "FixupVolume$Sheet" (129 : Nat) ({ cls := "FixupVolume$Layout", name := "decode", desc := "([III)V" } : Jvm.MethodName)) ∈ lw_tbl := tb_3 (List.mem_of_getElem? (i := 100) rfl)
theorem wd_581 : (Jvm.Cond.instanceMethod ({ cls := "FixupVolume$Layout", name := "decode", desc := "([III)V" } : Jvm.MethodName)) ∈ lw_tbl := tb_3 (List.mem_of_getElem? (i := 101) rfl)
theorem wd_582 : (Jvm.Cond.selects "FixupVolume$Layout" ({ cls := "FixupVolume$Layout", name := "decode", desc := "([III)V" } : Jvm.MethodName) ({ cls := "FixupVolume$Layout", name := "decode", desc := "([III)V" } : Jvm.MethodName)) ∈ lw_tbl := tb_3 (List.mem_of_getElem? (i := 102) rfl)
theorem wd_583 : (Jvm.Cond.code ({ cls := "FixupVolume$Layout", name := "decode", desc := "([III)V" } : Jvm.MethodName) prog_3_method_11_code (6 : Nat) (Option.none : Option Jvm.ClassFile.FieldType)) ∈ lw_tbl := tb_3 (List.mem_of_getElem? (i := 103) rfl)
theorem wd_584 : (Jvm.Cond.methodLink "FixupVolume$Layout" (29 : Nat) ({ cls := "FixupVolume$Layout", name := "append", desc := "(II)V" } : Jvm.MethodName)) ∈ lw_tbl := tb_3 (List.mem_of_getElem? (i := 104) rfl)
theorem wd_585 : (Jvm.Cond.methodLink "FixupVolume" (193 : Nat) ({ cls := "FixupVolume", name := "restoreRoot", desc := "()I" } : Jvm.MethodName)) ∈ lw_tbl := tb_3 (List.mem_of_getElem? (i := 105) rfl)
theorem wd_586 : (Jvm.Cond.privateMethod ({ cls := "FixupVolume", name := "restoreRoot", desc := "()I" } : Jvm.MethodName)) ∈ lw_tbl := tb_3 (List.mem_of_getElem? (i := 106) rfl)
theorem wd_587 : (Jvm.Cond.instanceMethod ({ cls := "FixupVolume", name := "restoreRoot", desc := "()I" } : Jvm.MethodName)) ∈ lw_tbl := tb_3 (List.mem_of_getElem? (i := 107) rfl)
theorem wd_588 : (Jvm.Cond.code ({ cls := "FixupVolume", name := "restoreRoot", desc := "()I" } : Jvm.MethodName) prog_1_method_37_code (1 : Nat) (Option.some Jvm.ClassFile.FieldType.int)) ∈ lw_tbl := tb_3 (List.mem_of_getElem? (i := 108) rfl)
theorem wd_589 : (Jvm.Cond.methodLink "FixupVolume" (196 : Nat) ({ cls := "FixupVolume", name := "adoptStrays", desc := "()I" } : Jvm.MethodName)) ∈ lw_tbl := tb_3 (List.mem_of_getElem? (i := 109) rfl)
theorem wd_590 : (Jvm.Cond.privateMethod ({ cls := "FixupVolume", name := "adoptStrays", desc := "()I" } : Jvm.MethodName)) ∈ lw_tbl := tb_3 (List.mem_of_getElem? (i := 110) rfl)
theorem wd_591 : (Jvm.Cond.instanceMethod ({ cls := "FixupVolume", name := "adoptStrays", desc := "()I" } : Jvm.MethodName)) ∈ lw_tbl := tb_3 (List.mem_of_getElem? (i := 111) rfl)
theorem wd_592 : (Jvm.Cond.code ({ cls := "FixupVolume", name := "adoptStrays", desc := "()I" } : Jvm.MethodName) prog_1_method_38_code (3 : Nat) (Option.some Jvm.ClassFile.FieldType.int)) ∈ lw_tbl := tb_3 (List.mem_of_getElem? (i := 112) rfl)
theorem wd_593 : (Jvm.Cond.methodLink "FixupVolume" (295 : Nat) ({ cls := "FixupVolume", name := "leadsToRoot", desc := "(I)Z" } : Jvm.MethodName)) ∈ lw_tbl := tb_3 (List.mem_of_getElem? (i := 113) rfl)
theorem wd_594 : (Jvm.Cond.privateMethod ({ cls := "FixupVolume", name := "leadsToRoot", desc := "(I)Z" } : Jvm.MethodName)) ∈ lw_tbl := tb_3 (List.mem_of_getElem? (i := 114) rfl)
theorem wd_595 : (Jvm.Cond.instanceMethod ({ cls := "FixupVolume", name := "leadsToRoot", desc := "(I)Z" } : Jvm.MethodName)) ∈ lw_tbl := tb_3 (List.mem_of_getElem? (i := 115) rfl)
theorem wd_596 : (Jvm.Cond.code ({ cls := "FixupVolume", name := "leadsToRoot", desc := "(I)Z" } : Jvm.MethodName) prog_1_method_25_code (4 : Nat) (Option.some Jvm.ClassFile.FieldType.boolean)) ∈ lw_tbl := tb_3 (List.mem_of_getElem? (i := 116) rfl)
theorem wd_597 : (Jvm.Cond.methodLink "FixupVolume" (199 : Nat) ({ cls := "FixupVolume", name := "mendLists", desc := "()I" } : Jvm.MethodName)) ∈ lw_tbl := tb_3 (List.mem_of_getElem? (i := 117) rfl)
theorem wd_598 : (Jvm.Cond.privateMethod ({ cls := "FixupVolume", name := "mendLists", desc := "()I" } : Jvm.MethodName)) ∈ lw_tbl := tb_3 (List.mem_of_getElem? (i := 118) rfl)
theorem wd_599 : (Jvm.Cond.instanceMethod ({ cls := "FixupVolume", name := "mendLists", desc := "()I" } : Jvm.MethodName)) ∈ lw_tbl := tb_3 (List.mem_of_getElem? (i := 119) rfl)
theorem wd_600 : (Jvm.Cond.code ({ cls := "FixupVolume", name := "mendLists", desc := "()I" } : Jvm.MethodName) prog_1_method_39_code (4 : Nat) (Option.some Jvm.ClassFile.FieldType.int)) ∈ lw_tbl := tb_3 (List.mem_of_getElem? (i := 120) rfl)
theorem wd_601 : (Jvm.Cond.methodLink "FixupVolume" (298 : Nat) ({ cls := "FixupVolume", name := "collectEntries", desc := "(I)I" } : Jvm.MethodName)) ∈ lw_tbl := tb_3 (List.mem_of_getElem? (i := 121) rfl)
theorem wd_602 : (Jvm.Cond.privateMethod ({ cls := "FixupVolume", name := "collectEntries", desc := "(I)I" } : Jvm.MethodName)) ∈ lw_tbl := tb_3 (List.mem_of_getElem? (i := 122) rfl)
theorem wd_603 : (Jvm.Cond.instanceMethod ({ cls := "FixupVolume", name := "collectEntries", desc := "(I)I" } : Jvm.MethodName)) ∈ lw_tbl := tb_3 (List.mem_of_getElem? (i := 123) rfl)
theorem wd_604 : (Jvm.Cond.code ({ cls := "FixupVolume", name := "collectEntries", desc := "(I)I" } : Jvm.MethodName) prog_1_method_40_code (4 : Nat) (Option.some Jvm.ClassFile.FieldType.int)) ∈ lw_tbl := tb_3 (List.mem_of_getElem? (i := 124) rfl)
theorem wd_605 : (Jvm.Cond.methodLink "FixupVolume" (301 : Nat) ({ cls := "FixupVolume$Sheet", name := "hasList", desc := "([II)Z" } : Jvm.MethodName)) ∈ lw_tbl := tb_3 (List.mem_of_getElem? (i := 125) rfl)
theorem wd_606 : (Jvm.Cond.instanceMethod ({ cls := "FixupVolume$Sheet", name := "hasList", desc := "([II)Z" } : Jvm.MethodName)) ∈ lw_tbl := tb_3 (List.mem_of_getElem? (i := 126) rfl)
theorem wd_607 : (Jvm.Cond.selects "FixupVolume$Sheet" ({ cls := "FixupVolume$Sheet", name := "hasList", desc := "([II)Z" } : Jvm.MethodName) ({ cls := "FixupVolume$Sheet", name := "hasList", desc := "([II)Z" } : Jvm.MethodName)) ∈ lw_tbl := tb_3 (List.mem_of_getElem? (i := 127) rfl)
theorem wd_608 : (Jvm.Cond.code ({ cls := "FixupVolume$Sheet", name := "hasList", desc := "([II)Z" } : Jvm.MethodName) prog_5_method_9_code (4 : Nat) (Option.some Jvm.ClassFile.FieldType.boolean)) ∈ lw_tbl := tb_3 (List.mem_of_getElem? (i := 128) rfl)
theorem wd_609 : (Jvm.Cond.methodLink "FixupVolume" (305 : Nat) ({ cls := "FixupVolume$Sheet", name := "setList", desc := "([II)V" } : Jvm.MethodName)) ∈ lw_tbl := tb_3 (List.mem_of_getElem? (i := 129) rfl)
theorem wd_610 : (Jvm.Cond.instanceMethod ({ cls := "FixupVolume$Sheet", name := "setList", desc := "([II)V" } : Jvm.MethodName)) ∈ lw_tbl := tb_3 (List.mem_of_getElem? (i := 130) rfl)
theorem wd_611 : (Jvm.Cond.selects "FixupVolume$Sheet" ({ cls := "FixupVolume$Sheet", name := "setList", desc := "([II)V" } : Jvm.MethodName) ({ cls := "FixupVolume$Sheet", name := "setList", desc := "([II)V" } : Jvm.MethodName)) ∈ lw_tbl := tb_3 (List.mem_of_getElem? (i := 131) rfl)
theorem wd_612 : (Jvm.Cond.code ({ cls := "FixupVolume$Sheet", name := "setList", desc := "([II)V" } : Jvm.MethodName) prog_5_method_10_code (3 : Nat) (Option.none : Option Jvm.ClassFile.FieldType)) ∈ lw_tbl := tb_3 (List.mem_of_getElem? (i := 132) rfl)
theorem wd_613 : (Jvm.Cond.methodLink "FixupVolume" (202 : Nat) ({ cls := "FixupVolume", name := "noteTaken", desc := "()V" } : Jvm.MethodName)) ∈ lw_tbl := tb_3 (List.mem_of_getElem? (i := 133) rfl)
theorem wd_614 : (Jvm.Cond.privateMethod ({ cls := "FixupVolume", name := "noteTaken", desc := "()V" } : Jvm.MethodName)) ∈ lw_tbl := tb_3 (List.mem_of_getElem? (i := 134) rfl)
theorem wd_615 : (Jvm.Cond.instanceMethod ({ cls := "FixupVolume", name := "noteTaken", desc := "()V" } : Jvm.MethodName)) ∈ lw_tbl := tb_3 (List.mem_of_getElem? (i := 135) rfl)
theorem wd_616 : (Jvm.Cond.code ({ cls := "FixupVolume", name := "noteTaken", desc := "()V" } : Jvm.MethodName) prog_1_method_41_code (4 : Nat) (Option.none : Option Jvm.ClassFile.FieldType)) ∈ lw_tbl := tb_3 (List.mem_of_getElem? (i := 136) rfl)
theorem wd_617 : (Jvm.Cond.classLink "FixupVolumeLaw" (40 : Nat) "FixupVolumeModel") ∈ lw_tbl := tb_3 (List.mem_of_getElem? (i := 137) rfl)
theorem wd_618 : (Jvm.Cond.instantiable "FixupVolumeModel" (17 : Nat)) ∈ lw_tbl := tb_3 (List.mem_of_getElem? (i := 138) rfl)
theorem wd_619 : (Jvm.Cond.methodLink "FixupVolumeLaw" (42 : Nat) ({ cls := "FixupVolumeModel", name := "<init>", desc := "()V" } : Jvm.MethodName)) ∈ lw_tbl := tb_3 (List.mem_of_getElem? (i := 139) rfl)
theorem wd_620 : (Jvm.Cond.instanceMethod ({ cls := "FixupVolumeModel", name := "<init>", desc := "()V" } : Jvm.MethodName)) ∈ lw_tbl := tb_3 (List.mem_of_getElem? (i := 140) rfl)
theorem wd_621 : (Jvm.Cond.code ({ cls := "FixupVolumeModel", name := "<init>", desc := "()V" } : Jvm.MethodName) prog_7_method_1_code (2 : Nat) (Option.none : Option Jvm.ClassFile.FieldType)) ∈ lw_tbl := tb_3 (List.mem_of_getElem? (i := 141) rfl)
theorem wd_622 : (Jvm.Cond.methodLink "FixupVolumeModel" (1 : Nat) ({ cls := "java/lang/Object", name := "<init>", desc := "()V" } : Jvm.MethodName)) ∈ lw_tbl := tb_3 (List.mem_of_getElem? (i := 142) rfl)
theorem wd_623 : (Jvm.Cond.methodLink "FixupVolumeModel" (39 : Nat) ({ cls := "FixupVolumeModel", name := "begin", desc := "(II)V" } : Jvm.MethodName)) ∈ lw_tbl := tb_3 (List.mem_of_getElem? (i := 143) rfl)
theorem wd_624 : (Jvm.Cond.privateMethod ({ cls := "FixupVolumeModel", name := "begin", desc := "(II)V" } : Jvm.MethodName)) ∈ lw_tbl := tb_3 (List.mem_of_getElem? (i := 144) rfl)
theorem wd_625 : (Jvm.Cond.instanceMethod ({ cls := "FixupVolumeModel", name := "begin", desc := "(II)V" } : Jvm.MethodName)) ∈ lw_tbl := tb_3 (List.mem_of_getElem? (i := 145) rfl)
theorem wd_626 : (Jvm.Cond.code ({ cls := "FixupVolumeModel", name := "begin", desc := "(II)V" } : Jvm.MethodName) prog_7_method_18_code (4 : Nat) (Option.none : Option Jvm.ClassFile.FieldType)) ∈ lw_tbl := tb_3 (List.mem_of_getElem? (i := 146) rfl)
theorem wd_627 : (Jvm.Cond.methodLink "FixupVolumeModel" (43 : Nat) ({ cls := "FixupVolumeModel", name := "putList", desc := "()V" } : Jvm.MethodName)) ∈ lw_tbl := tb_3 (List.mem_of_getElem? (i := 147) rfl)
theorem wd_628 : (Jvm.Cond.privateMethod ({ cls := "FixupVolumeModel", name := "putList", desc := "()V" } : Jvm.MethodName)) ∈ lw_tbl := tb_3 (List.mem_of_getElem? (i := 148) rfl)
theorem wd_629 : (Jvm.Cond.instanceMethod ({ cls := "FixupVolumeModel", name := "putList", desc := "()V" } : Jvm.MethodName)) ∈ lw_tbl := tb_3 (List.mem_of_getElem? (i := 149) rfl)
theorem wd_630 : (Jvm.Cond.code ({ cls := "FixupVolumeModel", name := "putList", desc := "()V" } : Jvm.MethodName) prog_7_method_22_code (2 : Nat) (Option.none : Option Jvm.ClassFile.FieldType)) ∈ lw_tbl := tb_3 (List.mem_of_getElem? (i := 150) rfl)
theorem wd_631 : (Jvm.Cond.methodLink "FixupVolumeModel" (84 : Nat) ({ cls := "FixupVolumeModel", name := "put", desc := "(I)V" } : Jvm.MethodName)) ∈ lw_tbl := tb_3 (List.mem_of_getElem? (i := 151) rfl)
theorem wd_632 : (Jvm.Cond.privateMethod ({ cls := "FixupVolumeModel", name := "put", desc := "(I)V" } : Jvm.MethodName)) ∈ lw_tbl := tb_3 (List.mem_of_getElem? (i := 152) rfl)
theorem wd_633 : (Jvm.Cond.instanceMethod ({ cls := "FixupVolumeModel", name := "put", desc := "(I)V" } : Jvm.MethodName)) ∈ lw_tbl := tb_3 (List.mem_of_getElem? (i := 153) rfl)
theorem wd_634 : (Jvm.Cond.code ({ cls := "FixupVolumeModel", name := "put", desc := "(I)V" } : Jvm.MethodName) prog_7_method_19_code (2 : Nat) (Option.none : Option Jvm.ClassFile.FieldType)) ∈ lw_tbl := tb_3 (List.mem_of_getElem? (i := 154) rfl)
theorem wd_635 : (Jvm.Cond.methodLink "FixupVolumeModel" (46 : Nat) ({ cls := "FixupVolumeModel", name := "store", desc := "(I)Z" } : Jvm.MethodName)) ∈ lw_tbl := tb_3 (List.mem_of_getElem? (i := 155) rfl)
theorem wd_636 : (Jvm.Cond.privateMethod ({ cls := "FixupVolumeModel", name := "store", desc := "(I)Z" } : Jvm.MethodName)) ∈ lw_tbl := tb_3 (List.mem_of_getElem? (i := 156) rfl)
theorem wd_637 : (Jvm.Cond.instanceMethod ({ cls := "FixupVolumeModel", name := "store", desc := "(I)Z" } : Jvm.MethodName)) ∈ lw_tbl := tb_3 (List.mem_of_getElem? (i := 157) rfl)
theorem wd_638 : (Jvm.Cond.code ({ cls := "FixupVolumeModel", name := "store", desc := "(I)Z" } : Jvm.MethodName) prog_7_method_26_code (5 : Nat) (Option.some Jvm.ClassFile.FieldType.boolean)) ∈ lw_tbl := tb_3 (List.mem_of_getElem? (i := 158) rfl)
theorem wd_639 : (Jvm.Cond.methodLink "FixupVolumeModel" (58 : Nat) ({ cls := "FixupVolumeModel", name := "wordAt", desc := "(I)I" } : Jvm.MethodName)) ∈ lw_tbl := tb_3 (List.mem_of_getElem? (i := 159) rfl)
theorem wd_640 : (Jvm.Cond.privateMethod ({ cls := "FixupVolumeModel", name := "wordAt", desc := "(I)I" } : Jvm.MethodName)) ∈ lw_tbl := tb_3 (List.mem_of_getElem? (i := 160) rfl)
theorem wd_641 : (Jvm.Cond.instanceMethod ({ cls := "FixupVolumeModel", name := "wordAt", desc := "(I)I" } : Jvm.MethodName)) ∈ lw_tbl := tb_3 (List.mem_of_getElem? (i := 161) rfl)
theorem wd_642 : (Jvm.Cond.code ({ cls := "FixupVolumeModel", name := "wordAt", desc := "(I)I" } : Jvm.MethodName) prog_7_method_5_code (2 : Nat) (Option.some Jvm.ClassFile.FieldType.int)) ∈ lw_tbl := tb_3 (List.mem_of_getElem? (i := 162) rfl)
theorem wd_643 : (Jvm.Cond.constant "FixupVolumeModel" (97 : Nat) (65535 : Int32)) ∈ lw_tbl := tb_3 (List.mem_of_getElem? (i := 163) rfl)
theorem wd_644 : (Jvm.Cond.methodLink "FixupVolumeModel" (98 : Nat) ({ cls := "FixupVolumeModel", name := "sector", desc := "(II)Z" } : Jvm.MethodName)) ∈ lw_tbl := tb_3 (List.mem_of_getElem? (i := 164) rfl)
theorem wd_645 : (Jvm.Cond.privateMethod ({ cls := "FixupVolumeModel", name := "sector", desc := "(II)Z" } : Jvm.MethodName)) ∈ lw_tbl := tb_3 (List.mem_of_getElem? (i := 165) rfl)
theorem wd_646 : (Jvm.Cond.instanceMethod ({ cls := "FixupVolumeModel", name := "sector", desc := "(II)Z" } : Jvm.MethodName)) ∈ lw_tbl := tb_3 (List.mem_of_getElem? (i := 166) rfl)
theorem wd_647 : (Jvm.Cond.code ({ cls := "FixupVolumeModel", name := "sector", desc := "(II)Z" } : Jvm.MethodName) prog_7_method_25_code (4 : Nat) (Option.some Jvm.ClassFile.FieldType.boolean)) ∈ lw_tbl := tb_3 (List.mem_of_getElem? (i := 167) rfl)
theorem wd_648 : (Jvm.Cond.fieldLink "FixupVolumeModel" (54 : Nat) "FixupVolumeModel" "code" "I") ∈ lw_tbl := tb_3 (List.mem_of_getElem? (i := 168) rfl)
theorem wd_649 : (Jvm.Cond.fieldLink "FixupVolumeModel" (7 : Nat) "FixupVolumeModel" "disk" "[I") ∈ lw_tbl := tb_3 (List.mem_of_getElem? (i := 169) rfl)
theorem wd_650 : (Jvm.Cond.fieldLink "FixupVolumeModel" (13 : Nat) "FixupVolumeModel" "inUse" "[Z") ∈ lw_tbl := tb_3 (List.mem_of_getElem? (i := 170) rfl)
theorem wd_651 : (Jvm.Cond.fieldLink "FixupVolumeModel" (17 : Nat) "FixupVolumeModel" "taken" "[Z") ∈ lw_tbl := tb_3 (List.mem_of_getElem? (i := 171) rfl)
theorem wd_652 : (Jvm.Cond.fieldLink "FixupVolumeModel" (50 : Nat) "FixupVolumeModel" "on" "Z") ∈ lw_tbl := tb_3 (List.mem_of_getElem? (i := 172) rfl)
theorem wd_653 : (Jvm.Cond.fieldLink "FixupVolumeModel" (94 : Nat) "FixupVolumeModel" "told" "I") ∈ lw_tbl := tb_3 (List.mem_of_getElem? (i := 173) rfl)
theorem wd_654 : (Jvm.Cond.fieldLink "FixupVolumeModel" (78 : Nat) "FixupVolumeModel" "typed" "I") ∈ lw_tbl := tb_3 (List.mem_of_getElem? (i := 174) rfl)
theorem wd_655 : (Jvm.Cond.fieldLink "FixupVolumeModel" (20 : Nat) "FixupVolumeModel" "draft" "[C") ∈ lw_tbl := tb_3 (List.mem_of_getElem? (i := 175) rfl)
theorem wd_656 : (Jvm.Cond.fieldLink "FixupVolumeModel" (24 : Nat) "FixupVolumeModel" "buffer" "[I") ∈ lw_tbl := tb_3 (List.mem_of_getElem? (i := 176) rfl)
theorem wd_657 : (Jvm.Cond.fieldLink "FixupVolumeModel" (81 : Nat) "FixupVolumeModel" "pos" "I") ∈ lw_tbl := tb_3 (List.mem_of_getElem? (i := 177) rfl)
theorem wd_658 : (Jvm.Cond.fieldLink "FixupVolumeModel" (91 : Nat) "FixupVolumeModel" "clusters" "I") ∈ lw_tbl := tb_3 (List.mem_of_getElem? (i := 178) rfl)
theorem wd_659 : (Jvm.Cond.fieldLink "FixupVolumeModel" (27 : Nat) "FixupVolumeModel" "map" "[I") ∈ lw_tbl := tb_3 (List.mem_of_getElem? (i := 179) rfl)
theorem wd_660 : (Jvm.Cond.fieldLink "FixupVolumeModel" (30 : Nat) "FixupVolumeModel" "fresh" "[Z") ∈ lw_tbl := tb_3 (List.mem_of_getElem? (i := 180) rfl)
theorem wd_661 : (Jvm.Cond.fieldLink "FixupVolumeModel" (33 : Nat) "FixupVolumeModel" "bytes" "[I") ∈ lw_tbl := tb_3 (List.mem_of_getElem? (i := 181) rfl)
theorem wd_662 : (Jvm.Cond.fieldLink "FixupVolumeModel" (88 : Nat) "FixupVolumeModel" "members" "I") ∈ lw_tbl := tb_3 (List.mem_of_getElem? (i := 182) rfl)
theorem wd_663 : (Jvm.Cond.fieldLink "FixupVolumeModel" (36 : Nat) "FixupVolumeModel" "member" "[I") ∈ lw_tbl := tb_3 (List.mem_of_getElem? (i := 183) rfl)
theorem wd_664 : (Jvm.Cond.fieldLink "FixupVolumeModel" (193 : Nat) "FixupVolumeModel" "mended" "I") ∈ lw_tbl := tb_3 (List.mem_of_getElem? (i := 184) rfl)
theorem wd_665 : (Jvm.Cond.lays "FixupVolumeModel" "FixupVolumeModel" "code" "I") ∈ lw_tbl := tb_3 (List.mem_of_getElem? (i := 185) rfl)
theorem wd_666 : (Jvm.Cond.soleField "FixupVolumeModel" "code") ∈ lw_tbl := tb_3 (List.mem_of_getElem? (i := 186) rfl)
theorem wd_667 : (Jvm.Cond.laysFinal "FixupVolumeModel" "FixupVolumeModel" "disk" "[I") ∈ lw_tbl := tb_3 (List.mem_of_getElem? (i := 187) rfl)
theorem wd_668 : (Jvm.Cond.soleField "FixupVolumeModel" "disk") ∈ lw_tbl := tb_3 (List.mem_of_getElem? (i := 188) rfl)
theorem wd_669 : (Jvm.Cond.laysFinal "FixupVolumeModel" "FixupVolumeModel" "inUse" "[Z") ∈ lw_tbl := tb_3 (List.mem_of_getElem? (i := 189) rfl)
theorem wd_670 : (Jvm.Cond.soleField "FixupVolumeModel" "inUse") ∈ lw_tbl := tb_3 (List.mem_of_getElem? (i := 190) rfl)
theorem wd_671 : (Jvm.Cond.laysFinal "FixupVolumeModel" "FixupVolumeModel" "taken" "[Z") ∈ lw_tbl := tb_3 (List.mem_of_getElem? (i := 191) rfl)
theorem wd_672 : (Jvm.Cond.soleField "FixupVolumeModel" "taken") ∈ lw_tbl := tb_3 (List.mem_of_getElem? (i := 192) rfl)
theorem wd_673 : (Jvm.Cond.lays "FixupVolumeModel" "FixupVolumeModel" "on" "Z") ∈ lw_tbl := tb_3 (List.mem_of_getElem? (i := 193) rfl)
theorem wd_674 : (Jvm.Cond.soleField "FixupVolumeModel" "on") ∈ lw_tbl := tb_3 (List.mem_of_getElem? (i := 194) rfl)
theorem wd_675 : (Jvm.Cond.lays "FixupVolumeModel" "FixupVolumeModel" "told" "I") ∈ lw_tbl := tb_3 (List.mem_of_getElem? (i := 195) rfl)
theorem wd_676 : (Jvm.Cond.soleField "FixupVolumeModel" "told") ∈ lw_tbl := tb_3 (List.mem_of_getElem? (i := 196) rfl)
theorem wd_677 : (Jvm.Cond.lays "FixupVolumeModel" "FixupVolumeModel" "typed" "I") ∈ lw_tbl := tb_3 (List.mem_of_getElem? (i := 197) rfl)
theorem wd_678 : (Jvm.Cond.soleField "FixupVolumeModel" "typed") ∈ lw_tbl := tb_3 (List.mem_of_getElem? (i := 198) rfl)
theorem wd_679 : (Jvm.Cond.laysFinal "FixupVolumeModel" "FixupVolumeModel" "draft" "[C") ∈ lw_tbl := tb_3 (List.mem_of_getElem? (i := 199) rfl)
theorem wd_680 : (Jvm.Cond.soleField "FixupVolumeModel" "draft") ∈ lw_tbl := tb_3 (List.mem_of_getElem? (i := 200) rfl)
theorem wd_681 : (Jvm.Cond.laysFinal "FixupVolumeModel" "FixupVolumeModel" "buffer" "[I") ∈ lw_tbl := tb_3 (List.mem_of_getElem? (i := 201) rfl)
theorem wd_682 : (Jvm.Cond.soleField "FixupVolumeModel" "buffer") ∈ lw_tbl := tb_3 (List.mem_of_getElem? (i := 202) rfl)
theorem wd_683 : (Jvm.Cond.lays "FixupVolumeModel" "FixupVolumeModel" "pos" "I") ∈ lw_tbl := tb_3 (List.mem_of_getElem? (i := 203) rfl)
theorem wd_684 : (Jvm.Cond.soleField "FixupVolumeModel" "pos") ∈ lw_tbl := tb_3 (List.mem_of_getElem? (i := 204) rfl)
theorem wd_685 : (Jvm.Cond.lays "FixupVolumeModel" "FixupVolumeModel" "clusters" "I") ∈ lw_tbl := tb_3 (List.mem_of_getElem? (i := 205) rfl)
theorem wd_686 : (Jvm.Cond.soleField "FixupVolumeModel" "clusters") ∈ lw_tbl := tb_3 (List.mem_of_getElem? (i := 206) rfl)
theorem wd_687 : (Jvm.Cond.laysFinal "FixupVolumeModel" "FixupVolumeModel" "map" "[I") ∈ lw_tbl := tb_3 (List.mem_of_getElem? (i := 207) rfl)
theorem wd_688 : (Jvm.Cond.soleField "FixupVolumeModel" "map") ∈ lw_tbl := tb_3 (List.mem_of_getElem? (i := 208) rfl)
theorem wd_689 : (Jvm.Cond.laysFinal "FixupVolumeModel" "FixupVolumeModel" "fresh" "[Z") ∈ lw_tbl := tb_3 (List.mem_of_getElem? (i := 209) rfl)
theorem wd_690 : (Jvm.Cond.soleField "FixupVolumeModel" "fresh") ∈ lw_tbl := tb_3 (List.mem_of_getElem? (i := 210) rfl)
theorem wd_691 : (Jvm.Cond.laysFinal "FixupVolumeModel" "FixupVolumeModel" "bytes" "[I") ∈ lw_tbl := tb_3 (List.mem_of_getElem? (i := 211) rfl)
theorem wd_692 : (Jvm.Cond.soleField "FixupVolumeModel" "bytes") ∈ lw_tbl := tb_3 (List.mem_of_getElem? (i := 212) rfl)
theorem wd_693 : (Jvm.Cond.lays "FixupVolumeModel" "FixupVolumeModel" "members" "I") ∈ lw_tbl := tb_3 (List.mem_of_getElem? (i := 213) rfl)
theorem wd_694 : (Jvm.Cond.soleField "FixupVolumeModel" "members") ∈ lw_tbl := tb_3 (List.mem_of_getElem? (i := 214) rfl)
theorem wd_695 : (Jvm.Cond.laysFinal "FixupVolumeModel" "FixupVolumeModel" "member" "[I") ∈ lw_tbl := tb_3 (List.mem_of_getElem? (i := 215) rfl)
theorem wd_696 : (Jvm.Cond.soleField "FixupVolumeModel" "member") ∈ lw_tbl := tb_3 (List.mem_of_getElem? (i := 216) rfl)
theorem wd_697 : (Jvm.Cond.lays "FixupVolumeModel" "FixupVolumeModel" "mended" "I") ∈ lw_tbl := tb_3 (List.mem_of_getElem? (i := 217) rfl)
theorem wd_698 : (Jvm.Cond.soleField "FixupVolumeModel" "mended") ∈ lw_tbl := tb_3 (List.mem_of_getElem? (i := 218) rfl)
theorem wd_699 : (Jvm.Cond.superclass "FixupVolumeModel" "java/lang/Object") ∈ lw_tbl := tb_3 (List.mem_of_getElem? (i := 219) rfl)
theorem wd_700 : (Jvm.Cond.arrayClass Jvm.ClassFile.FieldType.char) ∈ lw_tbl := tb_3 (List.mem_of_getElem? (i := 220) rfl)
theorem wd_701 : (Jvm.Cond.methodLink "FixupVolumeLaw" (54 : Nat) ({ cls := "FixupVolumeModel", name := "thrown", desc := "()I" } : Jvm.MethodName)) ∈ lw_tbl := tb_3 (List.mem_of_getElem? (i := 221) rfl)
theorem wd_702 : (Jvm.Cond.instanceMethod ({ cls := "FixupVolumeModel", name := "thrown", desc := "()I" } : Jvm.MethodName)) ∈ lw_tbl := tb_3 (List.mem_of_getElem? (i := 222) rfl)
theorem wd_703 : (Jvm.Cond.selects "FixupVolumeModel" ({ cls := "FixupVolumeModel", name := "thrown", desc := "()I" } : Jvm.MethodName) ({ cls := "FixupVolumeModel", name := "thrown", desc := "()I" } : Jvm.MethodName)) ∈ lw_tbl := tb_3 (List.mem_of_getElem? (i := 223) rfl)
theorem wd_704 : (Jvm.Cond.code ({ cls := "FixupVolumeModel", name := "thrown", desc := "()I" } : Jvm.MethodName) prog_7_method_2_code (1 : Nat) (Option.some Jvm.ClassFile.FieldType.int)) ∈ lw_tbl := tb_3 (List.mem_of_getElem? (i := 224) rfl)
theorem wd_705 : (Jvm.Cond.methodLink "FixupVolumeLaw" (47 : Nat) ({ cls := "FixupVolumeModel", name := "type", desc := "(C)Z" } : Jvm.MethodName)) ∈ lw_tbl := tb_3 (List.mem_of_getElem? (i := 225) rfl)
theorem wd_706 : (Jvm.Cond.instanceMethod ({ cls := "FixupVolumeModel", name := "type", desc := "(C)Z" } : Jvm.MethodName)) ∈ lw_tbl := tb_3 (List.mem_of_getElem? (i := 226) rfl)
theorem wd_707 : (Jvm.Cond.selects "FixupVolumeModel" ({ cls := "FixupVolumeModel", name := "type", desc := "(C)Z" } : Jvm.MethodName) ({ cls := "FixupVolumeModel", name := "type", desc := "(C)Z" } : Jvm.MethodName)) ∈ lw_tbl := tb_3 (List.mem_of_getElem? (i := 227) rfl)
theorem wd_708 : (Jvm.Cond.code ({ cls := "FixupVolumeModel", name := "type", desc := "(C)Z" } : Jvm.MethodName) prog_7_method_31_code (3 : Nat) (Option.some Jvm.ClassFile.FieldType.boolean)) ∈ lw_tbl := tb_3 (List.mem_of_getElem? (i := 228) rfl)
theorem wd_709 : (Jvm.Cond.methodLink "FixupVolumeLaw" (53 : Nat) ({ cls := "FixupVolumeModel", name := "create", desc := "(IZ)I" } : Jvm.MethodName)) ∈ lw_tbl := tb_3 (List.mem_of_getElem? (i := 229) rfl)
theorem wd_710 : (Jvm.Cond.instanceMethod ({ cls := "FixupVolumeModel", name := "create", desc := "(IZ)I" } : Jvm.MethodName)) ∈ lw_tbl := tb_3 (List.mem_of_getElem? (i := 230) rfl)
theorem wd_711 : (Jvm.Cond.selects "FixupVolumeModel" ({ cls := "FixupVolumeModel", name := "create", desc := "(IZ)I" } : Jvm.MethodName) ({ cls := "FixupVolumeModel", name := "create", desc := "(IZ)I" } : Jvm.MethodName)) ∈ lw_tbl := tb_3 (List.mem_of_getElem? (i := 231) rfl)
theorem wd_712 : (Jvm.Cond.code ({ cls := "FixupVolumeModel", name := "create", desc := "(IZ)I" } : Jvm.MethodName) prog_7_method_33_code (4 : Nat) (Option.some Jvm.ClassFile.FieldType.int)) ∈ lw_tbl := tb_3 (List.mem_of_getElem? (i := 232) rfl)
theorem wd_713 : (Jvm.Cond.methodLink "FixupVolumeModel" (141 : Nat) ({ cls := "FixupVolumeModel", name := "makeRecord", desc := "(IZ)I" } : Jvm.MethodName)) ∈ lw_tbl := tb_3 (List.mem_of_getElem? (i := 233) rfl)
theorem wd_714 : (Jvm.Cond.privateMethod ({ cls := "FixupVolumeModel", name := "makeRecord", desc := "(IZ)I" } : Jvm.MethodName)) ∈ lw_tbl := tb_3 (List.mem_of_getElem? (i := 234) rfl)
theorem wd_715 : (Jvm.Cond.instanceMethod ({ cls := "FixupVolumeModel", name := "makeRecord", desc := "(IZ)I" } : Jvm.MethodName)) ∈ lw_tbl := tb_3 (List.mem_of_getElem? (i := 235) rfl)
theorem wd_716 : (Jvm.Cond.code ({ cls := "FixupVolumeModel", name := "makeRecord", desc := "(IZ)I" } : Jvm.MethodName) prog_7_method_32_code (4 : Nat) (Option.some Jvm.ClassFile.FieldType.int)) ∈ lw_tbl := tb_3 (List.mem_of_getElem? (i := 236) rfl)
theorem wd_717 : (Jvm.Cond.methodLink "FixupVolumeModel" (117 : Nat) ({ cls := "FixupVolumeModel", name := "refuse", desc := "(I)I" } : Jvm.MethodName)) ∈ lw_tbl := tb_3 (List.mem_of_getElem? (i := 237) rfl)
theorem wd_718 : (Jvm.Cond.privateMethod ({ cls := "FixupVolumeModel", name := "refuse", desc := "(I)I" } : Jvm.MethodName)) ∈ lw_tbl := tb_3 (List.mem_of_getElem? (i := 238) rfl)
theorem wd_719 : (Jvm.Cond.instanceMethod ({ cls := "FixupVolumeModel", name := "refuse", desc := "(I)I" } : Jvm.MethodName)) ∈ lw_tbl := tb_3 (List.mem_of_getElem? (i := 239) rfl)
theorem wd_720 : (Jvm.Cond.code ({ cls := "FixupVolumeModel", name := "refuse", desc := "(I)I" } : Jvm.MethodName) prog_7_method_3_code (2 : Nat) (Option.some Jvm.ClassFile.FieldType.int)) ∈ lw_tbl := tb_4 (List.mem_of_getElem? (i := 0) rfl)
theorem wd_721 : (Jvm.Cond.methodLink "FixupVolumeModel" (120 : Nat) ({ cls := "FixupVolumeModel", name := "isKind", desc := "(II)Z" } : Jvm.MethodName)) ∈ lw_tbl := tb_4 (List.mem_of_getElem? (i := 1) rfl)
theorem wd_722 : (Jvm.Cond.privateMethod ({ cls := "FixupVolumeModel", name := "isKind", desc := "(II)Z" } : Jvm.MethodName)) ∈ lw_tbl := tb_4 (List.mem_of_getElem? (i := 2) rfl)
theorem wd_723 : (Jvm.Cond.instanceMethod ({ cls := "FixupVolumeModel", name := "isKind", desc := "(II)Z" } : Jvm.MethodName)) ∈ lw_tbl := tb_4 (List.mem_of_getElem? (i := 3) rfl)
theorem wd_724 : (Jvm.Cond.code ({ cls := "FixupVolumeModel", name := "isKind", desc := "(II)Z" } : Jvm.MethodName) prog_7_method_8_code (3 : Nat) (Option.some Jvm.ClassFile.FieldType.boolean)) ∈ lw_tbl := tb_4 (List.mem_of_getElem? (i := 4) rfl)
theorem wd_725 : (Jvm.Cond.methodLink "FixupVolumeModel" (62 : Nat) ({ cls := "FixupVolumeModel", name := "isRecord", desc := "(I)Z" } : Jvm.MethodName)) ∈ lw_tbl := tb_4 (List.mem_of_getElem? (i := 5) rfl)
theorem wd_726 : (Jvm.Cond.privateMethod ({ cls := "FixupVolumeModel", name := "isRecord", desc := "(I)Z" } : Jvm.MethodName)) ∈ lw_tbl := tb_4 (List.mem_of_getElem? (i := 6) rfl)
theorem wd_727 : (Jvm.Cond.instanceMethod ({ cls := "FixupVolumeModel", name := "isRecord", desc := "(I)Z" } : Jvm.MethodName)) ∈ lw_tbl := tb_4 (List.mem_of_getElem? (i := 7) rfl)
theorem wd_728 : (Jvm.Cond.code ({ cls := "FixupVolumeModel", name := "isRecord", desc := "(I)Z" } : Jvm.MethodName) prog_7_method_7_code (2 : Nat) (Option.some Jvm.ClassFile.FieldType.boolean)) ∈ lw_tbl := tb_4 (List.mem_of_getElem? (i := 8) rfl)
theorem wd_729 : (Jvm.Cond.methodLink "FixupVolumeModel" (65 : Nat) ({ cls := "FixupVolumeModel", name := "byteOf", desc := "(II)I" } : Jvm.MethodName)) ∈ lw_tbl := tb_4 (List.mem_of_getElem? (i := 9) rfl)
theorem wd_730 : (Jvm.Cond.privateMethod ({ cls := "FixupVolumeModel", name := "byteOf", desc := "(II)I" } : Jvm.MethodName)) ∈ lw_tbl := tb_4 (List.mem_of_getElem? (i := 10) rfl)
theorem wd_731 : (Jvm.Cond.instanceMethod ({ cls := "FixupVolumeModel", name := "byteOf", desc := "(II)I" } : Jvm.MethodName)) ∈ lw_tbl := tb_4 (List.mem_of_getElem? (i := 11) rfl)
theorem wd_732 : (Jvm.Cond.code ({ cls := "FixupVolumeModel", name := "byteOf", desc := "(II)I" } : Jvm.MethodName) prog_7_method_4_code (4 : Nat) (Option.some Jvm.ClassFile.FieldType.int)) ∈ lw_tbl := tb_4 (List.mem_of_getElem? (i := 12) rfl)
theorem wd_733 : (Jvm.Cond.methodLink "FixupVolumeModel" (123 : Nat) ({ cls := "FixupVolumeModel", name := "findDraft", desc := "(I)I" } : Jvm.MethodName)) ∈ lw_tbl := tb_4 (List.mem_of_getElem? (i := 13) rfl)
theorem wd_734 : (Jvm.Cond.privateMethod ({ cls := "FixupVolumeModel", name := "findDraft", desc := "(I)I" } : Jvm.MethodName)) ∈ lw_tbl := tb_4 (List.mem_of_getElem? (i := 14) rfl)
theorem wd_735 : (Jvm.Cond.instanceMethod ({ cls := "FixupVolumeModel", name := "findDraft", desc := "(I)I" } : Jvm.MethodName)) ∈ lw_tbl := tb_4 (List.mem_of_getElem? (i := 15) rfl)
theorem wd_736 : (Jvm.Cond.code ({ cls := "FixupVolumeModel", name := "findDraft", desc := "(I)I" } : Jvm.MethodName) prog_7_method_30_code (3 : Nat) (Option.some Jvm.ClassFile.FieldType.int)) ∈ lw_tbl := tb_4 (List.mem_of_getElem? (i := 16) rfl)
theorem wd_737 : (Jvm.Cond.methodLink "FixupVolumeModel" (108 : Nat) ({ cls := "FixupVolumeModel", name := "listLength", desc := "(I)I" } : Jvm.MethodName)) ∈ lw_tbl := tb_4 (List.mem_of_getElem? (i := 17) rfl)
theorem wd_738 : (Jvm.Cond.privateMethod ({ cls := "FixupVolumeModel", name := "listLength", desc := "(I)I" } : Jvm.MethodName)) ∈ lw_tbl := tb_4 (List.mem_of_getElem? (i := 18) rfl)
theorem wd_739 : (Jvm.Cond.instanceMethod ({ cls := "FixupVolumeModel", name := "listLength", desc := "(I)I" } : Jvm.MethodName)) ∈ lw_tbl := tb_4 (List.mem_of_getElem? (i := 19) rfl)
theorem wd_740 : (Jvm.Cond.code ({ cls := "FixupVolumeModel", name := "listLength", desc := "(I)I" } : Jvm.MethodName) prog_7_method_14_code (2 : Nat) (Option.some Jvm.ClassFile.FieldType.int)) ∈ lw_tbl := tb_4 (List.mem_of_getElem? (i := 20) rfl)
theorem wd_741 : (Jvm.Cond.methodLink "FixupVolumeModel" (69 : Nat) ({ cls := "FixupVolumeModel", name := "attribute", desc := "(II)I" } : Jvm.MethodName)) ∈ lw_tbl := tb_4 (List.mem_of_getElem? (i := 21) rfl)
theorem wd_742 : (Jvm.Cond.privateMethod ({ cls := "FixupVolumeModel", name := "attribute", desc := "(II)I" } : Jvm.MethodName)) ∈ lw_tbl := tb_4 (List.mem_of_getElem? (i := 22) rfl)
theorem wd_743 : (Jvm.Cond.instanceMethod ({ cls := "FixupVolumeModel", name := "attribute", desc := "(II)I" } : Jvm.MethodName)) ∈ lw_tbl := tb_4 (List.mem_of_getElem? (i := 23) rfl)
theorem wd_744 : (Jvm.Cond.code ({ cls := "FixupVolumeModel", name := "attribute", desc := "(II)I" } : Jvm.MethodName) prog_7_method_9_code (5 : Nat) (Option.some Jvm.ClassFile.FieldType.int)) ∈ lw_tbl := tb_4 (List.mem_of_getElem? (i := 24) rfl)
theorem wd_745 : (Jvm.Cond.methodLink "FixupVolumeModel" (111 : Nat) ({ cls := "FixupVolumeModel", name := "entry", desc := "(II)I" } : Jvm.MethodName)) ∈ lw_tbl := tb_4 (List.mem_of_getElem? (i := 25) rfl)
theorem wd_746 : (Jvm.Cond.privateMethod ({ cls := "FixupVolumeModel", name := "entry", desc := "(II)I" } : Jvm.MethodName)) ∈ lw_tbl := tb_4 (List.mem_of_getElem? (i := 26) rfl)
theorem wd_747 : (Jvm.Cond.instanceMethod ({ cls := "FixupVolumeModel", name := "entry", desc := "(II)I" } : Jvm.MethodName)) ∈ lw_tbl := tb_4 (List.mem_of_getElem? (i := 27) rfl)
theorem wd_748 : (Jvm.Cond.code ({ cls := "FixupVolumeModel", name := "entry", desc := "(II)I" } : Jvm.MethodName) prog_7_method_15_code (3 : Nat) (Option.some Jvm.ClassFile.FieldType.int)) ∈ lw_tbl := tb_4 (List.mem_of_getElem? (i := 28) rfl)
theorem wd_749 : (Jvm.Cond.methodLink "FixupVolumeModel" (114 : Nat) ({ cls := "FixupVolumeModel", name := "isDraft", desc := "(I)Z" } : Jvm.MethodName)) ∈ lw_tbl := tb_4 (List.mem_of_getElem? (i := 29) rfl)
theorem wd_750 : (Jvm.Cond.privateMethod ({ cls := "FixupVolumeModel", name := "isDraft", desc := "(I)Z" } : Jvm.MethodName)) ∈ lw_tbl := tb_4 (List.mem_of_getElem? (i := 30) rfl)
theorem wd_751 : (Jvm.Cond.instanceMethod ({ cls := "FixupVolumeModel", name := "isDraft", desc := "(I)Z" } : Jvm.MethodName)) ∈ lw_tbl := tb_4 (List.mem_of_getElem? (i := 31) rfl)
theorem wd_752 : (Jvm.Cond.code ({ cls := "FixupVolumeModel", name := "isDraft", desc := "(I)Z" } : Jvm.MethodName) prog_7_method_13_code (4 : Nat) (Option.some Jvm.ClassFile.FieldType.boolean)) ∈ lw_tbl := tb_4 (List.mem_of_getElem? (i := 32) rfl)
theorem wd_753 : (Jvm.Cond.methodLink "FixupVolumeModel" (72 : Nat) ({ cls := "FixupVolumeModel", name := "nameLength", desc := "(I)I" } : Jvm.MethodName)) ∈ lw_tbl := tb_4 (List.mem_of_getElem? (i := 33) rfl)
theorem wd_754 : (Jvm.Cond.privateMethod ({ cls := "FixupVolumeModel", name := "nameLength", desc := "(I)I" } : Jvm.MethodName)) ∈ lw_tbl := tb_4 (List.mem_of_getElem? (i := 34) rfl)
theorem wd_755 : (Jvm.Cond.instanceMethod ({ cls := "FixupVolumeModel", name := "nameLength", desc := "(I)I" } : Jvm.MethodName)) ∈ lw_tbl := tb_4 (List.mem_of_getElem? (i := 35) rfl)
theorem wd_756 : (Jvm.Cond.code ({ cls := "FixupVolumeModel", name := "nameLength", desc := "(I)I" } : Jvm.MethodName) prog_7_method_10_code (2 : Nat) (Option.some Jvm.ClassFile.FieldType.int)) ∈ lw_tbl := tb_4 (List.mem_of_getElem? (i := 36) rfl)
theorem wd_757 : (Jvm.Cond.methodLink "FixupVolumeModel" (75 : Nat) ({ cls := "FixupVolumeModel", name := "nameAt", desc := "(II)I" } : Jvm.MethodName)) ∈ lw_tbl := tb_4 (List.mem_of_getElem? (i := 37) rfl)
theorem wd_758 : (Jvm.Cond.privateMethod ({ cls := "FixupVolumeModel", name := "nameAt", desc := "(II)I" } : Jvm.MethodName)) ∈ lw_tbl := tb_4 (List.mem_of_getElem? (i := 38) rfl)
theorem wd_759 : (Jvm.Cond.instanceMethod ({ cls := "FixupVolumeModel", name := "nameAt", desc := "(II)I" } : Jvm.MethodName)) ∈ lw_tbl := tb_4 (List.mem_of_getElem? (i := 39) rfl)
theorem wd_760 : (Jvm.Cond.code ({ cls := "FixupVolumeModel", name := "nameAt", desc := "(II)I" } : Jvm.MethodName) prog_7_method_11_code (3 : Nat) (Option.some Jvm.ClassFile.FieldType.int)) ∈ lw_tbl := tb_4 (List.mem_of_getElem? (i := 40) rfl)
theorem wd_761 : (Jvm.Cond.methodLink "FixupVolumeModel" (126 : Nat) ({ cls := "FixupVolumeModel", name := "putDraft", desc := "()V" } : Jvm.MethodName)) ∈ lw_tbl := tb_4 (List.mem_of_getElem? (i := 41) rfl)
theorem wd_762 : (Jvm.Cond.privateMethod ({ cls := "FixupVolumeModel", name := "putDraft", desc := "()V" } : Jvm.MethodName)) ∈ lw_tbl := tb_4 (List.mem_of_getElem? (i := 42) rfl)
theorem wd_763 : (Jvm.Cond.instanceMethod ({ cls := "FixupVolumeModel", name := "putDraft", desc := "()V" } : Jvm.MethodName)) ∈ lw_tbl := tb_4 (List.mem_of_getElem? (i := 43) rfl)
theorem wd_764 : (Jvm.Cond.code ({ cls := "FixupVolumeModel", name := "putDraft", desc := "()V" } : Jvm.MethodName) prog_7_method_21_code (2 : Nat) (Option.none : Option Jvm.ClassFile.FieldType)) ∈ lw_tbl := tb_4 (List.mem_of_getElem? (i := 44) rfl)
theorem wd_765 : (Jvm.Cond.methodLink "FixupVolumeModel" (129 : Nat) ({ cls := "FixupVolumeModel", name := "putInside", desc := "(I)V" } : Jvm.MethodName)) ∈ lw_tbl := tb_4 (List.mem_of_getElem? (i := 45) rfl)
theorem wd_766 : (Jvm.Cond.privateMethod ({ cls := "FixupVolumeModel", name := "putInside", desc := "(I)V" } : Jvm.MethodName)) ∈ lw_tbl := tb_4 (List.mem_of_getElem? (i := 46) rfl)
theorem wd_767 : (Jvm.Cond.instanceMethod ({ cls := "FixupVolumeModel", name := "putInside", desc := "(I)V" } : Jvm.MethodName)) ∈ lw_tbl := tb_4 (List.mem_of_getElem? (i := 47) rfl)
theorem wd_768 : (Jvm.Cond.code ({ cls := "FixupVolumeModel", name := "putInside", desc := "(I)V" } : Jvm.MethodName) prog_7_method_23_code (3 : Nat) (Option.none : Option Jvm.ClassFile.FieldType)) ∈ lw_tbl := tb_4 (List.mem_of_getElem? (i := 48) rfl)
theorem wd_769 : (Jvm.Cond.methodLink "FixupVolumeModel" (132 : Nat) ({ cls := "FixupVolumeModel", name := "takeList", desc := "(II)V" } : Jvm.MethodName)) ∈ lw_tbl := tb_4 (List.mem_of_getElem? (i := 49) rfl)
theorem wd_770 : (Jvm.Cond.privateMethod ({ cls := "FixupVolumeModel", name := "takeList", desc := "(II)V" } : Jvm.MethodName)) ∈ lw_tbl := tb_4 (List.mem_of_getElem? (i := 50) rfl)
theorem wd_771 : (Jvm.Cond.instanceMethod ({ cls := "FixupVolumeModel", name := "takeList", desc := "(II)V" } : Jvm.MethodName)) ∈ lw_tbl := tb_4 (List.mem_of_getElem? (i := 51) rfl)
theorem wd_772 : (Jvm.Cond.code ({ cls := "FixupVolumeModel", name := "takeList", desc := "(II)V" } : Jvm.MethodName) prog_7_method_29_code (4 : Nat) (Option.none : Option Jvm.ClassFile.FieldType)) ∈ lw_tbl := tb_4 (List.mem_of_getElem? (i := 52) rfl)
theorem wd_773 : (Jvm.Cond.methodLink "FixupVolumeModel" (135 : Nat) ({ cls := "FixupVolumeModel", name := "join", desc := "(I)V" } : Jvm.MethodName)) ∈ lw_tbl := tb_4 (List.mem_of_getElem? (i := 53) rfl)
theorem wd_774 : (Jvm.Cond.privateMethod ({ cls := "FixupVolumeModel", name := "join", desc := "(I)V" } : Jvm.MethodName)) ∈ lw_tbl := tb_4 (List.mem_of_getElem? (i := 54) rfl)
theorem wd_775 : (Jvm.Cond.instanceMethod ({ cls := "FixupVolumeModel", name := "join", desc := "(I)V" } : Jvm.MethodName)) ∈ lw_tbl := tb_4 (List.mem_of_getElem? (i := 55) rfl)
theorem wd_776 : (Jvm.Cond.code ({ cls := "FixupVolumeModel", name := "join", desc := "(I)V" } : Jvm.MethodName) prog_7_method_28_code (3 : Nat) (Option.none : Option Jvm.ClassFile.FieldType)) ∈ lw_tbl := tb_4 (List.mem_of_getElem? (i := 56) rfl)
theorem wd_777 : (Jvm.Cond.methodLink "FixupVolumeModel" (105 : Nat) ({ cls := "FixupVolumeModel", name := "compareNames", desc := "(II)I" } : Jvm.MethodName)) ∈ lw_tbl := tb_4 (List.mem_of_getElem? (i := 57) rfl)
theorem wd_778 : (Jvm.Cond.privateMethod ({ cls := "FixupVolumeModel", name := "compareNames", desc := "(II)I" } : Jvm.MethodName)) ∈ lw_tbl := tb_4 (List.mem_of_getElem? (i := 58) rfl)
theorem wd_779 : (Jvm.Cond.instanceMethod ({ cls := "FixupVolumeModel", name := "compareNames", desc := "(II)I" } : Jvm.MethodName)) ∈ lw_tbl := tb_4 (List.mem_of_getElem? (i := 59) rfl)
theorem wd_780 : (Jvm.Cond.code ({ cls := "FixupVolumeModel", name := "compareNames", desc := "(II)I" } : Jvm.MethodName) prog_7_method_12_code (4 : Nat) (Option.some Jvm.ClassFile.FieldType.int)) ∈ lw_tbl := tb_4 (List.mem_of_getElem? (i := 60) rfl)
theorem wd_781 : (Jvm.Cond.methodLink "FixupVolumeModel" (138 : Nat) ({ cls := "FixupVolumeModel", name := "storeList", desc := "(II)Z" } : Jvm.MethodName)) ∈ lw_tbl := tb_4 (List.mem_of_getElem? (i := 61) rfl)
theorem wd_782 : (Jvm.Cond.privateMethod ({ cls := "FixupVolumeModel", name := "storeList", desc := "(II)Z" } : Jvm.MethodName)) ∈ lw_tbl := tb_4 (List.mem_of_getElem? (i := 62) rfl)
theorem wd_783 : (Jvm.Cond.instanceMethod ({ cls := "FixupVolumeModel", name := "storeList", desc := "(II)Z" } : Jvm.MethodName)) ∈ lw_tbl := tb_4 (List.mem_of_getElem? (i := 63) rfl)
theorem wd_784 : (Jvm.Cond.code ({ cls := "FixupVolumeModel", name := "storeList", desc := "(II)Z" } : Jvm.MethodName) prog_7_method_27_code (3 : Nat) (Option.some Jvm.ClassFile.FieldType.boolean)) ∈ lw_tbl := tb_4 (List.mem_of_getElem? (i := 64) rfl)
theorem wd_785 : (Jvm.Cond.methodLink "FixupVolumeModel" (102 : Nat) ({ cls := "FixupVolumeModel", name := "putName", desc := "(I)V" } : Jvm.MethodName)) ∈ lw_tbl := tb_4 (List.mem_of_getElem? (i := 65) rfl)
theorem wd_786 : (Jvm.Cond.privateMethod ({ cls := "FixupVolumeModel", name := "putName", desc := "(I)V" } : Jvm.MethodName)) ∈ lw_tbl := tb_4 (List.mem_of_getElem? (i := 66) rfl)
theorem wd_787 : (Jvm.Cond.instanceMethod ({ cls := "FixupVolumeModel", name := "putName", desc := "(I)V" } : Jvm.MethodName)) ∈ lw_tbl := tb_4 (List.mem_of_getElem? (i := 67) rfl)
theorem wd_788 : (Jvm.Cond.code ({ cls := "FixupVolumeModel", name := "putName", desc := "(I)V" } : Jvm.MethodName) prog_7_method_20_code (4 : Nat) (Option.none : Option Jvm.ClassFile.FieldType)) ∈ lw_tbl := tb_4 (List.mem_of_getElem? (i := 68) rfl)
theorem wd_789 : (Jvm.Cond.methodLink "FixupVolumeLaw" (68 : Nat) ({ cls := "FixupVolumeModel", name := "remove", desc := "(I)I" } : Jvm.MethodName)) ∈ lw_tbl := tb_4 (List.mem_of_getElem? (i := 69) rfl)
theorem wd_790 : (Jvm.Cond.instanceMethod ({ cls := "FixupVolumeModel", name := "remove", desc := "(I)I" } : Jvm.MethodName)) ∈ lw_tbl := tb_4 (List.mem_of_getElem? (i := 70) rfl)
theorem wd_791 : (Jvm.Cond.selects "FixupVolumeModel" ({ cls := "FixupVolumeModel", name := "remove", desc := "(I)I" } : Jvm.MethodName) ({ cls := "FixupVolumeModel", name := "remove", desc := "(I)I" } : Jvm.MethodName)) ∈ lw_tbl := tb_4 (List.mem_of_getElem? (i := 71) rfl)
theorem wd_792 : (Jvm.Cond.code ({ cls := "FixupVolumeModel", name := "remove", desc := "(I)I" } : Jvm.MethodName) prog_7_method_35_code (3 : Nat) (Option.some Jvm.ClassFile.FieldType.int)) ∈ lw_tbl := tb_4 (List.mem_of_getElem? (i := 72) rfl)
theorem wd_793 : (Jvm.Cond.methodLink "FixupVolumeModel" (145 : Nat) ({ cls := "FixupVolumeModel", name := "loadMap", desc := "(I)V" } : Jvm.MethodName)) ∈ lw_tbl := tb_4 (List.mem_of_getElem? (i := 73) rfl)
theorem wd_794 : (Jvm.Cond.privateMethod ({ cls := "FixupVolumeModel", name := "loadMap", desc := "(I)V" } : Jvm.MethodName)) ∈ lw_tbl := tb_4 (List.mem_of_getElem? (i := 74) rfl)
theorem wd_795 : (Jvm.Cond.instanceMethod ({ cls := "FixupVolumeModel", name := "loadMap", desc := "(I)V" } : Jvm.MethodName)) ∈ lw_tbl := tb_4 (List.mem_of_getElem? (i := 75) rfl)
theorem wd_796 : (Jvm.Cond.code ({ cls := "FixupVolumeModel", name := "loadMap", desc := "(I)V" } : Jvm.MethodName) prog_7_method_34_code (7 : Nat) (Option.none : Option Jvm.ClassFile.FieldType)) ∈ lw_tbl := tb_4 (List.mem_of_getElem? (i := 76) rfl)
theorem wd_797 : (Jvm.Cond.methodLink "FixupVolumeModel" (148 : Nat) ({ cls := "FixupVolumeModel", name := "release", desc := "(I)I" } : Jvm.MethodName)) ∈ lw_tbl := tb_4 (List.mem_of_getElem? (i := 77) rfl)
theorem wd_798 : (Jvm.Cond.privateMethod ({ cls := "FixupVolumeModel", name := "release", desc := "(I)I" } : Jvm.MethodName)) ∈ lw_tbl := tb_4 (List.mem_of_getElem? (i := 78) rfl)
theorem wd_799 : (Jvm.Cond.instanceMethod ({ cls := "FixupVolumeModel", name := "release", desc := "(I)I" } : Jvm.MethodName)) ∈ lw_tbl := tb_4 (List.mem_of_getElem? (i := 79) rfl)
theorem wd_800 : (Jvm.Cond.code ({ cls := "FixupVolumeModel", name := "release", desc := "(I)I" } : Jvm.MethodName) prog_7_method_36_code (4 : Nat) (Option.some Jvm.ClassFile.FieldType.int)) ∈ lw_tbl := tb_4 (List.mem_of_getElem? (i := 80) rfl)
theorem wd_801 : (Jvm.Cond.methodLink "FixupVolumeLaw" (72 : Nat) ({ cls := "FixupVolumeModel", name := "move", desc := "(II)V" } : Jvm.MethodName)) ∈ lw_tbl := tb_4 (List.mem_of_getElem? (i := 81) rfl)
theorem wd_802 : (Jvm.Cond.instanceMethod ({ cls := "FixupVolumeModel", name := "move", desc := "(II)V" } : Jvm.MethodName)) ∈ lw_tbl := tb_4 (List.mem_of_getElem? (i := 82) rfl)
theorem wd_803 : (Jvm.Cond.selects "FixupVolumeModel" ({ cls := "FixupVolumeModel", name := "move", desc := "(II)V" } : Jvm.MethodName) ({ cls := "FixupVolumeModel", name := "move", desc := "(II)V" } : Jvm.MethodName)) ∈ lw_tbl := tb_4 (List.mem_of_getElem? (i := 83) rfl)
theorem wd_804 : (Jvm.Cond.code ({ cls := "FixupVolumeModel", name := "move", desc := "(II)V" } : Jvm.MethodName) prog_7_method_39_code (6 : Nat) (Option.none : Option Jvm.ClassFile.FieldType)) ∈ lw_tbl := tb_4 (List.mem_of_getElem? (i := 84) rfl)
theorem wd_805 : (Jvm.Cond.methodLink "FixupVolumeModel" (151 : Nat) ({ cls := "FixupVolumeModel", name := "isBelow", desc := "(II)Z" } : Jvm.MethodName)) ∈ lw_tbl := tb_4 (List.mem_of_getElem? (i := 85) rfl)
theorem wd_806 : (Jvm.Cond.privateMethod ({ cls := "FixupVolumeModel", name := "isBelow", desc := "(II)Z" } : Jvm.MethodName)) ∈ lw_tbl := tb_4 (List.mem_of_getElem? (i := 86) rfl)
theorem wd_807 : (Jvm.Cond.instanceMethod ({ cls := "FixupVolumeModel", name := "isBelow", desc := "(II)Z" } : Jvm.MethodName)) ∈ lw_tbl := tb_4 (List.mem_of_getElem? (i := 87) rfl)
theorem wd_808 : (Jvm.Cond.code ({ cls := "FixupVolumeModel", name := "isBelow", desc := "(II)Z" } : Jvm.MethodName) prog_7_method_37_code (4 : Nat) (Option.some Jvm.ClassFile.FieldType.boolean)) ∈ lw_tbl := tb_4 (List.mem_of_getElem? (i := 88) rfl)
theorem wd_809 : (Jvm.Cond.methodLink "FixupVolumeModel" (154 : Nat) ({ cls := "FixupVolumeModel", name := "hasName", desc := "(II)Z" } : Jvm.MethodName)) ∈ lw_tbl := tb_4 (List.mem_of_getElem? (i := 89) rfl)
theorem wd_810 : (Jvm.Cond.privateMethod ({ cls := "FixupVolumeModel", name := "hasName", desc := "(II)Z" } : Jvm.MethodName)) ∈ lw_tbl := tb_4 (List.mem_of_getElem? (i := 90) rfl)
theorem wd_811 : (Jvm.Cond.instanceMethod ({ cls := "FixupVolumeModel", name := "hasName", desc := "(II)Z" } : Jvm.MethodName)) ∈ lw_tbl := tb_4 (List.mem_of_getElem? (i := 91) rfl)
theorem wd_812 : (Jvm.Cond.code ({ cls := "FixupVolumeModel", name := "hasName", desc := "(II)Z" } : Jvm.MethodName) prog_7_method_38_code (5 : Nat) (Option.some Jvm.ClassFile.FieldType.boolean)) ∈ lw_tbl := tb_4 (List.mem_of_getElem? (i := 92) rfl)
theorem wd_813 : (Jvm.Cond.methodLink "FixupVolumeLaw" (60 : Nat) ({ cls := "FixupVolumeModel", name := "write", desc := "(IIII)I" } : Jvm.MethodName)) ∈ lw_tbl := tb_4 (List.mem_of_getElem? (i := 93) rfl)
theorem wd_814 : (Jvm.Cond.instanceMethod ({ cls := "FixupVolumeModel", name := "write", desc := "(IIII)I" } : Jvm.MethodName)) ∈ lw_tbl := tb_4 (List.mem_of_getElem? (i := 94) rfl)
theorem wd_815 : (Jvm.Cond.selects "FixupVolumeModel" ({ cls := "FixupVolumeModel", name := "write", desc := "(IIII)I" } : Jvm.MethodName) ({ cls := "FixupVolumeModel", name := "write", desc := "(IIII)I" } : Jvm.MethodName)) ∈ lw_tbl := tb_4 (List.mem_of_getElem? (i := 95) rfl)
theorem wd_816 : (Jvm.Cond.code ({ cls := "FixupVolumeModel", name := "write", desc := "(IIII)I" } : Jvm.MethodName) prog_7_method_48_code (10 : Nat) (Option.some Jvm.ClassFile.FieldType.int)) ∈ lw_tbl := tb_4 (List.mem_of_getElem? (i := 96) rfl)
theorem wd_817 : (Jvm.Cond.methodLink "FixupVolumeModel" (168 : Nat) ({ cls := "FixupVolumeModel", name := "sizeOf", desc := "(I)I" } : Jvm.MethodName)) ∈ lw_tbl := tb_4 (List.mem_of_getElem? (i := 97) rfl)
theorem wd_818 : (Jvm.Cond.privateMethod ({ cls := "FixupVolumeModel", name := "sizeOf", desc := "(I)I" } : Jvm.MethodName)) ∈ lw_tbl := tb_4 (List.mem_of_getElem? (i := 98) rfl)
theorem wd_819 : (Jvm.Cond.instanceMethod ({ cls := "FixupVolumeModel", name := "sizeOf", desc := "(I)I" } : Jvm.MethodName)) ∈ lw_tbl := tb_4 (List.mem_of_getElem? (i := 99) rfl)
theorem wd_820 : (Jvm.Cond.code ({ cls := "FixupVolumeModel", name := "sizeOf", desc := "(I)I" } : Jvm.MethodName) prog_7_method_17_code (3 : Nat) (Option.some Jvm.ClassFile.FieldType.int)) ∈ lw_tbl := tb_4 (List.mem_of_getElem? (i := 100) rfl)
theorem wd_821 : (Jvm.Cond.methodLink "FixupVolumeModel" (171 : Nat) ({ cls := "FixupVolumeModel", name := "isInside", desc := "(I)Z" } : Jvm.MethodName)) ∈ lw_tbl := tb_4 (List.mem_of_getElem? (i := 101) rfl)
theorem wd_822 : (Jvm.Cond.privateMethod ({ cls := "FixupVolumeModel", name := "isInside", desc := "(I)Z" } : Jvm.MethodName)) ∈ lw_tbl := tb_4 (List.mem_of_getElem? (i := 102) rfl)
theorem wd_823 : (Jvm.Cond.instanceMethod ({ cls := "FixupVolumeModel", name := "isInside", desc := "(I)Z" } : Jvm.MethodName)) ∈ lw_tbl := tb_4 (List.mem_of_getElem? (i := 103) rfl)
theorem wd_824 : (Jvm.Cond.code ({ cls := "FixupVolumeModel", name := "isInside", desc := "(I)Z" } : Jvm.MethodName) prog_7_method_16_code (2 : Nat) (Option.some Jvm.ClassFile.FieldType.boolean)) ∈ lw_tbl := tb_4 (List.mem_of_getElem? (i := 104) rfl)
theorem wd_825 : (Jvm.Cond.methodLink "FixupVolumeModel" (189 : Nat) ({ cls := "FixupVolumeModel", name := "writeOutside", desc := "(IIII)I" } : Jvm.MethodName)) ∈ lw_tbl := tb_4 (List.mem_of_getElem? (i := 105) rfl)
theorem wd_826 : (Jvm.Cond.privateMethod ({ cls := "FixupVolumeModel", name := "writeOutside", desc := "(IIII)I" } : Jvm.MethodName)) ∈ lw_tbl := tb_4 (List.mem_of_getElem? (i := 106) rfl)
theorem wd_827 : (Jvm.Cond.instanceMethod ({ cls := "FixupVolumeModel", name := "writeOutside", desc := "(IIII)I" } : Jvm.MethodName)) ∈ lw_tbl := tb_4 (List.mem_of_getElem? (i := 107) rfl)
theorem wd_828 : (Jvm.Cond.code ({ cls := "FixupVolumeModel", name := "writeOutside", desc := "(IIII)I" } : Jvm.MethodName) prog_7_method_47_code (11 : Nat) (Option.some Jvm.ClassFile.FieldType.int)) ∈ lw_tbl := tb_4 (List.mem_of_getElem? (i := 108) rfl)
theorem wd_829 : (Jvm.Cond.methodLink "FixupVolumeModel" (174 : Nat) ({ cls := "FixupVolumeModel", name := "clustersOf", desc := "(I)I" } : Jvm.MethodName)) ∈ lw_tbl := tb_4 (List.mem_of_getElem? (i := 109) rfl)
theorem wd_830 : (Jvm.Cond.static ({ cls := "FixupVolumeModel", name := "clustersOf", desc := "(I)I" } : Jvm.MethodName)) ∈ lw_tbl := tb_4 (List.mem_of_getElem? (i := 110) rfl)
theorem wd_831 : (Jvm.Cond.code ({ cls := "FixupVolumeModel", name := "clustersOf", desc := "(I)I" } : Jvm.MethodName) prog_7_method_42_code (1 : Nat) (Option.some Jvm.ClassFile.FieldType.int)) ∈ lw_tbl := tb_4 (List.mem_of_getElem? (i := 111) rfl)
theorem wd_832 : (Jvm.Cond.methodLink "FixupVolumeModel" (177 : Nat) ({ cls := "FixupVolumeModel", name := "give", desc := "(III)Z" } : Jvm.MethodName)) ∈ lw_tbl := tb_4 (List.mem_of_getElem? (i := 112) rfl)
theorem wd_833 : (Jvm.Cond.privateMethod ({ cls := "FixupVolumeModel", name := "give", desc := "(III)Z" } : Jvm.MethodName)) ∈ lw_tbl := tb_4 (List.mem_of_getElem? (i := 113) rfl)
theorem wd_834 : (Jvm.Cond.instanceMethod ({ cls := "FixupVolumeModel", name := "give", desc := "(III)Z" } : Jvm.MethodName)) ∈ lw_tbl := tb_4 (List.mem_of_getElem? (i := 114) rfl)
theorem wd_835 : (Jvm.Cond.code ({ cls := "FixupVolumeModel", name := "give", desc := "(III)Z" } : Jvm.MethodName) prog_7_method_44_code (6 : Nat) (Option.some Jvm.ClassFile.FieldType.boolean)) ∈ lw_tbl := tb_4 (List.mem_of_getElem? (i := 115) rfl)
theorem wd_836 : (Jvm.Cond.methodLink "FixupVolumeModel" (157 : Nat) ({ cls := "FixupVolumeModel", name := "meets", desc := "(III)Z" } : Jvm.MethodName)) ∈ lw_tbl := tb_4 (List.mem_of_getElem? (i := 116) rfl)
theorem wd_837 : (Jvm.Cond.static ({ cls := "FixupVolumeModel", name := "meets", desc := "(III)Z" } : Jvm.MethodName)) ∈ lw_tbl := tb_4 (List.mem_of_getElem? (i := 117) rfl)
theorem wd_838 : (Jvm.Cond.code ({ cls := "FixupVolumeModel", name := "meets", desc := "(III)Z" } : Jvm.MethodName) prog_7_method_43_code (3 : Nat) (Option.some Jvm.ClassFile.FieldType.boolean)) ∈ lw_tbl := tb_4 (List.mem_of_getElem? (i := 118) rfl)
theorem wd_839 : (Jvm.Cond.methodLink "FixupVolumeModel" (161 : Nat) ({ cls := "FixupVolumeModel", name := "freeClusters", desc := "()I" } : Jvm.MethodName)) ∈ lw_tbl := tb_4 (List.mem_of_getElem? (i := 119) rfl)
theorem wd_840 : (Jvm.Cond.privateMethod ({ cls := "FixupVolumeModel", name := "freeClusters", desc := "()I" } : Jvm.MethodName)) ∈ lw_tbl := tb_4 (List.mem_of_getElem? (i := 120) rfl)
theorem wd_841 : (Jvm.Cond.instanceMethod ({ cls := "FixupVolumeModel", name := "freeClusters", desc := "()I" } : Jvm.MethodName)) ∈ lw_tbl := tb_4 (List.mem_of_getElem? (i := 121) rfl)
theorem wd_842 : (Jvm.Cond.code ({ cls := "FixupVolumeModel", name := "freeClusters", desc := "()I" } : Jvm.MethodName) prog_7_method_41_code (3 : Nat) (Option.some Jvm.ClassFile.FieldType.int)) ∈ lw_tbl := tb_4 (List.mem_of_getElem? (i := 122) rfl)
theorem wd_843 : (Jvm.Cond.methodLink "FixupVolumeModel" (165 : Nat) ({ cls := "FixupVolumeModel", name := "lowestFree", desc := "()I" } : Jvm.MethodName)) ∈ lw_tbl := tb_4 (List.mem_of_getElem? (i := 123) rfl)
theorem wd_844 : (Jvm.Cond.privateMethod ({ cls := "FixupVolumeModel", name := "lowestFree", desc := "()I" } : Jvm.MethodName)) ∈ lw_tbl := tb_4 (List.mem_of_getElem? (i := 124) rfl)
theorem wd_845 : (Jvm.Cond.instanceMethod ({ cls := "FixupVolumeModel", name := "lowestFree", desc := "()I" } : Jvm.MethodName)) ∈ lw_tbl := tb_4 (List.mem_of_getElem? (i := 125) rfl)
theorem wd_846 : (Jvm.Cond.code ({ cls := "FixupVolumeModel", name := "lowestFree", desc := "()I" } : Jvm.MethodName) prog_7_method_40_code (2 : Nat) (Option.some Jvm.ClassFile.FieldType.int)) ∈ lw_tbl := tb_4 (List.mem_of_getElem? (i := 126) rfl)
theorem wd_847 : (Jvm.Cond.methodLink "FixupVolumeModel" (180 : Nat) ({ cls := "FixupVolumeModel", name := "putOutside", desc := "(I)V" } : Jvm.MethodName)) ∈ lw_tbl := tb_4 (List.mem_of_getElem? (i := 127) rfl)
theorem wd_848 : (Jvm.Cond.privateMethod ({ cls := "FixupVolumeModel", name := "putOutside", desc := "(I)V" } : Jvm.MethodName)) ∈ lw_tbl := tb_4 (List.mem_of_getElem? (i := 128) rfl)
theorem wd_849 : (Jvm.Cond.instanceMethod ({ cls := "FixupVolumeModel", name := "putOutside", desc := "(I)V" } : Jvm.MethodName)) ∈ lw_tbl := tb_4 (List.mem_of_getElem? (i := 129) rfl)
theorem wd_850 : (Jvm.Cond.code ({ cls := "FixupVolumeModel", name := "putOutside", desc := "(I)V" } : Jvm.MethodName) prog_7_method_24_code (6 : Nat) (Option.none : Option Jvm.ClassFile.FieldType)) ∈ lw_tbl := tb_4 (List.mem_of_getElem? (i := 130) rfl)
theorem wd_851 : (Jvm.Cond.methodLink "FixupVolumeModel" (183 : Nat) ({ cls := "FixupVolumeModel", name := "takeBack", desc := "()V" } : Jvm.MethodName)) ∈ lw_tbl := tb_4 (List.mem_of_getElem? (i := 131) rfl)
theorem wd_852 : (Jvm.Cond.privateMethod ({ cls := "FixupVolumeModel", name := "takeBack", desc := "()V" } : Jvm.MethodName)) ∈ lw_tbl := tb_4 (List.mem_of_getElem? (i := 132) rfl)
theorem wd_853 : (Jvm.Cond.instanceMethod ({ cls := "FixupVolumeModel", name := "takeBack", desc := "()V" } : Jvm.MethodName)) ∈ lw_tbl := tb_4 (List.mem_of_getElem? (i := 133) rfl)
theorem wd_854 : (Jvm.Cond.code ({ cls := "FixupVolumeModel", name := "takeBack", desc := "()V" } : Jvm.MethodName) prog_7_method_45_code (2 : Nat) (Option.none : Option Jvm.ClassFile.FieldType)) ∈ lw_tbl := tb_4 (List.mem_of_getElem? (i := 134) rfl)
theorem wd_855 : (Jvm.Cond.methodLink "FixupVolumeModel" (186 : Nat) ({ cls := "FixupVolumeModel", name := "place", desc := "(II)V" } : Jvm.MethodName)) ∈ lw_tbl := tb_4 (List.mem_of_getElem? (i := 135) rfl)
theorem wd_856 : (Jvm.Cond.privateMethod ({ cls := "FixupVolumeModel", name := "place", desc := "(II)V" } : Jvm.MethodName)) ∈ lw_tbl := tb_4 (List.mem_of_getElem? (i := 136) rfl)
theorem wd_857 : (Jvm.Cond.instanceMethod ({ cls := "FixupVolumeModel", name := "place", desc := "(II)V" } : Jvm.MethodName)) ∈ lw_tbl := tb_4 (List.mem_of_getElem? (i := 137) rfl)
theorem wd_858 : (Jvm.Cond.code ({ cls := "FixupVolumeModel", name := "place", desc := "(II)V" } : Jvm.MethodName) prog_7_method_46_code (3 : Nat) (Option.none : Option Jvm.ClassFile.FieldType)) ∈ lw_tbl := tb_4 (List.mem_of_getElem? (i := 138) rfl)
theorem wd_859 : (Jvm.Cond.methodLink "FixupVolumeLaw" (64 : Nat) ({ cls := "FixupVolumeModel", name := "cut", desc := "(II)I" } : Jvm.MethodName)) ∈ lw_tbl := tb_4 (List.mem_of_getElem? (i := 139) rfl)
theorem wd_860 : (Jvm.Cond.instanceMethod ({ cls := "FixupVolumeModel", name := "cut", desc := "(II)I" } : Jvm.MethodName)) ∈ lw_tbl := tb_4 (List.mem_of_getElem? (i := 140) rfl)
theorem wd_861 : (Jvm.Cond.selects "FixupVolumeModel" ({ cls := "FixupVolumeModel", name := "cut", desc := "(II)I" } : Jvm.MethodName) ({ cls := "FixupVolumeModel", name := "cut", desc := "(II)I" } : Jvm.MethodName)) ∈ lw_tbl := tb_4 (List.mem_of_getElem? (i := 141) rfl)
theorem wd_862 : (Jvm.Cond.code ({ cls := "FixupVolumeModel", name := "cut", desc := "(II)I" } : Jvm.MethodName) prog_7_method_49_code (8 : Nat) (Option.some Jvm.ClassFile.FieldType.int)) ∈ lw_tbl := tb_4 (List.mem_of_getElem? (i := 142) rfl)
theorem wd_863 : (Jvm.Cond.methodLink "FixupVolumeLaw" (77 : Nat) ({ cls := "FixupVolumeModel", name := "fail", desc := "(I)Z" } : Jvm.MethodName)) ∈ lw_tbl := tb_4 (List.mem_of_getElem? (i := 143) rfl)
theorem wd_864 : (Jvm.Cond.instanceMethod ({ cls := "FixupVolumeModel", name := "fail", desc := "(I)Z" } : Jvm.MethodName)) ∈ lw_tbl := tb_4 (List.mem_of_getElem? (i := 144) rfl)
theorem wd_865 : (Jvm.Cond.selects "FixupVolumeModel" ({ cls := "FixupVolumeModel", name := "fail", desc := "(I)Z" } : Jvm.MethodName) ({ cls := "FixupVolumeModel", name := "fail", desc := "(I)Z" } : Jvm.MethodName)) ∈ lw_tbl := tb_4 (List.mem_of_getElem? (i := 145) rfl)
theorem wd_866 : (Jvm.Cond.code ({ cls := "FixupVolumeModel", name := "fail", desc := "(I)Z" } : Jvm.MethodName) prog_7_method_50_code (2 : Nat) (Option.some Jvm.ClassFile.FieldType.boolean)) ∈ lw_tbl := tb_4 (List.mem_of_getElem? (i := 146) rfl)
theorem wd_867 : (Jvm.Cond.methodLink "FixupVolumeLaw" (81 : Nat) ({ cls := "FixupVolumeModel", name := "mount", desc := "()I" } : Jvm.MethodName)) ∈ lw_tbl := tb_4 (List.mem_of_getElem? (i := 147) rfl)
theorem wd_868 : (Jvm.Cond.instanceMethod ({ cls := "FixupVolumeModel", name := "mount", desc := "()I" } : Jvm.MethodName)) ∈ lw_tbl := tb_4 (List.mem_of_getElem? (i := 148) rfl)
theorem wd_869 : (Jvm.Cond.selects "FixupVolumeModel" ({ cls := "FixupVolumeModel", name := "mount", desc := "()I" } : Jvm.MethodName) ({ cls := "FixupVolumeModel", name := "mount", desc := "()I" } : Jvm.MethodName)) ∈ lw_tbl := tb_4 (List.mem_of_getElem? (i := 149) rfl)
theorem wd_870 : (Jvm.Cond.code ({ cls := "FixupVolumeModel", name := "mount", desc := "()I" } : Jvm.MethodName) prog_7_method_55_code (3 : Nat) (Option.some Jvm.ClassFile.FieldType.int)) ∈ lw_tbl := tb_4 (List.mem_of_getElem? (i := 150) rfl)
theorem wd_871 : (Jvm.Cond.methodLink "FixupVolumeModel" (199 : Nat) ({ cls := "FixupVolumeModel", name := "isTorn", desc := "(I)Z" } : Jvm.MethodName)) ∈ lw_tbl := tb_4 (List.mem_of_getElem? (i := 151) rfl)
theorem wd_872 : (Jvm.Cond.privateMethod ({ cls := "FixupVolumeModel", name := "isTorn", desc := "(I)Z" } : Jvm.MethodName)) ∈ lw_tbl := tb_4 (List.mem_of_getElem? (i := 152) rfl)
theorem wd_873 : (Jvm.Cond.instanceMethod ({ cls := "FixupVolumeModel", name := "isTorn", desc := "(I)Z" } : Jvm.MethodName)) ∈ lw_tbl := tb_4 (List.mem_of_getElem? (i := 153) rfl)
theorem wd_874 : (Jvm.Cond.code ({ cls := "FixupVolumeModel", name := "isTorn", desc := "(I)Z" } : Jvm.MethodName) prog_7_method_6_code (3 : Nat) (Option.some Jvm.ClassFile.FieldType.boolean)) ∈ lw_tbl := tb_4 (List.mem_of_getElem? (i := 154) rfl)
theorem wd_875 : (Jvm.Cond.methodLink "FixupVolumeModel" (202 : Nat) ({ cls := "FixupVolumeModel", name := "mendRoot", desc := "()Z" } : Jvm.MethodName)) ∈ lw_tbl := tb_4 (List.mem_of_getElem? (i := 155) rfl)
theorem wd_876 : (Jvm.Cond.privateMethod ({ cls := "FixupVolumeModel", name := "mendRoot", desc := "()Z" } : Jvm.MethodName)) ∈ lw_tbl := tb_4 (List.mem_of_getElem? (i := 156) rfl)
theorem wd_877 : (Jvm.Cond.instanceMethod ({ cls := "FixupVolumeModel", name := "mendRoot", desc := "()Z" } : Jvm.MethodName)) ∈ lw_tbl := tb_4 (List.mem_of_getElem? (i := 157) rfl)
theorem wd_878 : (Jvm.Cond.code ({ cls := "FixupVolumeModel", name := "mendRoot", desc := "()Z" } : Jvm.MethodName) prog_7_method_52_code (1 : Nat) (Option.some Jvm.ClassFile.FieldType.boolean)) ∈ lw_tbl := tb_4 (List.mem_of_getElem? (i := 158) rfl)
theorem wd_879 : (Jvm.Cond.methodLink "FixupVolumeModel" (206 : Nat) ({ cls := "FixupVolumeModel", name := "mendParents", desc := "()Z" } : Jvm.MethodName)) ∈ lw_tbl := tb_4 (List.mem_of_getElem? (i := 159) rfl)
theorem wd_880 : (Jvm.Cond.privateMethod ({ cls := "FixupVolumeModel", name := "mendParents", desc := "()Z" } : Jvm.MethodName)) ∈ lw_tbl := tb_4 (List.mem_of_getElem? (i := 160) rfl)
theorem wd_881 : (Jvm.Cond.instanceMethod ({ cls := "FixupVolumeModel", name := "mendParents", desc := "()Z" } : Jvm.MethodName)) ∈ lw_tbl := tb_4 (List.mem_of_getElem? (i := 161) rfl)
theorem wd_882 : (Jvm.Cond.code ({ cls := "FixupVolumeModel", name := "mendParents", desc := "()Z" } : Jvm.MethodName) prog_7_method_53_code (3 : Nat) (Option.some Jvm.ClassFile.FieldType.boolean)) ∈ lw_tbl := tb_4 (List.mem_of_getElem? (i := 162) rfl)
theorem wd_883 : (Jvm.Cond.methodLink "FixupVolumeModel" (196 : Nat) ({ cls := "FixupVolumeModel", name := "leadsUp", desc := "(I)Z" } : Jvm.MethodName)) ∈ lw_tbl := tb_4 (List.mem_of_getElem? (i := 163) rfl)
theorem wd_884 : (Jvm.Cond.privateMethod ({ cls := "FixupVolumeModel", name := "leadsUp", desc := "(I)Z" } : Jvm.MethodName)) ∈ lw_tbl := tb_4 (List.mem_of_getElem? (i := 164) rfl)
theorem wd_885 : (Jvm.Cond.instanceMethod ({ cls := "FixupVolumeModel", name := "leadsUp", desc := "(I)Z" } : Jvm.MethodName)) ∈ lw_tbl := tb_4 (List.mem_of_getElem? (i := 165) rfl)
theorem wd_886 : (Jvm.Cond.code ({ cls := "FixupVolumeModel", name := "leadsUp", desc := "(I)Z" } : Jvm.MethodName) prog_7_method_51_code (4 : Nat) (Option.some Jvm.ClassFile.FieldType.boolean)) ∈ lw_tbl := tb_4 (List.mem_of_getElem? (i := 166) rfl)
theorem wd_887 : (Jvm.Cond.methodLink "FixupVolumeModel" (209 : Nat) ({ cls := "FixupVolumeModel", name := "mendLists", desc := "()Z" } : Jvm.MethodName)) ∈ lw_tbl := tb_4 (List.mem_of_getElem? (i := 167) rfl)
theorem wd_888 : (Jvm.Cond.privateMethod ({ cls := "FixupVolumeModel", name := "mendLists", desc := "()Z" } : Jvm.MethodName)) ∈ lw_tbl := tb_4 (List.mem_of_getElem? (i := 168) rfl)
theorem wd_889 : (Jvm.Cond.instanceMethod ({ cls := "FixupVolumeModel", name := "mendLists", desc := "()Z" } : Jvm.MethodName)) ∈ lw_tbl := tb_4 (List.mem_of_getElem? (i := 169) rfl)
theorem wd_890 : (Jvm.Cond.code ({ cls := "FixupVolumeModel", name := "mendLists", desc := "()Z" } : Jvm.MethodName) prog_7_method_54_code (4 : Nat) (Option.some Jvm.ClassFile.FieldType.boolean)) ∈ lw_tbl := tb_4 (List.mem_of_getElem? (i := 170) rfl)
theorem wd_891 : (Jvm.Cond.methodLink "FixupVolumeLaw" (86 : Nat) ({ cls := "FixupVolumeModel", name := "on", desc := "()Z" } : Jvm.MethodName)) ∈ lw_tbl := tb_4 (List.mem_of_getElem? (i := 171) rfl)
theorem wd_892 : (Jvm.Cond.instanceMethod ({ cls := "FixupVolumeModel", name := "on", desc := "()Z" } : Jvm.MethodName)) ∈ lw_tbl := tb_4 (List.mem_of_getElem? (i := 172) rfl)
theorem wd_893 : (Jvm.Cond.selects "FixupVolumeModel" ({ cls := "FixupVolumeModel", name := "on", desc := "()Z" } : Jvm.MethodName) ({ cls := "FixupVolumeModel", name := "on", desc := "()Z" } : Jvm.MethodName)) ∈ lw_tbl := tb_4 (List.mem_of_getElem? (i := 173) rfl)
theorem wd_894 : (Jvm.Cond.code ({ cls := "FixupVolumeModel", name := "on", desc := "()Z" } : Jvm.MethodName) prog_7_method_56_code (1 : Nat) (Option.some Jvm.ClassFile.FieldType.boolean)) ∈ lw_tbl := tb_4 (List.mem_of_getElem? (i := 174) rfl)
theorem wd_895 : (Jvm.Cond.methodLink "FixupVolumeLaw" (90 : Nat) ({ cls := "FixupVolumeModel", name := "find", desc := "(I)I" } : Jvm.MethodName)) ∈ lw_tbl := tb_4 (List.mem_of_getElem? (i := 175) rfl)
theorem wd_896 : (Jvm.Cond.instanceMethod ({ cls := "FixupVolumeModel", name := "find", desc := "(I)I" } : Jvm.MethodName)) ∈ lw_tbl := tb_4 (List.mem_of_getElem? (i := 176) rfl)
theorem wd_897 : (Jvm.Cond.selects "FixupVolumeModel" ({ cls := "FixupVolumeModel", name := "find", desc := "(I)I" } : Jvm.MethodName) ({ cls := "FixupVolumeModel", name := "find", desc := "(I)I" } : Jvm.MethodName)) ∈ lw_tbl := tb_4 (List.mem_of_getElem? (i := 177) rfl)
theorem wd_898 : (Jvm.Cond.code ({ cls := "FixupVolumeModel", name := "find", desc := "(I)I" } : Jvm.MethodName) prog_7_method_57_code (3 : Nat) (Option.some Jvm.ClassFile.FieldType.int)) ∈ lw_tbl := tb_4 (List.mem_of_getElem? (i := 178) rfl)
theorem wd_899 : (Jvm.Cond.methodLink "FixupVolumeLaw" (94 : Nat) ({ cls := "FixupVolumeModel", name := "record", desc := "(II)I" } : Jvm.MethodName)) ∈ lw_tbl := tb_4 (List.mem_of_getElem? (i := 179) rfl)
theorem wd_900 : (Jvm.Cond.instanceMethod ({ cls := "FixupVolumeModel", name := "record", desc := "(II)I" } : Jvm.MethodName)) ∈ lw_tbl := tb_4 (List.mem_of_getElem? (i := 180) rfl)
theorem wd_901 : (Jvm.Cond.selects "FixupVolumeModel" ({ cls := "FixupVolumeModel", name := "record", desc := "(II)I" } : Jvm.MethodName) ({ cls := "FixupVolumeModel", name := "record", desc := "(II)I" } : Jvm.MethodName)) ∈ lw_tbl := tb_4 (List.mem_of_getElem? (i := 181) rfl)
theorem wd_902 : (Jvm.Cond.code ({ cls := "FixupVolumeModel", name := "record", desc := "(II)I" } : Jvm.MethodName) prog_7_method_59_code (4 : Nat) (Option.some Jvm.ClassFile.FieldType.int)) ∈ lw_tbl := tb_4 (List.mem_of_getElem? (i := 182) rfl)
theorem wd_903 : (Jvm.Cond.methodLink "FixupVolumeModel" (212 : Nat) ({ cls := "FixupVolumeModel", name := "runsOf", desc := "(I)I" } : Jvm.MethodName)) ∈ lw_tbl := tb_4 (List.mem_of_getElem? (i := 183) rfl)
theorem wd_904 : (Jvm.Cond.privateMethod ({ cls := "FixupVolumeModel", name := "runsOf", desc := "(I)I" } : Jvm.MethodName)) ∈ lw_tbl := tb_4 (List.mem_of_getElem? (i := 184) rfl)
theorem wd_905 : (Jvm.Cond.instanceMethod ({ cls := "FixupVolumeModel", name := "runsOf", desc := "(I)I" } : Jvm.MethodName)) ∈ lw_tbl := tb_4 (List.mem_of_getElem? (i := 185) rfl)
theorem wd_906 : (Jvm.Cond.code ({ cls := "FixupVolumeModel", name := "runsOf", desc := "(I)I" } : Jvm.MethodName) prog_7_method_58_code (4 : Nat) (Option.some Jvm.ClassFile.FieldType.int)) ∈ lw_tbl := tb_4 (List.mem_of_getElem? (i := 186) rfl)
theorem wd_907 : (Jvm.Cond.methodLink "FixupVolumeLaw" (98 : Nat) ({ cls := "FixupVolumeModel", name := "read", desc := "(II)I" } : Jvm.MethodName)) ∈ lw_tbl := tb_4 (List.mem_of_getElem? (i := 187) rfl)
theorem wd_908 : (Jvm.Cond.instanceMethod ({ cls := "FixupVolumeModel", name := "read", desc := "(II)I" } : Jvm.MethodName)) ∈ lw_tbl := tb_4 (List.mem_of_getElem? (i := 188) rfl)
theorem wd_909 : (Jvm.Cond.selects "FixupVolumeModel" ({ cls := "FixupVolumeModel", name := "read", desc := "(II)I" } : Jvm.MethodName) ({ cls := "FixupVolumeModel", name := "read", desc := "(II)I" } : Jvm.MethodName)) ∈ lw_tbl := tb_4 (List.mem_of_getElem? (i := 189) rfl)
theorem wd_910 : (Jvm.Cond.code ({ cls := "FixupVolumeModel", name := "read", desc := "(II)I" } : Jvm.MethodName) prog_7_method_60_code (3 : Nat) (Option.some Jvm.ClassFile.FieldType.int)) ∈ lw_tbl := tb_4 (List.mem_of_getElem? (i := 190) rfl)
theorem wd_911 : (Jvm.Cond.methodLink "FixupVolumeLaw" (103 : Nat) ({ cls := "FixupVolumeModel", name := "run", desc := "(III)I" } : Jvm.MethodName)) ∈ lw_tbl := tb_4 (List.mem_of_getElem? (i := 191) rfl)
theorem wd_912 : (Jvm.Cond.instanceMethod ({ cls := "FixupVolumeModel", name := "run", desc := "(III)I" } : Jvm.MethodName)) ∈ lw_tbl := tb_4 (List.mem_of_getElem? (i := 192) rfl)
theorem wd_913 : (Jvm.Cond.selects "FixupVolumeModel" ({ cls := "FixupVolumeModel", name := "run", desc := "(III)I" } : Jvm.MethodName) ({ cls := "FixupVolumeModel", name := "run", desc := "(III)I" } : Jvm.MethodName)) ∈ lw_tbl := tb_4 (List.mem_of_getElem? (i := 193) rfl)
theorem wd_914 : (Jvm.Cond.code ({ cls := "FixupVolumeModel", name := "run", desc := "(III)I" } : Jvm.MethodName) prog_7_method_61_code (8 : Nat) (Option.some Jvm.ClassFile.FieldType.int)) ∈ lw_tbl := tb_4 (List.mem_of_getElem? (i := 194) rfl)
theorem wd_915 : (Jvm.Cond.methodLink "FixupVolumeLaw" (107 : Nat) ({ cls := "FixupVolumeModel", name := "free", desc := "()I" } : Jvm.MethodName)) ∈ lw_tbl := tb_4 (List.mem_of_getElem? (i := 195) rfl)
theorem wd_916 : (Jvm.Cond.instanceMethod ({ cls := "FixupVolumeModel", name := "free", desc := "()I" } : Jvm.MethodName)) ∈ lw_tbl := tb_4 (List.mem_of_getElem? (i := 196) rfl)
theorem wd_917 : (Jvm.Cond.selects "FixupVolumeModel" ({ cls := "FixupVolumeModel", name := "free", desc := "()I" } : Jvm.MethodName) ({ cls := "FixupVolumeModel", name := "free", desc := "()I" } : Jvm.MethodName)) ∈ lw_tbl := tb_4 (List.mem_of_getElem? (i := 197) rfl)
theorem wd_918 : (Jvm.Cond.code ({ cls := "FixupVolumeModel", name := "free", desc := "()I" } : Jvm.MethodName) prog_7_method_62_code (1 : Nat) (Option.some Jvm.ClassFile.FieldType.int)) ∈ lw_tbl := tb_4 (List.mem_of_getElem? (i := 198) rfl)
theorem wd_919 : (Jvm.Cond.methodLink "FixupVolumeLaw" (111 : Nat) ({ cls := "FixupVolumeModel", name := "at", desc := "(I)I" } : Jvm.MethodName)) ∈ lw_tbl := tb_4 (List.mem_of_getElem? (i := 199) rfl)
theorem wd_920 : (Jvm.Cond.instanceMethod ({ cls := "FixupVolumeModel", name := "at", desc := "(I)I" } : Jvm.MethodName)) ∈ lw_tbl := tb_4 (List.mem_of_getElem? (i := 200) rfl)
theorem wd_921 : (Jvm.Cond.selects "FixupVolumeModel" ({ cls := "FixupVolumeModel", name := "at", desc := "(I)I" } : Jvm.MethodName) ({ cls := "FixupVolumeModel", name := "at", desc := "(I)I" } : Jvm.MethodName)) ∈ lw_tbl := tb_4 (List.mem_of_getElem? (i := 201) rfl)
theorem wd_922 : (Jvm.Cond.code ({ cls := "FixupVolumeModel", name := "at", desc := "(I)I" } : Jvm.MethodName) prog_7_method_63_code (2 : Nat) (Option.some Jvm.ClassFile.FieldType.int)) ∈ lw_tbl := tb_4 (List.mem_of_getElem? (i := 202) rfl)
theorem wd_923 : (Jvm.Cond.arrayClass Jvm.ClassFile.FieldType.long) ∈ lw_tbl := tb_4 (List.mem_of_getElem? (i := 203) rfl)
theorem wd_924 : (Jvm.Cond.sameMethod "java/lang/Throwable" "java/lang/Throwable" "fillInStackTrace" "(I)Ljava/lang/Throwable;") ∈ lw_tbl := tb_4 (List.mem_of_getElem? (i := 204) rfl)
theorem tb_p {q : MethodName × Nat} (h : q ∈ lw_privs) : Cond.selects q.1.cls q.1 q.1 ∈ lw_tbl := List.mem_append_left _ (List.mem_map.mpr ⟨q, h, rfl⟩)
theorem wp_0 : Cond.selects "FixupVolume$Sheet" ⟨"FixupVolume$Sheet", "encodeName", "([I)I"⟩ ⟨"FixupVolume$Sheet", "encodeName", "([I)I"⟩ ∈ lw_tbl := tb_p (q := (⟨"FixupVolume$Sheet", "encodeName", "([I)I"⟩, 8)) (List.mem_of_getElem? (i := 0) rfl)
theorem wp_1 : Cond.selects "FixupVolume$Sheet" ⟨"FixupVolume$Sheet", "encodeData", "([II)I"⟩ ⟨"FixupVolume$Sheet", "encodeData", "([II)I"⟩ ∈ lw_tbl := tb_p (q := (⟨"FixupVolume$Sheet", "encodeData", "([II)I"⟩, 8)) (List.mem_of_getElem? (i := 1) rfl)
theorem wp_2 : Cond.selects "FixupVolume$Sheet" ⟨"FixupVolume$Sheet", "setAside", "([III)V"⟩ ⟨"FixupVolume$Sheet", "setAside", "([III)V"⟩ ∈ lw_tbl := tb_p (q := (⟨"FixupVolume$Sheet", "setAside", "([III)V"⟩, 8)) (List.mem_of_getElem? (i := 2) rfl)
theorem wp_3 : Cond.selects "FixupVolume" ⟨"FixupVolume", "isDirectory", "(I)Z"⟩ ⟨"FixupVolume", "isDirectory", "(I)Z"⟩ ∈ lw_tbl := tb_p (q := (⟨"FixupVolume", "isDirectory", "(I)Z"⟩, 9)) (List.mem_of_getElem? (i := 3) rfl)
theorem wp_4 : Cond.selects "FixupVolume" ⟨"FixupVolume", "isUsed", "(I)Z"⟩ ⟨"FixupVolume", "isUsed", "(I)Z"⟩ ∈ lw_tbl := tb_p (q := (⟨"FixupVolume", "isUsed", "(I)Z"⟩, 9)) (List.mem_of_getElem? (i := 4) rfl)
theorem wp_5 : Cond.selects "FixupVolume" ⟨"FixupVolume", "entryNamed", "(ILFixupVolume$Name;)I"⟩ ⟨"FixupVolume", "entryNamed", "(ILFixupVolume$Name;)I"⟩ ∈ lw_tbl := tb_p (q := (⟨"FixupVolume", "entryNamed", "(ILFixupVolume$Name;)I"⟩, 9)) (List.mem_of_getElem? (i := 5) rfl)
theorem wp_6 : Cond.selects "FixupVolume" ⟨"FixupVolume", "isFile", "(I)Z"⟩ ⟨"FixupVolume", "isFile", "(I)Z"⟩ ∈ lw_tbl := tb_p (q := (⟨"FixupVolume", "isFile", "(I)Z"⟩, 9)) (List.mem_of_getElem? (i := 6) rfl)
theorem wp_7 : Cond.selects "FixupVolume" ⟨"FixupVolume", "requireRunning", "()V"⟩ ⟨"FixupVolume", "requireRunning", "()V"⟩ ∈ lw_tbl := tb_p (q := (⟨"FixupVolume", "requireRunning", "()V"⟩, 9)) (List.mem_of_getElem? (i := 7) rfl)
theorem wp_8 : Cond.selects "java/lang/Throwable" ⟨"java/lang/Throwable", "fillInStackTrace", "(I)Ljava/lang/Throwable;"⟩ ⟨"java/lang/Throwable", "fillInStackTrace", "(I)Ljava/lang/Throwable;"⟩ ∈ lw_tbl := tb_p (q := (⟨"java/lang/Throwable", "fillInStackTrace", "(I)Ljava/lang/Throwable;"⟩, 6)) (List.mem_of_getElem? (i := 8) rfl)
theorem wp_9 : Cond.selects "FixupVolume" ⟨"FixupVolume", "lowestFreeRecord", "()I"⟩ ⟨"FixupVolume", "lowestFreeRecord", "()I"⟩ ∈ lw_tbl := tb_p (q := (⟨"FixupVolume", "lowestFreeRecord", "()I"⟩, 9)) (List.mem_of_getElem? (i := 9) rfl)
theorem wp_10 : Cond.selects "FixupVolume" ⟨"FixupVolume", "store", "(I)V"⟩ ⟨"FixupVolume", "store", "(I)V"⟩ ∈ lw_tbl := tb_p (q := (⟨"FixupVolume", "store", "(I)V"⟩, 9)) (List.mem_of_getElem? (i := 10) rfl)
theorem wp_11 : Cond.selects "FixupVolume" ⟨"FixupVolume", "storeSector", "(II)V"⟩ ⟨"FixupVolume", "storeSector", "(II)V"⟩ ∈ lw_tbl := tb_p (q := (⟨"FixupVolume", "storeSector", "(II)V"⟩, 9)) (List.mem_of_getElem? (i := 11) rfl)
theorem wp_12 : Cond.selects "FixupVolume" ⟨"FixupVolume", "enter", "(II)V"⟩ ⟨"FixupVolume", "enter", "(II)V"⟩ ∈ lw_tbl := tb_p (q := (⟨"FixupVolume", "enter", "(II)V"⟩, 9)) (List.mem_of_getElem? (i := 12) rfl)
theorem wp_13 : Cond.selects "FixupVolume" ⟨"FixupVolume", "insertByName", "([III)I"⟩ ⟨"FixupVolume", "insertByName", "([III)I"⟩ ∈ lw_tbl := tb_p (q := (⟨"FixupVolume", "insertByName", "([III)I"⟩, 9)) (List.mem_of_getElem? (i := 13) rfl)
theorem wp_14 : Cond.selects "FixupVolume" ⟨"FixupVolume", "makePlan", "(LFixupVolume$Sheet;III)Z"⟩ ⟨"FixupVolume", "makePlan", "(LFixupVolume$Sheet;III)Z"⟩ ∈ lw_tbl := tb_p (q := (⟨"FixupVolume", "makePlan", "(LFixupVolume$Sheet;III)Z"⟩, 9)) (List.mem_of_getElem? (i := 14) rfl)
theorem wp_15 : Cond.selects "FixupVolume" ⟨"FixupVolume", "lowestFreeCluster", "(I)I"⟩ ⟨"FixupVolume", "lowestFreeCluster", "(I)I"⟩ ∈ lw_tbl := tb_p (q := (⟨"FixupVolume", "lowestFreeCluster", "(I)I"⟩, 9)) (List.mem_of_getElem? (i := 15) rfl)
theorem wp_16 : Cond.selects "FixupVolume" ⟨"FixupVolume", "putOutside", "(LFixupVolume$Sheet;IIII)V"⟩ ⟨"FixupVolume", "putOutside", "(LFixupVolume$Sheet;IIII)V"⟩ ∈ lw_tbl := tb_p (q := (⟨"FixupVolume", "putOutside", "(LFixupVolume$Sheet;IIII)V"⟩, 9)) (List.mem_of_getElem? (i := 16) rfl)
theorem wp_17 : Cond.selects "FixupVolume" ⟨"FixupVolume", "takePlanned", "()V"⟩ ⟨"FixupVolume", "takePlanned", "()V"⟩ ∈ lw_tbl := tb_p (q := (⟨"FixupVolume", "takePlanned", "()V"⟩, 9)) (List.mem_of_getElem? (i := 17) rfl)
theorem wp_18 : Cond.selects "FixupVolume" ⟨"FixupVolume", "releaseFrom", "(LFixupVolume$Layout;I)I"⟩ ⟨"FixupVolume", "releaseFrom", "(LFixupVolume$Layout;I)I"⟩ ∈ lw_tbl := tb_p (q := (⟨"FixupVolume", "releaseFrom", "(LFixupVolume$Layout;I)I"⟩, 9)) (List.mem_of_getElem? (i := 18) rfl)
theorem wp_19 : Cond.selects "FixupVolume" ⟨"FixupVolume", "leave", "(II)V"⟩ ⟨"FixupVolume", "leave", "(II)V"⟩ ∈ lw_tbl := tb_p (q := (⟨"FixupVolume", "leave", "(II)V"⟩, 9)) (List.mem_of_getElem? (i := 19) rfl)
theorem wp_20 : Cond.selects "FixupVolume" ⟨"FixupVolume", "isAtOrBelow", "(II)Z"⟩ ⟨"FixupVolume", "isAtOrBelow", "(II)Z"⟩ ∈ lw_tbl := tb_p (q := (⟨"FixupVolume", "isAtOrBelow", "(II)Z"⟩, 9)) (List.mem_of_getElem? (i := 20) rfl)
theorem wp_21 : Cond.selects "FixupVolume$Sheet" ⟨"FixupVolume$Sheet", "isTorn", "([I)Z"⟩ ⟨"FixupVolume$Sheet", "isTorn", "([I)Z"⟩ ∈ lw_tbl := tb_p (q := (⟨"FixupVolume$Sheet", "isTorn", "([I)Z"⟩, 8)) (List.mem_of_getElem? (i := 21) rfl)
theorem wp_22 : Cond.selects "FixupVolume$Sheet" ⟨"FixupVolume$Sheet", "decodeAttributes", "([I)V"⟩ ⟨"FixupVolume$Sheet", "decodeAttributes", "([I)V"⟩ ∈ lw_tbl := tb_p (q := (⟨"FixupVolume$Sheet", "decodeAttributes", "([I)V"⟩, 8)) (List.mem_of_getElem? (i := 22) rfl)
theorem wp_23 : Cond.selects "FixupVolume$Sheet" ⟨"FixupVolume$Sheet", "decodeAttribute", "([III)V"⟩ ⟨"FixupVolume$Sheet", "decodeAttribute", "([III)V"⟩ ∈ lw_tbl := tb_p (q := (⟨"FixupVolume$Sheet", "decodeAttribute", "([III)V"⟩, 8)) (List.mem_of_getElem? (i := 23) rfl)
theorem wp_24 : Cond.selects "FixupVolume" ⟨"FixupVolume", "restoreRoot", "()I"⟩ ⟨"FixupVolume", "restoreRoot", "()I"⟩ ∈ lw_tbl := tb_p (q := (⟨"FixupVolume", "restoreRoot", "()I"⟩, 9)) (List.mem_of_getElem? (i := 24) rfl)
theorem wp_25 : Cond.selects "FixupVolume" ⟨"FixupVolume", "adoptStrays", "()I"⟩ ⟨"FixupVolume", "adoptStrays", "()I"⟩ ∈ lw_tbl := tb_p (q := (⟨"FixupVolume", "adoptStrays", "()I"⟩, 9)) (List.mem_of_getElem? (i := 25) rfl)
theorem wp_26 : Cond.selects "FixupVolume" ⟨"FixupVolume", "leadsToRoot", "(I)Z"⟩ ⟨"FixupVolume", "leadsToRoot", "(I)Z"⟩ ∈ lw_tbl := tb_p (q := (⟨"FixupVolume", "leadsToRoot", "(I)Z"⟩, 9)) (List.mem_of_getElem? (i := 26) rfl)
theorem wp_27 : Cond.selects "FixupVolume" ⟨"FixupVolume", "mendLists", "()I"⟩ ⟨"FixupVolume", "mendLists", "()I"⟩ ∈ lw_tbl := tb_p (q := (⟨"FixupVolume", "mendLists", "()I"⟩, 9)) (List.mem_of_getElem? (i := 27) rfl)
theorem wp_28 : Cond.selects "FixupVolume" ⟨"FixupVolume", "collectEntries", "(I)I"⟩ ⟨"FixupVolume", "collectEntries", "(I)I"⟩ ∈ lw_tbl := tb_p (q := (⟨"FixupVolume", "collectEntries", "(I)I"⟩, 9)) (List.mem_of_getElem? (i := 28) rfl)
theorem wp_29 : Cond.selects "FixupVolume" ⟨"FixupVolume", "noteTaken", "()V"⟩ ⟨"FixupVolume", "noteTaken", "()V"⟩ ∈ lw_tbl := tb_p (q := (⟨"FixupVolume", "noteTaken", "()V"⟩, 9)) (List.mem_of_getElem? (i := 29) rfl)
theorem wp_30 : Cond.selects "FixupVolumeModel" ⟨"FixupVolumeModel", "begin", "(II)V"⟩ ⟨"FixupVolumeModel", "begin", "(II)V"⟩ ∈ lw_tbl := tb_p (q := (⟨"FixupVolumeModel", "begin", "(II)V"⟩, 17)) (List.mem_of_getElem? (i := 30) rfl)
theorem wp_31 : Cond.selects "FixupVolumeModel" ⟨"FixupVolumeModel", "putList", "()V"⟩ ⟨"FixupVolumeModel", "putList", "()V"⟩ ∈ lw_tbl := tb_p (q := (⟨"FixupVolumeModel", "putList", "()V"⟩, 17)) (List.mem_of_getElem? (i := 31) rfl)
theorem wp_32 : Cond.selects "FixupVolumeModel" ⟨"FixupVolumeModel", "put", "(I)V"⟩ ⟨"FixupVolumeModel", "put", "(I)V"⟩ ∈ lw_tbl := tb_p (q := (⟨"FixupVolumeModel", "put", "(I)V"⟩, 17)) (List.mem_of_getElem? (i := 32) rfl)
theorem wp_33 : Cond.selects "FixupVolumeModel" ⟨"FixupVolumeModel", "store", "(I)Z"⟩ ⟨"FixupVolumeModel", "store", "(I)Z"⟩ ∈ lw_tbl := tb_p (q := (⟨"FixupVolumeModel", "store", "(I)Z"⟩, 17)) (List.mem_of_getElem? (i := 33) rfl)
theorem wp_34 : Cond.selects "FixupVolumeModel" ⟨"FixupVolumeModel", "wordAt", "(I)I"⟩ ⟨"FixupVolumeModel", "wordAt", "(I)I"⟩ ∈ lw_tbl := tb_p (q := (⟨"FixupVolumeModel", "wordAt", "(I)I"⟩, 17)) (List.mem_of_getElem? (i := 34) rfl)
theorem wp_35 : Cond.selects "FixupVolumeModel" ⟨"FixupVolumeModel", "sector", "(II)Z"⟩ ⟨"FixupVolumeModel", "sector", "(II)Z"⟩ ∈ lw_tbl := tb_p (q := (⟨"FixupVolumeModel", "sector", "(II)Z"⟩, 17)) (List.mem_of_getElem? (i := 35) rfl)
theorem wp_36 : Cond.selects "FixupVolumeModel" ⟨"FixupVolumeModel", "makeRecord", "(IZ)I"⟩ ⟨"FixupVolumeModel", "makeRecord", "(IZ)I"⟩ ∈ lw_tbl := tb_p (q := (⟨"FixupVolumeModel", "makeRecord", "(IZ)I"⟩, 17)) (List.mem_of_getElem? (i := 36) rfl)
theorem wp_37 : Cond.selects "FixupVolumeModel" ⟨"FixupVolumeModel", "refuse", "(I)I"⟩ ⟨"FixupVolumeModel", "refuse", "(I)I"⟩ ∈ lw_tbl := tb_p (q := (⟨"FixupVolumeModel", "refuse", "(I)I"⟩, 17)) (List.mem_of_getElem? (i := 37) rfl)
theorem wp_38 : Cond.selects "FixupVolumeModel" ⟨"FixupVolumeModel", "isKind", "(II)Z"⟩ ⟨"FixupVolumeModel", "isKind", "(II)Z"⟩ ∈ lw_tbl := tb_p (q := (⟨"FixupVolumeModel", "isKind", "(II)Z"⟩, 17)) (List.mem_of_getElem? (i := 38) rfl)
theorem wp_39 : Cond.selects "FixupVolumeModel" ⟨"FixupVolumeModel", "isRecord", "(I)Z"⟩ ⟨"FixupVolumeModel", "isRecord", "(I)Z"⟩ ∈ lw_tbl := tb_p (q := (⟨"FixupVolumeModel", "isRecord", "(I)Z"⟩, 17)) (List.mem_of_getElem? (i := 39) rfl)
theorem wp_40 : Cond.selects "FixupVolumeModel" ⟨"FixupVolumeModel", "byteOf", "(II)I"⟩ ⟨"FixupVolumeModel", "byteOf", "(II)I"⟩ ∈ lw_tbl := tb_p (q := (⟨"FixupVolumeModel", "byteOf", "(II)I"⟩, 17)) (List.mem_of_getElem? (i := 40) rfl)
theorem wp_41 : Cond.selects "FixupVolumeModel" ⟨"FixupVolumeModel", "findDraft", "(I)I"⟩ ⟨"FixupVolumeModel", "findDraft", "(I)I"⟩ ∈ lw_tbl := tb_p (q := (⟨"FixupVolumeModel", "findDraft", "(I)I"⟩, 17)) (List.mem_of_getElem? (i := 41) rfl)
theorem wp_42 : Cond.selects "FixupVolumeModel" ⟨"FixupVolumeModel", "listLength", "(I)I"⟩ ⟨"FixupVolumeModel", "listLength", "(I)I"⟩ ∈ lw_tbl := tb_p (q := (⟨"FixupVolumeModel", "listLength", "(I)I"⟩, 17)) (List.mem_of_getElem? (i := 42) rfl)
theorem wp_43 : Cond.selects "FixupVolumeModel" ⟨"FixupVolumeModel", "attribute", "(II)I"⟩ ⟨"FixupVolumeModel", "attribute", "(II)I"⟩ ∈ lw_tbl := tb_p (q := (⟨"FixupVolumeModel", "attribute", "(II)I"⟩, 17)) (List.mem_of_getElem? (i := 43) rfl)
theorem wp_44 : Cond.selects "FixupVolumeModel" ⟨"FixupVolumeModel", "entry", "(II)I"⟩ ⟨"FixupVolumeModel", "entry", "(II)I"⟩ ∈ lw_tbl := tb_p (q := (⟨"FixupVolumeModel", "entry", "(II)I"⟩, 17)) (List.mem_of_getElem? (i := 44) rfl)
theorem wp_45 : Cond.selects "FixupVolumeModel" ⟨"FixupVolumeModel", "isDraft", "(I)Z"⟩ ⟨"FixupVolumeModel", "isDraft", "(I)Z"⟩ ∈ lw_tbl := tb_p (q := (⟨"FixupVolumeModel", "isDraft", "(I)Z"⟩, 17)) (List.mem_of_getElem? (i := 45) rfl)
theorem wp_46 : Cond.selects "FixupVolumeModel" ⟨"FixupVolumeModel", "nameLength", "(I)I"⟩ ⟨"FixupVolumeModel", "nameLength", "(I)I"⟩ ∈ lw_tbl := tb_p (q := (⟨"FixupVolumeModel", "nameLength", "(I)I"⟩, 17)) (List.mem_of_getElem? (i := 46) rfl)
theorem wp_47 : Cond.selects "FixupVolumeModel" ⟨"FixupVolumeModel", "nameAt", "(II)I"⟩ ⟨"FixupVolumeModel", "nameAt", "(II)I"⟩ ∈ lw_tbl := tb_p (q := (⟨"FixupVolumeModel", "nameAt", "(II)I"⟩, 17)) (List.mem_of_getElem? (i := 47) rfl)
theorem wp_48 : Cond.selects "FixupVolumeModel" ⟨"FixupVolumeModel", "putDraft", "()V"⟩ ⟨"FixupVolumeModel", "putDraft", "()V"⟩ ∈ lw_tbl := tb_p (q := (⟨"FixupVolumeModel", "putDraft", "()V"⟩, 17)) (List.mem_of_getElem? (i := 48) rfl)
theorem wp_49 : Cond.selects "FixupVolumeModel" ⟨"FixupVolumeModel", "putInside", "(I)V"⟩ ⟨"FixupVolumeModel", "putInside", "(I)V"⟩ ∈ lw_tbl := tb_p (q := (⟨"FixupVolumeModel", "putInside", "(I)V"⟩, 17)) (List.mem_of_getElem? (i := 49) rfl)
theorem wp_50 : Cond.selects "FixupVolumeModel" ⟨"FixupVolumeModel", "takeList", "(II)V"⟩ ⟨"FixupVolumeModel", "takeList", "(II)V"⟩ ∈ lw_tbl := tb_p (q := (⟨"FixupVolumeModel", "takeList", "(II)V"⟩, 17)) (List.mem_of_getElem? (i := 50) rfl)
theorem wp_51 : Cond.selects "FixupVolumeModel" ⟨"FixupVolumeModel", "join", "(I)V"⟩ ⟨"FixupVolumeModel", "join", "(I)V"⟩ ∈ lw_tbl := tb_p (q := (⟨"FixupVolumeModel", "join", "(I)V"⟩, 17)) (List.mem_of_getElem? (i := 51) rfl)
theorem wp_52 : Cond.selects "FixupVolumeModel" ⟨"FixupVolumeModel", "compareNames", "(II)I"⟩ ⟨"FixupVolumeModel", "compareNames", "(II)I"⟩ ∈ lw_tbl := tb_p (q := (⟨"FixupVolumeModel", "compareNames", "(II)I"⟩, 17)) (List.mem_of_getElem? (i := 52) rfl)
theorem wp_53 : Cond.selects "FixupVolumeModel" ⟨"FixupVolumeModel", "storeList", "(II)Z"⟩ ⟨"FixupVolumeModel", "storeList", "(II)Z"⟩ ∈ lw_tbl := tb_p (q := (⟨"FixupVolumeModel", "storeList", "(II)Z"⟩, 17)) (List.mem_of_getElem? (i := 53) rfl)
theorem wp_54 : Cond.selects "FixupVolumeModel" ⟨"FixupVolumeModel", "putName", "(I)V"⟩ ⟨"FixupVolumeModel", "putName", "(I)V"⟩ ∈ lw_tbl := tb_p (q := (⟨"FixupVolumeModel", "putName", "(I)V"⟩, 17)) (List.mem_of_getElem? (i := 54) rfl)
theorem wp_55 : Cond.selects "FixupVolumeModel" ⟨"FixupVolumeModel", "loadMap", "(I)V"⟩ ⟨"FixupVolumeModel", "loadMap", "(I)V"⟩ ∈ lw_tbl := tb_p (q := (⟨"FixupVolumeModel", "loadMap", "(I)V"⟩, 17)) (List.mem_of_getElem? (i := 55) rfl)
theorem wp_56 : Cond.selects "FixupVolumeModel" ⟨"FixupVolumeModel", "release", "(I)I"⟩ ⟨"FixupVolumeModel", "release", "(I)I"⟩ ∈ lw_tbl := tb_p (q := (⟨"FixupVolumeModel", "release", "(I)I"⟩, 17)) (List.mem_of_getElem? (i := 56) rfl)
theorem wp_57 : Cond.selects "FixupVolumeModel" ⟨"FixupVolumeModel", "isBelow", "(II)Z"⟩ ⟨"FixupVolumeModel", "isBelow", "(II)Z"⟩ ∈ lw_tbl := tb_p (q := (⟨"FixupVolumeModel", "isBelow", "(II)Z"⟩, 17)) (List.mem_of_getElem? (i := 57) rfl)
theorem wp_58 : Cond.selects "FixupVolumeModel" ⟨"FixupVolumeModel", "hasName", "(II)Z"⟩ ⟨"FixupVolumeModel", "hasName", "(II)Z"⟩ ∈ lw_tbl := tb_p (q := (⟨"FixupVolumeModel", "hasName", "(II)Z"⟩, 17)) (List.mem_of_getElem? (i := 58) rfl)
theorem wp_59 : Cond.selects "FixupVolumeModel" ⟨"FixupVolumeModel", "sizeOf", "(I)I"⟩ ⟨"FixupVolumeModel", "sizeOf", "(I)I"⟩ ∈ lw_tbl := tb_p (q := (⟨"FixupVolumeModel", "sizeOf", "(I)I"⟩, 17)) (List.mem_of_getElem? (i := 59) rfl)
theorem wp_60 : Cond.selects "FixupVolumeModel" ⟨"FixupVolumeModel", "isInside", "(I)Z"⟩ ⟨"FixupVolumeModel", "isInside", "(I)Z"⟩ ∈ lw_tbl := tb_p (q := (⟨"FixupVolumeModel", "isInside", "(I)Z"⟩, 17)) (List.mem_of_getElem? (i := 60) rfl)
theorem wp_61 : Cond.selects "FixupVolumeModel" ⟨"FixupVolumeModel", "writeOutside", "(IIII)I"⟩ ⟨"FixupVolumeModel", "writeOutside", "(IIII)I"⟩ ∈ lw_tbl := tb_p (q := (⟨"FixupVolumeModel", "writeOutside", "(IIII)I"⟩, 17)) (List.mem_of_getElem? (i := 61) rfl)
theorem wp_62 : Cond.selects "FixupVolumeModel" ⟨"FixupVolumeModel", "give", "(III)Z"⟩ ⟨"FixupVolumeModel", "give", "(III)Z"⟩ ∈ lw_tbl := tb_p (q := (⟨"FixupVolumeModel", "give", "(III)Z"⟩, 17)) (List.mem_of_getElem? (i := 62) rfl)
theorem wp_63 : Cond.selects "FixupVolumeModel" ⟨"FixupVolumeModel", "freeClusters", "()I"⟩ ⟨"FixupVolumeModel", "freeClusters", "()I"⟩ ∈ lw_tbl := tb_p (q := (⟨"FixupVolumeModel", "freeClusters", "()I"⟩, 17)) (List.mem_of_getElem? (i := 63) rfl)
theorem wp_64 : Cond.selects "FixupVolumeModel" ⟨"FixupVolumeModel", "lowestFree", "()I"⟩ ⟨"FixupVolumeModel", "lowestFree", "()I"⟩ ∈ lw_tbl := tb_p (q := (⟨"FixupVolumeModel", "lowestFree", "()I"⟩, 17)) (List.mem_of_getElem? (i := 64) rfl)
theorem wp_65 : Cond.selects "FixupVolumeModel" ⟨"FixupVolumeModel", "putOutside", "(I)V"⟩ ⟨"FixupVolumeModel", "putOutside", "(I)V"⟩ ∈ lw_tbl := tb_p (q := (⟨"FixupVolumeModel", "putOutside", "(I)V"⟩, 17)) (List.mem_of_getElem? (i := 65) rfl)
theorem wp_66 : Cond.selects "FixupVolumeModel" ⟨"FixupVolumeModel", "takeBack", "()V"⟩ ⟨"FixupVolumeModel", "takeBack", "()V"⟩ ∈ lw_tbl := tb_p (q := (⟨"FixupVolumeModel", "takeBack", "()V"⟩, 17)) (List.mem_of_getElem? (i := 66) rfl)
theorem wp_67 : Cond.selects "FixupVolumeModel" ⟨"FixupVolumeModel", "place", "(II)V"⟩ ⟨"FixupVolumeModel", "place", "(II)V"⟩ ∈ lw_tbl := tb_p (q := (⟨"FixupVolumeModel", "place", "(II)V"⟩, 17)) (List.mem_of_getElem? (i := 67) rfl)
theorem wp_68 : Cond.selects "FixupVolumeModel" ⟨"FixupVolumeModel", "isTorn", "(I)Z"⟩ ⟨"FixupVolumeModel", "isTorn", "(I)Z"⟩ ∈ lw_tbl := tb_p (q := (⟨"FixupVolumeModel", "isTorn", "(I)Z"⟩, 17)) (List.mem_of_getElem? (i := 68) rfl)
theorem wp_69 : Cond.selects "FixupVolumeModel" ⟨"FixupVolumeModel", "mendRoot", "()Z"⟩ ⟨"FixupVolumeModel", "mendRoot", "()Z"⟩ ∈ lw_tbl := tb_p (q := (⟨"FixupVolumeModel", "mendRoot", "()Z"⟩, 17)) (List.mem_of_getElem? (i := 69) rfl)
theorem wp_70 : Cond.selects "FixupVolumeModel" ⟨"FixupVolumeModel", "mendParents", "()Z"⟩ ⟨"FixupVolumeModel", "mendParents", "()Z"⟩ ∈ lw_tbl := tb_p (q := (⟨"FixupVolumeModel", "mendParents", "()Z"⟩, 17)) (List.mem_of_getElem? (i := 70) rfl)
theorem wp_71 : Cond.selects "FixupVolumeModel" ⟨"FixupVolumeModel", "leadsUp", "(I)Z"⟩ ⟨"FixupVolumeModel", "leadsUp", "(I)Z"⟩ ∈ lw_tbl := tb_p (q := (⟨"FixupVolumeModel", "leadsUp", "(I)Z"⟩, 17)) (List.mem_of_getElem? (i := 71) rfl)
theorem wp_72 : Cond.selects "FixupVolumeModel" ⟨"FixupVolumeModel", "mendLists", "()Z"⟩ ⟨"FixupVolumeModel", "mendLists", "()Z"⟩ ∈ lw_tbl := tb_p (q := (⟨"FixupVolumeModel", "mendLists", "()Z"⟩, 17)) (List.mem_of_getElem? (i := 72) rfl)
theorem wp_73 : Cond.selects "FixupVolumeModel" ⟨"FixupVolumeModel", "runsOf", "(I)I"⟩ ⟨"FixupVolumeModel", "runsOf", "(I)I"⟩ ∈ lw_tbl := tb_p (q := (⟨"FixupVolumeModel", "runsOf", "(I)I"⟩, 17)) (List.mem_of_getElem? (i := 73) rfl)
end
section
/-! The judgement fx_Go: a method's run over a pure state (cells by number, at the addresses behind the law's start). -/
/-- (cells that are followed, cells of exceptions, slots of all of them), (kind, length) of a cell, its numbers, its references, its longs -/
abbrev fx_S : Type := (Nat × Nat × Nat) × (Nat → Nat × Nat) × (Nat → Nat → Int32) × (Nat → Nat → Option Nat) × (Nat → Nat → Int64)
def fx_m (S : fx_S) : Nat := S.1.1
def fx_x (S : fx_S) : Nat := S.1.2.1
def fx_k (S : fx_S) : Nat := S.1.2.2
def fx_kd (S : fx_S) (i : Nat) : Nat := (S.2.1 i).1
def fx_ln (S : fx_S) (i : Nat) : Nat := (S.2.1 i).2
def fx_I (S : fx_S) : Nat → Nat → Int32 := S.2.2.1
def fx_P (S : fx_S) : Nat → Nat → Option Nat := S.2.2.2.1
def fx_J (S : fx_S) : Nat → Nat → Int64 := S.2.2.2.2
def fx_row {α : Type} (f : Nat → Nat → α) (a : Nat) (g : Nat → α) : Nat → Nat → α := fun b => if b = a then g else f b
theorem fx_row_self {α : Type} (f : Nat → Nat → α) (a : Nat) (g : Nat → α) : fx_row f a g a = g := by simp [fx_row]
theorem fx_row_ne {α : Type} (f : Nat → Nat → α) {a b : Nat} (g : Nat → α) (h : b ≠ a) : fx_row f a g b = f b := by simp [fx_row, h]
def fx_setR (S : fx_S) (a : Nat) (g : Nat → Int32) : fx_S := (S.1, S.2.1, fx_row S.2.2.1 a g, S.2.2.2)
def fx_setI (S : fx_S) (a j : Nat) (x : Int32) : fx_S := fx_setR S a (upd (fx_I S a) j x)
def fx_setP (S : fx_S) (a j : Nat) (r : Option Nat) : fx_S := (S.1, S.2.1, S.2.2.1, fx_row S.2.2.2.1 a (va_up (fx_P S a) j r), S.2.2.2.2)
def fx_setJ (S : fx_S) (a j : Nat) (x : Int64) : fx_S := (S.1, S.2.1, S.2.2.1, S.2.2.2.1, fx_row S.2.2.2.2 a (vp_updL (fx_J S a) j x))
/-- a new cell of a kind, with so many slots -/
def fx_new (S : fx_S) (kd ln sl : Nat) : fx_S := ((S.1.1 + 1, S.1.2.1, S.1.2.2 + sl), (fun i => if i = S.1.1 then (kd, ln) else S.2.1 i), fx_row S.2.2.1 S.1.1 (fun _ => 0), fx_row S.2.2.2.1 S.1.1 (fun _ => none), fx_row S.2.2.2.2 S.1.1 (fun _ => 0))
abbrev fx_G : Type := State × Array Value × va_G × (Nat → ClassId)
def fx_B (G : fx_G) : Nat := G.1.heap.size
def fx_rf (G : fx_G) (r : Option Nat) : Option Nat := r.map (fun i => fx_B G + i)
abbrev fx_r (G : fx_G) (a : Nat) : Value := .ref (fx_B G + a)
def fx_N (c : Nat) : Nat := match vwCl[c]? with
  | some q => q.2.2
  | none => 0
def fx_isr (c j : Nat) : Bool := match vwCl[c]? with
  | some q => !((q.2.1 j).2.2.1 == "I" || (q.2.1 j).2.2.1 == "Z")
  | none => false
def fx_fs (G : fx_G) (S : fx_S) (c i : Nat) : List Value := (List.range (fx_N c)).map (fun j => if fx_isr c j = true then va_rf (fx_rf G (fx_P S i j)) else .int (fx_I S i j))
def fx_ent (G : fx_G) (S : fx_S) (i : Nat) : va_E :=
  if fx_kd S i = 100 then .inl (G.2.2.2 0, fx_ln S i, .inl (fx_I S i))
  else if fx_kd S i = 101 then .inl (G.2.2.2 1, fx_ln S i, .inl (fx_I S i))
  else if fx_kd S i = 102 then .inl (G.2.2.2 2, fx_ln S i, .inl (fx_I S i))
  else if fx_kd S i = 103 then .inl (G.2.2.2 3, fx_ln S i, .inr (.inl (fx_J S i)))
  else if fx_kd S i = 104 then .inl (G.2.2.2 4, fx_ln S i, .inr (.inr (.inr (.inr (fun j => fx_rf G (fx_P S i j))))))
  else .inr (fx_kd S i, fx_fs G S (fx_kd S i) i)
def fx_tys (cA : Nat → ClassId) : List (ClassId × FieldType) := [(cA 0, .int), (cA 1, .boolean), (cA 2, .char), (cA 3, .long), (cA 4, .object "FixupVolume$Sheet")]
/-- what holds of the start for the whole run -/
def fx_ok (G : fx_G) : Prop := (∀ w ∈ lw_tbl, w.before G.2.1 G.1 = true) ∧ va_K G.2.2.1 vwCl (fx_tys G.2.2.2) G.1 ∧ (Jvm.Cond.and given_1 narrow_1).before G.2.1 G.1 = true
/-- the heap holds the state -/
def fx_H (G : fx_G) (S : fx_S) (H : Heap) (locs : List Loc) : Prop :=
  (∀ i, i < fx_m S → va_at G.2.2.1 vwCl (fx_B G + i, fx_ent G S i) H) ∧ (∀ q, q < fx_B G → H[q]? = G.1.heap[q]?) ∧ H.size = fx_B G + fx_m S + fx_x S ∧ ∀ q ∈ locs, fx_B G ≤ q.base
/-- the room that is left for cells and slots: 2000 and 20000 in all -/
def fx_L (S : fx_S) (R : Room) (cells slots : Nat) : Prop := cells + (2000 - (fx_m S + fx_x S)) ≤ R.cells ∧ slots + (20000 - fx_k S) ≤ R.slots
/-- name, code, locals, answer's type, handlers -/
abbrev fx_M : Type := fx_M0
def fx_C (G : fx_G) (d : Nat × Nat) (M : fx_M) (p : Program) (l : Launch) (R : Room) (s : State) (m : MethodId) (meth : Method) (c : Code) : Prop :=
  (p.tables.exec = Jvm.exec ∧ c.code = M.2.1 ∧ c.maxLocals = M.2.2.1 ∧ meth.sig.returnType = M.2.2.2.1 ∧ meth.locks = false ∧ c.exceptionTable.toList.map (fun h => (h.startPc, h.endPc, h.handlerPc, h.catchType)) = M.2.2.2.2) ∧
  (s.vm.findClass M.1.cls = some m.cls ∧ meth.name = M.1.name ∧ G.1.WarmedH s.vm ∧ l.flags = flags0) ∧ (d.1 ≤ R.frames ∧ d.2 ≤ R.locals) ∧ fx_ok G
abbrev fx_R : Type := Option Value ⊕ Nat
/-- the names of what may be thrown -/
def fx_ex (k : Nat) : String := if k = 1 then "java/lang/IllegalStateException" else if k = 2 then "java/lang/IllegalArgumentException" else "java/lang/UnsupportedOperationException"
def fx_O (G : fx_G) (t : State) (S : fx_S) (Q : fx_R → fx_S → Prop) : Outcome → Prop
  | .returned v => Q (.inl v) S
  | .threw a => ∃ (k : Nat) (cell : Cell), t.heap[a]? = some cell ∧ cell.vm.isStatics = false ∧ G.1.vm.findClass (fx_ex k) = some cell.cls ∧ Q (.inr k) S
def fx_E (G : fx_G) (R : Room) (s : State) (below : List Frame) (Q : fx_R → fx_S → Prop) : State → Prop := fun t =>
  t.status = .running ∧ ∃ (o : Outcome) (S : fx_S) (L : List Loc) (k n : Nat), Ended t below o ∧ s.WarmedH t.vm ∧ s.sameButNew ({ t with vm := s.vm } : State) L k n ∧ fx_H G S t.heap L ∧ fx_L S R k n ∧ fx_O G t S Q o
def fx_Go (G : fx_G) (d : Nat × Nat) (M : fx_M) (pc : Nat) (L : List (Nat × Value)) (st : List Value) (S : fx_S) (Q : fx_R → fx_S → Prop) : Prop :=
  ∀ (p : Program) (l : Launch) (e : Env) (R : Room) (s : State) (m : MethodId) (args : Array Value) (below : List Frame) (meth : Method) (c : Code) (H : Heap) (locs : List Loc) (cells slots : Nat) (ls : Array Slot),
    fx_C G d M p l R s m meth c → fx_H G S H locs → fx_L S R cells slots → lv_has ls M.2.2.1 L → W p l e R s m args below meth c H locs cells slots (fx_E G R s below Q) (F0 m pc ls st)
section FXC
variable {G : fx_G} {d : Nat × Nat} {M : fx_M} {p : Program} {l : Launch} {R : Room} {s : State} {m : MethodId} {meth : Method} {c : Code}
theorem fx_C.x (h : fx_C G d M p l R s m meth c) : p.tables.exec = Jvm.exec := h.1.1
theorem fx_C.cc (h : fx_C G d M p l R s m meth c) : c.code = M.2.1 := h.1.2.1
theorem fx_C.ml (h : fx_C G d M p l R s m meth c) : c.maxLocals = M.2.2.1 := h.1.2.2.1
theorem fx_C.ret (h : fx_C G d M p l R s m meth c) : meth.sig.returnType = M.2.2.2.1 := h.1.2.2.2.1
theorem fx_C.lk (h : fx_C G d M p l R s m meth c) : meth.locks = false := h.1.2.2.2.2.1
theorem fx_C.own (h : fx_C G d M p l R s m meth c) : s.vm.findClass M.1.cls = some m.cls := h.2.1.1
theorem fx_C.warm (h : fx_C G d M p l R s m meth c) : G.1.WarmedH s.vm := h.2.1.2.2.1
theorem fx_C.K (h : fx_C G d M p l R s m meth c) : va_K G.2.2.1 vwCl (fx_tys G.2.2.2) s := va_K.moved h.warm.alike h.2.2.2.2.1
theorem fx_C.w (h : fx_C G d M p l R s m meth c) {w : Cond} (hw : w ∈ lw_tbl) (hg : (w.onTables && w.keeps) = true ∨ ∃ ty, w = .arrayClass ty) (a : Array Value) : w.before a s = true := word_at h.warm hg (h.2.2.2.1 w hw)
end FXC
theorem fx_wmono {p : Program} {l : Launch} {e : Env} {R : Room} {s : State} {m : MethodId} {args : Array Value} {below : List Frame} {meth : Method} {c : Code} {H : Heap} {locs : List Loc} {cells slots : Nat} {Q Q' : State → Prop} {g : JFrame} (h : ∀ t, Q t → Q' t)
    (k : W p l e R s m args below meth c H locs cells slots Q g) : W p l e R s m args below meth c H locs cells slots Q' g := by
  intro T hT X
  obtain ⟨t, a, b⟩ := k T hT X
  exact ⟨t, a, h t b⟩
theorem fx_ent_obj {G : fx_G} {S : fx_S} {i c : Nat} (hk : fx_kd S i = c) (hc : c < 100) : fx_ent G S i = .inr (c, fx_fs G S c i) := by
  subst hk
  simp only [fx_ent]
  rw [if_neg (by omega), if_neg (by omega), if_neg (by omega), if_neg (by omega), if_neg (by omega)]
theorem fx_ent_i {G : fx_G} {S : fx_S} {i : Nat} (hk : fx_kd S i = 100) : fx_ent G S i = .inl (G.2.2.2 0, fx_ln S i, .inl (fx_I S i)) := by simp [fx_ent, hk]
theorem fx_ent_z {G : fx_G} {S : fx_S} {i : Nat} (hk : fx_kd S i = 101) : fx_ent G S i = .inl (G.2.2.2 1, fx_ln S i, .inl (fx_I S i)) := by simp [fx_ent, hk]
theorem fx_ent_c {G : fx_G} {S : fx_S} {i : Nat} (hk : fx_kd S i = 102) : fx_ent G S i = .inl (G.2.2.2 2, fx_ln S i, .inl (fx_I S i)) := by simp [fx_ent, hk]
theorem fx_ent_l {G : fx_G} {S : fx_S} {i : Nat} (hk : fx_kd S i = 103) : fx_ent G S i = .inl (G.2.2.2 3, fx_ln S i, .inr (.inl (fx_J S i))) := by simp [fx_ent, hk]
theorem fx_ent_q {G : fx_G} {S : fx_S} {i : Nat} (hk : fx_kd S i = 104) : fx_ent G S i = .inl (G.2.2.2 4, fx_ln S i, .inr (.inr (.inr (.inr (fun j => fx_rf G (fx_P S i j)))))) := by simp [fx_ent, hk]
/-- one cell has changed -/
theorem fx_H.upd {G : fx_G} {S S' : fx_S} {H H' : Heap} {locs : List Loc} {a k : Nat} (h : fx_H G S H locs) (hz : H'.size = H.size) (ho : ∀ q, q ≠ fx_B G + a → H'[q]? = H[q]?) (ha : va_at G.2.2.1 vwCl (fx_B G + a, fx_ent G S' a) H')
    (he : ∀ i, i ≠ a → fx_ent G S' i = fx_ent G S i) (h1 : S'.1 = S.1) : fx_H G S' H' (locs ++ [⟨fx_B G + a, k⟩]) := by
  obtain ⟨hP, hO, hS, hl⟩ := h
  have hm : fx_m S' = fx_m S := by unfold fx_m; rw [h1]
  have hx : fx_x S' = fx_x S := by unfold fx_x; rw [h1]
  refine ⟨fun i hi => ?_, fun q hq => ?_, by rw [hz, hS, hm, hx], fun q hq => ?_⟩
  · by_cases hia : i = a
    · subst hia; exact ha
    · rw [he i hia]
      exact (hP i (by rw [← hm]; exact hi)).kept (ho _ (fun z => hia (Nat.add_left_cancel z)))
  · rw [ho q (by omega)]; exact hO q hq
  · rcases List.mem_append.mp hq with h | h
    · exact hl q h
    · rw [List.mem_singleton.mp h]; exact Nat.le_add_right _ _
theorem fx_setR_ent {G : fx_G} {S : fx_S} {a : Nat} {g : Nat → Int32} {i : Nat} (h : i ≠ a) : fx_ent G (fx_setR S a g) i = fx_ent G S i := by
  have e1 : fx_I (fx_setR S a g) i = fx_I S i := fx_row_ne _ _ h
  simp only [fx_ent, fx_fs, e1]
  rfl
theorem fx_setP_ent {G : fx_G} {S : fx_S} {a j : Nat} {r : Option Nat} {i : Nat} (h : i ≠ a) : fx_ent G (fx_setP S a j r) i = fx_ent G S i := by
  have e1 : fx_P (fx_setP S a j r) i = fx_P S i := fx_row_ne _ _ h
  simp only [fx_ent, fx_fs, e1]
  rfl
theorem fx_setJ_ent {G : fx_G} {S : fx_S} {a j : Nat} {x : Int64} {i : Nat} (h : i ≠ a) : fx_ent G (fx_setJ S a j x) i = fx_ent G S i := by
  have e1 : fx_J (fx_setJ S a j x) i = fx_J S i := fx_row_ne _ _ h
  simp only [fx_ent, fx_fs, e1]
  rfl
def fx_ct (vs : List Value) : Nat := (vs.map fun v => v.category).sum
theorem fx_nx {P : (Nat × Nat × Nat × Nat) → Prop} : ∀ x ∈ ([] : List (Nat × Nat × Nat × Nat)), P x := fun _ h => absurd h List.not_mem_nil
end
section
section FXR
variable {G : fx_G} {d : Nat × Nat} {M : fx_M} {pc n : Nat} {L L' : List (Nat × Value)} {st : List Value} {S : fx_S} {Q : fx_R → fx_S → Prop}
theorem fx_iconst {k : Int} {v : Int32} (hd : decode M.2.1 pc = .ok (.iconst k, 1)) (hv : Int32.ofInt k = v) (hn : pc + 1 = n) (kk : fx_Go G d M n L (.int v :: st) S Q) : fx_Go G d M pc L st S Q := by
  subst hn
  intro p l e R s m args below meth c H locs cells slots ls hC hH hB hl
  exact lv_iconst hC.x hC.cc hd hv (kk p l e R s m args below meth c H locs cells slots ls hC hH hB hl)
theorem fx_bipush {k : Int} {v : Int32} (hd : decode M.2.1 pc = .ok (.bipush k, 2)) (hv : (Int8.ofInt k).toInt32 = v) (hn : pc + 2 = n) (kk : fx_Go G d M n L (.int v :: st) S Q) : fx_Go G d M pc L st S Q := by
  subst hn
  intro p l e R s m args below meth c H locs cells slots ls hC hH hB hl
  exact lv_bipush hC.x hC.cc hd hv (kk p l e R s m args below meth c H locs cells slots ls hC hH hB hl)
theorem fx_sipush {k : Int} {v : Int32} (hd : decode M.2.1 pc = .ok (.sipush k, 3)) (hv : (Int16.ofInt k).toInt32 = v) (hn : pc + 3 = n) (kk : fx_Go G d M n L (.int v :: st) S Q) : fx_Go G d M pc L st S Q := by
  subst hn
  intro p l e R s m args below meth c H locs cells slots ls hC hH hB hl
  exact lv_sipush hC.x hC.cc hd hv (kk p l e R s m args below meth c H locs cells slots ls hC hH hB hl)
theorem fx_iload_n {k : Fin 4} {i : Nat} {x : Int32} (hd : decode M.2.1 pc = .ok (.iload_n k, 1)) (hi : (k : Nat) = i) (q : Nat) (hq : L[q]? = some (i, .int x)) (hn : pc + 1 = n) (kk : fx_Go G d M n L (.int x :: st) S Q) : fx_Go G d M pc L st S Q := by
  subst hn
  intro p l e R s m args below meth c H locs cells slots ls hC hH hB hl
  exact lv_iload_n hC.x hC.cc hd hi (lv_at hl q hq) (kk p l e R s m args below meth c H locs cells slots ls hC hH hB hl)
theorem fx_iload {i : Nat} {x : Int32} (hd : decode M.2.1 pc = .ok (.iload i, 2)) (q : Nat) (hq : L[q]? = some (i, .int x)) (hn : pc + 2 = n) (kk : fx_Go G d M n L (.int x :: st) S Q) : fx_Go G d M pc L st S Q := by
  subst hn
  intro p l e R s m args below meth c H locs cells slots ls hC hH hB hl
  exact lv_iload hC.x hC.cc hd (lv_at hl q hq) (kk p l e R s m args below meth c H locs cells slots ls hC hH hB hl)
theorem fx_aload_n {k : Fin 4} {i x : Nat} (hd : decode M.2.1 pc = .ok (.aload_n k, 1)) (hi : (k : Nat) = i) (q : Nat) (hq : L[q]? = some (i, .ref x)) (hn : pc + 1 = n) (kk : fx_Go G d M n L (.ref x :: st) S Q) : fx_Go G d M pc L st S Q := by
  subst hn
  intro p l e R s m args below meth c H locs cells slots ls hC hH hB hl
  exact lv_aload_n hC.x hC.cc hd hi (lv_at hl q hq) (kk p l e R s m args below meth c H locs cells slots ls hC hH hB hl)
theorem fx_aload {i x : Nat} (hd : decode M.2.1 pc = .ok (.aload i, 2)) (q : Nat) (hq : L[q]? = some (i, .ref x)) (hn : pc + 2 = n) (kk : fx_Go G d M n L (.ref x :: st) S Q) : fx_Go G d M pc L st S Q := by
  subst hn
  intro p l e R s m args below meth c H locs cells slots ls hC hH hB hl
  exact lv_aload hC.x hC.cc hd (lv_at hl q hq) (kk p l e R s m args below meth c H locs cells slots ls hC hH hB hl)
theorem fx_istore_n {k : Fin 4} {i : Nat} {x : Int32} (hd : decode M.2.1 pc = .ok (.istore_n k, 1)) (hi : (k : Nat) = i) (hb : i < M.2.2.1) (hL : (i, Value.int x) :: L.filter (fun q => !(q.1 == i) && !(q.1 + 1 == i && q.2.category == 2)) = L') (hn : pc + 1 = n) (kk : fx_Go G d M n L' st S Q) : fx_Go G d M pc L (.int x :: st) S Q := by
  subst hn
  intro p l e R s m args below meth c H locs cells slots ls hC hH hB hl
  exact lv_istore_n hC.x hC.cc hd hi hl hb hL (fun ls1 hl1 => kk p l e R s m args below meth c H locs cells slots ls1 hC hH hB hl1)
theorem fx_istore {i : Nat} {x : Int32} (hd : decode M.2.1 pc = .ok (.istore i, 2)) (hb : i < M.2.2.1) (hL : (i, Value.int x) :: L.filter (fun q => !(q.1 == i) && !(q.1 + 1 == i && q.2.category == 2)) = L') (hn : pc + 2 = n) (kk : fx_Go G d M n L' st S Q) : fx_Go G d M pc L (.int x :: st) S Q := by
  subst hn
  intro p l e R s m args below meth c H locs cells slots ls hC hH hB hl
  exact lv_istore hC.x hC.cc hd hl hb hL (fun ls1 hl1 => kk p l e R s m args below meth c H locs cells slots ls1 hC hH hB hl1)
theorem fx_astore_n {k : Fin 4} {i : Nat} {x : Nat} (hd : decode M.2.1 pc = .ok (.astore_n k, 1)) (hi : (k : Nat) = i) (hb : i < M.2.2.1) (hL : (i, Value.ref x) :: L.filter (fun q => !(q.1 == i) && !(q.1 + 1 == i && q.2.category == 2)) = L') (hn : pc + 1 = n) (kk : fx_Go G d M n L' st S Q) : fx_Go G d M pc L (.ref x :: st) S Q := by
  subst hn
  intro p l e R s m args below meth c H locs cells slots ls hC hH hB hl
  exact lv_astore_n hC.x hC.cc hd hi hl hb hL (fun ls1 hl1 => kk p l e R s m args below meth c H locs cells slots ls1 hC hH hB hl1)
theorem fx_astore {i : Nat} {x : Nat} (hd : decode M.2.1 pc = .ok (.astore i, 2)) (hb : i < M.2.2.1) (hL : (i, Value.ref x) :: L.filter (fun q => !(q.1 == i) && !(q.1 + 1 == i && q.2.category == 2)) = L') (hn : pc + 2 = n) (kk : fx_Go G d M n L' st S Q) : fx_Go G d M pc L (.ref x :: st) S Q := by
  subst hn
  intro p l e R s m args below meth c H locs cells slots ls hC hH hB hl
  exact lv_astore hC.x hC.cc hd hl hb hL (fun ls1 hl1 => kk p l e R s m args below meth c H locs cells slots ls1 hC hH hB hl1)
theorem fx_iinc {i : Nat} {k : Int} {x v : Int32} (hd : decode M.2.1 pc = .ok (.iinc i k, 3)) (q : Nat) (hq : L[q]? = some (i, .int x)) (hv : x + Int32.ofInt k = v) (hb : i < M.2.2.1) (hL : (i, Value.int v) :: L.filter (fun q => !(q.1 == i) && !(q.1 + 1 == i && q.2.category == 2)) = L') (hn : pc + 3 = n) (kk : fx_Go G d M n L' st S Q) : fx_Go G d M pc L st S Q := by
  subst hn
  intro p l e R s m args below meth c H locs cells slots ls hC hH hB hl
  exact lv_iinc hC.x hC.cc hd hl hq hv hb hL (fun ls1 hl1 => kk p l e R s m args below meth c H locs cells slots ls1 hC hH hB hl1)
theorem fx_iadd {x y : Int32} (hd : decode M.2.1 pc = .ok (.iadd, 1)) (hn : pc + 1 = n) (kk : fx_Go G d M n L (.int (x + y) :: st) S Q) : fx_Go G d M pc L (.int y :: .int x :: st) S Q := by
  subst hn
  intro p l e R s m args below meth c H locs cells slots ls hC hH hB hl
  exact lv_iadd hC.x hC.cc hd (kk p l e R s m args below meth c H locs cells slots ls hC hH hB hl)
theorem fx_isub {x y : Int32} (hd : decode M.2.1 pc = .ok (.isub, 1)) (hn : pc + 1 = n) (kk : fx_Go G d M n L (.int (x - y) :: st) S Q) : fx_Go G d M pc L (.int y :: .int x :: st) S Q := by
  subst hn
  intro p l e R s m args below meth c H locs cells slots ls hC hH hB hl
  exact lv_isub hC.x hC.cc hd (kk p l e R s m args below meth c H locs cells slots ls hC hH hB hl)
theorem fx_imul {x y : Int32} (hd : decode M.2.1 pc = .ok (.imul, 1)) (hn : pc + 1 = n) (kk : fx_Go G d M n L (.int (x * y) :: st) S Q) : fx_Go G d M pc L (.int y :: .int x :: st) S Q := by
  subst hn
  intro p l e R s m args below meth c H locs cells slots ls hC hH hB hl
  exact lv_imul hC.x hC.cc hd (kk p l e R s m args below meth c H locs cells slots ls hC hH hB hl)
theorem fx_iand {x y : Int32} (hd : decode M.2.1 pc = .ok (.iand, 1)) (hn : pc + 1 = n) (kk : fx_Go G d M n L (.int (x &&& y) :: st) S Q) : fx_Go G d M pc L (.int y :: .int x :: st) S Q := by
  subst hn
  intro p l e R s m args below meth c H locs cells slots ls hC hH hB hl
  exact lv_iand hC.x hC.cc hd (kk p l e R s m args below meth c H locs cells slots ls hC hH hB hl)
theorem fx_ior {x y : Int32} (hd : decode M.2.1 pc = .ok (.ior, 1)) (hn : pc + 1 = n) (kk : fx_Go G d M n L (.int (x ||| y) :: st) S Q) : fx_Go G d M pc L (.int y :: .int x :: st) S Q := by
  subst hn
  intro p l e R s m args below meth c H locs cells slots ls hC hH hB hl
  exact lv_ior hC.x hC.cc hd (kk p l e R s m args below meth c H locs cells slots ls hC hH hB hl)
theorem fx_ishr {x y : Int32} (hd : decode M.2.1 pc = .ok (.ishr, 1)) (hn : pc + 1 = n) (kk : fx_Go G d M n L (.int (x >>> (y &&& 31)) :: st) S Q) : fx_Go G d M pc L (.int y :: .int x :: st) S Q := by
  subst hn
  intro p l e R s m args below meth c H locs cells slots ls hC hH hB hl
  exact lv_ishr hC.x hC.cc hd (kk p l e R s m args below meth c H locs cells slots ls hC hH hB hl)
theorem fx_idiv {x y : Int32} (hd : decode M.2.1 pc = .ok (.idiv, 1)) (hne : ¬ y = 0) (hn : pc + 1 = n) (kk : fx_Go G d M n L (.int (x / y) :: st) S Q) : fx_Go G d M pc L (.int y :: .int x :: st) S Q := by
  subst hn
  intro p l e R s m args below meth c H locs cells slots ls hC hH hB hl
  exact lv_idiv hC.x hC.cc hd hne (kk p l e R s m args below meth c H locs cells slots ls hC hH hB hl)
theorem fx_irem {x y : Int32} (hd : decode M.2.1 pc = .ok (.irem, 1)) (hne : ¬ y = 0) (hn : pc + 1 = n) (kk : fx_Go G d M n L (.int (x - x / y * y) :: st) S Q) : fx_Go G d M pc L (.int y :: .int x :: st) S Q := by
  subst hn
  intro p l e R s m args below meth c H locs cells slots ls hC hH hB hl
  exact lv_irem hC.x hC.cc hd hne (kk p l e R s m args below meth c H locs cells slots ls hC hH hB hl)
theorem fx_i2l {x : Int32} (hd : decode M.2.1 pc = .ok (.i2l, 1)) (hn : pc + 1 = n) (kk : fx_Go G d M n L (.long x.toInt64 :: st) S Q) : fx_Go G d M pc L (.int x :: st) S Q := by
  subst hn
  intro p l e R s m args below meth c H locs cells slots ls hC hH hB hl
  exact lv_i2l hC.x hC.cc hd rfl (kk p l e R s m args below meth c H locs cells slots ls hC hH hB hl)
theorem fx_i2c {x : Int32} (hd : decode M.2.1 pc = .ok (.i2c, 1)) (hn : pc + 1 = n) (kk : fx_Go G d M n L (.int (x.toUInt32 % 65536).toInt32 :: st) S Q) : fx_Go G d M pc L (.int x :: st) S Q := by
  subst hn
  intro p l e R s m args below meth c H locs cells slots ls hC hH hB hl
  exact lv_i2c hC.x hC.cc hd rfl (kk p l e R s m args below meth c H locs cells slots ls hC hH hB hl)
theorem fx_lcmp {x y : Int64} (hd : decode M.2.1 pc = .ok (.lcmp, 1)) (hn : pc + 1 = n) (kk : fx_Go G d M n L (.int (lg_cmp x y) :: st) S Q) : fx_Go G d M pc L (.long y :: .long x :: st) S Q := by
  subst hn
  intro p l e R s m args below meth c H locs cells slots ls hC hH hB hl
  exact W.lcmp hC.x hC.cc hd (kk p l e R s m args below meth c H locs cells slots ls hC hH hB hl)
theorem fx_dup {va : Value} (hd : decode M.2.1 pc = .ok (.dup, 1)) (hva : va.category = 1) (hn : pc + 1 = n) (kk : fx_Go G d M n L (va :: va :: st) S Q) : fx_Go G d M pc L (va :: st) S Q := by
  subst hn
  intro p l e R s m args below meth c H locs cells slots ls hC hH hB hl
  exact lv_dup hC.x hC.cc hd hva (kk p l e R s m args below meth c H locs cells slots ls hC hH hB hl)
theorem fx_pop {va : Value} (hd : decode M.2.1 pc = .ok (.pop, 1)) (hva : va.category = 1) (hn : pc + 1 = n) (kk : fx_Go G d M n L st S Q) : fx_Go G d M pc L (va :: st) S Q := by
  subst hn
  intro p l e R s m args below meth c H locs cells slots ls hC hH hB hl
  exact lv_pop hC.x hC.cc hd hva (kk p l e R s m args below meth c H locs cells slots ls hC hH hB hl)
theorem fx_dup2 {va vb : Value} (hd : decode M.2.1 pc = .ok (.dup2, 1)) (hva : va.category = 1) (hvb : vb.category = 1) (hn : pc + 1 = n) (kk : fx_Go G d M n L (va :: vb :: va :: vb :: st) S Q) : fx_Go G d M pc L (va :: vb :: st) S Q := by
  subst hn
  intro p l e R s m args below meth c H locs cells slots ls hC hH hB hl
  exact lv_dup2_11 hC.x hC.cc hd hva hvb (kk p l e R s m args below meth c H locs cells slots ls hC hH hB hl)
theorem fx_dup_x1 {va vb : Value} (hd : decode M.2.1 pc = .ok (.dup_x1, 1)) (hva : va.category = 1) (hvb : vb.category = 1) (hn : pc + 1 = n) (kk : fx_Go G d M n L (va :: vb :: va :: st) S Q) : fx_Go G d M pc L (va :: vb :: st) S Q := by
  subst hn
  intro p l e R s m args below meth c H locs cells slots ls hC hH hB hl
  exact lv_dup_x1 hC.x hC.cc hd hva hvb (kk p l e R s m args below meth c H locs cells slots ls hC hH hB hl)
theorem fx_if_eq {x : Int32} {off : Int} {tg : Nat} (hd : decode M.2.1 pc = .ok (.ifCond .eq off, 3)) (ht : (pc : Int) + off = (tg : Int)) (hn : pc + 3 = n) (kt : x = 0 → fx_Go G d M tg L st S Q) (kf : ¬ x = 0 → fx_Go G d M n L st S Q) : fx_Go G d M pc L (.int x :: st) S Q := by
  subst hn
  intro p l e R s m args below meth c H locs cells slots ls hC hH hB hl
  exact lv_if_eq hC.x hC.cc hd ht (fun h => kt h p l e R s m args below meth c H locs cells slots ls hC hH hB hl) (fun h => kf h p l e R s m args below meth c H locs cells slots ls hC hH hB hl)
theorem fx_icmp_eq {x y : Int32} {off : Int} {tg : Nat} (hd : decode M.2.1 pc = .ok (.if_icmp .eq off, 3)) (ht : (pc : Int) + off = (tg : Int)) (hn : pc + 3 = n) (kt : x = y → fx_Go G d M tg L st S Q) (kf : ¬ x = y → fx_Go G d M n L st S Q) : fx_Go G d M pc L (.int y :: .int x :: st) S Q := by
  subst hn
  intro p l e R s m args below meth c H locs cells slots ls hC hH hB hl
  exact lv_icmp_eq hC.x hC.cc hd ht (fun h => kt h p l e R s m args below meth c H locs cells slots ls hC hH hB hl) (fun h => kf h p l e R s m args below meth c H locs cells slots ls hC hH hB hl)
theorem fx_if_ne {x : Int32} {off : Int} {tg : Nat} (hd : decode M.2.1 pc = .ok (.ifCond .ne off, 3)) (ht : (pc : Int) + off = (tg : Int)) (hn : pc + 3 = n) (kt : ¬ x = 0 → fx_Go G d M tg L st S Q) (kf : x = 0 → fx_Go G d M n L st S Q) : fx_Go G d M pc L (.int x :: st) S Q := by
  subst hn
  intro p l e R s m args below meth c H locs cells slots ls hC hH hB hl
  exact lv_if_ne hC.x hC.cc hd ht (fun h => kt h p l e R s m args below meth c H locs cells slots ls hC hH hB hl) (fun h => kf h p l e R s m args below meth c H locs cells slots ls hC hH hB hl)
theorem fx_icmp_ne {x y : Int32} {off : Int} {tg : Nat} (hd : decode M.2.1 pc = .ok (.if_icmp .ne off, 3)) (ht : (pc : Int) + off = (tg : Int)) (hn : pc + 3 = n) (kt : ¬ x = y → fx_Go G d M tg L st S Q) (kf : x = y → fx_Go G d M n L st S Q) : fx_Go G d M pc L (.int y :: .int x :: st) S Q := by
  subst hn
  intro p l e R s m args below meth c H locs cells slots ls hC hH hB hl
  exact lv_icmp_ne hC.x hC.cc hd ht (fun h => kt h p l e R s m args below meth c H locs cells slots ls hC hH hB hl) (fun h => kf h p l e R s m args below meth c H locs cells slots ls hC hH hB hl)
theorem fx_if_lt {x : Int32} {off : Int} {tg : Nat} (hd : decode M.2.1 pc = .ok (.ifCond .lt off, 3)) (ht : (pc : Int) + off = (tg : Int)) (hn : pc + 3 = n) (kt : x < 0 → fx_Go G d M tg L st S Q) (kf : ¬ x < 0 → fx_Go G d M n L st S Q) : fx_Go G d M pc L (.int x :: st) S Q := by
  subst hn
  intro p l e R s m args below meth c H locs cells slots ls hC hH hB hl
  exact lv_if_lt hC.x hC.cc hd ht (fun h => kt h p l e R s m args below meth c H locs cells slots ls hC hH hB hl) (fun h => kf h p l e R s m args below meth c H locs cells slots ls hC hH hB hl)
theorem fx_icmp_lt {x y : Int32} {off : Int} {tg : Nat} (hd : decode M.2.1 pc = .ok (.if_icmp .lt off, 3)) (ht : (pc : Int) + off = (tg : Int)) (hn : pc + 3 = n) (kt : x < y → fx_Go G d M tg L st S Q) (kf : ¬ x < y → fx_Go G d M n L st S Q) : fx_Go G d M pc L (.int y :: .int x :: st) S Q := by
  subst hn
  intro p l e R s m args below meth c H locs cells slots ls hC hH hB hl
  exact lv_icmp_lt hC.x hC.cc hd ht (fun h => kt h p l e R s m args below meth c H locs cells slots ls hC hH hB hl) (fun h => kf h p l e R s m args below meth c H locs cells slots ls hC hH hB hl)
theorem fx_if_ge {x : Int32} {off : Int} {tg : Nat} (hd : decode M.2.1 pc = .ok (.ifCond .ge off, 3)) (ht : (pc : Int) + off = (tg : Int)) (hn : pc + 3 = n) (kt : 0 ≤ x → fx_Go G d M tg L st S Q) (kf : ¬ 0 ≤ x → fx_Go G d M n L st S Q) : fx_Go G d M pc L (.int x :: st) S Q := by
  subst hn
  intro p l e R s m args below meth c H locs cells slots ls hC hH hB hl
  exact lv_if_ge hC.x hC.cc hd ht (fun h => kt h p l e R s m args below meth c H locs cells slots ls hC hH hB hl) (fun h => kf h p l e R s m args below meth c H locs cells slots ls hC hH hB hl)
theorem fx_icmp_ge {x y : Int32} {off : Int} {tg : Nat} (hd : decode M.2.1 pc = .ok (.if_icmp .ge off, 3)) (ht : (pc : Int) + off = (tg : Int)) (hn : pc + 3 = n) (kt : y ≤ x → fx_Go G d M tg L st S Q) (kf : ¬ y ≤ x → fx_Go G d M n L st S Q) : fx_Go G d M pc L (.int y :: .int x :: st) S Q := by
  subst hn
  intro p l e R s m args below meth c H locs cells slots ls hC hH hB hl
  exact lv_icmp_ge hC.x hC.cc hd ht (fun h => kt h p l e R s m args below meth c H locs cells slots ls hC hH hB hl) (fun h => kf h p l e R s m args below meth c H locs cells slots ls hC hH hB hl)
theorem fx_if_gt {x : Int32} {off : Int} {tg : Nat} (hd : decode M.2.1 pc = .ok (.ifCond .gt off, 3)) (ht : (pc : Int) + off = (tg : Int)) (hn : pc + 3 = n) (kt : 0 < x → fx_Go G d M tg L st S Q) (kf : ¬ 0 < x → fx_Go G d M n L st S Q) : fx_Go G d M pc L (.int x :: st) S Q := by
  subst hn
  intro p l e R s m args below meth c H locs cells slots ls hC hH hB hl
  exact lv_if_gt hC.x hC.cc hd ht (fun h => kt h p l e R s m args below meth c H locs cells slots ls hC hH hB hl) (fun h => kf h p l e R s m args below meth c H locs cells slots ls hC hH hB hl)
theorem fx_icmp_gt {x y : Int32} {off : Int} {tg : Nat} (hd : decode M.2.1 pc = .ok (.if_icmp .gt off, 3)) (ht : (pc : Int) + off = (tg : Int)) (hn : pc + 3 = n) (kt : y < x → fx_Go G d M tg L st S Q) (kf : ¬ y < x → fx_Go G d M n L st S Q) : fx_Go G d M pc L (.int y :: .int x :: st) S Q := by
  subst hn
  intro p l e R s m args below meth c H locs cells slots ls hC hH hB hl
  exact lv_icmp_gt hC.x hC.cc hd ht (fun h => kt h p l e R s m args below meth c H locs cells slots ls hC hH hB hl) (fun h => kf h p l e R s m args below meth c H locs cells slots ls hC hH hB hl)
theorem fx_if_le {x : Int32} {off : Int} {tg : Nat} (hd : decode M.2.1 pc = .ok (.ifCond .le off, 3)) (ht : (pc : Int) + off = (tg : Int)) (hn : pc + 3 = n) (kt : x ≤ 0 → fx_Go G d M tg L st S Q) (kf : ¬ x ≤ 0 → fx_Go G d M n L st S Q) : fx_Go G d M pc L (.int x :: st) S Q := by
  subst hn
  intro p l e R s m args below meth c H locs cells slots ls hC hH hB hl
  exact lv_if_le hC.x hC.cc hd ht (fun h => kt h p l e R s m args below meth c H locs cells slots ls hC hH hB hl) (fun h => kf h p l e R s m args below meth c H locs cells slots ls hC hH hB hl)
theorem fx_icmp_le {x y : Int32} {off : Int} {tg : Nat} (hd : decode M.2.1 pc = .ok (.if_icmp .le off, 3)) (ht : (pc : Int) + off = (tg : Int)) (hn : pc + 3 = n) (kt : x ≤ y → fx_Go G d M tg L st S Q) (kf : ¬ x ≤ y → fx_Go G d M n L st S Q) : fx_Go G d M pc L (.int y :: .int x :: st) S Q := by
  subst hn
  intro p l e R s m args below meth c H locs cells slots ls hC hH hB hl
  exact lv_icmp_le hC.x hC.cc hd ht (fun h => kt h p l e R s m args below meth c H locs cells slots ls hC hH hB hl) (fun h => kf h p l e R s m args below meth c H locs cells slots ls hC hH hB hl)
theorem fx_goto {off : Int} (hd : decode M.2.1 pc = .ok (.goto off, 3)) (ht : (pc : Int) + off = (n : Int)) (kk : fx_Go G d M n L st S Q) : fx_Go G d M pc L st S Q := by
  intro p l e R s m args below meth c H locs cells slots ls hC hH hB hl
  exact lv_goto hC.x hC.cc hd ht (kk p l e R s m args below meth c H locs cells slots ls hC hH hB hl)
theorem fx_sub (ks : List Nat) (hL : lv_pick L ks = L') (kk : fx_Go G d M pc L' st S Q) : fx_Go G d M pc L st S Q := by
  intro p l e R s m args below meth c H locs cells slots ls hC hH hB hl
  exact kk p l e R s m args below meth c H locs cells slots ls hC hH hB (lv_sub hl ks hL)
theorem fx_lookup {dflt : Int} {ps : Array (Int × Int)} {len : Nat} {x : Int32} {off : Int} (hd : decode M.2.1 pc = .ok (.lookupswitch dflt ps, len)) (hp : (ps.toList.zip (ps.toList.drop 1)).all (fun (a, next) => a.1 < next.1) = true) (ho : Op.lookupswitch.offset ps.toList dflt x.toInt = off) (ht : (pc : Int) + off = (n : Int)) (kk : fx_Go G d M n L st S Q) : fx_Go G d M pc L (.int x :: st) S Q := by
  intro p l e R s m args below meth c H locs cells slots ls hC hH hB hl
  exact lv_lookup hC.x hC.cc hd hp ho ht (kk p l e R s m args below meth c H locs cells slots ls hC hH hB hl)
theorem fx_tableOut {dflt lo hi : Int} {offs : Array Int} {len : Nat} {x : Int32} (hd : decode M.2.1 pc = .ok (.tableswitch dflt lo hi offs, len)) (h : x.toInt < lo ∨ hi < x.toInt) (ht : (pc : Int) + dflt = (n : Int)) (kk : fx_Go G d M n L st S Q) : fx_Go G d M pc L (.int x :: st) S Q := by
  intro p l e R s m args below meth c H locs cells slots ls hC hH hB hl
  exact lv_tableOut hC.x hC.cc hd h ht (kk p l e R s m args below meth c H locs cells slots ls hC hH hB hl)
theorem fx_tableIn {dflt lo hi : Int} {offs : Array Int} {len : Nat} {x : Int32} {off : Int} (hd : decode M.2.1 pc = .ok (.tableswitch dflt lo hi offs, len)) (h1 : ¬ x.toInt < lo) (h2 : ¬ hi < x.toInt) (ho : offs[(x.toInt - lo).toNat]? = some off) (ht : (pc : Int) + off = (n : Int)) (kk : fx_Go G d M n L st S Q) : fx_Go G d M pc L (.int x :: st) S Q := by
  intro p l e R s m args below meth c H locs cells slots ls hC hH hB hl
  exact lv_tableIn hC.x hC.cc hd h1 h2 ho ht (kk p l e R s m args below meth c H locs cells slots ls hC hH hB hl)
end FXR
end
section
/-! fields, arrays, new cells, over fx_Go -/
def fx_cw (c : Nat) (C : String) (T : u_T) (N : Nat) : Prop := vwCl[c]? = some (C, T, N) ∧ (∀ w ∈ u_ws C T N, w ∈ lw_tbl) ∧ (∃ ty0 : Nat → FieldType, (∀ k, k < N → parseFieldDescriptor (T k).2.2.1 = some (ty0 k)) ∧ ∀ k, k < N → defaultValue (ty0 k) = if fx_isr c k = true then .null else .int 0) ∧ ∀ a, a < N → ∀ b, b < N → a ≠ b → (T a).2.1 ≠ (T b).2.1
def fx_fw (own : String) (index c j : Nat) (ty : FieldType) (fin : Bool) : Prop := ∃ (C : String) (T : u_T) (N : Nat), fx_cw c C T N ∧ j < N ∧ Cond.fieldLink own index (T j).1 (T j).2.1 (T j).2.2.1 ∈ lw_tbl ∧ parseFieldDescriptor (T j).2.2.1 = some ty ∧ (T j).2.2.2 = fin
def fx_dc (c j : Nat) : String := match vwCl[c]? with
  | some q => (q.2.1 j).1
  | none => ""
theorem fx_layGood {C : String} {T : u_T} {N : Nat} {w : Cond} (hw : w ∈ u_ws C T N) : (w.onTables && w.keeps) = true ∨ ∃ ty, w = .arrayClass ty := by
  obtain ⟨k, -, rfl⟩ := List.mem_map.mp hw
  unfold u_lay
  split <;> exact Or.inl rfl
theorem fx_cw.N {c : Nat} {C : String} {T : u_T} {N : Nat} (h : fx_cw c C T N) : fx_N c = N := by
  unfold fx_N
  rw [h.1]
theorem fx_fs_V {G : fx_G} {S : fx_S} {c i j : Nat} (hj : j < fx_N c) : vp_V (fx_fs G S c i) j = if fx_isr c j = true then va_rf (fx_rf G (fx_P S i j)) else .int (fx_I S i j) := by
  simp [vp_V, fx_fs, List.getD_eq_getElem?_getD, List.getElem?_range hj]
section FXF
variable {G : fx_G} {d : Nat × Nat} {M : fx_M} {pc n : Nat} {L : List (Nat × Value)} {st : List Value} {S : fx_S} {Q : fx_R → fx_S → Prop}
theorem fx_get0 {a j c index : Nat} {ty : FieldType} {fin : Bool} (hd : decode M.2.1 pc = .ok (.getfield index, 3)) (hw : fx_fw M.1.cls index c j ty fin) (hc : c < 100) (hn : pc + 3 = n) (ha : a < fx_m S) (hk : fx_kd S a = c) {v : Value} (hv : (if fx_isr c j = true then va_rf (fx_rf G (fx_P S a j)) else .int (fx_I S a j)) = v)
    (kk : fx_Go G d M n L (v :: st) S Q) : fx_Go G d M pc L (fx_r G a :: st) S Q := by
  subst hn
  intro p l e R s m args below meth c0 H locs cells slots ls hC hH hB hl
  obtain ⟨C, T, N, hcw, hj, hlk, -⟩ := hw
  have hat := hH.1 a ha
  rw [fx_ent_obj hk hc] at hat
  obtain ⟨r, h1, cell, q1, q2, q3, q4⟩ := hat
  have hr' : r = (C, T, N) := Option.some.inj (h1.symm.trans hcw.1)
  subst hr'
  obtain ⟨hS, hfc, kC, hkC, hkind⟩ := hC.K.1 c _ hcw.1
  obtain ⟨cf, kf, fi, f, hi, hsl⟩ := hS j hj
  refine W.getf hC.x hC.cc hC.own (hC.w hlk (Or.inl rfl) _) hi (u_facts (args := args) hfc hkC (u_lays (ws := u_ws C T N) (fun w hw => hC.w (hcw.2.1 w hw) (fx_layGood hw) _) (fun w h => h) hj) hi).1 q1 (by rw [q3]; exact fun h => by cases h) (v := v) ?_ rfl rfl hd (kk p l e R s m args below meth c0 H locs cells slots ls hC hH hB hl)
  rw [hsl, q4 j hj, ← hv]
  exact congrArg some (fx_fs_V (by rw [hcw.N]; exact hj))
theorem fx_getI {a j c index : Nat} {ty : FieldType} {fin : Bool} (hd : decode M.2.1 pc = .ok (.getfield index, 3)) (hw : fx_fw M.1.cls index c j ty fin) (hc : c < 100) (hr : fx_isr c j = false) (hn : pc + 3 = n) (ha : a < fx_m S) (hk : fx_kd S a = c)
    (kk : fx_Go G d M n L (.int (fx_I S a j) :: st) S Q) : fx_Go G d M pc L (fx_r G a :: st) S Q :=
  fx_get0 hd hw hc hn ha hk (by rw [hr]; rfl) kk
theorem fx_getP {a j c index r : Nat} {ty : FieldType} {fin : Bool} (hd : decode M.2.1 pc = .ok (.getfield index, 3)) (hw : fx_fw M.1.cls index c j ty fin) (hc : c < 100) (hr : fx_isr c j = true) (hn : pc + 3 = n) (ha : a < fx_m S) (hk : fx_kd S a = c) (hp : fx_P S a j = some r)
    (kk : fx_Go G d M n L (fx_r G r :: st) S Q) : fx_Go G d M pc L (fx_r G a :: st) S Q :=
  fx_get0 hd hw hc hn ha hk (by rw [hr, hp]; rfl) kk
theorem fx_putI {a j c index : Nat} {x : Int32} {ty : FieldType} (hd : decode M.2.1 pc = .ok (.putfield index, 3)) (hw : fx_fw M.1.cls index c j ty false) (hc : c < 100) (hr : fx_isr c j = false) (hnr : narrow ty (.int x) = .int x) (hft : fits ty (.int x) = true) (hn : pc + 3 = n) (ha : a < fx_m S) (hk : fx_kd S a = c)
    (kk : fx_Go G d M n L st (fx_setI S a j x) Q) : fx_Go G d M pc L (.int x :: fx_r G a :: st) S Q := by
  subst hn
  intro p l e R s m args below meth c0 H locs cells slots ls hC hH hB hl
  obtain ⟨C, T, N, hcw, hj, hlk, hpd, hfin⟩ := hw
  obtain ⟨ty0, hty, -⟩ := hcw.2.2.1
  have hts : ∀ w ∈ u_ws C T N, w.before args s = true := fun w hw => hC.w (hcw.2.1 w hw) (fx_layGood hw) _
  have hat := hH.1 a ha
  rw [fx_ent_obj hk hc] at hat
  obtain ⟨r, h1, cell, q1, q2, q3, q4⟩ := hat
  have hr' : r = (C, T, N) := Option.some.inj (h1.symm.trans hcw.1)
  subst hr'
  have hap := va_apart (own := M.1.cls) hts (fun w h => h) ty0 hty hcw.2.2.2 hC.K hcw.1
  obtain ⟨hS, hfc, kC, hkC, hkind⟩ := hC.K.1 c _ hcw.1
  obtain ⟨cf, kf, fi, f, hi, hsl⟩ := hS j hj
  have hlay := hts _ (u_in_lay hj)
  unfold u_lay at hlay
  rw [if_neg (by rw [hfin]; decide)] at hlay
  have hst := (u_facts hfc hkC (u_lays hts (fun w h => h) hj) hi).1
  have h6 := u_store hfc hkC hkind hlay hi hpd hnr hft
  refine W.putK hC.x hC.cc (f := f) ⟨hC.own, hC.w hlk (Or.inl rfl) _, ⟨_, _, _, hi⟩, hst⟩ (by rw [q2]; exact h6) q1 q3 (by rw [hsl]; exact k2_hasslot (q4 j hj)) rfl rfl hd fun H' e1 e2 e3 => ?_
  rw [hsl] at e1 ⊢
  refine kk p l e R s m args below meth c0 H' _ cells slots ls hC (fx_H.upd (S := S) (S' := fx_setI S a j x) hH e2 e3 ?_ (fun i hi => fx_setR_ent hi) rfl) hB hl
  rw [fx_ent_obj (S := fx_setI S a j x) (c := c) hk hc]
  refine ⟨_, hcw.1, t_OB.to (V := updV (vp_V (fx_fs G S c a)) j (.int x)) ⟨_, e1, q2, q3, t_set q4 hap hj (.int x)⟩ (fun k hk1 => ?_)⟩
  have hkN : k < fx_N c := by rw [hcw.N]; exact hk1
  have eI : fx_I (fx_setI S a j x) a = upd (fx_I S a) j x := fx_row_self _ _ _
  rw [fx_fs_V hkN, eI]
  by_cases hkj : k = j
  · subst hkj
    simp [updV, upd, hr]
  · simp only [updV, upd, if_neg hkj]
    rw [fx_fs_V hkN]
    rfl
theorem fx_putP {a j c index r : Nat} {ty : FieldType} (hd : decode M.2.1 pc = .ok (.putfield index, 3)) (hw : fx_fw M.1.cls index c j ty true) (hc : c < 100) (hr : fx_isr c j = true) (hin2 : M.1.name = "<init>") (hdc : fx_dc c j = M.1.cls) (hnr : ∀ q : Nat, narrow ty (.ref q) = .ref q) (hft : ∀ q : Nat, fits ty (.ref q) = true) (hn : pc + 3 = n) (ha : a < fx_m S) (hk : fx_kd S a = c)
    (kk : fx_Go G d M n L st (fx_setP S a j (some r)) Q) : fx_Go G d M pc L (fx_r G r :: fx_r G a :: st) S Q := by
  subst hn
  intro p l e R s m args below meth c0 H locs cells slots ls hC hH hB hl
  obtain ⟨C, T, N, hcw, hj, hlk, hpd, hfin⟩ := hw
  have hdecl : (T j).1 = M.1.cls := by rw [← hdc]; unfold fx_dc; rw [hcw.1]
  obtain ⟨ty0, hty, -⟩ := hcw.2.2.1
  have hts : ∀ w ∈ u_ws C T N, w.before args s = true := fun w hw => hC.w (hcw.2.1 w hw) (fx_layGood hw) _
  have hat := hH.1 a ha
  rw [fx_ent_obj hk hc] at hat
  obtain ⟨r0, h1, cell, q1, q2, q3, q4⟩ := hat
  have hr' : r0 = (C, T, N) := Option.some.inj (h1.symm.trans hcw.1)
  subst hr'
  have hap := va_apart (own := M.1.cls) hts (fun w h => h) ty0 hty hcw.2.2.2 hC.K hcw.1
  obtain ⟨hS, hfc, kC, hkC, hkind⟩ := hC.K.1 c _ hcw.1
  obtain ⟨cf, kf, fi, f, hi, hsl⟩ := hS j hj
  have hlay := hts _ (u_in_lay hj)
  unfold u_lay at hlay
  rw [if_pos hfin] at hlay
  have hst := (u_facts hfc hkC (u_lays hts (fun w h => h) hj) hi).1
  have hcf : m.cls = cf := by
    obtain ⟨_, _, c', _, _, _, -, -, hf', -, -, -, hown2, -⟩ := Cond.laysFinal_spec hlay
    have e1 : c' = cf := by have := hi.symm.trans hf'; simp at this; exact this.1.symm
    rw [hdecl] at hown2
    rw [← e1]; exact Option.some.inj (hC.own.symm.trans hown2)
  have h6 := u_fits hfc hkC hkind (Or.inr hlay) hi hpd (hnr (fx_B G + r)) (hft (fx_B G + r))
  refine W.putFinK hC.x hC.cc hC.own (hC.w hlk (Or.inl rfl) _) hi hst hcf (hC.2.1.2.1.trans hin2) (by rw [q2]; exact h6) q1 q3 (by rw [hsl]; exact k2_hasslot (q4 j hj)) rfl rfl hd fun H' e1 e2 e3 => ?_
  rw [hsl] at e1 ⊢
  refine kk p l e R s m args below meth c0 H' _ cells slots ls hC (fx_H.upd (S := S) (S' := fx_setP S a j (some r)) hH e2 e3 ?_ (fun i hi => fx_setP_ent hi) rfl) hB hl
  rw [fx_ent_obj (S := fx_setP S a j (some r)) (c := c) hk hc]
  refine ⟨_, hcw.1, t_OB.to (V := updV (vp_V (fx_fs G S c a)) j (fx_r G r)) ⟨_, e1, q2, q3, t_set q4 hap hj (fx_r G r)⟩ (fun k hk1 => ?_)⟩
  have hkN : k < fx_N c := by rw [hcw.N]; exact hk1
  have eI : fx_P (fx_setP S a j (some r)) a = va_up (fx_P S a) j (some r) := fx_row_self _ _ _
  rw [fx_fs_V hkN, eI]
  by_cases hkj : k = j
  · subst hkj
    simp [updV, va_up, hr, fx_rf, va_rf]
  · simp only [updV, va_up, if_neg hkj]
    rw [fx_fs_V hkN]
    rfl
theorem fx_alen {a : Nat} (hd : decode M.2.1 pc = .ok (.arraylength, 1)) (hn : pc + 1 = n) (ha : a < fx_m S) (hk : fx_kd S a = 100) (kk : fx_Go G d M n L (.int (Int32.ofNat (fx_ln S a)) :: st) S Q) : fx_Go G d M pc L (fx_r G a :: st) S Q := by
  subst hn
  intro p l e R s m args below meth c0 H locs cells slots ls hC hH hB hl
  have hat := hH.1 a ha
  rw [fx_ent_i hk] at hat
  exact W.alen (n := Int32.ofNat (fx_ln S a)) hC.x hC.cc hat ((hC.K.2 0 _ rfl).1 _ (fun j => .int (fx_I S a j))) (by show (arrV _ _ _).slots.size.toInt32 = _; rw [arrV_size]) rfl rfl hd (kk p l e R s m args below meth c0 H locs cells slots ls hC hH hB hl)
theorem fx_iald {a : Nat} {i : Int32} (hd : decode M.2.1 pc = .ok (.iaload, 1)) (hn : pc + 1 = n) (ha : a < fx_m S) (hk : fx_kd S a = 100) (hin : vp_in i (fx_ln S a)) (kk : fx_Go G d M n L (.int (fx_I S a i.toNatClampNeg) :: st) S Q) : fx_Go G d M pc L (.int i :: fx_r G a :: st) S Q := by
  subst hn
  intro p l e R s m args below meth c0 H locs cells slots ls hC hH hB hl
  have hat := hH.1 a ha
  rw [fx_ent_i hk] at hat
  have hlt : i.toNatClampNeg < fx_ln S a := Nat.not_le.mp fun q => hin (Or.inr q)
  exact W.iald (v := .int (fx_I S a i.toNatClampNeg)) hC.x hC.cc hat ((hC.K.2 0 _ rfl).1 _ (fun j => .int (fx_I S a j))) (fun q => by cases q) (by show ¬ (i < 0 ∨ (arrV _ _ _).slots.size ≤ _); rw [arrV_size]; exact hin) (by show (arrV _ _ _).slots[_]? = _; rw [arrV_read _ _ hlt]) rfl rfl hd (kk p l e R s m args below meth c0 H locs cells slots ls hC hH hB hl)
theorem fx_zald {a : Nat} {i : Int32} (hd : decode M.2.1 pc = .ok (.baload, 1)) (hn : pc + 1 = n) (ha : a < fx_m S) (hk : fx_kd S a = 101) (hin : vp_in i (fx_ln S a)) (kk : fx_Go G d M n L (.int (fx_I S a i.toNatClampNeg) :: st) S Q) : fx_Go G d M pc L (.int i :: fx_r G a :: st) S Q := by
  subst hn
  intro p l e R s m args below meth c0 H locs cells slots ls hC hH hB hl
  have hat := hH.1 a ha
  rw [fx_ent_z hk] at hat
  have hlt : i.toNatClampNeg < fx_ln S a := Nat.not_le.mp fun q => hin (Or.inr q)
  exact W.zald (v := .int (fx_I S a i.toNatClampNeg)) hC.x hC.cc hat ((hC.K.2 1 _ rfl).1 _ (fun j => .int (fx_I S a j))) (fun q => by cases q) (by show ¬ (i < 0 ∨ (arrV _ _ _).slots.size ≤ _); rw [arrV_size]; exact hin) (by show (arrV _ _ _).slots[_]? = _; rw [arrV_read _ _ hlt]) rfl rfl hd (kk p l e R s m args below meth c0 H locs cells slots ls hC hH hB hl)
theorem fx_cald {a : Nat} {i : Int32} (hd : decode M.2.1 pc = .ok (.caload, 1)) (hn : pc + 1 = n) (ha : a < fx_m S) (hk : fx_kd S a = 102) (hin : vp_in i (fx_ln S a)) (kk : fx_Go G d M n L (.int (fx_I S a i.toNatClampNeg) :: st) S Q) : fx_Go G d M pc L (.int i :: fx_r G a :: st) S Q := by
  subst hn
  intro p l e R s m args below meth c0 H locs cells slots ls hC hH hB hl
  have hat := hH.1 a ha
  rw [fx_ent_c hk] at hat
  have hlt : i.toNatClampNeg < fx_ln S a := Nat.not_le.mp fun q => hin (Or.inr q)
  exact W.cald (v := .int (fx_I S a i.toNatClampNeg)) hC.x hC.cc hat ((hC.K.2 2 _ rfl).1 _ (fun j => .int (fx_I S a j))) (fun q => by cases q) (by show ¬ (i < 0 ∨ (arrV _ _ _).slots.size ≤ _); rw [arrV_size]; exact hin) (by show (arrV _ _ _).slots[_]? = _; rw [arrV_read _ _ hlt]) rfl rfl hd (kk p l e R s m args below meth c0 H locs cells slots ls hC hH hB hl)
theorem fx_lald {a : Nat} {i : Int32} (hd : decode M.2.1 pc = .ok (.laload, 1)) (hn : pc + 1 = n) (ha : a < fx_m S) (hk : fx_kd S a = 103) (hin : vp_in i (fx_ln S a)) (kk : fx_Go G d M n L (.long (fx_J S a i.toNatClampNeg) :: st) S Q) : fx_Go G d M pc L (.int i :: fx_r G a :: st) S Q := by
  subst hn
  intro p l e R s m args below meth c0 H locs cells slots ls hC hH hB hl
  have hat := hH.1 a ha
  rw [fx_ent_l hk] at hat
  have hlt : i.toNatClampNeg < fx_ln S a := Nat.not_le.mp fun q => hin (Or.inr q)
  exact W.lald (v := .long (fx_J S a i.toNatClampNeg)) hC.x hC.cc hat ((hC.K.2 3 _ rfl).1 _ (fun j => .long (fx_J S a j))) (fun q => by cases q) (by show ¬ (i < 0 ∨ (arrV _ _ _).slots.size ≤ _); rw [arrV_size]; exact hin) (by show (arrV _ _ _).slots[_]? = _; rw [arrV_read _ _ hlt]) rfl rfl hd (kk p l e R s m args below meth c0 H locs cells slots ls hC hH hB hl)
theorem fx_aald {a r : Nat} {i : Int32} (hd : decode M.2.1 pc = .ok (.aaload, 1)) (hn : pc + 1 = n) (ha : a < fx_m S) (hk : fx_kd S a = 104) (hin : vp_in i (fx_ln S a)) (hp : fx_P S a i.toNatClampNeg = some r) (kk : fx_Go G d M n L (fx_r G r :: st) S Q) : fx_Go G d M pc L (.int i :: fx_r G a :: st) S Q := by
  subst hn
  intro p l e R s m args below meth c0 H locs cells slots ls hC hH hB hl
  have hat := hH.1 a ha
  rw [fx_ent_q hk] at hat
  have hlt : i.toNatClampNeg < fx_ln S a := Nat.not_le.mp fun q => hin (Or.inr q)
  exact W.aald (v := fx_r G r) (ty := .object "FixupVolume$Sheet") hC.x hC.cc hat ((hC.K.2 4 _ rfl).1 _ (fun j => va_rf (fx_rf G (fx_P S a j)))) rfl (fun q => by cases q) (by show ¬ (i < 0 ∨ (arrV _ _ _).slots.size ≤ _); rw [arrV_size]; exact hin) (by show (arrV _ _ _).slots[_]? = _; rw [arrV_read _ _ hlt]; show some (va_rf (fx_rf G (fx_P S a i.toNatClampNeg))) = _; rw [hp]; rfl) rfl rfl hd (kk p l e R s m args below meth c0 H locs cells slots ls hC hH hB hl)
theorem fx_updI (f : Nat → Int32) (j : Nat) (x : Int32) : (fun q => Value.int (upd f j x q)) = updV (fun q => Value.int (f q)) j (.int x) := by
  funext q
  by_cases hq : q = j
  · simp [updV, upd, hq]
  · simp [updV, upd, hq]
theorem fx_iast {a : Nat} {i x : Int32} (hd : decode M.2.1 pc = .ok (.iastore, 1)) (hn : pc + 1 = n) (ha : a < fx_m S) (hk : fx_kd S a = 100) (hin : vp_in i (fx_ln S a)) (kk : fx_Go G d M n L st (fx_setI S a i.toNatClampNeg x) Q) : fx_Go G d M pc L (.int x :: .int i :: fx_r G a :: st) S Q := by
  subst hn
  intro p l e R s m args below meth c0 H locs cells slots ls hC hH hB hl
  have hat := hH.1 a ha
  rw [fx_ent_i hk] at hat
  refine W.iast hC.x hC.cc hat ((hC.K.2 0 _ rfl).1 _ (fun j => .int (fx_I S a j))) (fun q => by cases q) (by show ¬ (i < 0 ∨ (arrV _ _ _).slots.size ≤ _); rw [arrV_size]; exact hin) rfl rfl hd fun H1 e1 z oq => ?_
  refine kk p l e R s m args below meth c0 H1 _ cells slots ls hC (fx_H.upd (S := S) (S' := fx_setI S a i.toNatClampNeg x) hH z oq ?_ (fun i hi => fx_setR_ent hi) rfl) hB hl
  rw [fx_ent_i (S := fx_setI S a i.toNatClampNeg x) hk]
  show H1[_]? = some (vp_cell _ _)
  rw [e1, vp_cell_i, vp_cell_i, arrV_store, ← fx_updI]
  show _ = some (arrV _ (fx_ln S a) (fun j => Value.int (fx_row _ a _ a j)))
  rw [fx_row_self]
theorem fx_zast {a : Nat} {i x : Int32} (hd : decode M.2.1 pc = .ok (.bastore, 1)) (hn : pc + 1 = n) (ha : a < fx_m S) (hk : fx_kd S a = 101) (hin : vp_in i (fx_ln S a)) (kk : fx_Go G d M n L st (fx_setI S a i.toNatClampNeg (vp_nar .boolean x)) Q) : fx_Go G d M pc L (.int x :: .int i :: fx_r G a :: st) S Q := by
  subst hn
  intro p l e R s m args below meth c0 H locs cells slots ls hC hH hB hl
  have hat := hH.1 a ha
  rw [fx_ent_z hk] at hat
  refine W.zast hC.x hC.cc hat ((hC.K.2 1 _ rfl).1 _ (fun j => .int (fx_I S a j))) (fun q => by cases q) (by show ¬ (i < 0 ∨ (arrV _ _ _).slots.size ≤ _); rw [arrV_size]; exact hin) rfl rfl hd fun H1 e1 z oq => ?_
  refine kk p l e R s m args below meth c0 H1 _ cells slots ls hC (fx_H.upd (S := S) (S' := fx_setI S a i.toNatClampNeg (vp_nar .boolean x)) hH z oq ?_ (fun i hi => fx_setR_ent hi) rfl) hB hl
  rw [fx_ent_z (S := fx_setI S a i.toNatClampNeg (vp_nar .boolean x)) hk]
  show H1[_]? = some (vp_cell _ _)
  rw [e1, vp_cell_i, vp_cell_i, show narrow .boolean (.int x) = .int (vp_nar .boolean x) from rfl, arrV_store, ← fx_updI]
  show _ = some (arrV _ (fx_ln S a) (fun j => Value.int (fx_row _ a _ a j)))
  rw [fx_row_self]
theorem fx_cast {a : Nat} {i x : Int32} (hd : decode M.2.1 pc = .ok (.castore, 1)) (hn : pc + 1 = n) (ha : a < fx_m S) (hk : fx_kd S a = 102) (hin : vp_in i (fx_ln S a)) (kk : fx_Go G d M n L st (fx_setI S a i.toNatClampNeg (vp_nar .char x)) Q) : fx_Go G d M pc L (.int x :: .int i :: fx_r G a :: st) S Q := by
  subst hn
  intro p l e R s m args below meth c0 H locs cells slots ls hC hH hB hl
  have hat := hH.1 a ha
  rw [fx_ent_c hk] at hat
  refine W.cast hC.x hC.cc hat ((hC.K.2 2 _ rfl).1 _ (fun j => .int (fx_I S a j))) (fun q => by cases q) (by show ¬ (i < 0 ∨ (arrV _ _ _).slots.size ≤ _); rw [arrV_size]; exact hin) rfl rfl hd fun H1 e1 z oq => ?_
  refine kk p l e R s m args below meth c0 H1 _ cells slots ls hC (fx_H.upd (S := S) (S' := fx_setI S a i.toNatClampNeg (vp_nar .char x)) hH z oq ?_ (fun i hi => fx_setR_ent hi) rfl) hB hl
  rw [fx_ent_c (S := fx_setI S a i.toNatClampNeg (vp_nar .char x)) hk]
  show H1[_]? = some (vp_cell _ _)
  rw [e1, vp_cell_i, vp_cell_i, show narrow .char (.int x) = .int (vp_nar .char x) from rfl, arrV_store, ← fx_updI]
  show _ = some (arrV _ (fx_ln S a) (fun j => Value.int (fx_row _ a _ a j)))
  rw [fx_row_self]
theorem fx_last {a : Nat} {i : Int32} {x : Int64} (hd : decode M.2.1 pc = .ok (.lastore, 1)) (hn : pc + 1 = n) (ha : a < fx_m S) (hk : fx_kd S a = 103) (hin : vp_in i (fx_ln S a)) (kk : fx_Go G d M n L st (fx_setJ S a i.toNatClampNeg x) Q) : fx_Go G d M pc L (.long x :: .int i :: fx_r G a :: st) S Q := by
  subst hn
  intro p l e R s m args below meth c0 H locs cells slots ls hC hH hB hl
  have hat := hH.1 a ha
  rw [fx_ent_l hk] at hat
  refine W.last hC.x hC.cc hat ((hC.K.2 3 _ rfl).1 _ (fun j => .long (fx_J S a j))) (fun q => by cases q) (by show ¬ (i < 0 ∨ (arrV _ _ _).slots.size ≤ _); rw [arrV_size]; exact hin) rfl rfl hd fun H1 e1 z oq => ?_
  refine kk p l e R s m args below meth c0 H1 _ cells slots ls hC (fx_H.upd (S := S) (S' := fx_setJ S a i.toNatClampNeg x) hH z oq ?_ (fun i hi => fx_setJ_ent hi) rfl) hB hl
  rw [fx_ent_l (S := fx_setJ S a i.toNatClampNeg x) hk]
  show H1[_]? = some (vp_cell _ _)
  rw [e1, vp_cell_l, vp_cell_l, arrV_store]
  show _ = some (arrV _ (fx_ln S a) (fun j => Value.long (fx_row _ a _ a j)))
  rw [fx_row_self]
  congr 2
  funext q
  by_cases hq : q = i.toNatClampNeg
  · simp [updV, vp_updL, hq]
  · simp [updV, vp_updL, hq]
end FXF
end
section
/-! ends, calls, new cells, copying, over fx_Go -/
/-- the words of a method that is called: its code, its name is a plain one, so many arguments beside the receiver -/
def fx_mw (M : fx_M) (na : Nat) : Prop := ((M.2.2.2.2 = [] ∧ Cond.code M.1 M.2.1 M.2.2.1 M.2.2.2.1 ∈ lw_tbl) ∨ Cond.codeWith M.1 M.2.1 M.2.2.1 M.2.2.2.1 M.2.2.2.2 ∈ lw_tbl) ∧ (M.1.cls ≠ "java/lang/invoke/MethodHandle" ∧ M.1.cls ≠ "java/lang/invoke/VarHandle") ∧ plainName M.1.cls = true ∧ (parseMethodDescriptor M.1.desc).map (fun q => q.parameters.length) = some na
theorem fx_mw.at {M : fx_M} {na : Nat} (h : fx_mw M na) {G : fx_G} (hG : fx_ok G) {U : State} (hW : G.1.WarmedH U.vm) : ∃ mk methk ck, U.methodNamed? M.1 = some mk ∧ U.vm.method? mk = some methk ∧ methk.code = some ck ∧ ck.code = M.2.1 ∧ ck.maxLocals = M.2.2.1 ∧ methk.sig.returnType = M.2.2.2.1 ∧ methk.locks = false ∧
    ck.exceptionTable.toList.map (fun h => (h.startPc, h.endPc, h.handlerPc, h.catchType)) = M.2.2.2.2 ∧ parseMethodDescriptor M.1.desc = some methk.sig := by
  rcases h.1 with ⟨he, hw⟩ | hw
  · have hc : (Cond.code M.1 M.2.1 M.2.2.1 M.2.2.2.1).before #[] U = true := word_at hW (Or.inl rfl) (hG.1 _ hw)
    obtain ⟨mk, hn⟩ := Cond.code_named hc
    obtain ⟨methk, ck, h1, h2, h3, h4, h5, h6, h7, h8⟩ := Cond.code_spec hn hc
    refine ⟨mk, methk, ck, hn, h1, h2, h3, h4, h5, h6, ?_, h8⟩
    have h0 : ck.exceptionTable.size = 0 := by simpa [Array.isEmpty] using h7
    have h1 : ck.exceptionTable.toList = [] := List.eq_nil_of_length_eq_zero (by simpa using h0)
    rw [h1, he]
    rfl
  · have hc : (Cond.codeWith M.1 M.2.1 M.2.2.1 M.2.2.2.1 M.2.2.2.2).before #[] U = true := word_at hW (Or.inl rfl) (hG.1 _ hw)
    obtain ⟨mk, methk, ck, h0, h1, h2, h3, h4, h5, h6, h7, h8⟩ := Cond.codeWith_spec hc
    exact ⟨mk, methk, ck, h0, h1, h2, h3, h4, h6, h7, h5, h8⟩
theorem fx_cats (vs : List Value) : (vs.map fun v => v.category).sum ≤ 2 * vs.length := by
  induction vs with
  | nil => simp
  | cons v t ih =>
    have h : v.category ≤ 2 := by rcases lv_cat v with h | h <;> omega
    simp only [List.map_cons, List.sum_cons, List.length_cons]
    omega
def fx_qi (F : Int32 → fx_S → Prop) (Q : fx_R → fx_S → Prop) : fx_R → fx_S → Prop := fun o S => match o with
  | .inl (some (.int r)) => F r S
  | .inr k => Q (.inr k) S
  | _ => False
def fx_qv (F : fx_S → Prop) (Q : fx_R → fx_S → Prop) : fx_R → fx_S → Prop := fun o S => match o with
  | .inl none => F S
  | .inr k => Q (.inr k) S
  | _ => False
section FXK
variable {G : fx_G} {d : Nat × Nat} {M : fx_M} {pc n : Nat} {L : List (Nat × Value)} {st : List Value} {S : fx_S} {Q : fx_R → fx_S → Prop}
theorem fx_mono {d' : Nat × Nat} (h : d.1 ≤ d'.1) (h0 : d.2 ≤ d'.2) (k : fx_Go G d M pc L st S Q) : fx_Go G d' M pc L st S Q := by
  intro p l e R s m args below meth c H locs cells slots ls hC hH hB hl
  obtain ⟨h1, h2, ⟨h3, h4⟩, h5⟩ := hC
  exact k p l e R s m args below meth c H locs cells slots ls ⟨h1, h2, ⟨by omega, by omega⟩, h5⟩ hH hB hl
/-- out of the kit's end of a method -/
theorem fx_end {p : Program} {l : Launch} {e : Env} {R : Room} {s : State} {m : MethodId} {args : Array Value} {below : List Frame} {meth : Method} {c : Code} {H : Heap} {locs : List Loc} {cells slots : Nat} {g : JFrame} {v : Option Value}
    (hH : fx_H G S H locs) (hB : fx_L S R cells slots) (hq : Q (.inl v) S) (k : W p l e R s m args below meth c H locs cells slots (MQ below (fun _ _ o t => o = .returned v ∧ t.heap = H) args s cells slots (fun q => fx_B G ≤ q)) g) :
    W p l e R s m args below meth c H locs cells slots (fx_E G R s below Q) g := by
  refine fx_wmono (fun t ht => ?_) k
  obtain ⟨o, h1, h2, ⟨rfl, h3⟩, L1, ⟨-, h4, h5⟩, h6⟩ := ht
  exact ⟨h1, .returned v, S, L1, cells, slots, h2, h4, h5, ⟨by rw [h3]; exact hH.1, by rw [h3]; exact hH.2.1, by rw [h3]; exact hH.2.2.1, h6⟩, hB, hq⟩
theorem fx_iret {v : Int32} (hd : decode M.2.1 pc = .ok (.ireturn, 1)) (hr : M.2.2.2.1 = some .int) (hq : Q (.inl (some (.int v))) S) : fx_Go G d M pc L [.int v] S Q := by
  intro p l e R s m args below meth c H locs cells slots ls hC hH hB hl
  have hlk := hC.lk
  exact fx_end hH hB hq (W.iret hC.x hC.cc (hC.ret.trans hr) (fun t ht _ => ⟨rfl, ht⟩) hH.2.2.2 hd)
theorem fx_zret {v : Int32} (hd : decode M.2.1 pc = .ok (.ireturn, 1)) (hr : M.2.2.2.1 = some .boolean) (hnr : narrow .boolean (.int v) = .int v) (hq : Q (.inl (some (.int v))) S) : fx_Go G d M pc L [.int v] S Q := by
  intro p l e R s m args below meth c H locs cells slots ls hC hH hB hl
  have hlk := hC.lk
  exact fx_end hH hB hq (W.zret hC.x hC.cc (hC.ret.trans hr) hnr (fun t ht _ => ⟨rfl, ht⟩) hH.2.2.2 hd)
theorem fx_vret (hd : decode M.2.1 pc = .ok (.return_, 1)) (hr : M.2.2.2.1 = none) (hq : Q (.inl none) S) : fx_Go G d M pc L [] S Q := by
  intro p l e R s m args below meth c H locs cells slots ls hC hH hB hl
  have hlk := hC.lk
  exact fx_end hH hB hq (W.vret hC.x hC.cc (hC.ret.trans hr) (fun t ht _ => ⟨rfl, ht⟩) hH.2.2.2 hd)
/-- a call, where no handler of the caller covers it: the callee's run, and what comes behind -/
theorem fx_core {p : Program} {l : Launch} {e : Env} {R : Room} {s : State} {m : MethodId} {args : Array Value} {below : List Frame} {meth : Method} {c : Code} {H : Heap} {locs : List Loc} {cells slots : Nat} {ls : Array Slot}
    (hC : fx_C G d M p l R s m meth c) (hH : fx_H G S H locs) (hB : fx_L S R cells slots) (hl : lv_has ls M.2.2.1 L) {M' : fx_M} {na : Nat} {d' : Nat × Nat} (hM : fx_mw M' na) {vs rest : List Value} (hvs : (lg_sl vs).length ≤ M'.2.2.1) (hdd : d'.1 + 1 ≤ d.1) (hroom : fx_ct rest + M'.2.2.1 + 11 + d'.2 ≤ d.2)
    {ig : Instr} (hdg : decode M.2.1 pc = .ok (ig, 3)) (hex : ∀ x ∈ M.2.2.2.2, ¬ (x.1 ≤ pc ∧ pc < x.2.1)) {Q' : fx_R → fx_S → Prop} (hgo : fx_Go G d' M' 0 (lv_args 0 vs) [] S Q')
    (hk : ∀ v S', Q' (.inl v) S' → fx_Go G d M (pc + 3) L (v.toList ++ rest) S' Q) (ht : ∀ k S', Q' (.inr k) S' → Q (.inr k) S')
    {T : State} (hT : T.heap = H) (X : Stand p l e R s m args below meth c T locs cells slots) {mk : MethodId} (hn : T.methodNamed? M'.1 = some mk) :
    ∃ t, (∀ acts, Steps p.tables e below (doInvoke e (T.setTop (F0 m pc ls rest)) acts mk vs.toArray).1 t) ∧ fx_E G R s below Q t := by
  have hwT : G.1.WarmedH T.vm := State.WarmedH.trans hC.warm X.warmed
  obtain ⟨mk', methk, ck, n1, n2, n3, n4, n5, n6, n7, n8, -⟩ := hM.at hC.2.2.2 hwT
  cases hn.symm.trans n1
  have hsize : (F0 m pc ls rest).locals.size = c.maxLocals := hl.1.trans hC.ml.symm
  have hpk : T.plainMethod mk := by
    refine State.plainMethod.of_name fun k hk => ?_
    obtain ⟨k', hk', hkn⟩ := className_of_methodNamed hn
    cases hk.symm.trans hk'
    rw [hkn]; exact hM.2.2.1
  obtain ⟨-, -, ⟨hfr, hlo⟩, -⟩ := id hC
  obtain ⟨hB1, hB2⟩ := id hB
  obtain ⟨Y, hin⟩ := X.into (g := F0 m pc ls rest) rfl hsize (by rw [hC.cc]; exact hdg) vs.toArray (R' := { frames := R.frames - 1, cells := R.cells - cells, slots := R.slots - slots, locals := R.locals - (fx_ct rest + M'.2.2.1 + 11) }) n2 n3 n7 hpk (by show R.frames - 1 + 1 ≤ _; omega)
    (by show 2 * 0 + fx_ct rest + (ck.maxLocals + 11) + (R.locals - (fx_ct rest + M'.2.2.1 + 11)) ≤ R.locals; rw [n5]; omega) (by show cells + (R.cells - cells) ≤ _; omega) (by show slots + (R.slots - slots) ≤ _; omega)
  have hC' : fx_C G d' M' p l { frames := R.frames - 1, cells := R.cells - cells, slots := R.slots - slots, locals := R.locals - (fx_ct rest + M'.2.2.1 + 11) } (T.calling (F0 m pc ls rest) mk vs.toArray) mk methk ck :=
    ⟨⟨hC.x, n4, n5, n6, n7, n8⟩, ⟨findClass_of_methodNamed hn, (name_of_methodNamed hn n2).1, hwT, hC.2.1.2.2.2⟩, ⟨by show d'.1 ≤ R.frames - 1; omega, by show d'.2 ≤ R.locals - (fx_ct rest + M'.2.2.1 + 11); omega⟩, hC.2.2.2⟩
  have hl' := lv_entry vs (n := M'.2.2.1) hvs
  generalize hU : ((T.setTop (F0 m pc ls rest)).pushFrame (.java (entryFrame mk vs.toArray ck.maxLocals))) = U at Y hin
  have hUh : U.heap = H := by rw [← hU]; exact hT
  have hW := hgo p l e _ _ mk vs.toArray (.java (F0 m pc ls rest) :: below) methk ck H [] 0 0 _ hC' ⟨hH.1, hH.2.1, hH.2.2.1, fun q h => by cases h⟩ ⟨by show 0 + _ ≤ R.cells - cells; omega, by show 0 + _ ≤ R.slots - slots; omega⟩ hl'
  obtain ⟨t, hst, hrun, o, S', Lc, kc, nc, hend, hwm, hsame, hHt, hLt, hO⟩ := hW U hUh Y
  have hst' : ∀ acts, Steps p.tables e below (doInvoke e (T.setTop (F0 m pc ls rest)) acts mk vs.toArray).1 t := fun acts => by
    rw [hin acts, n5, lg_entry_eq]
    exact Steps.weaken (mid := [.java (F0 m pc ls rest)]) hst
  obtain ⟨hL1, hL2⟩ := hLt
  have hB' : fx_L S' R (cells + kc) (slots + nc) := by
    refine ⟨?_, ?_⟩
    · have h1 : kc + (2000 - (fx_m S' + fx_x S')) ≤ R.cells - cells := hL1
      omega
    · have h1 : nc + (20000 - fx_k S') ≤ R.slots - slots := hL2
      omega
  have hlocs : ∀ q ∈ locs ++ Lc, fx_B G ≤ q.base := fun q hq => by
    rcases List.mem_append.mp hq with h | h
    · exact hH.2.2.2 q h
    · exact hHt.2.2.2 q h
  cases o with
  | returned v =>
    obtain ⟨T', X', -, -, htT⟩ := X.outOf (g := F0 m pc ls rest) rfl (by rw [hC.cc]; exact hdg) hend hwm hsame
    have hheap : t.heap = T'.heap := by rw [htT]; rfl
    rw [hheap] at hHt
    obtain ⟨t2, s2, e2⟩ := hk v S' hO p l e R s m args below meth c T'.heap (locs ++ Lc) (cells + kc) (slots + nc) ls hC ⟨hHt.1, hHt.2.1, hHt.2.2.1, hlocs⟩ hB' hl T' rfl X'
    exact ⟨t2, fun acts => (hst' acts).trans (by rw [htT]; exact s2), e2⟩
  | threw x =>
    obtain ⟨T', X', -, -, htT⟩ := X.outOfThrown (g := F0 m pc ls rest) rfl hend hwm hsame
    have hheap : t.heap = T'.heap := by rw [htT]; rfl
    obtain ⟨k, cell, o1, o2, o3, o4⟩ := hO
    rw [hheap] at hHt o1
    obtain ⟨hw, hr, he, hwm2, hsm2⟩ := X'.leaveThrown x (g := F0 m pc ls rest) rfl rfl rfl (fun y hy => by
      have hmem : (y.startPc, y.endPc, y.handlerPc, y.catchType) ∈ M.2.2.2.2 := by
        rw [← hC.1.2.2.2.2.2]; exact List.mem_map.mpr ⟨y, hy, rfl⟩
      have := hex _ hmem
      simp only [covers]
      simp only [Bool.and_eq_false_iff, decide_eq_false_iff_not]
      by_cases h1 : y.startPc ≤ pc
      · exact Or.inr fun h2 => this ⟨h1, h2⟩
      · exact Or.inl h1) (hlocks := hC.lk)
    exact ⟨T'.setFrames (.throwing x :: below), fun acts => (hst' acts).trans (by rw [htT]; exact hw), hr, .threw x, S', locs ++ Lc, cells + kc, slots + nc, he, hwm2, hsm2, ⟨hHt.1, hHt.2.1, hHt.2.2.1, hlocs⟩, hB', ⟨k, cell, o1, o2, o3, ht k S' o4⟩⟩
end FXK
end
section
section FXI
variable {G : fx_G} {d : Nat × Nat} {M : fx_M} {pc n : Nat} {L : List (Nat × Value)} {st : List Value} {S : fx_S} {Q : fx_R → fx_S → Prop}
variable {M' : fx_M} {na index : Nat} {d' : Nat × Nat} {vs rest : List Value} {L0 : List (Nat × Value)} {Q' : fx_R → fx_S → Prop}
def fx_cp (d d' : Nat × Nat) (pc : Nat) (M M' : fx_M) (vs rest : List Value) (L0 : List (Nat × Value)) : Prop := (lg_sl vs).length ≤ M'.2.2.1 ∧ d'.1 + 1 ≤ d.1 ∧ fx_ct rest + M'.2.2.1 + 11 + d'.2 ≤ d.2 ∧ (∀ x ∈ M.2.2.2.2, ¬ (x.1 ≤ pc ∧ pc < x.2.1)) ∧ lv_args 0 vs = L0
theorem fx_mw.len {M : fx_M} {na : Nat} (h : fx_mw M na) {sig : MethodDescriptor} (hs : parseMethodDescriptor M.1.desc = some sig) : na = sig.parameters.length := by
  have h2 := h.2.2.2
  rw [hs] at h2
  exact (Option.some.inj h2).symm
/-- static, not of a nest mate's private ones -/
theorem fx_callS (hd : decode M.2.1 pc = .ok (.invokestatic index, 3)) (hM : fx_mw M' na) (hw : Cond.methodLink M.1.cls index M'.1 ∈ lw_tbl ∧ Cond.static M'.1 ∈ lw_tbl ∧ Cond.initialized M'.1.cls ∈ lw_tbl) (hna : vs.length = na) (hs : st = vs.reverse ++ rest) (hp : fx_cp d d' pc M M' vs rest L0)
    (hn : pc + 3 = n) (hgo : fx_Go G d' M' 0 L0 [] S Q') (hk : ∀ v S', Q' (.inl v) S' → fx_Go G d M n L (v.toList ++ rest) S' Q) (ht : ∀ k S', Q' (.inr k) S' → Q (.inr k) S') : fx_Go G d M pc L st S Q := by
  obtain ⟨hvs, hdd, hroom, hex, rfl⟩ := hp
  subst hs
  subst hn
  intro p l e R s m args below meth c H locs cells slots ls hC hH hB hl T hT X
  obtain ⟨mk, methk, ck, n1, n2, n3, n4, n5, n6, n7, n8, n9⟩ := hM.at hC.2.2.2 hC.warm
  have hstat : methk.isStatic = true := Cond.static_spec n1 n2 (hC.w hw.2.1 (Or.inl rfl) args)
  obtain ⟨kP, hkP, -⟩ := className_of_methodNamed n1
  have hinitP : kP.init = .initialized := Cond.initialized_spec (findClass_of_methodNamed n1) hkP (hC.w hw.2.2 (Or.inl rfl) args)
  obtain ⟨vm₁, X₁, hstep₁⟩ := X.invokestatic hC.x hC.own (hC.w hw.1 (Or.inl rfl) args) n1 n2 hstat hkP hinitP hM.2.1 (g := F0 m pc ls (vs.reverse ++ rest)) rfl (argsL := vs) (rest := rest) (hna.trans (hM.len n9)) rfl (by rw [hC.cc]; exact hd)
  obtain ⟨t, h1, h2⟩ := fx_core hC hH hB hl hM hvs hdd hroom hd hex hgo hk ht (T := T.setVm vm₁) hT X₁ (X₁.named n1)
  exact ⟨t, hstep₁ t h1, h2⟩
theorem fx_callSN {host : String} (hd : decode M.2.1 pc = .ok (.invokestatic index, 3)) (hM : fx_mw M' na) (hw : Cond.methodLinkNest M.1.cls index M'.1 host ∈ lw_tbl ∧ Cond.static M'.1 ∈ lw_tbl ∧ Cond.initialized M'.1.cls ∈ lw_tbl) (hna : vs.length = na) (hs : st = vs.reverse ++ rest) (hp : fx_cp d d' pc M M' vs rest L0)
    (hn : pc + 3 = n) (hgo : fx_Go G d' M' 0 L0 [] S Q') (hk : ∀ v S', Q' (.inl v) S' → fx_Go G d M n L (v.toList ++ rest) S' Q) (ht : ∀ k S', Q' (.inr k) S' → Q (.inr k) S') : fx_Go G d M pc L st S Q := by
  obtain ⟨hvs, hdd, hroom, hex, rfl⟩ := hp
  subst hs
  subst hn
  intro p l e R s m args below meth c H locs cells slots ls hC hH hB hl T hT X
  obtain ⟨mk, methk, ck, n1, n2, n3, n4, n5, n6, n7, n8, n9⟩ := hM.at hC.2.2.2 hC.warm
  have hstat : methk.isStatic = true := Cond.static_spec n1 n2 (hC.w hw.2.1 (Or.inl rfl) args)
  obtain ⟨kP, hkP, -⟩ := className_of_methodNamed n1
  have hinitP : kP.init = .initialized := Cond.initialized_spec (findClass_of_methodNamed n1) hkP (hC.w hw.2.2 (Or.inl rfl) args)
  have hlink : (Cond.methodLinkNest M.1.cls index M'.1 host).before args s = true := va_Nw.use rfl (va_Nw.warmM hC.warm (va_Nw.of rfl (hC.2.2.2.1 _ hw.1)))
  obtain ⟨vm₁, X₁, hstep₁⟩ := X.invokestaticNest hC.x hC.own hlink n1 n2 hstat hkP hinitP hM.2.1 (g := F0 m pc ls (vs.reverse ++ rest)) rfl (argsL := vs) (rest := rest) (hna.trans (hM.len n9)) rfl (by rw [hC.cc]; exact hd)
  obtain ⟨t, h1, h2⟩ := fx_core hC hH hB hl hM hvs hdd hroom hd hex hgo hk ht (T := T.setVm vm₁) hT X₁ (X₁.named n1)
  exact ⟨t, hstep₁ t h1, h2⟩
theorem fx_recv {s : State} {H : Heap} {locs : List Loc} (hH : fx_H G S H locs) {a c : Nat} {q : vw_C} (hK : va_K G.2.2.1 vwCl (fx_tys G.2.2.2) s) (hc : c < 100) (ha : a < fx_m S) (hk : fx_kd S a = c) (hq : vwCl[c]? = some q) : ∃ cell : Cell, H[fx_B G + a]? = some cell ∧ cell.vm.isStatics = false ∧ s.vm.findClass q.1 = some cell.cls := by
  have hat := hH.1 a ha
  rw [fx_ent_obj hk hc] at hat
  obtain ⟨r, h1, cell, q1, q2, q3, -⟩ := hat
  exact ⟨cell, q1, by rw [q3]; rfl, by rw [q2]; exact (hK.1 c q hq).2.1⟩
theorem fx_callV {a c : Nat} {q : vw_C} (hd : decode M.2.1 pc = .ok (.invokevirtual index, 3)) (hM : fx_mw M' na) (hw : Cond.methodLink M.1.cls index M'.1 ∈ lw_tbl ∧ Cond.instanceMethod M'.1 ∈ lw_tbl ∧ Cond.selects q.1 M'.1 M'.1 ∈ lw_tbl) (hq : vwCl[c]? = some q) (hc : c < 100) (ha : a < fx_m S) (hka : fx_kd S a = c)
    (hna : vs.length = na) (hs : st = vs.reverse ++ fx_r G a :: rest) (hp : fx_cp d d' pc M M' (fx_r G a :: vs) rest L0)
    (hn : pc + 3 = n) (hgo : fx_Go G d' M' 0 L0 [] S Q') (hk : ∀ v S', Q' (.inl v) S' → fx_Go G d M n L (v.toList ++ rest) S' Q) (ht : ∀ k S', Q' (.inr k) S' → Q (.inr k) S') : fx_Go G d M pc L st S Q := by
  obtain ⟨hvs, hdd, hroom, hex, rfl⟩ := hp
  subst hs
  subst hn
  intro p l e R s m args below meth c0 H locs cells slots ls hC hH hB hl T hT X
  obtain ⟨mk, methk, ck, n1, n2, n3, n4, n5, n6, n7, n8, n9⟩ := hM.at hC.2.2.2 hC.warm
  obtain ⟨mk2, meth2, m1, m2, hst, hab⟩ := Cond.instanceMethod_spec (hC.w hw.2.1 (Or.inl rfl) args)
  cases n1.symm.trans m1
  cases n2.symm.trans m2
  obtain ⟨cellB, hcB, hoB, hclB⟩ := fx_recv hH hC.K hc ha hka hq
  obtain ⟨c2, r2, m3, q1, q2, q3, q4, kP, hkP, hkPi⟩ := Cond.selects_spec (hC.w hw.2.2 (Or.inl rfl) args)
  cases hclB.symm.trans q1
  cases (State.methodFound?_of_named n1 hM.2.1).symm.trans q2
  cases n1.symm.trans q3
  have hselP : selectMethod e.platform s.vm cellB.cls mk = .method mk := by rw [Launch.admits_selectMethod X.admits]; exact q4
  obtain ⟨vm₁, X₁, hstep₁⟩ := X.invokevirtual hC.x hC.own (hC.w hw.1 (Or.inl rfl) args) n1 n2 hst hkP hkPi hM.2.1 (a := fx_B G + a) (cell := cellB) (by rw [hT]; exact hcB) (fun z h => by rw [h] at hoB; cases hoB) hselP n2 hab hkP hkPi (g := F0 m pc ls (vs.reverse ++ fx_r G a :: rest)) rfl (argsL := vs) (rest := rest) (hna.trans (hM.len n9)) rfl (by rw [hC.cc]; exact hd)
  obtain ⟨t, h1, h2⟩ := fx_core hC hH hB hl hM hvs hdd hroom hd hex hgo hk ht (T := T.setVm vm₁) hT X₁ (X₁.named n1)
  exact ⟨t, hstep₁ t h1, h2⟩
theorem fx_callI {a : Nat} (hd : decode M.2.1 pc = .ok (.invokespecial index, 3)) (hM : fx_mw M' na) (hi : M'.1.name = "<init>" ∧ M'.2.2.2.1 = none ∧ M'.2.2.2.2 = []) (hw : Cond.methodLink M.1.cls index M'.1 ∈ lw_tbl ∧ Cond.instanceMethod M'.1 ∈ lw_tbl ∧ Cond.code M'.1 M'.2.1 M'.2.2.1 none ∈ lw_tbl)
    (hna : vs.length = na) (hs : st = vs.reverse ++ fx_r G a :: rest) (hp : fx_cp d d' pc M M' (fx_r G a :: vs) rest L0)
    (hn : pc + 3 = n) (hgo : fx_Go G d' M' 0 L0 [] S Q') (hk : ∀ v S', Q' (.inl v) S' → fx_Go G d M n L (v.toList ++ rest) S' Q) (ht : ∀ k S', Q' (.inr k) S' → Q (.inr k) S') : fx_Go G d M pc L st S Q := by
  obtain ⟨hvs, hdd, hroom, hex, rfl⟩ := hp
  subst hs
  subst hn
  intro p l e R s m args below meth c0 H locs cells slots ls hC hH hB hl T hT X
  have hpl : e.platform.magicAccessors = ({} : Platform).magicAccessors := by rw [X.admits.platform]
  obtain ⟨mk, methM, cM, kP, vm₁, hnamed, hmethM, hcodeM, -, hlocalsM, -, hkP, -, hW₁, hstep₁⟩ := Steps.initColdArgs (e := e) X.here hC.x X.warmed hpl hC.own hi.1 hM.2.1 (hC.w hw.1 (Or.inl rfl) args) (hC.w hw.2.1 (Or.inl rfl) args) (hC.w hw.2.2 (Or.inl rfl) args) (f := F0 m pc ls (vs.reverse ++ fx_r G a :: rest)) rfl (argsL := vs) (rest := rest) (fun sig hsig => hna.trans (hM.len hsig)) rfl (by rw [hC.cc]; exact hd)
  have X₁ := X.noted hW₁
  obtain ⟨t, h1, h2⟩ := fx_core hC hH hB hl hM hvs hdd hroom hd hex hgo hk ht (T := T.setVm vm₁) hT X₁ (X₁.named hnamed)
  exact ⟨t, hstep₁ t h1, h2⟩
theorem fx_callIN {a : Nat} {host : String} (hd : decode M.2.1 pc = .ok (.invokespecial index, 3)) (hM : fx_mw M' na) (hi : M'.1.name = "<init>" ∧ M'.2.2.2.1 = none ∧ M'.2.2.2.2 = []) (hw : Cond.methodLinkNest M.1.cls index M'.1 host ∈ lw_tbl ∧ Cond.instanceMethod M'.1 ∈ lw_tbl ∧ Cond.code M'.1 M'.2.1 M'.2.2.1 none ∈ lw_tbl)
    (hna : vs.length = na) (hs : st = vs.reverse ++ fx_r G a :: rest) (hp : fx_cp d d' pc M M' (fx_r G a :: vs) rest L0)
    (hn : pc + 3 = n) (hgo : fx_Go G d' M' 0 L0 [] S Q') (hk : ∀ v S', Q' (.inl v) S' → fx_Go G d M n L (v.toList ++ rest) S' Q) (ht : ∀ k S', Q' (.inr k) S' → Q (.inr k) S') : fx_Go G d M pc L st S Q := by
  obtain ⟨hvs, hdd, hroom, hex, rfl⟩ := hp
  subst hs
  subst hn
  intro p l e R s m args below meth c0 H locs cells slots ls hC hH hB hl T hT X
  have hpl : e.platform.magicAccessors = ({} : Platform).magicAccessors := by rw [X.admits.platform]
  have hlink : (Cond.methodLinkNest M.1.cls index M'.1 host).before args s = true := va_Nw.use rfl (va_Nw.warmM hC.warm (va_Nw.of rfl (hC.2.2.2.1 _ hw.1)))
  obtain ⟨mk, methM, cM, kP, vm₁, hnamed, hmethM, hcodeM, -, hlocalsM, -, hkP, -, hW₁, hstep₁⟩ := Steps.initColdArgsNest (e := e) X.here hC.x X.warmed hpl hC.own hi.1 hM.2.1 hlink (hC.w hw.2.1 (Or.inl rfl) args) (hC.w hw.2.2 (Or.inl rfl) args) (f := F0 m pc ls (vs.reverse ++ fx_r G a :: rest)) rfl (argsL := vs) (rest := rest) (fun sig hsig => hna.trans (hM.len hsig)) rfl (by rw [hC.cc]; exact hd)
  have X₁ := X.noted hW₁
  obtain ⟨t, h1, h2⟩ := fx_core hC hH hB hl hM hvs hdd hroom hd hex hgo hk ht (T := T.setVm vm₁) hT X₁ (X₁.named hnamed)
  exact ⟨t, hstep₁ t h1, h2⟩
/-- Object's own constructor -/
theorem fx_objInit {a : Nat} (hd : decode M.2.1 pc = .ok (.invokespecial index, 3)) (hw : Cond.methodLink M.1.cls index Lib.objectInit ∈ lw_tbl ∧ Cond.instanceMethod Lib.objectInit ∈ lw_tbl ∧ Cond.code Lib.objectInit ⟨#[0xb1]⟩ 1 none ∈ lw_tbl) (hn : pc + 3 = n) (hr : 1 ≤ d.1 ∧ fx_ct st + 12 ≤ d.2) (kk : fx_Go G d M n L st S Q) : fx_Go G d M pc L (fx_r G a :: st) S Q := by
  subst hn
  intro p l e R s m args below meth c0 H locs cells slots ls hC hH hB hl
  obtain ⟨-, -, ⟨hfr, hlo⟩, -⟩ := id hC
  exact W.objInit hC.x hC.cc hC.own (hC.w hw.1 (Or.inl rfl) args) (hC.w hw.2.1 (Or.inl rfl) args) (hC.w hw.2.2 (Or.inl rfl) args) rfl (hl.1.trans hC.ml.symm) rfl hd (by omega) (by show 2 * 0 + fx_ct st + 12 ≤ _; omega) (kk p l e R s m args below meth c0 H locs cells slots ls hC hH hB hl)
theorem fx_mmax {x y : Int32} (hd : decode M.2.1 pc = .ok (.invokestatic index, 3)) (hw : Cond.methodLink M.1.cls index Lib.Math.max.name ∈ lw_tbl ∧ Cond.static Lib.Math.max.name ∈ lw_tbl ∧ Cond.initialized "java/lang/Math" ∈ lw_tbl ∧ Cond.code Lib.Math.max.name Lib.Math.max.code 2 (some .int) ∈ lw_tbl) (hn : pc + 3 = n) (hr : 1 ≤ d.1 ∧ fx_ct st + 13 ≤ d.2)
    (kk : fx_Go G d M n L (.int (if x < y then y else x) :: st) S Q) : fx_Go G d M pc L (.int y :: .int x :: st) S Q := by
  subst hn
  intro p l e R s m args below meth c0 H locs cells slots ls hC hH hB hl
  obtain ⟨-, -, ⟨hfr, hlo⟩, -⟩ := id hC
  obtain ⟨hB1, hB2⟩ := id hB
  exact va_mmax hC.x hC.cc (hC.ml.trans hl.1.symm) hC.own (hC.w hw.1 (Or.inl rfl) args) (hC.w hw.2.1 (Or.inl rfl) args) (hC.w hw.2.2.1 (Or.inl rfl) args) (hC.w hw.2.2.2 (Or.inl rfl) args) (by omega) (by show fx_ct st + 13 ≤ _; omega) (by omega) (by omega) hd (kk p l e R s m args below meth c0 H locs cells slots ls hC hH hB hl)
theorem fx_mmin {x y : Int32} (hd : decode M.2.1 pc = .ok (.invokestatic index, 3)) (hw : Cond.methodLink M.1.cls index Lib.Math.min.name ∈ lw_tbl ∧ Cond.static Lib.Math.min.name ∈ lw_tbl ∧ Cond.initialized "java/lang/Math" ∈ lw_tbl ∧ Cond.code Lib.Math.min.name Lib.Math.min.code 2 (some .int) ∈ lw_tbl) (hn : pc + 3 = n) (hr : 1 ≤ d.1 ∧ fx_ct st + 13 ≤ d.2)
    (kk : fx_Go G d M n L (.int (if y < x then y else x) :: st) S Q) : fx_Go G d M pc L (.int y :: .int x :: st) S Q := by
  subst hn
  intro p l e R s m args below meth c0 H locs cells slots ls hC hH hB hl
  obtain ⟨-, -, ⟨hfr, hlo⟩, -⟩ := id hC
  obtain ⟨hB1, hB2⟩ := id hB
  exact va_mmin hC.x hC.cc (hC.ml.trans hl.1.symm) hC.own (hC.w hw.1 (Or.inl rfl) args) (hC.w hw.2.1 (Or.inl rfl) args) (hC.w hw.2.2.1 (Or.inl rfl) args) (hC.w hw.2.2.2 (Or.inl rfl) args) (by omega) (by show fx_ct st + 13 ≤ _; omega) (by omega) (by omega) hd (kk p l e R s m args below meth c0 H locs cells slots ls hC hH hB hl)
end FXI
end
section
theorem fx_H.upds {G : fx_G} {S S' : fx_S} {H H' : Heap} {locs ex : List Loc} {a : Nat} (h : fx_H G S H locs) (hz : H'.size = H.size) (ho : ∀ q, q ≠ fx_B G + a → H'[q]? = H[q]?) (ha : va_at G.2.2.1 vwCl (fx_B G + a, fx_ent G S' a) H')
    (he : ∀ i, i ≠ a → fx_ent G S' i = fx_ent G S i) (h1 : S'.1 = S.1) (hx : ∀ q ∈ ex, fx_B G ≤ q.base) : fx_H G S' H' (locs ++ ex) := by
  obtain ⟨g1, g2, g3, g4⟩ := fx_H.upd (k := 0) h hz ho ha he h1
  refine ⟨g1, g2, g3, fun q hq => ?_⟩
  rcases List.mem_append.mp hq with h2 | h2
  · exact h.2.2.2 q h2
  · exact hx q h2
/-- one cell more -/
theorem fx_H.more {G : fx_G} {S : fx_S} {H H' : Heap} {locs : List Loc} {kd ln sl : Nat} (h : fx_H G S H locs) (hx : fx_x S = 0) (hz : H'.size = fx_B G + fx_m S + 1) (ho : ∀ q, q < fx_B G + fx_m S → H'[q]? = H[q]?)
    (ha : va_at G.2.2.1 vwCl (fx_B G + fx_m S, fx_ent G (fx_new S kd ln sl) (fx_m S)) H') : fx_H G (fx_new S kd ln sl) H' locs := by
  obtain ⟨hP, hO, hS, hl⟩ := h
  have hm : fx_m (fx_new S kd ln sl) = fx_m S + 1 := rfl
  have hx' : fx_x (fx_new S kd ln sl) = fx_x S := rfl
  refine ⟨fun i hi => ?_, fun q hq => ?_, by rw [hz, hm, hx', hx]; omega, hl⟩
  · by_cases hia : i = fx_m S
    · subst hia; exact ha
    · have hlt : i < fx_m S := by rw [hm] at hi; omega
      have e0 : fx_ent G (fx_new S kd ln sl) i = fx_ent G S i := by
        have e1 : fx_I (fx_new S kd ln sl) i = fx_I S i := fx_row_ne _ _ hia
        have e2 : fx_P (fx_new S kd ln sl) i = fx_P S i := fx_row_ne _ _ hia
        have e3 : fx_J (fx_new S kd ln sl) i = fx_J S i := fx_row_ne _ _ hia
        have e4 : fx_kd (fx_new S kd ln sl) i = fx_kd S i := congrArg Prod.fst (if_neg hia)
        have e5 : fx_ln (fx_new S kd ln sl) i = fx_ln S i := congrArg Prod.snd (if_neg hia)
        simp only [fx_ent, fx_fs, e1, e2, e3, e4, e5]
      rw [e0]
      exact (hP i hlt).kept (ho _ (by omega))
  · rw [ho q (by omega)]; exact hO q hq
theorem fx_new_kd (S : fx_S) (kd ln sl : Nat) : fx_kd (fx_new S kd ln sl) (fx_m S) = kd := congrArg Prod.fst (if_pos rfl)
theorem fx_new_ln (S : fx_S) (kd ln sl : Nat) : fx_ln (fx_new S kd ln sl) (fx_m S) = ln := congrArg Prod.snd (if_pos rfl)
theorem fx_new_I (S : fx_S) (kd ln sl : Nat) : fx_I (fx_new S kd ln sl) (fx_m S) = fun _ => 0 := fx_row_self _ _ _
theorem fx_new_P (S : fx_S) (kd ln sl : Nat) : fx_P (fx_new S kd ln sl) (fx_m S) = fun _ => none := fx_row_self _ _ _
theorem fx_new_J (S : fx_S) (kd ln sl : Nat) : fx_J (fx_new S kd ln sl) (fx_m S) = fun _ => 0 := fx_row_self _ _ _
theorem fx_L.more {S : fx_S} {R : Room} {cells slots kd ln sl : Nat} (h : fx_L S R cells slots) (h1 : fx_m S + fx_x S + 1 ≤ 2000) (h2 : fx_k S + sl ≤ 20000) : fx_L (fx_new S kd ln sl) R (cells + 1) (slots + sl) ∧ cells + 1 ≤ R.cells ∧ slots + sl ≤ R.slots := by
  obtain ⟨a, b⟩ := h
  have hm : fx_m (fx_new S kd ln sl) = fx_m S + 1 := rfl
  have hx' : fx_x (fx_new S kd ln sl) = fx_x S := rfl
  have hk : fx_k (fx_new S kd ln sl) = fx_k S + sl := rfl
  refine ⟨⟨?_, ?_⟩, ?_, ?_⟩
  · rw [hm, hx']; omega
  · rw [hk]; omega
  · omega
  · omega
section FXN
variable {G : fx_G} {d : Nat × Nat} {M : fx_M} {pc n : Nat} {L : List (Nat × Value)} {st : List Value} {S : fx_S} {Q : fx_R → fx_S → Prop}
theorem fx_newc {c index N : Nat} {C : String} {T : u_T} (hd : decode M.2.1 pc = .ok (.new index, 3)) (hcw : fx_cw c C T N) (hc : c < 100) (hw : Cond.classLink M.1.cls index C ∈ lw_tbl ∧ Cond.instantiable C N ∈ lw_tbl ∧ Cond.initialized C ∈ lw_tbl) (hn : pc + 3 = n) (hx : fx_x S = 0) (h1 : fx_m S + fx_x S + 1 ≤ 2000) (h2 : fx_k S + N ≤ 20000)
    (kk : fx_Go G d M n L (fx_r G (fx_m S) :: st) (fx_new S c 0 N) Q) : fx_Go G d M pc L st S Q := by
  subst hn
  intro p l e R s m args below meth c0 H locs cells slots ls hC hH hB hl
  obtain ⟨hL, hc1, hs1⟩ := fx_L.more (kd := c) (ln := 0) (sl := N) hB h1 h2
  have hts : ∀ w ∈ u_ws C T N, w.before args s = true := fun w hw => hC.w (hcw.2.1 w hw) (fx_layGood hw) _
  obtain ⟨ty0, hty, hdf⟩ := hcw.2.2.1
  have hKn := hC.K.1 c _ hcw.1
  refine W.newcK hC.x hC.cc hC.own (hC.w hw.1 (Or.inl rfl) args) (hC.w hw.2.1 (Or.inl rfl) args) (hC.w hw.2.2 (Or.inl rfl) args) rfl hd hc1 hs1 hKn.2.1 (h := fx_B G + fx_m S) (by rw [hH.2.2.1, hx]; rfl) fun H1 kC hkC e1 z1 o1 => ?_
  refine kk p l e R s m args below meth c0 H1 locs (cells + 1) (slots + N) ls hC (hH.more hx z1 o1 ?_) hL hl
  rw [fx_ent_obj (fx_new_kd S c 0 N) hc]
  refine ⟨_, hcw.1, (u_born ty0 hts (fun w h => h) hKn hkC e1 hty).to fun j hj => ?_⟩
  rw [hdf j hj, fx_fs_V (by rw [hcw.N]; exact hj), fx_new_P, fx_new_I]
  rfl
theorem fx_newa {t : Nat} {atype : ArrayType} {ty : FieldType} {x : Int32} {N : Nat} (hd : decode M.2.1 pc = .ok (.newarray atype, 2)) (hw : Cond.arrayClass (newarray.typeOf atype) ∈ lw_tbl) (ht : t = 0 ∧ newarray.typeOf atype = .int ∨ t = 1 ∧ newarray.typeOf atype = .boolean ∨ t = 2 ∧ newarray.typeOf atype = .char ∨ t = 3 ∧ newarray.typeOf atype = .long)
    (hn : pc + 2 = n) (hx0 : ¬ x < 0) (hN : x.toNatClampNeg = N) (hx : fx_x S = 0) (h1 : fx_m S + fx_x S + 1 ≤ 2000) (h2 : fx_k S + N ≤ 20000)
    (kk : fx_Go G d M n L (fx_r G (fx_m S) :: st) (fx_new S (100 + t) N N) Q) : fx_Go G d M pc L (.int x :: st) S Q := by
  subst hn
  intro p l e R s m args below meth c0 H locs cells slots ls hC hH hB hl
  obtain ⟨hL, hc1, hs1⟩ := fx_L.more (kd := 100 + t) (ln := N) (sl := N) hB h1 h2
  have hcb : componentBytes (newarray.typeOf atype) ≤ 8 := by
    rcases ht with ⟨-, h⟩ | ⟨-, h⟩ | ⟨-, h⟩ | ⟨-, h⟩ <;> rw [h] <;> decide
  have hby : N * componentBytes (newarray.typeOf atype) ≤ 536870912 := by
    have : N * componentBytes (newarray.typeOf atype) ≤ 20000 * 8 := Nat.mul_le_mul (by omega) hcb
    omega
  refine va_newaK hC.x hC.cc (hC.w hw (Or.inr ⟨_, rfl⟩) args) rfl hd rfl hx0 hN hby hc1 hs1 (h := fx_B G + fx_m S) (by rw [hH.2.2.1, hx]; rfl) fun H1 cA e1 z1 o1 hAr hNm => ?_
  refine kk p l e R s m args below meth c0 H1 locs (cells + 1) (slots + N) ls hC (hH.more hx z1 o1 ?_) hL hl
  rcases ht with ⟨rfl, h⟩ | ⟨rfl, h⟩ | ⟨rfl, h⟩ | ⟨rfl, h⟩
  · rw [h] at hNm e1
    have hcA : G.2.2.2 0 = cA := Option.some.inj ((hC.K.2 0 _ rfl).2.symm.trans hNm)
    rw [fx_ent_i (fx_new_kd S 100 N N), fx_new_ln, fx_new_I, hcA]
    exact e1
  · rw [h] at hNm e1
    have hcA : G.2.2.2 1 = cA := Option.some.inj ((hC.K.2 1 _ rfl).2.symm.trans hNm)
    rw [fx_ent_z (fx_new_kd S 101 N N), fx_new_ln, fx_new_I, hcA]
    exact e1
  · rw [h] at hNm e1
    have hcA : G.2.2.2 2 = cA := Option.some.inj ((hC.K.2 2 _ rfl).2.symm.trans hNm)
    rw [fx_ent_c (fx_new_kd S 102 N N), fx_new_ln, fx_new_I, hcA]
    exact e1
  · rw [h] at hNm e1
    have hcA : G.2.2.2 3 = cA := Option.some.inj ((hC.K.2 3 _ rfl).2.symm.trans hNm)
    rw [fx_ent_l (fx_new_kd S 103 N N), fx_new_ln, fx_new_J, hcA]
    exact e1
theorem fx_anew {index N : Nat} {x : Int32} (hd : decode M.2.1 pc = .ok (.anewarray index, 3)) (hw : Cond.classLink M.1.cls index "FixupVolume$Sheet" ∈ lw_tbl ∧ Cond.arrayOver (.object "FixupVolume$Sheet") ∈ lw_tbl) (hn : pc + 3 = n) (hx0 : ¬ x < 0) (hN : x.toNatClampNeg = N) (hx : fx_x S = 0) (h1 : fx_m S + fx_x S + 1 ≤ 2000) (h2 : fx_k S + N ≤ 20000)
    (kk : fx_Go G d M n L (fx_r G (fx_m S) :: st) (fx_new S 104 N N) Q) : fx_Go G d M pc L (.int x :: st) S Q := by
  subst hn
  subst hN
  intro p l e R s m args below meth c0 H locs cells slots ls hC hH hB hl
  obtain ⟨hL, hc1, hs1⟩ := fx_L.more (kd := 104) (ln := x.toNatClampNeg) (sl := x.toNatClampNeg) hB h1 h2
  have hsz : H.size = fx_B G + fx_m S := by rw [hH.2.2.1, hx]; rfl
  refine W.anew hC.x hC.cc hC.own (hC.w hw.1 (Or.inl rfl) args) (va_AO.use (va_AO.moved hC.warm.alike (va_AO.of (hC.2.2.2.1 _ hw.2)))) rfl hd rfl hx0 (by omega) hc1 hs1 fun cA kA comp g1 g2 g3 g4 => ?_
  rw [hsz]
  refine kk p l e R s m args below meth c0 _ locs (cells + 1) (slots + x.toNatClampNeg) ls hC (hH.more hx (by simp [hsz]) (fun q hq => ?_) ?_) hL hl
  · rw [Array.getElem?_push, if_neg (by omega)]
  · obtain ⟨kA2, comp2, k1, k2, k3, k4⟩ := (hC.K.2 4 _ rfl).2
    have hcA : G.2.2.2 4 = cA := Option.some.inj (k4.symm.trans g1)
    rw [fx_ent_q (fx_new_kd S 104 _ _), fx_new_ln, fx_new_P, hcA]
    show (H.push _)[_]? = some (vp_cell _ _)
    rw [vp_cell_q, ← hsz, arrV_new]
    simp
    rfl
theorem fx_aast {a r c : Nat} {i : Int32} {q : vw_C} (hd : decode M.2.1 pc = .ok (.aastore, 1)) (hn : pc + 1 = n) (ha : a < fx_m S) (hk : fx_kd S a = 104) (hin : vp_in i (fx_ln S a)) (hr : r < fx_m S) (hkr : fx_kd S r = c) (hc : c < 100) (hq : vwCl[c]? = some q) (hq1 : q.1 = "FixupVolume$Sheet")
    (kk : fx_Go G d M n L st (fx_setP S a i.toNatClampNeg (some r)) Q) : fx_Go G d M pc L (fx_r G r :: .int i :: fx_r G a :: st) S Q := by
  subst hn
  intro p l e R s m args below meth c0 H locs cells slots ls hC hH hB hl
  have hat := hH.1 a ha
  rw [fx_ent_q hk] at hat
  have hlt : i.toNatClampNeg < fx_ln S a := Nat.not_le.mp fun q => hin (Or.inr q)
  have h0 : ¬ i < 0 := fun q => hin (Or.inl q)
  have har := hH.1 r hr
  rw [fx_ent_obj hkr hc] at har
  obtain ⟨r', hr', cellV, g1, g2, g3, -⟩ := har
  have hcls := (hC.K.1 c q hq).2
  obtain ⟨kA, comp, k1, k2, k3, -⟩ := (hC.K.2 4 _ rfl).2
  have hcomp : comp = G.2.2.1.1 c := Option.some.inj (k3.symm.trans (by rw [← hq1]; exact hcls.1))
  subst hcomp
  obtain ⟨kC, hkC, -⟩ := id hcls.2
  refine W.aast hC.x hC.cc hat (fun q h => by cases h) (fun h => by cases h) k1 k2 rfl hkC ⟨h0, by show _ < (arrV _ _ _).slots.size; rw [arrV_size]; exact hlt⟩ g1 (fun q h => by rw [g3] at h; cases h) (by rw [g2]; exact hkC) (by rw [g2]; exact va_assign hcls) rfl rfl hd fun H1 e1 z oq => ?_
  refine kk p l e R s m args below meth c0 H1 _ cells slots ls hC (fx_H.upd (S := S) (S' := fx_setP S a i.toNatClampNeg (some r)) hH z oq ?_ (fun i hi => fx_setP_ent hi) rfl) hB hl
  rw [fx_ent_q (S := fx_setP S a i.toNatClampNeg (some r)) hk]
  show H1[_]? = some (vp_cell _ _)
  rw [e1, vp_cell_q, vp_cell_q, arrV_store]
  show _ = some (arrV _ (fx_ln S a) (fun j => va_rf (fx_rf G (fx_row _ a _ a j))))
  rw [fx_row_self]
  congr 2
  funext q
  by_cases hq : q = i.toNatClampNeg
  · simp [updV, va_up, hq, fx_rf, va_rf]
  · simp [updV, va_up, hq]
/-- System.arraycopy between int arrays -/
theorem fx_copy {a b index : Nat} {sp dp k : Int32} (hd : decode M.2.1 pc = .ok (.invokestatic index, 3)) (hw : Cond.methodLink M.1.cls index arraycopyName ∈ lw_tbl ∧ Cond.native arraycopyName ∈ lw_tbl ∧ Cond.static arraycopyName ∈ lw_tbl ∧ Cond.initialized "java/lang/System" ∈ lw_tbl) (hn : pc + 3 = n) (hr : 1 ≤ d.1 ∧ fx_ct st + (nativeFrameWords "java/lang/System" "arraycopy" 5 + 11) ≤ d.2)
    (hb : b < fx_m S) (hkb : fx_kd S b = 100) (ha : a < fx_m S) (hka : fx_kd S a = 100) (h1 : ¬ sp < 0) (h2 : ¬ dp < 0) (h3 : ¬ k < 0) (h4 : sp.toNatClampNeg + k.toNatClampNeg ≤ fx_ln S b) (h5 : dp.toNatClampNeg + k.toNatClampNeg ≤ fx_ln S a)
    (kk : fx_Go G d M n L st (fx_setR S a (va_cpy (fx_I S b) (fx_I S a) sp.toNatClampNeg dp.toNatClampNeg k.toNatClampNeg)) Q) : fx_Go G d M pc L (.int k :: .int dp :: fx_r G a :: .int sp :: fx_r G b :: st) S Q := by
  subst hn
  intro p l e R s m args below meth c0 H locs cells slots ls hC hH hB hl T hT X
  have nn : ∀ z : Int32, ¬ z < 0 → z.toInt = (z.toNatClampNeg : Int) := by
    intro z hz
    have hz0 : (0 : Int) ≤ z.toInt := by
      have := Int32.not_lt.mp hz
      simpa using Int32.le_iff_toInt_le.mp this
    show z.toInt = ((z.toInt.toNat : Nat) : Int)
    omega
  obtain ⟨-, -, ⟨hfr, hlo⟩, -⟩ := id hC
  have hcb := hH.1 b hb
  rw [fx_ent_i hkb] at hcb
  have hca := hH.1 a ha
  rw [fx_ent_i hka] at hca
  obtain ⟨-, k0, hk0, cm0, hkk0⟩ := (hC.K.2 0 _ rfl).1 (fx_ln S b) (fun j => .int (fx_I S b j))
  obtain ⟨-, k1, hk1, cm1, hkk1⟩ := (hC.K.2 0 _ rfl).1 (fx_ln S a) (fun j => .int (fx_I S a j))
  obtain ⟨vm', X', step⟩ := X.arraycopy hC.x hC.own (hC.w hw.1 (Or.inl rfl) args) (hC.w hw.2.1 (Or.inl rfl) args) (hC.w hw.2.2.1 (Or.inl rfl) args) (hC.w hw.2.2.2 (Or.inl rfl) args) (src := fx_B G + b) (dst := fx_B G + a) (cs := vp_cell (G.2.2.2 0) (fx_ln S b, .inl (fx_I S b))) (cd := vp_cell (G.2.2.2 0) (fx_ln S a, .inl (fx_I S a))) (srcPos := sp) (destPos := dp) (n := k) (by rw [hT]; exact hcb) (by rw [hT]; exact hca)
    (fun _ h => by cases h) (fun _ h => by cases h) (fun h => by cases h) (fun h => by cases h) hk0 hk1 hkk0 hkk1 rfl h1 h2 h3
    (by rw [nn sp h1, nn k h3]; show ¬ _ > ((arrV _ _ (fun j => .int (fx_I S b j))).slots.size : Int); rw [arrV_size]; omega)
    (by rw [nn dp h2, nn k h3]; show ¬ _ > ((arrV _ _ (fun j => .int (fx_I S a j))).slots.size : Int); rw [arrV_size]; omega)
    (fun vm₁ _ i hi => by
      have e : (vp_cell (G.2.2.2 0) (fx_ln S b, .inl (fx_I S b))).slots.getD (sp.toNatClampNeg + i) .null = .int (fx_I S b (sp.toNatClampNeg + i)) := by
        show (arrV _ _ (fun j => .int (fx_I S b j))).slots.getD _ _ = _
        rw [Array.getD_eq_getD_getElem?, arrV_read _ _ (by omega)]
        rfl
      refine ⟨?_, ?_⟩
      · rw [e]; rfl
      · rw [e]; exact trivial)
    (g := F0 m pc ls (.int k :: .int dp :: fx_r G a :: .int sp :: fx_r G b :: st)) rfl (hl.1.trans hC.ml.symm) (rest := st) rfl (by rw [hC.cc]; exact hd) (by omega) (by show 2 * 0 + fx_ct st + _ ≤ _; omega)
  have e1 : copied (vp_cell (G.2.2.2 0) (fx_ln S b, .inl (fx_I S b))) (vp_cell (G.2.2.2 0) (fx_ln S a, .inl (fx_I S a))) sp dp k = vp_cell (G.2.2.2 0) (fx_ln S a, .inl (va_cpy (fx_I S b) (fx_I S a) sp.toNatClampNeg dp.toNatClampNeg k.toNatClampNeg)) := va_copied (fun z => .int z) _ _ _ _ h4
  rw [e1] at X' step
  have hl0 : fx_B G + a < H.size := (Array.getElem?_eq_some_iff.mp hca).1
  obtain ⟨t, a1, b1⟩ := kk p l e R s m args below meth c0 _ _ cells slots ls hC (fx_H.upds (S := S) (H' := ((T.setVm vm').setCell (fx_B G + a) (vp_cell (G.2.2.2 0) (fx_ln S a, .inl (va_cpy (fx_I S b) (fx_I S a) sp.toNatClampNeg dp.toNatClampNeg k.toNatClampNeg)))).heap) (ex := ((vp_cell (G.2.2.2 0) (fx_ln S b, .inl (fx_I S b))).stretch sp.toNatClampNeg k.toNatClampNeg).zipIdx.map fun q => ⟨fx_B G + a, dp.toNatClampNeg + q.2⟩) hH
    (by rw [size_setCell]; exact congrArg Array.size hT) (fun q hq => by rw [heapAt_setCell_ne _ (Ne.symm hq)]; exact congrArg (fun z : Heap => z[q]?) hT)
    (by
      rw [fx_ent_i (S := fx_setR S a _) hka]
      show ((T.setVm vm').setCell _ _).heap[_]? = some (vp_cell _ (fx_ln S a, .inl (fx_row _ a _ a)))
      rw [fx_row_self]
      exact heapAt_setCell_self _ (by show _ < T.heap.size; rw [hT]; exact hl0)) (fun i hi => fx_setR_ent hi) rfl (fun q hq => by
      obtain ⟨z, -, hz⟩ := List.mem_map.mp hq
      rw [← hz]
      exact Nat.le_add_right _ _)) hB hl _ rfl X'
  exact ⟨t, step t a1, b1⟩
end FXN
end
section
def fx_is (S : fx_S) (a c : Nat) : Prop := a < fx_m S ∧ fx_kd S a = c
def fx_room (S : fx_S) (N : Nat) : Prop := fx_x S = 0 ∧ fx_m S + fx_x S + 1 ≤ 2000 ∧ fx_k S + N ≤ 20000
def fx_cpy (S : fx_S) (b a : Nat) (sp dp k : Int32) : Prop := ¬ sp < 0 ∧ ¬ dp < 0 ∧ ¬ k < 0 ∧ sp.toNatClampNeg + k.toNatClampNeg ≤ fx_ln S b ∧ dp.toNatClampNeg + k.toNatClampNeg ≤ fx_ln S a
def fx_roomx (S : fx_S) : Prop := fx_m S + fx_x S + 1 ≤ 2000 ∧ fx_k S + 6 ≤ 20000
def fx_exc (S : fx_S) : fx_S := ((S.1.1, S.1.2.1 + 1, S.1.2.2 + 6), S.2)
section FXQ
variable {G : fx_G} {d : Nat × Nat} {M : fx_M} {pc n : Nat} {L : List (Nat × Value)} {st : List Value} {S : fx_S} {Q : fx_R → fx_S → Prop}
theorem fx_qi_k {F : Int32 → fx_S → Prop} {rest : List Value} (hk : ∀ r S', F r S' → fx_Go G d M n L (.int r :: rest) S' Q) : ∀ v S', fx_qi F Q (.inl v) S' → fx_Go G d M n L (v.toList ++ rest) S' Q := by
  intro v S' h
  match v, h with
  | some (.int r), h => exact hk r S' h
theorem fx_qv_k {F : fx_S → Prop} {rest : List Value} (hk : ∀ S', F S' → fx_Go G d M n L rest S' Q) : ∀ v S', fx_qv F Q (.inl v) S' → fx_Go G d M n L (v.toList ++ rest) S' Q := by
  intro v S' h
  match v, h with
  | none, h => exact hk S' h
theorem fx_ldc {index : Nat} {v : Int32} (hd : decode M.2.1 pc = .ok (.ldc index, 2)) (hw : Cond.constant M.1.cls index v ∈ lw_tbl) (hn : pc + 2 = n) (kk : fx_Go G d M n L (.int v :: st) S Q) : fx_Go G d M pc L st S Q := by
  subst hn
  intro p l e R s m args below meth c H locs cells slots ls hC hH hB hl
  exact lv_ldc hC.x hC.cc hC.own (hC.w hw (Or.inl rfl) args) hd (kk p l e R s m args below meth c H locs cells slots ls hC hH hB hl)
end FXQ
end
section
/-- the same walk, seen as begun here -/
theorem fx_rebase {p : Program} {l : Launch} {e : Env} {R : Room} {s : State} {m : MethodId} {args : Array Value} {below : List Frame} {meth : Method} {c : Code} {T : State} {locs : List Loc} {cells slots : Nat}
    (X : Stand p l e R s m args below meth c T locs cells slots) (hc : cells ≤ R.cells) (hs : slots ≤ R.slots) :
    Stand p l e { R with cells := R.cells - cells, slots := R.slots - slots } (T.setFrames (.invoking m args :: below)) m args below meth c T [] 0 0 := by
  obtain ⟨g₀, hfr⟩ := X.frames_eq
  have hcur : T.cur < T.threads.size := State.cur_lt_of_frames hfr
  have hF : (T.setFrames (.invoking m args :: below)).frames = .invoking m args :: below := State.frames_setFrames _ hcur
  have hcode : ∀ q, (T.setFrames (.invoking m args :: below)).code? q = s.code? q := fun q => by
    rw [State.code?_eq, State.code?_eq]
    show (T.vm.method? q).bind _ = _
    rw [X.warmed.alike.method?]
  obtain ⟨th, hth, -⟩ := State.frames_cons hfr
  refine ⟨X.admits, X.cas, X.clock, hF, ?_, ?_, X.method', X.code, X.here, X.tail, State.WarmedH.refl _, (State.stackLimits_setFrames _ _ _).symm, (State.stackBytes_setFrames _ _).symm, ?_⟩
  · have hr := X.room
    have hb := X.book
    have h1 := X.heapSize
    have h2 := X.used
    simp only [State.hasRoom, Bool.and_eq_true, decide_eq_true_eq] at hr ⊢
    rw [State.localsInUse_invoking X.frames X.method X.code, X.frames] at hr
    rw [State.localsInUse_invoking hF X.method' X.code, hF, State.stackLimits_setFrames, State.stackBytes_setFrames, X.limits, X.bytes]
    refine ⟨⟨⟨⟨hr.1.1.1.1, hr.1.1.1.2⟩, ?_⟩, ?_⟩, hb⟩
    · show T.heap.size + (R.cells - cells) ≤ _
      have := hr.1.1.2
      omega
    · show T.slotsUsed + (R.slots - slots) ≤ _
      have := hr.1.2
      omega
  · have h := X.hears
    have hm : (T.setFrames (.invoking m args :: below)).vm.method? m = s.vm.method? m := X.warmed.alike.method? m
    unfold State.hears at h ⊢
    cases below with
    | nil => rw [hm]; exact h
    | cons f r =>
      cases f <;> first | (simp only [hcode]; exact h) | (simp only [hm]; exact h) | exact h
  · obtain ⟨th', hth', -⟩ := State.frames_cons hF
    have h := (State.sameButNew.refl (T.setFrames (.invoking m args :: below)) hth').setFrames T.frames (State.cur_lt_of_frames hF)
    rw [State.setFrames_setFrames, State.setFrames_self hth] at h
    exact h
end
section
/-! throwing: the words of the exceptions' constructors at any point of the run, the rule -/
theorem fx_statL {G : fx_G} {U : State} (hW : G.1.WarmedH U.vm) (hold : ∀ q, q < fx_B G → U.heap[q]? = G.1.heap[q]?) {o n d : String} {a a' : Array Value} (h : (Cond.laysStatic o n d).before a G.1 = true) : (Cond.laysStatic o n d).before a' U = true := by
  have h1 : (Cond.laysStatic o n d).before a (G.1.setVm U.vm) = true := Cond.holds_shifted (State.Shifted.of_warmed hW) _ [] rfl h
  obtain ⟨c, k, i, f, aS, cell, e1, e2, e3, e4, e5, e6, e7, e8, e9⟩ := Cond.laysStatic_spec h1
  have e1' : U.vm.findClass o = some c := e1
  have e2' : U.fieldFound? o n d = some (c, k, i, f) := e2
  have hlt : aS < fx_B G := (Array.getElem?_eq_some_iff.mp (show G.1.heap[aS]? = some cell from e5)).1
  have e5' : U.heap[aS]? = some cell := by rw [hold aS hlt]; exact e5
  simp [Cond.before, Cond.holds, Cond.value, e1', e2', e3, e4, e5', e6, e7, e8, e9]
theorem fx_statR {G : fx_G} {U : State} (hW : G.1.WarmedH U.vm) (hold : ∀ q, q < fx_B G → U.heap[q]? = G.1.heap[q]?) {c n d : String} {a a' : Array Value} (h : (Cond.isRef (.static c n d)).before a G.1 = true) : (Cond.isRef (.static c n d)).before a' U = true := by
  have h1 : (Cond.isRef (.static c n d)).before a (G.1.setVm U.vm) = true := Cond.holds_shifted (State.Shifted.of_warmed hW) _ [] rfl h
  have hff : U.fieldNamed? c n d true = (G.1.setVm U.vm).fieldNamed? c n d true := rfl
  simp only [Cond.before, Cond.holds, Cond.value, Term.eval, hff] at h1 ⊢
  cases hf : (G.1.setVm U.vm).fieldNamed? c n d true with
  | none => simp [hf] at h1
  | some x =>
    obtain ⟨c1, k, slot⟩ := x
    cases hs : k.statics with
    | none => simp [hf, hs] at h1
    | some aS =>
      cases hc : G.1.heap[aS]? with
      | none =>
        have hc' : (G.1.setVm U.vm).heap[aS]? = none := hc
        simp [hf, hs, hc] at h1
      | some cell =>
        have hc' : (G.1.setVm U.vm).heap[aS]? = some cell := hc
        have hlt : aS < fx_B G := (Array.getElem?_eq_some_iff.mp hc).1
        have hU : U.heap[aS]? = some cell := by rw [hold aS hlt]; exact hc
        simp only [hf, hs, hc', hU, Option.bind_eq_bind, Option.bind_some] at h1 ⊢
        exact h1
def fx_aw (a : Cond) : Prop := (a ∈ lw_tbl ∧ (a.onTables && a.keeps) = true) ∨ (a ∈ lw_tbl ∧ ∃ o n d, a = .laysStatic o n d) ∨ a = .isRef (.static Bundle.tN "UNASSIGNED_STACK" Bundle.steD) ∨ a = .isRef (.static Bundle.tN "SUPPRESSED_SENTINEL" Bundle.listD) ∨ (a ∈ lw_tbl ∧ ∃ x y, a = .castable x y) ∨ (a ∈ lw_tbl ∧ ∃ x, a = .declares x)
theorem fx_aw.ok {a : Cond} (h : fx_aw a) {G : fx_G} (hG : fx_ok G) {U : State} (hW : G.1.WarmedH U.vm) (hold : ∀ q, q < fx_B G → U.heap[q]? = G.1.heap[q]?) (args : Array Value) : a.before args U = true := by
  have hs := flat_of_before _ hG.2.2
  rcases h with ⟨h1, h2⟩ | ⟨h1, o, n, d, rfl⟩ | rfl | rfl | ⟨h1, x, y, rfl⟩ | ⟨h1, x, rfl⟩
  · exact word_at hW (Or.inl h2) (hG.1 _ h1)
  · exact fx_statL hW hold (hG.1 _ h1)
  · exact fx_statR hW hold (hs _ (by decide +kernel))
  · exact fx_statR hW hold (hs _ (by decide +kernel))
  · obtain ⟨c3, c4, k3, k4, k5⟩ := Cond.castable_spec (hG.1 _ h1)
    have k3' : U.vm.findClass x = some c3 := by rw [hW.alike.findClass]; exact k3
    have k4' : U.vm.findClass y = some c4 := by rw [hW.alike.findClass]; exact k4
    have k5' : U.vm.assignable c3 c4 = true := by rw [hW.alike.assignable]; exact k5
    simp [Cond.before, Cond.holds, Cond.value, k3', k4', k5']
  · exact va_Nw.use rfl (va_Nw.warmD hW (va_Nw.of rfl (hG.1 _ h1)))
theorem fx_oldsame {T t : State} {k n : Nat} (h : ∀ a c, T.heap[a]? = some c → ∃ c' : Cell, t.heap[a]? = some c' ∧ c' = { c with slots := c'.slots } ∧ c'.slots.size = c.slots.size ∧ ∀ i, (⟨a, i⟩ : Loc) ∉ ([] : List Loc) → c'.slots[i]? = c.slots[i]?) {q : Nat} (hq : q < T.heap.size) : t.heap[q]? = T.heap[q]? := by
  obtain ⟨c', h1, h2, -, h4⟩ := h q T.heap[q] (Array.getElem?_eq_getElem hq)
  have hs : c'.slots = T.heap[q].slots := Array.ext_getElem? fun i => h4 i List.not_mem_nil
  rw [h1, Array.getElem?_eq_getElem hq, h2, hs]
set_option maxHeartbeats 1000000 in
theorem fx_throw {G : fx_G} {d : Nat × Nat} {M : fx_M} {pc : Nat} {L : List (Nat × Value)} {st : List Value} {S : fx_S} {Q : fx_R → fx_S → Prop} {X tx : String} {k ix is ic : Nat} {names : List String} (hX : fx_ex k = X)
    (h0 : decode M.2.1 pc = .ok (.new ix, 3)) (h3 : decode M.2.1 (pc + 3) = .ok (.dup, 1)) (h4 : decode M.2.1 (pc + 3 + 1) = .ok (.ldc is, 2)) (h6 : decode M.2.1 (pc + 3 + 1 + 2) = .ok (.invokespecial ic, 3)) (h9 : decode M.2.1 (pc + 3 + 1 + 2 + 3) = .ok (.athrow, 1))
    (hw : ∀ a ∈ Bundle.ownAtoms M.1.cls ic X names, fx_aw a) (hfit : Bundle.fit X = true ∧ ∀ n ∈ names, Bundle.fit n = true) (hcw : Cond.classLink M.1.cls ix X ∈ lw_tbl ∧ Cond.initialized X ∈ lw_tbl ∧ Cond.instantiable X 6 ∈ lw_tbl)
    (hs : Cond.stringRef M.1.cls is tx ∈ lw_tbl ∧ Cond.exactly (.string M.1.cls is) "java/lang/String" ∈ flatC (Jvm.Cond.and given_1 narrow_1)) (hex : M.2.2.2.2 = []) (hd1 : names.length + 3 < d.1) (hd2 : fx_ct st + 1 + (13 * (names.length + 1) + 42) ≤ d.2)
    (hr : fx_roomx S) (hq : Q (.inr k) (fx_exc S)) : fx_Go G d M pc L st S Q := by
  intro p l e R s m args below meth c H locs cells slots ls hC hH hB hl T hT X0
  obtain ⟨hB1, hB2⟩ := id hB
  obtain ⟨hr1, hr2⟩ := hr
  obtain ⟨-, -, ⟨hfr, hlo⟩, hG⟩ := id hC
  have X' := fx_rebase X0 (by omega) (by omega)
  generalize hs' : T.setFrames (.invoking m args :: below) = s' at X'
  have hvm : s'.vm = T.vm := by rw [← hs']; rfl
  have hhp : s'.heap = T.heap := by rw [← hs']; rfl
  have hWT : G.1.WarmedH s'.vm := by rw [hvm]; exact State.WarmedH.trans hC.warm X0.warmed
  have hold : ∀ q, q < fx_B G → s'.heap[q]? = G.1.heap[q]? := by rw [hhp, hT]; exact hH.2.1
  have hown' : s'.vm.findClass M.1.cls = some m.cls := by rw [hvm, X0.warmed.alike.findClass]; exact hC.own
  have hws : ∀ a ∈ Bundle.ownAtoms M.1.cls ic X names, a.before args s' = true := fun a ha => (hw a ha).ok hG hWT hold args
  have htr : e.platform.stackTraces = false := Launch.traces_off hC.2.1.2.2.2 X0.admits
  have hat : ∀ w : Cond, w ∈ lw_tbl → (w.onTables && w.keeps) = true → w.before args s' = true := fun w hw hg => word_at hWT (Or.inl hg) (hG.1 w hw)
  obtain ⟨q, -, -, -, hqe, -⟩ := Cond.exactly_spec (args := G.2.1) (first := G.1) (o := none) (s := G.1) (idx := []) (t := .string M.1.cls is) (cls := "java/lang/String") (flat_of_before _ hG.2.2 _ hs.2)
  have hZ : vk_R M.1.cls is tx q s' := vk_R.warm hWT (vk_R.of (hG.1 _ hs.1) hqe)
  have hTsz : T.heap.size = fx_B G + fx_m S + fx_x S := by rw [hT]; exact hH.2.2.1
  have w : W p l e { R with cells := R.cells - cells, slots := R.slots - slots } s' m args below meth c T.heap [] 0 0 (fun t => t.status = .running ∧ Ended t below (.threw T.heap.size) ∧ s'.WarmedH t.vm ∧ s'.sameButNew ({ t with vm := s'.vm } : State) [] (0 + 1) (0 + 6) ∧ ∃ ce : Cell, t.heap[T.heap.size]? = some ce ∧ ce.vm = .none ∧ s'.vm.findClass X = some ce.cls) (F0 m pc ls st) := by
    refine W.newc (C := X) (n := 6) hC.x hC.cc hown' (hat _ hcw.1 rfl) (hat _ hcw.2.2 rfl) (hat _ hcw.2.1 rfl) rfl h0 (by show 0 + 1 ≤ R.cells - cells; omega) (by show 0 + 6 ≤ R.slots - slots; omega) fun cC kC g1 g2 g3 g4 => ?_
    refine lv_dup hC.x hC.cc h3 rfl ?_
    refine va_ldcS hC.x hC.cc hown' hZ h4 ?_
    intro T2 hT2 X2
    obtain ⟨U, u1, u2, u3, u4, u5, ce, u6, u7⟩ := X2.ctorThrowS hC.x htr hown' hfit.1 hfit.2 hws (fun x hx => absurd hx List.not_mem_nil) (a := T.heap.size) g1 g2 (by rw [hT2]; simp) (by rw [hhp]; exact Nat.le_refl _) (msg := .ref q) rfl (g := F0 m (pc + 3 + 1 + 2) ls (.ref q :: .ref T.heap.size :: .ref T.heap.size :: st)) rfl (hl.1.trans hC.ml.symm) rfl rfl (rest := st) rfl (by rw [hC.cc]; exact h6) (by rw [hC.cc]; exact h9)
      (fun x hx => by
        have hmem : (x.startPc, x.endPc, x.handlerPc, x.catchType) ∈ M.2.2.2.2 := by rw [← hC.1.2.2.2.2.2]; exact List.mem_map.mpr ⟨x, hx, rfl⟩
        rw [hex] at hmem
        exact absurd hmem List.not_mem_nil) (by show _ < R.frames; omega) (by show 2 * 0 + fx_ct (.ref T.heap.size :: st) + _ ≤ R.locals; show 2 * 0 + (1 + fx_ct st) + _ ≤ _; omega) (hlocks := hC.lk)
    exact ⟨U, u1, u2, u3, u4, u5, ce, u6, u7.vm, u7.cls⟩
  obtain ⟨t, st1, q1, q2, q3, ⟨a1, a2, a3, a4, a5, a6⟩, ce, q5, q6, q7⟩ := w T rfl X'
  have hsame : T.sameButNew (t.setVm T.vm) [] (0 + 1) (0 + 6) := by
    rw [← hs'] at a1 a2 a3 a4 a5 a6
    refine ⟨?_, a2, a3, a4, a5, a6⟩
    have a1' : t.setVm T.vm = { (T.setFrames (.invoking m args :: below)).setFrames t.frames with heap := t.heap, slotsUsed := t.slotsUsed } := a1
    rw [State.setFrames_setFrames] at a1'
    exact a1'
  have hold2 : ∀ z, z < T.heap.size → t.heap[z]? = T.heap[z]? := fun z hz => fx_oldsame (k := 0) (n := 0) hsame.2.2.2.2.2 hz
  have hlt : T.heap.size < t.heap.size := (Array.getElem?_eq_some_iff.mp q5).1
  have hle : t.heap.size ≤ T.heap.size + 1 := hsame.2.2.1
  have hwt : s.WarmedH t.vm := State.WarmedH.trans X0.warmed (show T.WarmedH t.vm by rw [← hs'] at q3; exact q3)
  refine ⟨t, st1, q1, .threw T.heap.size, fx_exc S, locs ++ [], cells + (0 + 1), slots + (0 + 6), q2, hwt, X0.same.trans (hsame.setVm s.vm), ⟨fun i hi => ?_, fun z hz => ?_, ?_, ?_⟩, ⟨?_, ?_⟩, ⟨k, ce, q5, by rw [q6]; rfl, ?_, hq⟩⟩
  · have hi' : i < fx_m S := hi
    have h := hH.1 i hi'
    exact h.kept (by rw [hold2 _ (by rw [hTsz]; show fx_B G + i < _; omega), hT])
  · rw [hold2 z (by rw [hTsz]; omega), hT]; exact hH.2.1 z hz
  · show t.heap.size = fx_B G + fx_m S + (fx_x S + 1)
    omega
  · rw [List.append_nil]; exact hH.2.2.2
  · show cells + (0 + 1) + (2000 - (fx_m S + (fx_x S + 1))) ≤ R.cells
    omega
  · show slots + (0 + 6) + (20000 - (fx_k S + 6)) ≤ R.slots
    omega
  · rw [hX, ← q7]
    exact (hWT.alike.findClass _ _).symm
end
section
/-! catching: the search through a table whose catch types may not be linked yet -/
/-- the rows of the table that stand before the catching one let the thrown class pass; the catching one takes it -/
def fx_pass (e : Env) (s : State) (d : ClassId) (pc : Nat) (cX : ClassId) (y : ExceptionTableEntry) : Prop := covers y pc = false ∨ (covers y pc = true ∧ y.catchType ≠ 0 ∧ ∃ cY, s.vm.ClassLinks e.platform d y.catchType cY ∧ s.vm.assignable cX cY = false)
def fx_take (e : Env) (s : State) (d : ClassId) (pc : Nat) (cX : ClassId) (y : ExceptionTableEntry) : Prop := covers y pc = true ∧ y.catchType ≠ 0 ∧ ∃ cY, s.vm.ClassLinks e.platform d y.catchType cY ∧ s.vm.assignable cX cY = true
theorem fx_hrow {e : Env} {s S : State} {f : JFrame} {a : Addr} {cell : Cell} {y : ExceptionTableEntry} {cY : ClassId} (hW : s.WarmedH S.vm) (hcell : S.heap[a]? = some cell) (hobj : cell.vm.isStatics = false) (hk : ∃ k, s.vm.classes[cell.cls]? = some k)
    (hx : covers y f.pc = true) (h0 : y.catchType ≠ 0) (hl : s.vm.ClassLinks e.platform f.method.cls y.catchType cY) (t : List ExceptionTableEntry) :
    ∃ vm', s.WarmedH vm' ∧ ∀ (Q : Handler → Pre) (E : CtlPost) (d : Bool) (acts : List Action),
      wp (findHandler.go f a (y :: t)) Q E e d acts S ↔ if s.vm.assignable cell.cls cY = true then Q (.found y.handlerPc) d acts (S.setVm vm') else wp (findHandler.go f a t) Q E e d acts (S.setVm vm') := by
  obtain ⟨dk, _, _, kt, hd, _, _, _, _, hkt, _, hopen⟩ := hl.here
  have hW' : s.WarmedH (S.vm.noted f.method.cls y.catchType (.cls cY)) := hW.noted hd hopen (State.rightAt_cls hl)
  refine ⟨_, hW', fun Q E d acts => ?_⟩
  obtain ⟨ha, ht⟩ := (resolveClass_links e.toSetting (hW.classLinks hl)).op (op := VmOp.resolveClass f.method.cls y.catchType) rfl
  obtain ⟨k1, hk1⟩ := hk
  obtain ⟨k1', hk1', -⟩ := hW'.alike.2.2 _ _ hk1
  obtain ⟨k2', hk2', -⟩ := hW'.alike.2.2 _ _ hkt
  have hobj' := VmData.ne_statics_of hobj
  have hfit : (S.vm.noted f.method.cls y.catchType (.cls cY)).assignable cell.cls cY = s.vm.assignable cell.cls cY := by rw [hW'.alike.assignable]
  simp only [covers] at hx
  cases hs : s.vm.assignable cell.cls cY with
  | true =>
    rw [hs] at hfit
    simp [findHandler.go, hx, h0, ha, ht, hcell, hobj', hk1', hk2', hfit, VmOp.dirties, VmOp.acts]
  | false =>
    rw [hs] at hfit
    simp [findHandler.go, hx, h0, ha, ht, hcell, hobj', hk1', hk2', hfit, VmOp.dirties, VmOp.acts]
theorem fx_search {e : Env} {s : State} {f : JFrame} {a : Addr} {cell : Cell} (hobj : cell.vm.isStatics = false) (hk : ∃ k, s.vm.classes[cell.cls]? = some k) (x : ExceptionTableEntry) (post : List ExceptionTableEntry) (hx : fx_take e s f.method.cls f.pc cell.cls x) :
    ∀ (pre : List ExceptionTableEntry) (S : State), s.WarmedH S.vm → S.heap[a]? = some cell → (∀ y ∈ pre, fx_pass e s f.method.cls f.pc cell.cls y) →
      ∃ vm', s.WarmedH vm' ∧ ∀ (Q : Handler → Pre) (E : CtlPost) (d : Bool) (acts : List Action), wp (findHandler.go f a (pre ++ x :: post)) Q E e d acts S ↔ Q (.found x.handlerPc) d acts (S.setVm vm') := by
  intro pre
  induction pre with
  | nil =>
    intro S hW hcell _
    obtain ⟨h1, h2, cY, h3, h4⟩ := hx
    obtain ⟨vm', g1, g2⟩ := fx_hrow (f := f) (a := a) hW hcell hobj hk h1 h2 h3 post
    exact ⟨vm', g1, fun Q E d acts => (g2 Q E d acts).trans (by rw [if_pos h4])⟩
  | cons y ys ih =>
    intro S hW hcell hp
    have hp' : ∀ z ∈ ys, fx_pass e s f.method.cls f.pc cell.cls z := fun z hz => hp z (List.mem_cons_of_mem _ hz)
    rcases hp y List.mem_cons_self with h | ⟨h1, h2, cY, h3, h4⟩
    · obtain ⟨vm', g1, g2⟩ := ih S hW hcell hp'
      exact ⟨vm', g1, fun Q E d acts => (W.findHandler_go_skip h).trans (g2 Q E d acts)⟩
    · obtain ⟨vm1, g1, g2⟩ := fx_hrow (f := f) (a := a) hW hcell hobj hk h1 h2 h3 (ys ++ x :: post)
      obtain ⟨vm', k1, k2⟩ := ih (S.setVm vm1) g1 hcell hp'
      exact ⟨vm', k1, fun Q E d acts => (g2 Q E d acts).trans (by rw [if_neg (by rw [h4]; decide)]; exact k2 Q E d acts)⟩
theorem fx_caught {p : Program} {l : Launch} {e : Env} {R : Room} {s : State} {m : MethodId} {args : Array Value} {below : List Frame} {meth : Method} {c : Code} {T : State} {locs : List Loc} {cells slots : Nat}
    (X : Stand p l e R s m args below meth c T locs cells slots) {a : Addr} {g : JFrame} (hg : g.method = m) {cell : Cell} (hcell : T.heap[a]? = some cell) (hobj : cell.vm.isStatics = false) (hk : ∃ k, s.vm.classes[cell.cls]? = some k)
    {pre post : List ExceptionTableEntry} {x : ExceptionTableEntry} (hsp : c.exceptionTable.toList = pre ++ x :: post) (hx : fx_take e s m.cls g.pc cell.cls x) (hp : ∀ y ∈ pre, fx_pass e s m.cls g.pc cell.cls y) :
    ∃ vm', Stand p l e R s m args below meth c (T.setVm vm') locs cells slots ∧
      ∀ target, Steps p.tables e below ((T.setVm vm').setTop { g with pc := x.handlerPc, stack := [.ref a] }) target → Steps p.tables e below ((T.setTop g).pushFrame (.throwing a)) target := by
  subst hg
  obtain ⟨vm', h1, h2⟩ := fx_search (f := g) (a := a) hobj hk x post hx pre ((T.setTop g).pushFrame (.throwing a)) X.warmed hcell hp
  refine ⟨vm', X.noted h1, fun target hrest => ?_⟩
  obtain ⟨hgo, hw⟩ := X.here.throwing a
  refine Steps.head hgo hw ?_
  have hfind : ∀ (Q : Handler → Pre) (E : CtlPost) (d : Bool) (acts : List Action), wp (findHandler g a) Q E e d acts ((T.setTop g).pushFrame (.throwing a)) ↔ Q (.found x.handlerPc) d acts (((T.setTop g).pushFrame (.throwing a)).setVm vm') := fun Q E d acts => by
    rw [W.findHandler_eq (s := (T.setTop g).pushFrame (.throwing a)) (meth := meth) (code := c) X.method' X.code, hsp]
    exact h2 Q E d acts
  have hstep : (stepThrowing e ((T.setTop g).pushFrame (.throwing a)) a (.java g :: T.frames.tail)).Is ((((T.setTop g).pushFrame (.throwing a)).setVm vm').setFrames (.java { g with pc := x.handlerPc, stack := [.ref a] } :: T.frames.tail)) [] := by
    simp only [stepThrowing, searchFrame, vmDo]
    generalize hr : Sem.go _ e false [] ((T.setTop g).pushFrame (.throwing a)) = res
    obtain ⟨as, rfl, ha⟩ := Sem.eq_ok_of hr (a := Handler.found x.handlerPc) (s' := ((T.setTop g).pushFrame (.throwing a)).setVm vm') (acts' := []) (by simp [hfind _ _ _ _])
    exact ⟨rfl, ha⟩
  rw [stepThread_throwing (frames_entered X.here.top _), hstep.1]
  obtain ⟨g₀, hr⟩ := X.frames_eq
  have hr' : (T.setVm vm').frames = .java g₀ :: below := hr
  rw [State.setTop_of_frames _ hr'] at hrest
  have e1 : (((T.setTop g).pushFrame (.throwing a)).setVm vm').setFrames (.java { g with pc := x.handlerPc, stack := [.ref a] } :: T.frames.tail) = (T.setVm vm').setFrames (.java { g with pc := x.handlerPc, stack := [.ref a] } :: below) := by
    rw [X.tail, State.pushFrame, State.setTop_of_frames _ hr, State.setFrames_setFrames]
    show ((T.setVm vm').setFrames _).setFrames _ = _
    rw [State.setFrames_setFrames]
  rw [e1]
  exact hrest
end
section
/-- the handler that takes what is thrown, by the words -/
def fx_hd (M : fx_M) (pc k h : Nat) : Prop := ∃ (pre : List (Nat × Nat × Nat × Nat)) (x : Nat × Nat × Nat × Nat) (post : List (Nat × Nat × Nat × Nat)), M.2.2.2.2 = pre ++ x :: post ∧ (x.1 ≤ pc ∧ pc < x.2.1) ∧ x.2.2.1 = h ∧ x.2.2.2 ≠ 0 ∧ Cond.classLink M.1.cls x.2.2.2 (fx_ex k) ∈ lw_tbl ∧ Cond.castable (fx_ex k) (fx_ex k) ∈ lw_tbl ∧
  ∀ y ∈ pre, (y.1 ≤ pc ∧ pc < y.2.1) ∧ y.2.2.2 ≠ 0 ∧ ∃ nm, Cond.classLink M.1.cls y.2.2.2 nm ∈ lw_tbl ∧ Cond.not (.castable (fx_ex k) nm) ∈ flatC (Jvm.Cond.and given_1 narrow_1)
theorem fx_hd.at {M : fx_M} {pc k h : Nat} (hh : fx_hd M pc k h) {G : fx_G} {d : Nat × Nat} {p : Program} {l : Launch} {R : Room} {s : State} {m : MethodId} {meth : Method} {c : Code} {e : Env} (hC : fx_C G d M p l R s m meth c) (had : l.admits e) {cX : ClassId} (hX : G.1.vm.findClass (fx_ex k) = some cX) :
    ∃ (pre : List ExceptionTableEntry) (z : ExceptionTableEntry) (post : List ExceptionTableEntry), c.exceptionTable.toList = pre ++ z :: post ∧ fx_take e s m.cls pc cX z ∧ (∀ y ∈ pre, fx_pass e s m.cls pc cX y) ∧ z.handlerPc = h := by
  obtain ⟨pre, x, post, h1, h2, h3, h4, h5, h6, h7⟩ := hh
  have hpl : e.platform.magicAccessors = ({} : Platform).magicAccessors := by rw [had.platform]
  have hal := hC.warm.alike
  have hmap := hC.1.2.2.2.2.2
  rw [h1] at hmap
  obtain ⟨l1, l2, e1, e2, e3⟩ := List.map_eq_append_iff.mp hmap
  obtain ⟨z, l3, e4, e5, e6⟩ := List.map_eq_cons_iff.mp e3
  have hsX : s.vm.findClass (fx_ex k) = some cX := by rw [hal.findClass]; exact hX
  refine ⟨l1, z, l3, by rw [e1, e4], ?_, fun y hy => ?_, ?_⟩
  · obtain ⟨cY, g1, g2⟩ := Cond.classLink_spec hC.own (hC.w h5 (Or.inl rfl) #[]) e.platform hpl
    cases hsX.symm.trans g1
    obtain ⟨c3, c4, k3, k4, k5⟩ := Cond.castable_spec (hC.2.2.2.1 _ h6)
    cases hX.symm.trans k3
    cases hX.symm.trans k4
    rw [← e5] at h2 h4 g2
    exact ⟨by simp only [covers, Bool.and_eq_true, decide_eq_true_eq]; exact h2, h4, cX, g2, by rw [hal.assignable]; exact k5⟩
  · have hy' : (y.startPc, y.endPc, y.handlerPc, y.catchType) ∈ pre := by rw [← e2]; exact List.mem_map.mpr ⟨y, hy, rfl⟩
    obtain ⟨q1, q2, nm, q3, q4⟩ := h7 _ hy'
    obtain ⟨cY, g1, g2⟩ := Cond.classLink_spec hC.own (hC.w q3 (Or.inl rfl) #[]) e.platform hpl
    have hgY : G.1.vm.findClass nm = some cY := by rw [← hal.findClass]; exact g1
    have hv := Cond.holds_not_iff.mp (flat_of_before _ hC.2.2.2.2.2 _ q4)
    simp only [Cond.value, hX, hgY] at hv
    exact Or.inr ⟨by simp only [covers, Bool.and_eq_true, decide_eq_true_eq]; exact q1, q2, cY, g2, by rw [hal.assignable]; exact Option.some.inj hv⟩
  · rw [← h3, ← e5]
section FXH
variable {G : fx_G} {d : Nat × Nat} {M : fx_M} {pc n : Nat} {L : List (Nat × Value)} {st : List Value} {S : fx_S} {Q : fx_R → fx_S → Prop}
/-- a call that a handler of the caller covers -/
theorem fx_coreH {p : Program} {l : Launch} {e : Env} {R : Room} {s : State} {m : MethodId} {args : Array Value} {below : List Frame} {meth : Method} {c : Code} {H : Heap} {locs : List Loc} {cells slots : Nat} {ls : Array Slot}
    (hC : fx_C G d M p l R s m meth c) (hH : fx_H G S H locs) (hB : fx_L S R cells slots) (hl : lv_has ls M.2.2.1 L) {M' : fx_M} {na : Nat} {d' : Nat × Nat} (hM : fx_mw M' na) {vs rest : List Value} (hvs : (lg_sl vs).length ≤ M'.2.2.1) (hdd : d'.1 + 1 ≤ d.1) (hroom : fx_ct rest + M'.2.2.1 + 11 + d'.2 ≤ d.2)
    {ig : Instr} (hdg : decode M.2.1 pc = .ok (ig, 3)) {Q' : fx_R → fx_S → Prop} (hgo : fx_Go G d' M' 0 (lv_args 0 vs) [] S Q')
    (hk : ∀ v S', Q' (.inl v) S' → fx_Go G d M (pc + 3) L (v.toList ++ rest) S' Q) (ht : ∀ k S', Q' (.inr k) S' → ∃ h, fx_hd M pc k h ∧ ∀ xa : Nat, fx_Go G d M h L [.ref xa] S' Q)
    {T : State} (hT : T.heap = H) (X : Stand p l e R s m args below meth c T locs cells slots) {mk : MethodId} (hn : T.methodNamed? M'.1 = some mk) :
    ∃ t, (∀ acts, Steps p.tables e below (doInvoke e (T.setTop (F0 m pc ls rest)) acts mk vs.toArray).1 t) ∧ fx_E G R s below Q t := by
  have hwT : G.1.WarmedH T.vm := State.WarmedH.trans hC.warm X.warmed
  obtain ⟨mk', methk, ck, n1, n2, n3, n4, n5, n6, n7, n8, -⟩ := hM.at hC.2.2.2 hwT
  cases hn.symm.trans n1
  have hsize : (F0 m pc ls rest).locals.size = c.maxLocals := hl.1.trans hC.ml.symm
  have hpk : T.plainMethod mk := by
    refine State.plainMethod.of_name fun k hk => ?_
    obtain ⟨k', hk', hkn⟩ := className_of_methodNamed hn
    cases hk.symm.trans hk'
    rw [hkn]; exact hM.2.2.1
  obtain ⟨-, -, ⟨hfr, hlo⟩, -⟩ := id hC
  obtain ⟨hB1, hB2⟩ := id hB
  obtain ⟨Y, hin⟩ := X.into (g := F0 m pc ls rest) rfl hsize (by rw [hC.cc]; exact hdg) vs.toArray (R' := { frames := R.frames - 1, cells := R.cells - cells, slots := R.slots - slots, locals := R.locals - (fx_ct rest + M'.2.2.1 + 11) }) n2 n3 n7 hpk (by show R.frames - 1 + 1 ≤ _; omega)
    (by show 2 * 0 + fx_ct rest + (ck.maxLocals + 11) + (R.locals - (fx_ct rest + M'.2.2.1 + 11)) ≤ R.locals; rw [n5]; omega) (by show cells + (R.cells - cells) ≤ _; omega) (by show slots + (R.slots - slots) ≤ _; omega)
  have hC' : fx_C G d' M' p l { frames := R.frames - 1, cells := R.cells - cells, slots := R.slots - slots, locals := R.locals - (fx_ct rest + M'.2.2.1 + 11) } (T.calling (F0 m pc ls rest) mk vs.toArray) mk methk ck :=
    ⟨⟨hC.x, n4, n5, n6, n7, n8⟩, ⟨findClass_of_methodNamed hn, (name_of_methodNamed hn n2).1, hwT, hC.2.1.2.2.2⟩, ⟨by show d'.1 ≤ R.frames - 1; omega, by show d'.2 ≤ R.locals - (fx_ct rest + M'.2.2.1 + 11); omega⟩, hC.2.2.2⟩
  have hl' := lv_entry vs (n := M'.2.2.1) hvs
  generalize hU : ((T.setTop (F0 m pc ls rest)).pushFrame (.java (entryFrame mk vs.toArray ck.maxLocals))) = U at Y hin
  have hUh : U.heap = H := by rw [← hU]; exact hT
  have hW := hgo p l e _ _ mk vs.toArray (.java (F0 m pc ls rest) :: below) methk ck H [] 0 0 _ hC' ⟨hH.1, hH.2.1, hH.2.2.1, fun q h => by cases h⟩ ⟨by show 0 + _ ≤ R.cells - cells; omega, by show 0 + _ ≤ R.slots - slots; omega⟩ hl'
  obtain ⟨t, hst, hrun, o, S', Lc, kc, nc, hend, hwm, hsame, hHt, hLt, hO⟩ := hW U hUh Y
  have hst' : ∀ acts, Steps p.tables e below (doInvoke e (T.setTop (F0 m pc ls rest)) acts mk vs.toArray).1 t := fun acts => by
    rw [hin acts, n5, lg_entry_eq]
    exact Steps.weaken (mid := [.java (F0 m pc ls rest)]) hst
  obtain ⟨hL1, hL2⟩ := hLt
  have hB' : fx_L S' R (cells + kc) (slots + nc) := by
    refine ⟨?_, ?_⟩
    · have h1 : kc + (2000 - (fx_m S' + fx_x S')) ≤ R.cells - cells := hL1
      omega
    · have h1 : nc + (20000 - fx_k S') ≤ R.slots - slots := hL2
      omega
  have hlocs : ∀ q ∈ locs ++ Lc, fx_B G ≤ q.base := fun q hq => by
    rcases List.mem_append.mp hq with h | h
    · exact hH.2.2.2 q h
    · exact hHt.2.2.2 q h
  cases o with
  | returned v =>
    obtain ⟨T', X', -, -, htT⟩ := X.outOf (g := F0 m pc ls rest) rfl (by rw [hC.cc]; exact hdg) hend hwm hsame
    have hheap : t.heap = T'.heap := by rw [htT]; rfl
    rw [hheap] at hHt
    obtain ⟨t2, s2, e2⟩ := hk v S' hO p l e R s m args below meth c T'.heap (locs ++ Lc) (cells + kc) (slots + nc) ls hC ⟨hHt.1, hHt.2.1, hHt.2.2.1, hlocs⟩ hB' hl T' rfl X'
    exact ⟨t2, fun acts => (hst' acts).trans (by rw [htT]; exact s2), e2⟩
  | threw x =>
    obtain ⟨T', X', -, -, htT⟩ := X.outOfThrown (g := F0 m pc ls rest) rfl hend hwm hsame
    have hheap : t.heap = T'.heap := by rw [htT]; rfl
    obtain ⟨k, cell, o1, o2, o3, o4⟩ := hO
    rw [hheap] at hHt o1
    obtain ⟨h, hhd, hgo2⟩ := ht k S' o4
    obtain ⟨pre, z, post, hsp, hx, hp, hzh⟩ := fx_hd.at hhd hC X'.admits o3
    obtain ⟨kE, hkE⟩ := Vm.classAt_of_findClass o3
    obtain ⟨kE', hkE', -⟩ := hC.warm.alike.2.2 _ _ hkE
    obtain ⟨vm', X2, hst2⟩ := fx_caught X' (a := x) (g := F0 m pc ls rest) rfl o1 o2 ⟨kE', hkE'⟩ hsp hx hp
    obtain ⟨t2, s2, e2⟩ := hgo2 x p l e R s m args below meth c T'.heap (locs ++ Lc) (cells + kc) (slots + nc) ls hC ⟨hHt.1, hHt.2.1, hHt.2.2.1, hlocs⟩ hB' hl (T'.setVm vm') rfl X2
    exact ⟨t2, fun acts => (hst' acts).trans (by rw [htT]; refine hst2 t2 ?_; rw [hzh]; exact s2), e2⟩
variable {M' : fx_M} {na index : Nat} {d' : Nat × Nat} {vs rest : List Value} {L0 : List (Nat × Value)} {Q' : fx_R → fx_S → Prop}
theorem fx_callVH {a c : Nat} {q : vw_C} (hd : decode M.2.1 pc = .ok (.invokevirtual index, 3)) (hM : fx_mw M' na) (hw : Cond.methodLink M.1.cls index M'.1 ∈ lw_tbl ∧ Cond.instanceMethod M'.1 ∈ lw_tbl ∧ Cond.selects q.1 M'.1 M'.1 ∈ lw_tbl) (hq : vwCl[c]? = some q) (hc : c < 100) (ha : a < fx_m S) (hka : fx_kd S a = c)
    (hna : vs.length = na) (hs : st = vs.reverse ++ fx_r G a :: rest) (hp : (lg_sl (fx_r G a :: vs)).length ≤ M'.2.2.1 ∧ d'.1 + 1 ≤ d.1 ∧ fx_ct rest + M'.2.2.1 + 11 + d'.2 ≤ d.2 ∧ lv_args 0 (fx_r G a :: vs) = L0)
    (hn : pc + 3 = n) (hgo : fx_Go G d' M' 0 L0 [] S Q') (hk : ∀ v S', Q' (.inl v) S' → fx_Go G d M n L (v.toList ++ rest) S' Q) (ht : ∀ k S', Q' (.inr k) S' → ∃ h, fx_hd M pc k h ∧ ∀ xa : Nat, fx_Go G d M h L [.ref xa] S' Q) : fx_Go G d M pc L st S Q := by
  obtain ⟨hvs, hdd, hroom, rfl⟩ := hp
  subst hs
  subst hn
  intro p l e R s m args below meth c0 H locs cells slots ls hC hH hB hl T hT X
  obtain ⟨mk, methk, ck, n1, n2, n3, n4, n5, n6, n7, n8, n9⟩ := hM.at hC.2.2.2 hC.warm
  obtain ⟨mk2, meth2, m1, m2, hst, hab⟩ := Cond.instanceMethod_spec (hC.w hw.2.1 (Or.inl rfl) args)
  cases n1.symm.trans m1
  cases n2.symm.trans m2
  obtain ⟨cellB, hcB, hoB, hclB⟩ := fx_recv hH hC.K hc ha hka hq
  obtain ⟨c2, r2, m3, q1, q2, q3, q4, kP, hkP, hkPi⟩ := Cond.selects_spec (hC.w hw.2.2 (Or.inl rfl) args)
  cases hclB.symm.trans q1
  cases (State.methodFound?_of_named n1 hM.2.1).symm.trans q2
  cases n1.symm.trans q3
  have hselP : selectMethod e.platform s.vm cellB.cls mk = .method mk := by rw [Launch.admits_selectMethod X.admits]; exact q4
  obtain ⟨vm₁, X₁, hstep₁⟩ := X.invokevirtual hC.x hC.own (hC.w hw.1 (Or.inl rfl) args) n1 n2 hst hkP hkPi hM.2.1 (a := fx_B G + a) (cell := cellB) (by rw [hT]; exact hcB) (fun z h => by rw [h] at hoB; cases hoB) hselP n2 hab hkP hkPi (g := F0 m pc ls (vs.reverse ++ fx_r G a :: rest)) rfl (argsL := vs) (rest := rest) (hna.trans (hM.len n9)) rfl (by rw [hC.cc]; exact hd)
  obtain ⟨t, h1, h2⟩ := fx_coreH hC hH hB hl hM hvs hdd hroom hd hgo hk ht (T := T.setVm vm₁) hT X₁ (X₁.named n1)
  exact ⟨t, hstep₁ t h1, h2⟩
end FXH
end
section
theorem cw_0 : fx_cw 0 rr_D tt_D 2 := ⟨rfl, List.forall_mem_cons.mpr ⟨wd_34, List.forall_mem_cons.mpr ⟨wd_36, fun _ h => absurd h List.not_mem_nil⟩⟩, ⟨ty_D, to_D, by decide +kernel⟩, nm_D⟩
theorem cw_1 : fx_cw 1 rr_Y tt_Y 2 := ⟨rfl, List.forall_mem_cons.mpr ⟨wd_74, List.forall_mem_cons.mpr ⟨wd_76, fun _ h => absurd h List.not_mem_nil⟩⟩, ⟨ty_Y, to_Y, by decide +kernel⟩, nm_Y⟩
theorem cw_2 : fx_cw 2 rr_N tt_N 2 := ⟨rfl, List.forall_mem_cons.mpr ⟨wd_58, List.forall_mem_cons.mpr ⟨wd_60, fun _ h => absurd h List.not_mem_nil⟩⟩, ⟨ty_N, to_N, by decide +kernel⟩, nm_N⟩
theorem cw_3 : fx_cw 3 rr_H tt_H 8 := ⟨rfl, List.forall_mem_cons.mpr ⟨wd_95, List.forall_mem_cons.mpr ⟨wd_97, List.forall_mem_cons.mpr ⟨wd_99, List.forall_mem_cons.mpr ⟨wd_101, List.forall_mem_cons.mpr ⟨wd_103, List.forall_mem_cons.mpr ⟨wd_105, List.forall_mem_cons.mpr ⟨wd_107, List.forall_mem_cons.mpr ⟨wd_109, fun _ h => absurd h List.not_mem_nil⟩⟩⟩⟩⟩⟩⟩⟩, ⟨ty_H, to_H, by decide +kernel⟩, nm_H⟩
theorem cw_4 : fx_cw 4 rr_V tt_V 9 := ⟨rfl, List.forall_mem_cons.mpr ⟨wd_179, List.forall_mem_cons.mpr ⟨wd_181, List.forall_mem_cons.mpr ⟨wd_183, List.forall_mem_cons.mpr ⟨wd_185, List.forall_mem_cons.mpr ⟨wd_187, List.forall_mem_cons.mpr ⟨wd_189, List.forall_mem_cons.mpr ⟨wd_191, List.forall_mem_cons.mpr ⟨wd_193, List.forall_mem_cons.mpr ⟨wd_195, fun _ h => absurd h List.not_mem_nil⟩⟩⟩⟩⟩⟩⟩⟩⟩, ⟨ty_V, to_V, by decide +kernel⟩, nm_V⟩
theorem cw_5 : fx_cw 5 rr_M tt_M 17 := ⟨rfl, List.forall_mem_cons.mpr ⟨wd_665, List.forall_mem_cons.mpr ⟨wd_667, List.forall_mem_cons.mpr ⟨wd_669, List.forall_mem_cons.mpr ⟨wd_671, List.forall_mem_cons.mpr ⟨wd_673, List.forall_mem_cons.mpr ⟨wd_675, List.forall_mem_cons.mpr ⟨wd_677, List.forall_mem_cons.mpr ⟨wd_679, List.forall_mem_cons.mpr ⟨wd_681, List.forall_mem_cons.mpr ⟨wd_683, List.forall_mem_cons.mpr ⟨wd_685, List.forall_mem_cons.mpr ⟨wd_687, List.forall_mem_cons.mpr ⟨wd_689, List.forall_mem_cons.mpr ⟨wd_691, List.forall_mem_cons.mpr ⟨wd_693, List.forall_mem_cons.mpr ⟨wd_695, List.forall_mem_cons.mpr ⟨wd_697, fun _ h => absurd h List.not_mem_nil⟩⟩⟩⟩⟩⟩⟩⟩⟩⟩⟩⟩⟩⟩⟩⟩⟩, ⟨ty_M, to_M, by decide +kernel⟩, nm_M⟩
theorem mw_V_init : fx_mw mm_V_init 0 := ⟨Or.inl ⟨rfl, wd_20⟩, ⟨by decide, by decide⟩, by decide, by decide +kernel⟩
theorem mw_D_init : fx_mw mm_D_init 0 := ⟨Or.inl ⟨rfl, wd_28⟩, ⟨by decide, by decide⟩, by decide, by decide +kernel⟩
theorem mw_H_init : fx_mw mm_H_init 0 := ⟨Or.inl ⟨rfl, wd_45⟩, ⟨by decide, by decide⟩, by decide, by decide +kernel⟩
theorem mw_N_init : fx_mw mm_N_init 0 := ⟨Or.inl ⟨rfl, wd_51⟩, ⟨by decide, by decide⟩, by decide, by decide +kernel⟩
theorem mw_Y_init : fx_mw mm_Y_init 0 := ⟨Or.inl ⟨rfl, wd_67⟩, ⟨by decide, by decide⟩, by decide, by decide +kernel⟩
theorem mw_H_become : fx_mw mm_H_become 2 := ⟨Or.inl ⟨rfl, wd_119⟩, ⟨by decide, by decide⟩, by decide, by decide +kernel⟩
theorem mw_N_clear : fx_mw mm_N_clear 0 := ⟨Or.inl ⟨rfl, wd_123⟩, ⟨by decide, by decide⟩, by decide, by decide +kernel⟩
theorem mw_H_takeNextNumber : fx_mw mm_H_takeNextNumber 0 := ⟨Or.inl ⟨rfl, wd_127⟩, ⟨by decide, by decide⟩, by decide, by decide +kernel⟩
theorem mw_H_encode : fx_mw mm_H_encode 1 := ⟨Or.inl ⟨rfl, wd_132⟩, ⟨by decide, by decide⟩, by decide, by decide +kernel⟩
theorem mw_A_fill : fx_mw mm_A_fill 2 := ⟨Or.inl ⟨rfl, wd_135⟩, ⟨by decide, by decide⟩, by decide, by decide +kernel⟩
theorem mw_V_putWord : fx_mw mm_V_putWord 3 := ⟨Or.inl ⟨rfl, wd_138⟩, ⟨by decide, by decide⟩, by decide, by decide +kernel⟩
theorem mw_H_encodeName : fx_mw mm_H_encodeName 1 := ⟨Or.inl ⟨rfl, wd_142⟩, ⟨by decide, by decide⟩, by decide, by decide +kernel⟩
theorem mw_H_encodeData : fx_mw mm_H_encodeData 2 := ⟨Or.inl ⟨rfl, wd_149⟩, ⟨by decide, by decide⟩, by decide, by decide +kernel⟩
theorem mw_Y_encode : fx_mw mm_Y_encode 2 := ⟨Or.inl ⟨rfl, wd_153⟩, ⟨by decide, by decide⟩, by decide, by decide +kernel⟩
theorem mw_Y_startsRun : fx_mw mm_Y_startsRun 1 := ⟨Or.inl ⟨rfl, wd_157⟩, ⟨by decide, by decide⟩, by decide, by decide +kernel⟩
theorem mw_H_setAside : fx_mw mm_H_setAside 3 := ⟨Or.inl ⟨rfl, wd_161⟩, ⟨by decide, by decide⟩, by decide, by decide +kernel⟩
theorem mw_V_wordAt : fx_mw mm_V_wordAt 2 := ⟨Or.inl ⟨rfl, wd_164⟩, ⟨by decide, by decide⟩, by decide, by decide +kernel⟩
theorem mw_D_laySector : fx_mw mm_D_laySector 3 := ⟨Or.inl ⟨rfl, wd_168⟩, ⟨by decide, by decide⟩, by decide, by decide +kernel⟩
theorem mw_V_type : fx_mw mm_V_type 1 := ⟨Or.inl ⟨rfl, wd_202⟩, ⟨by decide, by decide⟩, by decide, by decide +kernel⟩
theorem mw_N_append : fx_mw mm_N_append 1 := ⟨Or.inl ⟨rfl, wd_206⟩, ⟨by decide, by decide⟩, by decide, by decide +kernel⟩
theorem mw_V_fail : fx_mw mm_V_fail 1 := ⟨Or.inl ⟨rfl, wd_210⟩, ⟨by decide, by decide⟩, by decide, by decide +kernel⟩
theorem mw_V_on : fx_mw mm_V_on 0 := ⟨Or.inl ⟨rfl, wd_214⟩, ⟨by decide, by decide⟩, by decide, by decide +kernel⟩
theorem mw_V_find : fx_mw mm_V_find 1 := ⟨Or.inl ⟨rfl, wd_218⟩, ⟨by decide, by decide⟩, by decide, by decide +kernel⟩
theorem mw_V_isDirectory : fx_mw mm_V_isDirectory 1 := ⟨Or.inl ⟨rfl, wd_222⟩, ⟨by decide, by decide⟩, by decide, by decide +kernel⟩
theorem mw_V_isUsed : fx_mw mm_V_isUsed 1 := ⟨Or.inl ⟨rfl, wd_226⟩, ⟨by decide, by decide⟩, by decide, by decide +kernel⟩
theorem mw_V_entryNamed : fx_mw mm_V_entryNamed 2 := ⟨Or.inl ⟨rfl, wd_230⟩, ⟨by decide, by decide⟩, by decide, by decide +kernel⟩
theorem mw_N_compare : fx_mw mm_N_compare 1 := ⟨Or.inl ⟨rfl, wd_234⟩, ⟨by decide, by decide⟩, by decide, by decide +kernel⟩
theorem mw_V_record : fx_mw mm_V_record 2 := ⟨Or.inl ⟨rfl, wd_242⟩, ⟨by decide, by decide⟩, by decide, by decide +kernel⟩
theorem mw_H_attributeBytes : fx_mw mm_H_attributeBytes 0 := ⟨Or.inl ⟨rfl, wd_246⟩, ⟨by decide, by decide⟩, by decide, by decide +kernel⟩
theorem mw_H_nameBytes : fx_mw mm_H_nameBytes 0 := ⟨Or.inl ⟨rfl, wd_250⟩, ⟨by decide, by decide⟩, by decide, by decide +kernel⟩
theorem mw_H_dataBytes : fx_mw mm_H_dataBytes 0 := ⟨Or.inl ⟨rfl, wd_254⟩, ⟨by decide, by decide⟩, by decide, by decide +kernel⟩
theorem mw_Y_attributeBytes : fx_mw mm_Y_attributeBytes 0 := ⟨Or.inl ⟨rfl, wd_258⟩, ⟨by decide, by decide⟩, by decide, by decide +kernel⟩
theorem mw_Y_runCount : fx_mw mm_Y_runCount 0 := ⟨Or.inl ⟨rfl, wd_262⟩, ⟨by decide, by decide⟩, by decide, by decide +kernel⟩
theorem mw_V_read : fx_mw mm_V_read 2 := ⟨Or.inl ⟨rfl, wd_266⟩, ⟨by decide, by decide⟩, by decide, by decide +kernel⟩
theorem mw_D_fileByte : fx_mw mm_D_fileByte 2 := ⟨Or.inl ⟨rfl, wd_270⟩, ⟨by decide, by decide⟩, by decide, by decide +kernel⟩
theorem mw_Y_placeOf : fx_mw mm_Y_placeOf 1 := ⟨Or.inl ⟨rfl, wd_274⟩, ⟨by decide, by decide⟩, by decide, by decide +kernel⟩
theorem mw_V_isDataCluster : fx_mw mm_V_isDataCluster 1 := ⟨Or.inl ⟨rfl, wd_277⟩, ⟨by decide, by decide⟩, by decide, by decide +kernel⟩
theorem mw_V_run : fx_mw mm_V_run 3 := ⟨Or.inl ⟨rfl, wd_281⟩, ⟨by decide, by decide⟩, by decide, by decide +kernel⟩
theorem mw_V_isFile : fx_mw mm_V_isFile 1 := ⟨Or.inl ⟨rfl, wd_285⟩, ⟨by decide, by decide⟩, by decide, by decide +kernel⟩
theorem mw_Y_startOfRun : fx_mw mm_Y_startOfRun 1 := ⟨Or.inl ⟨rfl, wd_289⟩, ⟨by decide, by decide⟩, by decide, by decide +kernel⟩
theorem mw_Y_lengthOfRun : fx_mw mm_Y_lengthOfRun 1 := ⟨Or.inl ⟨rfl, wd_293⟩, ⟨by decide, by decide⟩, by decide, by decide +kernel⟩
theorem mw_V_free : fx_mw mm_V_free 0 := ⟨Or.inl ⟨rfl, wd_298⟩, ⟨by decide, by decide⟩, by decide, by decide +kernel⟩
theorem mw_V_at : fx_mw mm_V_at 1 := ⟨Or.inl ⟨rfl, wd_302⟩, ⟨by decide, by decide⟩, by decide, by decide +kernel⟩
theorem mw_L_create : fx_mw mm_L_create 4 := ⟨Or.inr wd_305, ⟨by decide, by decide⟩, by decide, by decide +kernel⟩
theorem mw_V_create : fx_mw mm_V_create 2 := ⟨Or.inl ⟨rfl, wd_312⟩, ⟨by decide, by decide⟩, by decide, by decide +kernel⟩
theorem mw_N_copyFrom : fx_mw mm_N_copyFrom 1 := ⟨Or.inl ⟨rfl, wd_316⟩, ⟨by decide, by decide⟩, by decide, by decide +kernel⟩
theorem mw_V_requireRunning : fx_mw mm_V_requireRunning 0 := ⟨Or.inl ⟨rfl, wd_321⟩, ⟨by decide, by decide⟩, by decide, by decide +kernel⟩
theorem mw_V_require : fx_mw mm_V_require 1 := ⟨Or.inl ⟨rfl, wd_392⟩, ⟨by decide, by decide⟩, by decide, by decide +kernel⟩
theorem mw_V_lowestFreeRecord : fx_mw mm_V_lowestFreeRecord 0 := ⟨Or.inl ⟨rfl, wd_412⟩, ⟨by decide, by decide⟩, by decide, by decide +kernel⟩
theorem mw_V_store : fx_mw mm_V_store 1 := ⟨Or.inl ⟨rfl, wd_432⟩, ⟨by decide, by decide⟩, by decide, by decide +kernel⟩
theorem mw_V_storeSector : fx_mw mm_V_storeSector 2 := ⟨Or.inl ⟨rfl, wd_436⟩, ⟨by decide, by decide⟩, by decide, by decide +kernel⟩
theorem mw_D_isCutNow : fx_mw mm_D_isCutNow 0 := ⟨Or.inl ⟨rfl, wd_440⟩, ⟨by decide, by decide⟩, by decide, by decide +kernel⟩
theorem mw_V_enter : fx_mw mm_V_enter 2 := ⟨Or.inl ⟨rfl, wd_445⟩, ⟨by decide, by decide⟩, by decide, by decide +kernel⟩
theorem mw_V_insertByName : fx_mw mm_V_insertByName 3 := ⟨Or.inl ⟨rfl, wd_449⟩, ⟨by decide, by decide⟩, by decide, by decide +kernel⟩
theorem mw_L_write : fx_mw mm_L_write 6 := ⟨Or.inr wd_452, ⟨by decide, by decide⟩, by decide, by decide +kernel⟩
theorem mw_V_write : fx_mw mm_V_write 4 := ⟨Or.inl ⟨rfl, wd_456⟩, ⟨by decide, by decide⟩, by decide, by decide +kernel⟩
theorem mw_H_mostInside : fx_mw mm_H_mostInside 0 := ⟨Or.inl ⟨rfl, wd_463⟩, ⟨by decide, by decide⟩, by decide, by decide +kernel⟩
theorem mw_H_putInside : fx_mw mm_H_putInside 4 := ⟨Or.inl ⟨rfl, wd_467⟩, ⟨by decide, by decide⟩, by decide, by decide +kernel⟩
theorem mw_V_makePlan : fx_mw mm_V_makePlan 4 := ⟨Or.inl ⟨rfl, wd_471⟩, ⟨by decide, by decide⟩, by decide, by decide +kernel⟩
theorem mw_V_clustersFor : fx_mw mm_V_clustersFor 1 := ⟨Or.inl ⟨rfl, wd_474⟩, ⟨by decide, by decide⟩, by decide, by decide +kernel⟩
theorem mw_V_needsCluster : fx_mw mm_V_needsCluster 4 := ⟨Or.inl ⟨rfl, wd_477⟩, ⟨by decide, by decide⟩, by decide, by decide +kernel⟩
theorem mw_V_lowestFreeCluster : fx_mw mm_V_lowestFreeCluster 1 := ⟨Or.inl ⟨rfl, wd_481⟩, ⟨by decide, by decide⟩, by decide, by decide +kernel⟩
theorem mw_Y_append : fx_mw mm_Y_append 2 := ⟨Or.inl ⟨rfl, wd_485⟩, ⟨by decide, by decide⟩, by decide, by decide +kernel⟩
theorem mw_V_putOutside : fx_mw mm_V_putOutside 5 := ⟨Or.inl ⟨rfl, wd_492⟩, ⟨by decide, by decide⟩, by decide, by decide +kernel⟩
theorem mw_V_takePlanned : fx_mw mm_V_takePlanned 0 := ⟨Or.inl ⟨rfl, wd_496⟩, ⟨by decide, by decide⟩, by decide, by decide +kernel⟩
theorem mw_D_clearFile : fx_mw mm_D_clearFile 3 := ⟨Or.inl ⟨rfl, wd_501⟩, ⟨by decide, by decide⟩, by decide, by decide +kernel⟩
theorem mw_D_putFileByte : fx_mw mm_D_putFileByte 3 := ⟨Or.inl ⟨rfl, wd_505⟩, ⟨by decide, by decide⟩, by decide, by decide +kernel⟩
theorem mw_V_endOfLastCluster : fx_mw mm_V_endOfLastCluster 1 := ⟨Or.inl ⟨rfl, wd_509⟩, ⟨by decide, by decide⟩, by decide, by decide +kernel⟩
theorem mw_Y_copyFrom : fx_mw mm_Y_copyFrom 1 := ⟨Or.inl ⟨rfl, wd_513⟩, ⟨by decide, by decide⟩, by decide, by decide +kernel⟩
theorem mw_L_cut : fx_mw mm_L_cut 4 := ⟨Or.inr wd_517, ⟨by decide, by decide⟩, by decide, by decide +kernel⟩
theorem mw_V_cut : fx_mw mm_V_cut 2 := ⟨Or.inl ⟨rfl, wd_521⟩, ⟨by decide, by decide⟩, by decide, by decide +kernel⟩
theorem mw_V_releaseFrom : fx_mw mm_V_releaseFrom 2 := ⟨Or.inl ⟨rfl, wd_525⟩, ⟨by decide, by decide⟩, by decide, by decide +kernel⟩
theorem mw_L_remove : fx_mw mm_L_remove 3 := ⟨Or.inr wd_529, ⟨by decide, by decide⟩, by decide, by decide +kernel⟩
theorem mw_V_remove : fx_mw mm_V_remove 1 := ⟨Or.inl ⟨rfl, wd_533⟩, ⟨by decide, by decide⟩, by decide, by decide +kernel⟩
theorem mw_V_leave : fx_mw mm_V_leave 2 := ⟨Or.inl ⟨rfl, wd_537⟩, ⟨by decide, by decide⟩, by decide, by decide +kernel⟩
theorem mw_L_move : fx_mw mm_L_move 3 := ⟨Or.inr wd_540, ⟨by decide, by decide⟩, by decide, by decide +kernel⟩
theorem mw_V_move : fx_mw mm_V_move 2 := ⟨Or.inl ⟨rfl, wd_544⟩, ⟨by decide, by decide⟩, by decide, by decide +kernel⟩
theorem mw_V_isAtOrBelow : fx_mw mm_V_isAtOrBelow 2 := ⟨Or.inl ⟨rfl, wd_548⟩, ⟨by decide, by decide⟩, by decide, by decide +kernel⟩
theorem mw_L_mount : fx_mw mm_L_mount 2 := ⟨Or.inr wd_551, ⟨by decide, by decide⟩, by decide, by decide +kernel⟩
theorem mw_V_mount : fx_mw mm_V_mount 0 := ⟨Or.inl ⟨rfl, wd_555⟩, ⟨by decide, by decide⟩, by decide, by decide +kernel⟩
theorem mw_D_liftRecord : fx_mw mm_D_liftRecord 2 := ⟨Or.inl ⟨rfl, wd_559⟩, ⟨by decide, by decide⟩, by decide, by decide +kernel⟩
theorem mw_H_decode : fx_mw mm_H_decode 1 := ⟨Or.inl ⟨rfl, wd_563⟩, ⟨by decide, by decide⟩, by decide, by decide +kernel⟩
theorem mw_H_isTorn : fx_mw mm_H_isTorn 1 := ⟨Or.inl ⟨rfl, wd_567⟩, ⟨by decide, by decide⟩, by decide, by decide +kernel⟩
theorem mw_H_decodeAttributes : fx_mw mm_H_decodeAttributes 1 := ⟨Or.inl ⟨rfl, wd_572⟩, ⟨by decide, by decide⟩, by decide, by decide +kernel⟩
theorem mw_H_decodeAttribute : fx_mw mm_H_decodeAttribute 3 := ⟨Or.inl ⟨rfl, wd_578⟩, ⟨by decide, by decide⟩, by decide, by decide +kernel⟩
theorem mw_Y_decode : fx_mw mm_Y_decode 3 := ⟨Or.inl ⟨rfl, wd_583⟩, ⟨by decide, by decide⟩, by decide, by decide +kernel⟩
theorem mw_V_restoreRoot : fx_mw mm_V_restoreRoot 0 := ⟨Or.inl ⟨rfl, wd_588⟩, ⟨by decide, by decide⟩, by decide, by decide +kernel⟩
theorem mw_V_adoptStrays : fx_mw mm_V_adoptStrays 0 := ⟨Or.inl ⟨rfl, wd_592⟩, ⟨by decide, by decide⟩, by decide, by decide +kernel⟩
theorem mw_V_leadsToRoot : fx_mw mm_V_leadsToRoot 1 := ⟨Or.inl ⟨rfl, wd_596⟩, ⟨by decide, by decide⟩, by decide, by decide +kernel⟩
theorem mw_V_mendLists : fx_mw mm_V_mendLists 0 := ⟨Or.inl ⟨rfl, wd_600⟩, ⟨by decide, by decide⟩, by decide, by decide +kernel⟩
theorem mw_V_collectEntries : fx_mw mm_V_collectEntries 1 := ⟨Or.inl ⟨rfl, wd_604⟩, ⟨by decide, by decide⟩, by decide, by decide +kernel⟩
theorem mw_H_hasList : fx_mw mm_H_hasList 2 := ⟨Or.inl ⟨rfl, wd_608⟩, ⟨by decide, by decide⟩, by decide, by decide +kernel⟩
theorem mw_H_setList : fx_mw mm_H_setList 2 := ⟨Or.inl ⟨rfl, wd_612⟩, ⟨by decide, by decide⟩, by decide, by decide +kernel⟩
theorem mw_V_noteTaken : fx_mw mm_V_noteTaken 0 := ⟨Or.inl ⟨rfl, wd_616⟩, ⟨by decide, by decide⟩, by decide, by decide +kernel⟩
theorem mw_M_init : fx_mw mm_M_init 0 := ⟨Or.inl ⟨rfl, wd_621⟩, ⟨by decide, by decide⟩, by decide, by decide +kernel⟩
theorem mw_M_begin : fx_mw mm_M_begin 2 := ⟨Or.inl ⟨rfl, wd_626⟩, ⟨by decide, by decide⟩, by decide, by decide +kernel⟩
theorem mw_M_putList : fx_mw mm_M_putList 0 := ⟨Or.inl ⟨rfl, wd_630⟩, ⟨by decide, by decide⟩, by decide, by decide +kernel⟩
theorem mw_M_put : fx_mw mm_M_put 1 := ⟨Or.inl ⟨rfl, wd_634⟩, ⟨by decide, by decide⟩, by decide, by decide +kernel⟩
theorem mw_M_store : fx_mw mm_M_store 1 := ⟨Or.inl ⟨rfl, wd_638⟩, ⟨by decide, by decide⟩, by decide, by decide +kernel⟩
theorem mw_M_wordAt : fx_mw mm_M_wordAt 1 := ⟨Or.inl ⟨rfl, wd_642⟩, ⟨by decide, by decide⟩, by decide, by decide +kernel⟩
theorem mw_M_sector : fx_mw mm_M_sector 2 := ⟨Or.inl ⟨rfl, wd_647⟩, ⟨by decide, by decide⟩, by decide, by decide +kernel⟩
theorem mw_M_thrown : fx_mw mm_M_thrown 0 := ⟨Or.inl ⟨rfl, wd_704⟩, ⟨by decide, by decide⟩, by decide, by decide +kernel⟩
theorem mw_M_type : fx_mw mm_M_type 1 := ⟨Or.inl ⟨rfl, wd_708⟩, ⟨by decide, by decide⟩, by decide, by decide +kernel⟩
theorem mw_M_create : fx_mw mm_M_create 2 := ⟨Or.inl ⟨rfl, wd_712⟩, ⟨by decide, by decide⟩, by decide, by decide +kernel⟩
theorem mw_M_makeRecord : fx_mw mm_M_makeRecord 2 := ⟨Or.inl ⟨rfl, wd_716⟩, ⟨by decide, by decide⟩, by decide, by decide +kernel⟩
theorem mw_M_refuse : fx_mw mm_M_refuse 1 := ⟨Or.inl ⟨rfl, wd_720⟩, ⟨by decide, by decide⟩, by decide, by decide +kernel⟩
theorem mw_M_isKind : fx_mw mm_M_isKind 2 := ⟨Or.inl ⟨rfl, wd_724⟩, ⟨by decide, by decide⟩, by decide, by decide +kernel⟩
theorem mw_M_isRecord : fx_mw mm_M_isRecord 1 := ⟨Or.inl ⟨rfl, wd_728⟩, ⟨by decide, by decide⟩, by decide, by decide +kernel⟩
theorem mw_M_byteOf : fx_mw mm_M_byteOf 2 := ⟨Or.inl ⟨rfl, wd_732⟩, ⟨by decide, by decide⟩, by decide, by decide +kernel⟩
theorem mw_M_findDraft : fx_mw mm_M_findDraft 1 := ⟨Or.inl ⟨rfl, wd_736⟩, ⟨by decide, by decide⟩, by decide, by decide +kernel⟩
theorem mw_M_listLength : fx_mw mm_M_listLength 1 := ⟨Or.inl ⟨rfl, wd_740⟩, ⟨by decide, by decide⟩, by decide, by decide +kernel⟩
theorem mw_M_attribute : fx_mw mm_M_attribute 2 := ⟨Or.inl ⟨rfl, wd_744⟩, ⟨by decide, by decide⟩, by decide, by decide +kernel⟩
theorem mw_M_entry : fx_mw mm_M_entry 2 := ⟨Or.inl ⟨rfl, wd_748⟩, ⟨by decide, by decide⟩, by decide, by decide +kernel⟩
theorem mw_M_isDraft : fx_mw mm_M_isDraft 1 := ⟨Or.inl ⟨rfl, wd_752⟩, ⟨by decide, by decide⟩, by decide, by decide +kernel⟩
theorem mw_M_nameLength : fx_mw mm_M_nameLength 1 := ⟨Or.inl ⟨rfl, wd_756⟩, ⟨by decide, by decide⟩, by decide, by decide +kernel⟩
theorem mw_M_nameAt : fx_mw mm_M_nameAt 2 := ⟨Or.inl ⟨rfl, wd_760⟩, ⟨by decide, by decide⟩, by decide, by decide +kernel⟩
theorem mw_M_putDraft : fx_mw mm_M_putDraft 0 := ⟨Or.inl ⟨rfl, wd_764⟩, ⟨by decide, by decide⟩, by decide, by decide +kernel⟩
theorem mw_M_putInside : fx_mw mm_M_putInside 1 := ⟨Or.inl ⟨rfl, wd_768⟩, ⟨by decide, by decide⟩, by decide, by decide +kernel⟩
theorem mw_M_takeList : fx_mw mm_M_takeList 2 := ⟨Or.inl ⟨rfl, wd_772⟩, ⟨by decide, by decide⟩, by decide, by decide +kernel⟩
theorem mw_M_join : fx_mw mm_M_join 1 := ⟨Or.inl ⟨rfl, wd_776⟩, ⟨by decide, by decide⟩, by decide, by decide +kernel⟩
theorem mw_M_compareNames : fx_mw mm_M_compareNames 2 := ⟨Or.inl ⟨rfl, wd_780⟩, ⟨by decide, by decide⟩, by decide, by decide +kernel⟩
theorem mw_M_storeList : fx_mw mm_M_storeList 2 := ⟨Or.inl ⟨rfl, wd_784⟩, ⟨by decide, by decide⟩, by decide, by decide +kernel⟩
theorem mw_M_putName : fx_mw mm_M_putName 1 := ⟨Or.inl ⟨rfl, wd_788⟩, ⟨by decide, by decide⟩, by decide, by decide +kernel⟩
theorem mw_M_remove : fx_mw mm_M_remove 1 := ⟨Or.inl ⟨rfl, wd_792⟩, ⟨by decide, by decide⟩, by decide, by decide +kernel⟩
theorem mw_M_loadMap : fx_mw mm_M_loadMap 1 := ⟨Or.inl ⟨rfl, wd_796⟩, ⟨by decide, by decide⟩, by decide, by decide +kernel⟩
theorem mw_M_release : fx_mw mm_M_release 1 := ⟨Or.inl ⟨rfl, wd_800⟩, ⟨by decide, by decide⟩, by decide, by decide +kernel⟩
theorem mw_M_move : fx_mw mm_M_move 2 := ⟨Or.inl ⟨rfl, wd_804⟩, ⟨by decide, by decide⟩, by decide, by decide +kernel⟩
theorem mw_M_isBelow : fx_mw mm_M_isBelow 2 := ⟨Or.inl ⟨rfl, wd_808⟩, ⟨by decide, by decide⟩, by decide, by decide +kernel⟩
theorem mw_M_hasName : fx_mw mm_M_hasName 2 := ⟨Or.inl ⟨rfl, wd_812⟩, ⟨by decide, by decide⟩, by decide, by decide +kernel⟩
theorem mw_M_write : fx_mw mm_M_write 4 := ⟨Or.inl ⟨rfl, wd_816⟩, ⟨by decide, by decide⟩, by decide, by decide +kernel⟩
theorem mw_M_sizeOf : fx_mw mm_M_sizeOf 1 := ⟨Or.inl ⟨rfl, wd_820⟩, ⟨by decide, by decide⟩, by decide, by decide +kernel⟩
theorem mw_M_isInside : fx_mw mm_M_isInside 1 := ⟨Or.inl ⟨rfl, wd_824⟩, ⟨by decide, by decide⟩, by decide, by decide +kernel⟩
theorem mw_M_writeOutside : fx_mw mm_M_writeOutside 4 := ⟨Or.inl ⟨rfl, wd_828⟩, ⟨by decide, by decide⟩, by decide, by decide +kernel⟩
theorem mw_M_clustersOf : fx_mw mm_M_clustersOf 1 := ⟨Or.inl ⟨rfl, wd_831⟩, ⟨by decide, by decide⟩, by decide, by decide +kernel⟩
theorem mw_M_give : fx_mw mm_M_give 3 := ⟨Or.inl ⟨rfl, wd_835⟩, ⟨by decide, by decide⟩, by decide, by decide +kernel⟩
theorem mw_M_meets : fx_mw mm_M_meets 3 := ⟨Or.inl ⟨rfl, wd_838⟩, ⟨by decide, by decide⟩, by decide, by decide +kernel⟩
theorem mw_M_freeClusters : fx_mw mm_M_freeClusters 0 := ⟨Or.inl ⟨rfl, wd_842⟩, ⟨by decide, by decide⟩, by decide, by decide +kernel⟩
theorem mw_M_lowestFree : fx_mw mm_M_lowestFree 0 := ⟨Or.inl ⟨rfl, wd_846⟩, ⟨by decide, by decide⟩, by decide, by decide +kernel⟩
theorem mw_M_putOutside : fx_mw mm_M_putOutside 1 := ⟨Or.inl ⟨rfl, wd_850⟩, ⟨by decide, by decide⟩, by decide, by decide +kernel⟩
theorem mw_M_takeBack : fx_mw mm_M_takeBack 0 := ⟨Or.inl ⟨rfl, wd_854⟩, ⟨by decide, by decide⟩, by decide, by decide +kernel⟩
theorem mw_M_place : fx_mw mm_M_place 2 := ⟨Or.inl ⟨rfl, wd_858⟩, ⟨by decide, by decide⟩, by decide, by decide +kernel⟩
theorem mw_M_cut : fx_mw mm_M_cut 2 := ⟨Or.inl ⟨rfl, wd_862⟩, ⟨by decide, by decide⟩, by decide, by decide +kernel⟩
theorem mw_M_fail : fx_mw mm_M_fail 1 := ⟨Or.inl ⟨rfl, wd_866⟩, ⟨by decide, by decide⟩, by decide, by decide +kernel⟩
theorem mw_M_mount : fx_mw mm_M_mount 0 := ⟨Or.inl ⟨rfl, wd_870⟩, ⟨by decide, by decide⟩, by decide, by decide +kernel⟩
theorem mw_M_isTorn : fx_mw mm_M_isTorn 1 := ⟨Or.inl ⟨rfl, wd_874⟩, ⟨by decide, by decide⟩, by decide, by decide +kernel⟩
theorem mw_M_mendRoot : fx_mw mm_M_mendRoot 0 := ⟨Or.inl ⟨rfl, wd_878⟩, ⟨by decide, by decide⟩, by decide, by decide +kernel⟩
theorem mw_M_mendParents : fx_mw mm_M_mendParents 0 := ⟨Or.inl ⟨rfl, wd_882⟩, ⟨by decide, by decide⟩, by decide, by decide +kernel⟩
theorem mw_M_leadsUp : fx_mw mm_M_leadsUp 1 := ⟨Or.inl ⟨rfl, wd_886⟩, ⟨by decide, by decide⟩, by decide, by decide +kernel⟩
theorem mw_M_mendLists : fx_mw mm_M_mendLists 0 := ⟨Or.inl ⟨rfl, wd_890⟩, ⟨by decide, by decide⟩, by decide, by decide +kernel⟩
theorem mw_M_on : fx_mw mm_M_on 0 := ⟨Or.inl ⟨rfl, wd_894⟩, ⟨by decide, by decide⟩, by decide, by decide +kernel⟩
theorem mw_M_find : fx_mw mm_M_find 1 := ⟨Or.inl ⟨rfl, wd_898⟩, ⟨by decide, by decide⟩, by decide, by decide +kernel⟩
theorem mw_M_record : fx_mw mm_M_record 2 := ⟨Or.inl ⟨rfl, wd_902⟩, ⟨by decide, by decide⟩, by decide, by decide +kernel⟩
theorem mw_M_runsOf : fx_mw mm_M_runsOf 1 := ⟨Or.inl ⟨rfl, wd_906⟩, ⟨by decide, by decide⟩, by decide, by decide +kernel⟩
theorem mw_M_read : fx_mw mm_M_read 2 := ⟨Or.inl ⟨rfl, wd_910⟩, ⟨by decide, by decide⟩, by decide, by decide +kernel⟩
theorem mw_M_run : fx_mw mm_M_run 3 := ⟨Or.inl ⟨rfl, wd_914⟩, ⟨by decide, by decide⟩, by decide, by decide +kernel⟩
theorem mw_M_free : fx_mw mm_M_free 0 := ⟨Or.inl ⟨rfl, wd_918⟩, ⟨by decide, by decide⟩, by decide, by decide +kernel⟩
theorem mw_M_at : fx_mw mm_M_at 1 := ⟨Or.inl ⟨rfl, wd_922⟩, ⟨by decide, by decide⟩, by decide, by decide +kernel⟩
theorem fw_D_9 : fx_fw rr_D 9 0 0 (.array .int) true := ⟨_, _, _, cw_0, by decide, wd_30, by decide +kernel, rfl⟩
theorem fw_D_15 : fx_fw rr_D 15 0 1 (.int) false := ⟨_, _, _, cw_0, by decide, wd_32, by decide +kernel, rfl⟩
theorem fw_H_12 : fx_fw rr_H 12 3 5 (.object "FixupVolume$Name") true := ⟨_, _, _, cw_3, by decide, wd_89, by decide +kernel, rfl⟩
theorem fw_H_18 : fx_fw rr_H 18 3 6 (.array .int) true := ⟨_, _, _, cw_3, by decide, wd_91, by decide +kernel, rfl⟩
theorem fw_H_25 : fx_fw rr_H 25 3 7 (.object "FixupVolume$Layout") true := ⟨_, _, _, cw_3, by decide, wd_93, by decide +kernel, rfl⟩
theorem fw_H_29 : fx_fw rr_H 29 3 0 (.int) false := ⟨_, _, _, cw_3, by decide, wd_79, by decide +kernel, rfl⟩
theorem fw_H_33 : fx_fw rr_H 33 3 1 (.int) false := ⟨_, _, _, cw_3, by decide, wd_81, by decide +kernel, rfl⟩
theorem fw_H_36 : fx_fw rr_H 36 3 3 (.int) false := ⟨_, _, _, cw_3, by decide, wd_85, by decide +kernel, rfl⟩
theorem fw_H_39 : fx_fw rr_H 39 3 4 (.int) false := ⟨_, _, _, cw_3, by decide, wd_87, by decide +kernel, rfl⟩
theorem fw_H_45 : fx_fw rr_H 45 1 1 (.int) false := ⟨_, _, _, cw_1, by decide, wd_72, by decide +kernel, rfl⟩
theorem fw_H_48 : fx_fw rr_H 48 3 2 (.int) false := ⟨_, _, _, cw_3, by decide, wd_83, by decide +kernel, rfl⟩
theorem fw_H_52 : fx_fw rr_H 52 2 1 (.int) false := ⟨_, _, _, cw_2, by decide, wd_57, by decide +kernel, rfl⟩
theorem fw_H_92 : fx_fw rr_H 92 2 0 (.array .int) true := ⟨_, _, _, cw_2, by decide, wd_54, by decide +kernel, rfl⟩
theorem fw_M_7 : fx_fw rr_M 7 5 1 (.array .int) true := ⟨_, _, _, cw_5, by decide, wd_649, by decide +kernel, rfl⟩
theorem fw_M_13 : fx_fw rr_M 13 5 2 (.array .boolean) true := ⟨_, _, _, cw_5, by decide, wd_650, by decide +kernel, rfl⟩
theorem fw_M_17 : fx_fw rr_M 17 5 3 (.array .boolean) true := ⟨_, _, _, cw_5, by decide, wd_651, by decide +kernel, rfl⟩
theorem fw_M_20 : fx_fw rr_M 20 5 7 (.array .char) true := ⟨_, _, _, cw_5, by decide, wd_655, by decide +kernel, rfl⟩
theorem fw_M_24 : fx_fw rr_M 24 5 8 (.array .int) true := ⟨_, _, _, cw_5, by decide, wd_656, by decide +kernel, rfl⟩
theorem fw_M_27 : fx_fw rr_M 27 5 11 (.array .int) true := ⟨_, _, _, cw_5, by decide, wd_659, by decide +kernel, rfl⟩
theorem fw_M_30 : fx_fw rr_M 30 5 12 (.array .boolean) true := ⟨_, _, _, cw_5, by decide, wd_660, by decide +kernel, rfl⟩
theorem fw_M_33 : fx_fw rr_M 33 5 13 (.array .int) true := ⟨_, _, _, cw_5, by decide, wd_661, by decide +kernel, rfl⟩
theorem fw_M_36 : fx_fw rr_M 36 5 15 (.array .int) true := ⟨_, _, _, cw_5, by decide, wd_663, by decide +kernel, rfl⟩
theorem fw_M_50 : fx_fw rr_M 50 5 4 (.boolean) false := ⟨_, _, _, cw_5, by decide, wd_652, by decide +kernel, rfl⟩
theorem fw_M_54 : fx_fw rr_M 54 5 0 (.int) false := ⟨_, _, _, cw_5, by decide, wd_648, by decide +kernel, rfl⟩
theorem fw_M_78 : fx_fw rr_M 78 5 6 (.int) false := ⟨_, _, _, cw_5, by decide, wd_654, by decide +kernel, rfl⟩
theorem fw_M_81 : fx_fw rr_M 81 5 9 (.int) false := ⟨_, _, _, cw_5, by decide, wd_657, by decide +kernel, rfl⟩
theorem fw_M_88 : fx_fw rr_M 88 5 14 (.int) false := ⟨_, _, _, cw_5, by decide, wd_662, by decide +kernel, rfl⟩
theorem fw_M_91 : fx_fw rr_M 91 5 10 (.int) false := ⟨_, _, _, cw_5, by decide, wd_658, by decide +kernel, rfl⟩
theorem fw_M_94 : fx_fw rr_M 94 5 5 (.int) false := ⟨_, _, _, cw_5, by decide, wd_653, by decide +kernel, rfl⟩
theorem fw_M_193 : fx_fw rr_M 193 5 16 (.int) false := ⟨_, _, _, cw_5, by decide, wd_664, by decide +kernel, rfl⟩
theorem fw_N_9 : fx_fw rr_N 9 2 0 (.array .int) true := ⟨_, _, _, cw_2, by decide, wd_53, by decide +kernel, rfl⟩
theorem fw_N_15 : fx_fw rr_N 15 2 1 (.int) false := ⟨_, _, _, cw_2, by decide, wd_55, by decide +kernel, rfl⟩
theorem fw_V_12 : fx_fw rr_V 12 4 0 (.object "FixupVolume$Disk") true := ⟨_, _, _, cw_4, by decide, wd_170, by decide +kernel, rfl⟩
theorem fw_V_18 : fx_fw rr_V 18 4 1 (.array (.object "FixupVolume$Sheet")) true := ⟨_, _, _, cw_4, by decide, wd_171, by decide +kernel, rfl⟩
theorem fw_V_23 : fx_fw rr_V 23 4 2 (.array .boolean) true := ⟨_, _, _, cw_4, by decide, wd_172, by decide +kernel, rfl⟩
theorem fw_V_30 : fx_fw rr_V 30 4 3 (.object "FixupVolume$Name") true := ⟨_, _, _, cw_4, by decide, wd_173, by decide +kernel, rfl⟩
theorem fw_V_34 : fx_fw rr_V 34 4 5 (.object "FixupVolume$Name") true := ⟨_, _, _, cw_4, by decide, wd_175, by decide +kernel, rfl⟩
theorem fw_V_40 : fx_fw rr_V 40 4 6 (.object "FixupVolume$Layout") true := ⟨_, _, _, cw_4, by decide, wd_176, by decide +kernel, rfl⟩
theorem fw_V_44 : fx_fw rr_V 44 4 7 (.array .int) true := ⟨_, _, _, cw_4, by decide, wd_177, by decide +kernel, rfl⟩
theorem fw_V_48 : fx_fw rr_V 48 4 8 (.array .int) true := ⟨_, _, _, cw_4, by decide, wd_178, by decide +kernel, rfl⟩
theorem fw_V_66 : fx_fw rr_V 66 4 4 (.boolean) false := ⟨_, _, _, cw_4, by decide, wd_174, by decide +kernel, rfl⟩
theorem fw_V_87 : fx_fw rr_V 87 2 1 (.int) false := ⟨_, _, _, cw_2, by decide, wd_56, by decide +kernel, rfl⟩
theorem fw_V_110 : fx_fw rr_V 110 3 5 (.object "FixupVolume$Name") true := ⟨_, _, _, cw_3, by decide, wd_90, by decide +kernel, rfl⟩
theorem fw_V_123 : fx_fw rr_V 123 3 4 (.int) false := ⟨_, _, _, cw_3, by decide, wd_88, by decide +kernel, rfl⟩
theorem fw_V_132 : fx_fw rr_V 132 3 3 (.int) false := ⟨_, _, _, cw_3, by decide, wd_86, by decide +kernel, rfl⟩
theorem fw_V_152 : fx_fw rr_V 152 3 7 (.object "FixupVolume$Layout") true := ⟨_, _, _, cw_3, by decide, wd_94, by decide +kernel, rfl⟩
theorem fw_V_173 : fx_fw rr_V 173 3 1 (.int) false := ⟨_, _, _, cw_3, by decide, wd_82, by decide +kernel, rfl⟩
theorem fw_V_183 : fx_fw rr_V 183 0 1 (.int) false := ⟨_, _, _, cw_0, by decide, wd_33, by decide +kernel, rfl⟩
theorem fw_V_205 : fx_fw rr_V 205 3 0 (.int) false := ⟨_, _, _, cw_3, by decide, wd_80, by decide +kernel, rfl⟩
theorem fw_V_208 : fx_fw rr_V 208 3 2 (.int) false := ⟨_, _, _, cw_3, by decide, wd_84, by decide +kernel, rfl⟩
theorem fw_V_220 : fx_fw rr_V 220 3 6 (.array .int) true := ⟨_, _, _, cw_3, by decide, wd_92, by decide +kernel, rfl⟩
theorem fw_V_232 : fx_fw rr_V 232 0 0 (.array .int) true := ⟨_, _, _, cw_0, by decide, wd_31, by decide +kernel, rfl⟩
theorem fw_V_262 : fx_fw rr_V 262 1 1 (.int) false := ⟨_, _, _, cw_1, by decide, wd_73, by decide +kernel, rfl⟩
theorem fw_V_286 : fx_fw rr_V 286 1 0 (.array .int) true := ⟨_, _, _, cw_1, by decide, wd_70, by decide +kernel, rfl⟩
theorem fw_Y_9 : fx_fw rr_Y 9 1 0 (.array .int) true := ⟨_, _, _, cw_1, by decide, wd_69, by decide +kernel, rfl⟩
theorem fw_Y_15 : fx_fw rr_Y 15 1 1 (.int) false := ⟨_, _, _, cw_1, by decide, wd_71, by decide +kernel, rfl⟩
abbrev xw_names : List String := ["java/lang/RuntimeException", "java/lang/Exception"]
theorem xw_thr : ∀ a ∈ Bundle.throwableAtoms, fx_aw a := List.forall_mem_cons.mpr ⟨Or.inl ⟨wd_9, rfl⟩, List.forall_mem_cons.mpr ⟨Or.inl ⟨wd_344, rfl⟩, List.forall_mem_cons.mpr ⟨Or.inl ⟨wd_353, rfl⟩, List.forall_mem_cons.mpr ⟨Or.inl ⟨wd_357, rfl⟩, List.forall_mem_cons.mpr ⟨Or.inl ⟨wd_360, rfl⟩, List.forall_mem_cons.mpr ⟨Or.inl ⟨wd_362, rfl⟩, List.forall_mem_cons.mpr ⟨Or.inl ⟨wd_345, rfl⟩, List.forall_mem_cons.mpr ⟨Or.inl ⟨wd_346, rfl⟩, List.forall_mem_cons.mpr ⟨Or.inl ⟨wd_22, rfl⟩, List.forall_mem_cons.mpr ⟨Or.inl ⟨wd_23, rfl⟩, List.forall_mem_cons.mpr ⟨Or.inl ⟨wd_347, rfl⟩, List.forall_mem_cons.mpr ⟨Or.inl ⟨wd_352, rfl⟩, List.forall_mem_cons.mpr ⟨Or.inl ⟨wd_358, rfl⟩, List.forall_mem_cons.mpr ⟨Or.inl ⟨wd_378, rfl⟩, List.forall_mem_cons.mpr ⟨Or.inl ⟨wd_334, rfl⟩, List.forall_mem_cons.mpr ⟨Or.inl ⟨wd_379, rfl⟩, List.forall_mem_cons.mpr ⟨Or.inl ⟨wd_336, rfl⟩, List.forall_mem_cons.mpr ⟨Or.inl ⟨wd_380, rfl⟩, List.forall_mem_cons.mpr ⟨Or.inl ⟨wd_338, rfl⟩, List.forall_mem_cons.mpr ⟨Or.inl ⟨wd_348, rfl⟩, List.forall_mem_cons.mpr ⟨Or.inr (Or.inl ⟨wd_349, _, _, _, rfl⟩), List.forall_mem_cons.mpr ⟨Or.inl ⟨wd_350, rfl⟩, List.forall_mem_cons.mpr ⟨Or.inr (Or.inl ⟨wd_351, _, _, _, rfl⟩), List.forall_mem_cons.mpr ⟨Or.inl ⟨wd_340, rfl⟩, fun _ h => absurd h List.not_mem_nil⟩⟩⟩⟩⟩⟩⟩⟩⟩⟩⟩⟩⟩⟩⟩⟩⟩⟩⟩⟩⟩⟩⟩⟩
theorem xw_thrS : ∀ a ∈ Bundle.throwableSAtoms, fx_aw a := List.forall_mem_cons.mpr ⟨Or.inl ⟨wd_374, rfl⟩, List.forall_mem_cons.mpr ⟨Or.inl ⟨wd_375, rfl⟩, List.forall_mem_cons.mpr ⟨Or.inl ⟨wd_377, rfl⟩, List.forall_mem_cons.mpr ⟨Or.inl ⟨wd_340, rfl⟩, fun _ h => absurd h List.not_mem_nil⟩⟩⟩⟩
theorem xw_V_107 : ∀ a ∈ Bundle.ownAtoms rr_V 107 "java/lang/UnsupportedOperationException" xw_names, fx_aw a := List.forall_mem_append.mpr ⟨List.forall_mem_append.mpr ⟨List.forall_mem_append.mpr ⟨xw_thr, xw_thrS⟩, show ∀ a ∈ Bundle.passSAtoms "java/lang/UnsupportedOperationException" "java/lang/RuntimeException" 7 Bundle.six ++ (Bundle.passSAtoms "java/lang/RuntimeException" "java/lang/Exception" 7 Bundle.six ++ Bundle.passSAtoms "java/lang/Exception" Bundle.tN 7 Bundle.six), fx_aw a from List.forall_mem_cons.mpr ⟨Or.inl ⟨wd_424, rfl⟩, List.forall_mem_cons.mpr ⟨Or.inl ⟨wd_425, rfl⟩, List.forall_mem_cons.mpr ⟨Or.inl ⟨wd_426, rfl⟩, List.forall_mem_cons.mpr ⟨Or.inl ⟨wd_368, rfl⟩, List.forall_mem_cons.mpr ⟨Or.inr (Or.inr (Or.inr (Or.inr (Or.inr ⟨wd_326, _, rfl⟩)))), List.forall_mem_cons.mpr ⟨Or.inl ⟨wd_368, rfl⟩, List.forall_mem_cons.mpr ⟨Or.inl ⟨wd_369, rfl⟩, List.forall_mem_cons.mpr ⟨Or.inl ⟨wd_370, rfl⟩, List.forall_mem_cons.mpr ⟨Or.inl ⟨wd_371, rfl⟩, List.forall_mem_cons.mpr ⟨Or.inr (Or.inr (Or.inr (Or.inr (Or.inr ⟨wd_328, _, rfl⟩)))), List.forall_mem_cons.mpr ⟨Or.inl ⟨wd_371, rfl⟩, List.forall_mem_cons.mpr ⟨Or.inl ⟨wd_372, rfl⟩, List.forall_mem_cons.mpr ⟨Or.inl ⟨wd_373, rfl⟩, List.forall_mem_cons.mpr ⟨Or.inl ⟨wd_374, rfl⟩, List.forall_mem_cons.mpr ⟨Or.inr (Or.inr (Or.inr (Or.inr (Or.inr ⟨wd_330, _, rfl⟩)))), fun _ h => absurd h List.not_mem_nil⟩⟩⟩⟩⟩⟩⟩⟩⟩⟩⟩⟩⟩⟩⟩⟩, List.forall_mem_cons.mpr ⟨Or.inl ⟨wd_423, rfl⟩, List.forall_mem_cons.mpr ⟨Or.inl ⟨wd_414, rfl⟩, List.forall_mem_cons.mpr ⟨Or.inr (Or.inr (Or.inr (Or.inr (Or.inl ⟨wd_415, _, _, rfl⟩)))), List.forall_mem_cons.mpr ⟨Or.inl ⟨wd_416, rfl⟩, List.forall_mem_cons.mpr ⟨Or.inl ⟨wd_356, rfl⟩, List.forall_mem_cons.mpr ⟨Or.inl ⟨wd_417, rfl⟩, List.forall_mem_cons.mpr ⟨Or.inl ⟨wd_418, rfl⟩, List.forall_mem_cons.mpr ⟨Or.inl ⟨wd_419, rfl⟩, List.forall_mem_cons.mpr ⟨Or.inl ⟨wd_420, rfl⟩, List.forall_mem_cons.mpr ⟨Or.inr (Or.inr (Or.inl rfl)), List.forall_mem_cons.mpr ⟨Or.inr (Or.inr (Or.inr (Or.inl rfl))), List.forall_mem_cons.mpr ⟨Or.inl ⟨wd_343, rfl⟩, List.forall_mem_cons.mpr ⟨Or.inl ⟨wd_342, rfl⟩, List.forall_mem_cons.mpr ⟨Or.inl ⟨wd_421, rfl⟩, fun _ h => absurd h List.not_mem_nil⟩⟩⟩⟩⟩⟩⟩⟩⟩⟩⟩⟩⟩⟩⟩
theorem xw_V_239 : ∀ a ∈ Bundle.ownAtoms rr_V 239 "java/lang/IllegalStateException" xw_names, fx_aw a := List.forall_mem_append.mpr ⟨List.forall_mem_append.mpr ⟨List.forall_mem_append.mpr ⟨xw_thr, xw_thrS⟩, show ∀ a ∈ Bundle.passSAtoms "java/lang/IllegalStateException" "java/lang/RuntimeException" 7 Bundle.six ++ (Bundle.passSAtoms "java/lang/RuntimeException" "java/lang/Exception" 7 Bundle.six ++ Bundle.passSAtoms "java/lang/Exception" Bundle.tN 7 Bundle.six), fx_aw a from List.forall_mem_cons.mpr ⟨Or.inl ⟨wd_365, rfl⟩, List.forall_mem_cons.mpr ⟨Or.inl ⟨wd_366, rfl⟩, List.forall_mem_cons.mpr ⟨Or.inl ⟨wd_367, rfl⟩, List.forall_mem_cons.mpr ⟨Or.inl ⟨wd_368, rfl⟩, List.forall_mem_cons.mpr ⟨Or.inr (Or.inr (Or.inr (Or.inr (Or.inr ⟨wd_326, _, rfl⟩)))), List.forall_mem_cons.mpr ⟨Or.inl ⟨wd_368, rfl⟩, List.forall_mem_cons.mpr ⟨Or.inl ⟨wd_369, rfl⟩, List.forall_mem_cons.mpr ⟨Or.inl ⟨wd_370, rfl⟩, List.forall_mem_cons.mpr ⟨Or.inl ⟨wd_371, rfl⟩, List.forall_mem_cons.mpr ⟨Or.inr (Or.inr (Or.inr (Or.inr (Or.inr ⟨wd_328, _, rfl⟩)))), List.forall_mem_cons.mpr ⟨Or.inl ⟨wd_371, rfl⟩, List.forall_mem_cons.mpr ⟨Or.inl ⟨wd_372, rfl⟩, List.forall_mem_cons.mpr ⟨Or.inl ⟨wd_373, rfl⟩, List.forall_mem_cons.mpr ⟨Or.inl ⟨wd_374, rfl⟩, List.forall_mem_cons.mpr ⟨Or.inr (Or.inr (Or.inr (Or.inr (Or.inr ⟨wd_330, _, rfl⟩)))), fun _ h => absurd h List.not_mem_nil⟩⟩⟩⟩⟩⟩⟩⟩⟩⟩⟩⟩⟩⟩⟩⟩, List.forall_mem_cons.mpr ⟨Or.inl ⟨wd_364, rfl⟩, List.forall_mem_cons.mpr ⟨Or.inl ⟨wd_323, rfl⟩, List.forall_mem_cons.mpr ⟨Or.inr (Or.inr (Or.inr (Or.inr (Or.inl ⟨wd_324, _, _, rfl⟩)))), List.forall_mem_cons.mpr ⟨Or.inl ⟨wd_331, rfl⟩, List.forall_mem_cons.mpr ⟨Or.inl ⟨wd_332, rfl⟩, List.forall_mem_cons.mpr ⟨Or.inl ⟨wd_333, rfl⟩, List.forall_mem_cons.mpr ⟨Or.inl ⟨wd_335, rfl⟩, List.forall_mem_cons.mpr ⟨Or.inl ⟨wd_337, rfl⟩, List.forall_mem_cons.mpr ⟨Or.inl ⟨wd_339, rfl⟩, List.forall_mem_cons.mpr ⟨Or.inr (Or.inr (Or.inl rfl)), List.forall_mem_cons.mpr ⟨Or.inr (Or.inr (Or.inr (Or.inl rfl))), List.forall_mem_cons.mpr ⟨Or.inl ⟨wd_343, rfl⟩, List.forall_mem_cons.mpr ⟨Or.inl ⟨wd_342, rfl⟩, List.forall_mem_cons.mpr ⟨Or.inl ⟨wd_341, rfl⟩, fun _ h => absurd h List.not_mem_nil⟩⟩⟩⟩⟩⟩⟩⟩⟩⟩⟩⟩⟩⟩⟩
theorem xw_V_244 : ∀ a ∈ Bundle.ownAtoms rr_V 244 "java/lang/IllegalArgumentException" xw_names, fx_aw a := List.forall_mem_append.mpr ⟨List.forall_mem_append.mpr ⟨List.forall_mem_append.mpr ⟨xw_thr, xw_thrS⟩, show ∀ a ∈ Bundle.passSAtoms "java/lang/IllegalArgumentException" "java/lang/RuntimeException" 7 Bundle.six ++ (Bundle.passSAtoms "java/lang/RuntimeException" "java/lang/Exception" 7 Bundle.six ++ Bundle.passSAtoms "java/lang/Exception" Bundle.tN 7 Bundle.six), fx_aw a from List.forall_mem_cons.mpr ⟨Or.inl ⟨wd_404, rfl⟩, List.forall_mem_cons.mpr ⟨Or.inl ⟨wd_405, rfl⟩, List.forall_mem_cons.mpr ⟨Or.inl ⟨wd_406, rfl⟩, List.forall_mem_cons.mpr ⟨Or.inl ⟨wd_368, rfl⟩, List.forall_mem_cons.mpr ⟨Or.inr (Or.inr (Or.inr (Or.inr (Or.inr ⟨wd_326, _, rfl⟩)))), List.forall_mem_cons.mpr ⟨Or.inl ⟨wd_368, rfl⟩, List.forall_mem_cons.mpr ⟨Or.inl ⟨wd_369, rfl⟩, List.forall_mem_cons.mpr ⟨Or.inl ⟨wd_370, rfl⟩, List.forall_mem_cons.mpr ⟨Or.inl ⟨wd_371, rfl⟩, List.forall_mem_cons.mpr ⟨Or.inr (Or.inr (Or.inr (Or.inr (Or.inr ⟨wd_328, _, rfl⟩)))), List.forall_mem_cons.mpr ⟨Or.inl ⟨wd_371, rfl⟩, List.forall_mem_cons.mpr ⟨Or.inl ⟨wd_372, rfl⟩, List.forall_mem_cons.mpr ⟨Or.inl ⟨wd_373, rfl⟩, List.forall_mem_cons.mpr ⟨Or.inl ⟨wd_374, rfl⟩, List.forall_mem_cons.mpr ⟨Or.inr (Or.inr (Or.inr (Or.inr (Or.inr ⟨wd_330, _, rfl⟩)))), fun _ h => absurd h List.not_mem_nil⟩⟩⟩⟩⟩⟩⟩⟩⟩⟩⟩⟩⟩⟩⟩⟩, List.forall_mem_cons.mpr ⟨Or.inl ⟨wd_403, rfl⟩, List.forall_mem_cons.mpr ⟨Or.inl ⟨wd_394, rfl⟩, List.forall_mem_cons.mpr ⟨Or.inr (Or.inr (Or.inr (Or.inr (Or.inl ⟨wd_395, _, _, rfl⟩)))), List.forall_mem_cons.mpr ⟨Or.inl ⟨wd_396, rfl⟩, List.forall_mem_cons.mpr ⟨Or.inl ⟨wd_355, rfl⟩, List.forall_mem_cons.mpr ⟨Or.inl ⟨wd_397, rfl⟩, List.forall_mem_cons.mpr ⟨Or.inl ⟨wd_398, rfl⟩, List.forall_mem_cons.mpr ⟨Or.inl ⟨wd_399, rfl⟩, List.forall_mem_cons.mpr ⟨Or.inl ⟨wd_400, rfl⟩, List.forall_mem_cons.mpr ⟨Or.inr (Or.inr (Or.inl rfl)), List.forall_mem_cons.mpr ⟨Or.inr (Or.inr (Or.inr (Or.inl rfl))), List.forall_mem_cons.mpr ⟨Or.inl ⟨wd_343, rfl⟩, List.forall_mem_cons.mpr ⟨Or.inl ⟨wd_342, rfl⟩, List.forall_mem_cons.mpr ⟨Or.inl ⟨wd_401, rfl⟩, fun _ h => absurd h List.not_mem_nil⟩⟩⟩⟩⟩⟩⟩⟩⟩⟩⟩⟩⟩⟩⟩
theorem xs_237 : Cond.exactly (.string rr_V 237) "java/lang/String" ∈ flatC (Jvm.Cond.and given_1 narrow_1) := by decide +kernel
theorem xs_242 : Cond.exactly (.string rr_V 242) "java/lang/String" ∈ flatC (Jvm.Cond.and given_1 narrow_1) := by decide +kernel
theorem xs_105 : Cond.exactly (.string rr_V 105) "java/lang/String" ∈ flatC (Jvm.Cond.and given_1 narrow_1) := by decide +kernel
theorem xs_260 : Cond.exactly (.string rr_V 260) "java/lang/String" ∈ flatC (Jvm.Cond.and given_1 narrow_1) := by decide +kernel
theorem xs_146 : Cond.exactly (.string rr_V 146) "java/lang/String" ∈ flatC (Jvm.Cond.and given_1 narrow_1) := by decide +kernel
end
