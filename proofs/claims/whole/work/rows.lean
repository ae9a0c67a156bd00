section
-- ===== PART A: goes FIRST, ahead of the names: the tables' words, and 'selects' of the private methods out of them =====
/-- a private method of a class that the tables say can be made, by its rows of tables_1 -/
def lw_okq (q : MethodName × Nat) : Prop := (q.1.cls ≠ "java/lang/invoke/MethodHandle" ∧ q.1.cls ≠ "java/lang/invoke/VarHandle") ∧ Cond.instantiable q.1.cls q.2 ∈ tables_1 ∧ Cond.privateMethod q.1 ∈ tables_1 ∧ Cond.instanceMethod q.1 ∈ tables_1
theorem lw_p0 : lw_okq (⟨"NumberedWaves", "textOf", "(I)LNumberedWaves$Text;"⟩, 13) := ⟨⟨by decide +kernel, by decide +kernel⟩, List.mem_of_getElem? (i := 11) (by decide +kernel), List.mem_of_getElem? (i := 189) (by decide +kernel), List.mem_of_getElem? (i := 190) (by decide +kernel)⟩
theorem lw_p1 : lw_okq (⟨"NumberedWaves$Text", "parse", "()V"⟩, 7) := ⟨⟨by decide +kernel, by decide +kernel⟩, List.mem_of_getElem? (i := 19) (by decide +kernel), List.mem_of_getElem? (i := 197) (by decide +kernel), List.mem_of_getElem? (i := 198) (by decide +kernel)⟩
theorem lw_p2 : lw_okq (⟨"NumberedWaves$Text", "goesOn", "(I)Z"⟩, 7) := ⟨⟨by decide +kernel, by decide +kernel⟩, List.mem_of_getElem? (i := 19) (by decide +kernel), List.mem_of_getElem? (i := 204) (by decide +kernel), List.mem_of_getElem? (i := 205) (by decide +kernel)⟩
theorem lw_p3 : lw_okq (⟨"NumberedWaves", "tell", "(LNumberedWaves$Pairs;II)I"⟩, 13) := ⟨⟨by decide +kernel, by decide +kernel⟩, List.mem_of_getElem? (i := 11) (by decide +kernel), List.mem_of_getElem? (i := 250) (by decide +kernel), List.mem_of_getElem? (i := 251) (by decide +kernel)⟩
theorem lw_p4 : lw_okq (⟨"NumberedWaves", "sheetRefusal", "(I)I"⟩, 13) := ⟨⟨by decide +kernel, by decide +kernel⟩, List.mem_of_getElem? (i := 11) (by decide +kernel), List.mem_of_getElem? (i := 287) (by decide +kernel), List.mem_of_getElem? (i := 288) (by decide +kernel)⟩
theorem lw_p5 : lw_okq (⟨"NumberedWaves", "finding", "(I)I"⟩, 13) := ⟨⟨by decide +kernel, by decide +kernel⟩, List.mem_of_getElem? (i := 11) (by decide +kernel), List.mem_of_getElem? (i := 291) (by decide +kernel), List.mem_of_getElem? (i := 292) (by decide +kernel)⟩
theorem lw_p6 : lw_okq (⟨"NumberedWaves", "waves", "()LNumberedWaves$Waves;"⟩, 13) := ⟨⟨by decide +kernel, by decide +kernel⟩, List.mem_of_getElem? (i := 11) (by decide +kernel), List.mem_of_getElem? (i := 299) (by decide +kernel), List.mem_of_getElem? (i := 300) (by decide +kernel)⟩
theorem lw_p7 : lw_okq (⟨"NumberedWaves$Waves", "reckonHeights", "(LNumberedWaves$Text;)V"⟩, 7) := ⟨⟨by decide +kernel, by decide +kernel⟩, List.mem_of_getElem? (i := 82) (by decide +kernel), List.mem_of_getElem? (i := 307) (by decide +kernel), List.mem_of_getElem? (i := 308) (by decide +kernel)⟩
theorem lw_p8 : lw_okq (⟨"NumberedWaves$Waves", "reckonNumbers", "(LNumberedWaves$Pairs;)V"⟩, 7) := ⟨⟨by decide +kernel, by decide +kernel⟩, List.mem_of_getElem? (i := 82) (by decide +kernel), List.mem_of_getElem? (i := 316) (by decide +kernel), List.mem_of_getElem? (i := 317) (by decide +kernel)⟩
theorem lw_p9 : lw_okq (⟨"NumberedWaves", "valueOf", "(I)I"⟩, 13) := ⟨⟨by decide +kernel, by decide +kernel⟩, List.mem_of_getElem? (i := 11) (by decide +kernel), List.mem_of_getElem? (i := 348) (by decide +kernel), List.mem_of_getElem? (i := 349) (by decide +kernel)⟩
theorem lw_p10 : lw_okq (⟨"NumberedWaves", "claimsBy", "(LNumberedWaves$Waves;I)I"⟩, 13) := ⟨⟨by decide +kernel, by decide +kernel⟩, List.mem_of_getElem? (i := 11) (by decide +kernel), List.mem_of_getElem? (i := 356) (by decide +kernel), List.mem_of_getElem? (i := 357) (by decide +kernel)⟩
theorem lw_p11 : lw_okq (⟨"NumberedWaves", "worthOf", "(LNumberedWaves$Waves;I)I"⟩, 13) := ⟨⟨by decide +kernel, by decide +kernel⟩, List.mem_of_getElem? (i := 11) (by decide +kernel), List.mem_of_getElem? (i := 364) (by decide +kernel), List.mem_of_getElem? (i := 365) (by decide +kernel)⟩
theorem lw_p12 : lw_okq (⟨"NumberedWaves", "firstCrest", "(II)I"⟩, 13) := ⟨⟨by decide +kernel, by decide +kernel⟩, List.mem_of_getElem? (i := 11) (by decide +kernel), List.mem_of_getElem? (i := 379) (by decide +kernel), List.mem_of_getElem? (i := 380) (by decide +kernel)⟩
theorem lw_p13 : lw_okq (⟨"NumberedWaves", "sumOfRun", "(LNumberedWaves$Waves;II)I"⟩, 13) := ⟨⟨by decide +kernel, by decide +kernel⟩, List.mem_of_getElem? (i := 11) (by decide +kernel), List.mem_of_getElem? (i := 395) (by decide +kernel), List.mem_of_getElem? (i := 396) (by decide +kernel)⟩
theorem lw_p14 : lw_okq (⟨"NumberedWaves", "fitsSlip", "(LNumberedWaves$Waves;II)Z"⟩, 13) := ⟨⟨by decide +kernel, by decide +kernel⟩, List.mem_of_getElem? (i := 11) (by decide +kernel), List.mem_of_getElem? (i := 423) (by decide +kernel), List.mem_of_getElem? (i := 424) (by decide +kernel)⟩
theorem lw_p15 : lw_okq (⟨"NumberedWaves", "fitsWake", "(LNumberedWaves$Waves;I)Z"⟩, 13) := ⟨⟨by decide +kernel, by decide +kernel⟩, List.mem_of_getElem? (i := 11) (by decide +kernel), List.mem_of_getElem? (i := 431) (by decide +kernel), List.mem_of_getElem? (i := 432) (by decide +kernel)⟩
def lw_privs_1 : List (MethodName × Nat) := [(⟨"NumberedWaves", "textOf", "(I)LNumberedWaves$Text;"⟩, 13), (⟨"NumberedWaves$Text", "parse", "()V"⟩, 7), (⟨"NumberedWaves$Text", "goesOn", "(I)Z"⟩, 7), (⟨"NumberedWaves", "tell", "(LNumberedWaves$Pairs;II)I"⟩, 13), (⟨"NumberedWaves", "sheetRefusal", "(I)I"⟩, 13), (⟨"NumberedWaves", "finding", "(I)I"⟩, 13), (⟨"NumberedWaves", "waves", "()LNumberedWaves$Waves;"⟩, 13), (⟨"NumberedWaves$Waves", "reckonHeights", "(LNumberedWaves$Text;)V"⟩, 7), (⟨"NumberedWaves$Waves", "reckonNumbers", "(LNumberedWaves$Pairs;)V"⟩, 7), (⟨"NumberedWaves", "valueOf", "(I)I"⟩, 13), (⟨"NumberedWaves", "claimsBy", "(LNumberedWaves$Waves;I)I"⟩, 13), (⟨"NumberedWaves", "worthOf", "(LNumberedWaves$Waves;I)I"⟩, 13), (⟨"NumberedWaves", "firstCrest", "(II)I"⟩, 13), (⟨"NumberedWaves", "sumOfRun", "(LNumberedWaves$Waves;II)I"⟩, 13), (⟨"NumberedWaves", "fitsSlip", "(LNumberedWaves$Waves;II)Z"⟩, 13), (⟨"NumberedWaves", "fitsWake", "(LNumberedWaves$Waves;I)Z"⟩, 13)]
theorem lw_r1 : ∀ q ∈ lw_privs_1, lw_okq q := List.forall_mem_cons.mpr ⟨lw_p0, List.forall_mem_cons.mpr ⟨lw_p1, List.forall_mem_cons.mpr ⟨lw_p2, List.forall_mem_cons.mpr ⟨lw_p3, List.forall_mem_cons.mpr ⟨lw_p4, List.forall_mem_cons.mpr ⟨lw_p5, List.forall_mem_cons.mpr ⟨lw_p6, List.forall_mem_cons.mpr ⟨lw_p7, List.forall_mem_cons.mpr ⟨lw_p8, List.forall_mem_cons.mpr ⟨lw_p9, List.forall_mem_cons.mpr ⟨lw_p10, List.forall_mem_cons.mpr ⟨lw_p11, List.forall_mem_cons.mpr ⟨lw_p12, List.forall_mem_cons.mpr ⟨lw_p13, List.forall_mem_cons.mpr ⟨lw_p14, List.forall_mem_cons.mpr ⟨lw_p15, fun _ h => absurd h List.not_mem_nil⟩⟩⟩⟩⟩⟩⟩⟩⟩⟩⟩⟩⟩⟩⟩⟩
theorem lw_p16 : lw_okq (⟨"NumberedWaves", "markDueNumbers", "()I"⟩, 13) := ⟨⟨by decide +kernel, by decide +kernel⟩, List.mem_of_getElem? (i := 11) (by decide +kernel), List.mem_of_getElem? (i := 439) (by decide +kernel), List.mem_of_getElem? (i := 440) (by decide +kernel)⟩
theorem lw_p17 : lw_okq (⟨"NumberedWaves", "fitsPeriod", "(LNumberedWaves$Waves;III)Z"⟩, 13) := ⟨⟨by decide +kernel, by decide +kernel⟩, List.mem_of_getElem? (i := 11) (by decide +kernel), List.mem_of_getElem? (i := 444) (by decide +kernel), List.mem_of_getElem? (i := 445) (by decide +kernel)⟩
theorem lw_p18 : lw_okq (⟨"NumberedWaves", "stepWays", "(I)V"⟩, 13) := ⟨⟨by decide +kernel, by decide +kernel⟩, List.mem_of_getElem? (i := 11) (by decide +kernel), List.mem_of_getElem? (i := 459) (by decide +kernel), List.mem_of_getElem? (i := 460) (by decide +kernel)⟩
theorem lw_p19 : lw_okq (⟨"NumberedWaves", "itemRefusal", "(III)I"⟩, 13) := ⟨⟨by decide +kernel, by decide +kernel⟩, List.mem_of_getElem? (i := 11) (by decide +kernel), List.mem_of_getElem? (i := 489) (by decide +kernel), List.mem_of_getElem? (i := 490) (by decide +kernel)⟩
theorem lw_p20 : lw_okq (⟨"NumberedWaves", "digestSwells", "(J)J"⟩, 13) := ⟨⟨by decide +kernel, by decide +kernel⟩, List.mem_of_getElem? (i := 11) (by decide +kernel), List.mem_of_getElem? (i := 529) (by decide +kernel), List.mem_of_getElem? (i := 530) (by decide +kernel)⟩
theorem lw_p21 : lw_okq (⟨"NumberedWaves", "digestFinds", "(J)J"⟩, 13) := ⟨⟨by decide +kernel, by decide +kernel⟩, List.mem_of_getElem? (i := 11) (by decide +kernel), List.mem_of_getElem? (i := 536) (by decide +kernel), List.mem_of_getElem? (i := 537) (by decide +kernel)⟩
theorem lw_p22 : lw_okq (⟨"NumberedWaves", "digestTimes", "(J)J"⟩, 13) := ⟨⟨by decide +kernel, by decide +kernel⟩, List.mem_of_getElem? (i := 11) (by decide +kernel), List.mem_of_getElem? (i := 541) (by decide +kernel), List.mem_of_getElem? (i := 542) (by decide +kernel)⟩
theorem lw_p23 : lw_okq (⟨"NumberedWaves", "digestNumbers", "(J)J"⟩, 13) := ⟨⟨by decide +kernel, by decide +kernel⟩, List.mem_of_getElem? (i := 11) (by decide +kernel), List.mem_of_getElem? (i := 550) (by decide +kernel), List.mem_of_getElem? (i := 551) (by decide +kernel)⟩
theorem lw_p24 : lw_okq (⟨"NumberedWaves", "digestTickets", "(J)J"⟩, 13) := ⟨⟨by decide +kernel, by decide +kernel⟩, List.mem_of_getElem? (i := 11) (by decide +kernel), List.mem_of_getElem? (i := 558) (by decide +kernel), List.mem_of_getElem? (i := 559) (by decide +kernel)⟩
theorem lw_p25 : lw_okq (⟨"NumberedWaves", "digestPlans", "(J)J"⟩, 13) := ⟨⟨by decide +kernel, by decide +kernel⟩, List.mem_of_getElem? (i := 11) (by decide +kernel), List.mem_of_getElem? (i := 565) (by decide +kernel), List.mem_of_getElem? (i := 566) (by decide +kernel)⟩
theorem lw_p26 : lw_okq (⟨"NumberedWavesModel", "faultOf", "(I)I"⟩, 38) := ⟨⟨by decide +kernel, by decide +kernel⟩, List.mem_of_getElem? (i := 575) (by decide +kernel), List.mem_of_getElem? (i := 718) (by decide +kernel), List.mem_of_getElem? (i := 719) (by decide +kernel)⟩
theorem lw_p27 : lw_okq (⟨"NumberedWavesModel", "readsText", "(I)I"⟩, 38) := ⟨⟨by decide +kernel, by decide +kernel⟩, List.mem_of_getElem? (i := 575) (by decide +kernel), List.mem_of_getElem? (i := 722) (by decide +kernel), List.mem_of_getElem? (i := 723) (by decide +kernel)⟩
theorem lw_p28 : lw_okq (⟨"NumberedWavesModel", "readsOne", "(III)I"⟩, 38) := ⟨⟨by decide +kernel, by decide +kernel⟩, List.mem_of_getElem? (i := 575) (by decide +kernel), List.mem_of_getElem? (i := 726) (by decide +kernel), List.mem_of_getElem? (i := 727) (by decide +kernel)⟩
theorem lw_p29 : lw_okq (⟨"NumberedWavesModel", "figureAt", "(II)I"⟩, 38) := ⟨⟨by decide +kernel, by decide +kernel⟩, List.mem_of_getElem? (i := 575) (by decide +kernel), List.mem_of_getElem? (i := 730) (by decide +kernel), List.mem_of_getElem? (i := 731) (by decide +kernel)⟩
theorem lw_p30 : lw_okq (⟨"NumberedWavesModel", "twoAt", "(II)I"⟩, 38) := ⟨⟨by decide +kernel, by decide +kernel⟩, List.mem_of_getElem? (i := 575) (by decide +kernel), List.mem_of_getElem? (i := 734) (by decide +kernel), List.mem_of_getElem? (i := 735) (by decide +kernel)⟩
theorem lw_p31 : lw_okq (⟨"NumberedWavesModel", "isSwell", "(I)Z"⟩, 38) := ⟨⟨by decide +kernel, by decide +kernel⟩, List.mem_of_getElem? (i := 575) (by decide +kernel), List.mem_of_getElem? (i := 742) (by decide +kernel), List.mem_of_getElem? (i := 743) (by decide +kernel)⟩
def lw_privs_2 : List (MethodName × Nat) := [(⟨"NumberedWaves", "markDueNumbers", "()I"⟩, 13), (⟨"NumberedWaves", "fitsPeriod", "(LNumberedWaves$Waves;III)Z"⟩, 13), (⟨"NumberedWaves", "stepWays", "(I)V"⟩, 13), (⟨"NumberedWaves", "itemRefusal", "(III)I"⟩, 13), (⟨"NumberedWaves", "digestSwells", "(J)J"⟩, 13), (⟨"NumberedWaves", "digestFinds", "(J)J"⟩, 13), (⟨"NumberedWaves", "digestTimes", "(J)J"⟩, 13), (⟨"NumberedWaves", "digestNumbers", "(J)J"⟩, 13), (⟨"NumberedWaves", "digestTickets", "(J)J"⟩, 13), (⟨"NumberedWaves", "digestPlans", "(J)J"⟩, 13), (⟨"NumberedWavesModel", "faultOf", "(I)I"⟩, 38), (⟨"NumberedWavesModel", "readsText", "(I)I"⟩, 38), (⟨"NumberedWavesModel", "readsOne", "(III)I"⟩, 38), (⟨"NumberedWavesModel", "figureAt", "(II)I"⟩, 38), (⟨"NumberedWavesModel", "twoAt", "(II)I"⟩, 38), (⟨"NumberedWavesModel", "isSwell", "(I)Z"⟩, 38)]
theorem lw_r2 : ∀ q ∈ lw_privs_2, lw_okq q := List.forall_mem_cons.mpr ⟨lw_p16, List.forall_mem_cons.mpr ⟨lw_p17, List.forall_mem_cons.mpr ⟨lw_p18, List.forall_mem_cons.mpr ⟨lw_p19, List.forall_mem_cons.mpr ⟨lw_p20, List.forall_mem_cons.mpr ⟨lw_p21, List.forall_mem_cons.mpr ⟨lw_p22, List.forall_mem_cons.mpr ⟨lw_p23, List.forall_mem_cons.mpr ⟨lw_p24, List.forall_mem_cons.mpr ⟨lw_p25, List.forall_mem_cons.mpr ⟨lw_p26, List.forall_mem_cons.mpr ⟨lw_p27, List.forall_mem_cons.mpr ⟨lw_p28, List.forall_mem_cons.mpr ⟨lw_p29, List.forall_mem_cons.mpr ⟨lw_p30, List.forall_mem_cons.mpr ⟨lw_p31, fun _ h => absurd h List.not_mem_nil⟩⟩⟩⟩⟩⟩⟩⟩⟩⟩⟩⟩⟩⟩⟩⟩
theorem lw_p32 : lw_okq (⟨"NumberedWavesModel", "reads", "()V"⟩, 38) := ⟨⟨by decide +kernel, by decide +kernel⟩, List.mem_of_getElem? (i := 575) (by decide +kernel), List.mem_of_getElem? (i := 746) (by decide +kernel), List.mem_of_getElem? (i := 747) (by decide +kernel)⟩
theorem lw_p33 : lw_okq (⟨"NumberedWavesModel", "swellOf", "(II)I"⟩, 38) := ⟨⟨by decide +kernel, by decide +kernel⟩, List.mem_of_getElem? (i := 575) (by decide +kernel), List.mem_of_getElem? (i := 750) (by decide +kernel), List.mem_of_getElem? (i := 751) (by decide +kernel)⟩
theorem lw_p34 : lw_okq (⟨"NumberedWavesModel", "isFind", "(I)Z"⟩, 38) := ⟨⟨by decide +kernel, by decide +kernel⟩, List.mem_of_getElem? (i := 575) (by decide +kernel), List.mem_of_getElem? (i := 758) (by decide +kernel), List.mem_of_getElem? (i := 759) (by decide +kernel)⟩
theorem lw_p35 : lw_okq (⟨"NumberedWavesModel", "findOf", "(II)I"⟩, 38) := ⟨⟨by decide +kernel, by decide +kernel⟩, List.mem_of_getElem? (i := 575) (by decide +kernel), List.mem_of_getElem? (i := 762) (by decide +kernel), List.mem_of_getElem? (i := 763) (by decide +kernel)⟩
theorem lw_p36 : lw_okq (⟨"NumberedWavesModel", "meets", "(I)I"⟩, 38) := ⟨⟨by decide +kernel, by decide +kernel⟩, List.mem_of_getElem? (i := 575) (by decide +kernel), List.mem_of_getElem? (i := 799) (by decide +kernel), List.mem_of_getElem? (i := 800) (by decide +kernel)⟩
theorem lw_p37 : lw_okq (⟨"NumberedWavesModel", "highOf", "(I)I"⟩, 38) := ⟨⟨by decide +kernel, by decide +kernel⟩, List.mem_of_getElem? (i := 575) (by decide +kernel), List.mem_of_getElem? (i := 808) (by decide +kernel), List.mem_of_getElem? (i := 809) (by decide +kernel)⟩
theorem lw_p38 : lw_okq (⟨"NumberedWavesModel", "laysTold", "()V"⟩, 38) := ⟨⟨by decide +kernel, by decide +kernel⟩, List.mem_of_getElem? (i := 575) (by decide +kernel), List.mem_of_getElem? (i := 812) (by decide +kernel), List.mem_of_getElem? (i := 813) (by decide +kernel)⟩
theorem lw_p39 : lw_okq (⟨"NumberedWavesModel", "asTold", "()V"⟩, 38) := ⟨⟨by decide +kernel, by decide +kernel⟩, List.mem_of_getElem? (i := 575) (by decide +kernel), List.mem_of_getElem? (i := 816) (by decide +kernel), List.mem_of_getElem? (i := 817) (by decide +kernel)⟩
theorem lw_p40 : lw_okq (⟨"NumberedWavesModel", "lays", "()V"⟩, 38) := ⟨⟨by decide +kernel, by decide +kernel⟩, List.mem_of_getElem? (i := 575) (by decide +kernel), List.mem_of_getElem? (i := 820) (by decide +kernel), List.mem_of_getElem? (i := 821) (by decide +kernel)⟩
theorem lw_p41 : lw_okq (⟨"NumberedWavesModel", "isCrest", "(II)Z"⟩, 38) := ⟨⟨by decide +kernel, by decide +kernel⟩, List.mem_of_getElem? (i := 575) (by decide +kernel), List.mem_of_getElem? (i := 824) (by decide +kernel), List.mem_of_getElem? (i := 825) (by decide +kernel)⟩
theorem lw_p42 : lw_okq (⟨"NumberedWavesModel", "breaks", "(I)Z"⟩, 38) := ⟨⟨by decide +kernel, by decide +kernel⟩, List.mem_of_getElem? (i := 575) (by decide +kernel), List.mem_of_getElem? (i := 828) (by decide +kernel), List.mem_of_getElem? (i := 829) (by decide +kernel)⟩
theorem lw_p43 : lw_okq (⟨"NumberedWavesModel", "isWake", "(I)Z"⟩, 38) := ⟨⟨by decide +kernel, by decide +kernel⟩, List.mem_of_getElem? (i := 575) (by decide +kernel), List.mem_of_getElem? (i := 832) (by decide +kernel), List.mem_of_getElem? (i := 833) (by decide +kernel)⟩
theorem lw_p44 : lw_okq (⟨"NumberedWavesModel", "skips", "(I)I"⟩, 38) := ⟨⟨by decide +kernel, by decide +kernel⟩, List.mem_of_getElem? (i := 575) (by decide +kernel), List.mem_of_getElem? (i := 836) (by decide +kernel), List.mem_of_getElem? (i := 837) (by decide +kernel)⟩
theorem lw_p45 : lw_okq (⟨"NumberedWavesModel", "waveOf", "(II)I"⟩, 38) := ⟨⟨by decide +kernel, by decide +kernel⟩, List.mem_of_getElem? (i := 575) (by decide +kernel), List.mem_of_getElem? (i := 844) (by decide +kernel), List.mem_of_getElem? (i := 845) (by decide +kernel)⟩
theorem lw_p46 : lw_okq (⟨"NumberedWavesModel", "whenOf", "(I)I"⟩, 38) := ⟨⟨by decide +kernel, by decide +kernel⟩, List.mem_of_getElem? (i := 575) (by decide +kernel), List.mem_of_getElem? (i := 852) (by decide +kernel), List.mem_of_getElem? (i := 853) (by decide +kernel)⟩
theorem lw_p47 : lw_okq (⟨"NumberedWavesModel", "timeOf", "(I)I"⟩, 38) := ⟨⟨by decide +kernel, by decide +kernel⟩, List.mem_of_getElem? (i := 575) (by decide +kernel), List.mem_of_getElem? (i := 856) (by decide +kernel), List.mem_of_getElem? (i := 857) (by decide +kernel)⟩
def lw_privs_3 : List (MethodName × Nat) := [(⟨"NumberedWavesModel", "reads", "()V"⟩, 38), (⟨"NumberedWavesModel", "swellOf", "(II)I"⟩, 38), (⟨"NumberedWavesModel", "isFind", "(I)Z"⟩, 38), (⟨"NumberedWavesModel", "findOf", "(II)I"⟩, 38), (⟨"NumberedWavesModel", "meets", "(I)I"⟩, 38), (⟨"NumberedWavesModel", "highOf", "(I)I"⟩, 38), (⟨"NumberedWavesModel", "laysTold", "()V"⟩, 38), (⟨"NumberedWavesModel", "asTold", "()V"⟩, 38), (⟨"NumberedWavesModel", "lays", "()V"⟩, 38), (⟨"NumberedWavesModel", "isCrest", "(II)Z"⟩, 38), (⟨"NumberedWavesModel", "breaks", "(I)Z"⟩, 38), (⟨"NumberedWavesModel", "isWake", "(I)Z"⟩, 38), (⟨"NumberedWavesModel", "skips", "(I)I"⟩, 38), (⟨"NumberedWavesModel", "waveOf", "(II)I"⟩, 38), (⟨"NumberedWavesModel", "whenOf", "(I)I"⟩, 38), (⟨"NumberedWavesModel", "timeOf", "(I)I"⟩, 38)]
theorem lw_r3 : ∀ q ∈ lw_privs_3, lw_okq q := List.forall_mem_cons.mpr ⟨lw_p32, List.forall_mem_cons.mpr ⟨lw_p33, List.forall_mem_cons.mpr ⟨lw_p34, List.forall_mem_cons.mpr ⟨lw_p35, List.forall_mem_cons.mpr ⟨lw_p36, List.forall_mem_cons.mpr ⟨lw_p37, List.forall_mem_cons.mpr ⟨lw_p38, List.forall_mem_cons.mpr ⟨lw_p39, List.forall_mem_cons.mpr ⟨lw_p40, List.forall_mem_cons.mpr ⟨lw_p41, List.forall_mem_cons.mpr ⟨lw_p42, List.forall_mem_cons.mpr ⟨lw_p43, List.forall_mem_cons.mpr ⟨lw_p44, List.forall_mem_cons.mpr ⟨lw_p45, List.forall_mem_cons.mpr ⟨lw_p46, List.forall_mem_cons.mpr ⟨lw_p47, fun _ h => absurd h List.not_mem_nil⟩⟩⟩⟩⟩⟩⟩⟩⟩⟩⟩⟩⟩⟩⟩⟩
theorem lw_p48 : lw_okq (⟨"NumberedWavesModel", "calledOf", "(II)I"⟩, 38) := ⟨⟨by decide +kernel, by decide +kernel⟩, List.mem_of_getElem? (i := 575) (by decide +kernel), List.mem_of_getElem? (i := 864) (by decide +kernel), List.mem_of_getElem? (i := 865) (by decide +kernel)⟩
theorem lw_p49 : lw_okq (⟨"NumberedWavesModel", "bringsOf", "(I)I"⟩, 38) := ⟨⟨by decide +kernel, by decide +kernel⟩, List.mem_of_getElem? (i := 575) (by decide +kernel), List.mem_of_getElem? (i := 872) (by decide +kernel), List.mem_of_getElem? (i := 873) (by decide +kernel)⟩
theorem lw_p50 : lw_okq (⟨"NumberedWavesModel", "bringsNow", "(I)I"⟩, 38) := ⟨⟨by decide +kernel, by decide +kernel⟩, List.mem_of_getElem? (i := 575) (by decide +kernel), List.mem_of_getElem? (i := 876) (by decide +kernel), List.mem_of_getElem? (i := 877) (by decide +kernel)⟩
theorem lw_p51 : lw_okq (⟨"NumberedWavesModel", "claimsOf", "(I)I"⟩, 38) := ⟨⟨by decide +kernel, by decide +kernel⟩, List.mem_of_getElem? (i := 575) (by decide +kernel), List.mem_of_getElem? (i := 884) (by decide +kernel), List.mem_of_getElem? (i := 885) (by decide +kernel)⟩
theorem lw_p52 : lw_okq (⟨"NumberedWavesModel", "claimsNow", "(I)I"⟩, 38) := ⟨⟨by decide +kernel, by decide +kernel⟩, List.mem_of_getElem? (i := 575) (by decide +kernel), List.mem_of_getElem? (i := 888) (by decide +kernel), List.mem_of_getElem? (i := 889) (by decide +kernel)⟩
theorem lw_p53 : lw_okq (⟨"NumberedWavesModel", "holderOf", "(I)I"⟩, 38) := ⟨⟨by decide +kernel, by decide +kernel⟩, List.mem_of_getElem? (i := 575) (by decide +kernel), List.mem_of_getElem? (i := 892) (by decide +kernel), List.mem_of_getElem? (i := 893) (by decide +kernel)⟩
theorem lw_p54 : lw_okq (⟨"NumberedWavesModel", "goodOf", "(I)I"⟩, 38) := ⟨⟨by decide +kernel, by decide +kernel⟩, List.mem_of_getElem? (i := 575) (by decide +kernel), List.mem_of_getElem? (i := 900) (by decide +kernel), List.mem_of_getElem? (i := 901) (by decide +kernel)⟩
theorem lw_p55 : lw_okq (⟨"NumberedWavesModel", "agreeOf", "(IIII)I"⟩, 38) := ⟨⟨by decide +kernel, by decide +kernel⟩, List.mem_of_getElem? (i := 575) (by decide +kernel), List.mem_of_getElem? (i := 908) (by decide +kernel), List.mem_of_getElem? (i := 909) (by decide +kernel)⟩
theorem lw_p56 : lw_okq (⟨"NumberedWavesModel", "runOf", "(II)I"⟩, 38) := ⟨⟨by decide +kernel, by decide +kernel⟩, List.mem_of_getElem? (i := 575) (by decide +kernel), List.mem_of_getElem? (i := 919) (by decide +kernel), List.mem_of_getElem? (i := 920) (by decide +kernel)⟩
theorem lw_p57 : lw_okq (⟨"NumberedWavesModel", "barOf", "(I)I"⟩, 38) := ⟨⟨by decide +kernel, by decide +kernel⟩, List.mem_of_getElem? (i := 575) (by decide +kernel), List.mem_of_getElem? (i := 927) (by decide +kernel), List.mem_of_getElem? (i := 928) (by decide +kernel)⟩
theorem lw_p58 : lw_okq (⟨"NumberedWavesModel", "earnOf", "(II)I"⟩, 38) := ⟨⟨by decide +kernel, by decide +kernel⟩, List.mem_of_getElem? (i := 575) (by decide +kernel), List.mem_of_getElem? (i := 935) (by decide +kernel), List.mem_of_getElem? (i := 936) (by decide +kernel)⟩
theorem lw_p59 : lw_okq (⟨"NumberedWavesModel", "skippedOf", "(I)I"⟩, 38) := ⟨⟨by decide +kernel, by decide +kernel⟩, List.mem_of_getElem? (i := 575) (by decide +kernel), List.mem_of_getElem? (i := 951) (by decide +kernel), List.mem_of_getElem? (i := 952) (by decide +kernel)⟩
theorem lw_p60 : lw_okq (⟨"NumberedWavesModel", "isHeard", "()Z"⟩, 38) := ⟨⟨by decide +kernel, by decide +kernel⟩, List.mem_of_getElem? (i := 575) (by decide +kernel), List.mem_of_getElem? (i := 955) (by decide +kernel), List.mem_of_getElem? (i := 956) (by decide +kernel)⟩
theorem lw_p61 : lw_okq (⟨"NumberedWavesModel", "voidsOf", "(I)I"⟩, 38) := ⟨⟨by decide +kernel, by decide +kernel⟩, List.mem_of_getElem? (i := 575) (by decide +kernel), List.mem_of_getElem? (i := 963) (by decide +kernel), List.mem_of_getElem? (i := 964) (by decide +kernel)⟩
theorem lw_p62 : lw_okq (⟨"NumberedWavesModel", "oftenOf", "(II)I"⟩, 38) := ⟨⟨by decide +kernel, by decide +kernel⟩, List.mem_of_getElem? (i := 575) (by decide +kernel), List.mem_of_getElem? (i := 971) (by decide +kernel), List.mem_of_getElem? (i := 972) (by decide +kernel)⟩
theorem lw_p63 : lw_okq (⟨"NumberedWavesModel", "hoarseOf", "(III)J"⟩, 38) := ⟨⟨by decide +kernel, by decide +kernel⟩, List.mem_of_getElem? (i := 575) (by decide +kernel), List.mem_of_getElem? (i := 979) (by decide +kernel), List.mem_of_getElem? (i := 980) (by decide +kernel)⟩
def lw_privs_4 : List (MethodName × Nat) := [(⟨"NumberedWavesModel", "calledOf", "(II)I"⟩, 38), (⟨"NumberedWavesModel", "bringsOf", "(I)I"⟩, 38), (⟨"NumberedWavesModel", "bringsNow", "(I)I"⟩, 38), (⟨"NumberedWavesModel", "claimsOf", "(I)I"⟩, 38), (⟨"NumberedWavesModel", "claimsNow", "(I)I"⟩, 38), (⟨"NumberedWavesModel", "holderOf", "(I)I"⟩, 38), (⟨"NumberedWavesModel", "goodOf", "(I)I"⟩, 38), (⟨"NumberedWavesModel", "agreeOf", "(IIII)I"⟩, 38), (⟨"NumberedWavesModel", "runOf", "(II)I"⟩, 38), (⟨"NumberedWavesModel", "barOf", "(I)I"⟩, 38), (⟨"NumberedWavesModel", "earnOf", "(II)I"⟩, 38), (⟨"NumberedWavesModel", "skippedOf", "(I)I"⟩, 38), (⟨"NumberedWavesModel", "isHeard", "()Z"⟩, 38), (⟨"NumberedWavesModel", "voidsOf", "(I)I"⟩, 38), (⟨"NumberedWavesModel", "oftenOf", "(II)I"⟩, 38), (⟨"NumberedWavesModel", "hoarseOf", "(III)J"⟩, 38)]
theorem lw_r4 : ∀ q ∈ lw_privs_4, lw_okq q := List.forall_mem_cons.mpr ⟨lw_p48, List.forall_mem_cons.mpr ⟨lw_p49, List.forall_mem_cons.mpr ⟨lw_p50, List.forall_mem_cons.mpr ⟨lw_p51, List.forall_mem_cons.mpr ⟨lw_p52, List.forall_mem_cons.mpr ⟨lw_p53, List.forall_mem_cons.mpr ⟨lw_p54, List.forall_mem_cons.mpr ⟨lw_p55, List.forall_mem_cons.mpr ⟨lw_p56, List.forall_mem_cons.mpr ⟨lw_p57, List.forall_mem_cons.mpr ⟨lw_p58, List.forall_mem_cons.mpr ⟨lw_p59, List.forall_mem_cons.mpr ⟨lw_p60, List.forall_mem_cons.mpr ⟨lw_p61, List.forall_mem_cons.mpr ⟨lw_p62, List.forall_mem_cons.mpr ⟨lw_p63, fun _ h => absurd h List.not_mem_nil⟩⟩⟩⟩⟩⟩⟩⟩⟩⟩⟩⟩⟩⟩⟩⟩
theorem lw_p64 : lw_okq (⟨"NumberedWavesModel", "stormOf", "(III)I"⟩, 38) := ⟨⟨by decide +kernel, by decide +kernel⟩, List.mem_of_getElem? (i := 575) (by decide +kernel), List.mem_of_getElem? (i := 996) (by decide +kernel), List.mem_of_getElem? (i := 997) (by decide +kernel)⟩
theorem lw_p65 : lw_okq (⟨"NumberedWavesModel", "lacks", "(III)I"⟩, 38) := ⟨⟨by decide +kernel, by decide +kernel⟩, List.mem_of_getElem? (i := 575) (by decide +kernel), List.mem_of_getElem? (i := 1013) (by decide +kernel), List.mem_of_getElem? (i := 1014) (by decide +kernel)⟩
theorem lw_p66 : lw_okq (⟨"NumberedWavesModel", "keep", "(III)V"⟩, 38) := ⟨⟨by decide +kernel, by decide +kernel⟩, List.mem_of_getElem? (i := 575) (by decide +kernel), List.mem_of_getElem? (i := 1017) (by decide +kernel), List.mem_of_getElem? (i := 1018) (by decide +kernel)⟩
theorem lw_p67 : lw_okq (⟨"NumberedWavesModel", "sumOf", "(I)I"⟩, 38) := ⟨⟨by decide +kernel, by decide +kernel⟩, List.mem_of_getElem? (i := 575) (by decide +kernel), List.mem_of_getElem? (i := 1038) (by decide +kernel), List.mem_of_getElem? (i := 1039) (by decide +kernel)⟩
theorem lw_p68 : lw_okq (⟨"NumberedWavesModel", "swellDigest", "(JI)J"⟩, 38) := ⟨⟨by decide +kernel, by decide +kernel⟩, List.mem_of_getElem? (i := 575) (by decide +kernel), List.mem_of_getElem? (i := 1049) (by decide +kernel), List.mem_of_getElem? (i := 1050) (by decide +kernel)⟩
theorem lw_p69 : lw_okq (⟨"NumberedWavesModel", "timeDigest", "(JI)J"⟩, 38) := ⟨⟨by decide +kernel, by decide +kernel⟩, List.mem_of_getElem? (i := 575) (by decide +kernel), List.mem_of_getElem? (i := 1054) (by decide +kernel), List.mem_of_getElem? (i := 1055) (by decide +kernel)⟩
theorem lw_p70 : lw_okq (⟨"NumberedWavesModel", "numberDigest", "(JI)J"⟩, 38) := ⟨⟨by decide +kernel, by decide +kernel⟩, List.mem_of_getElem? (i := 575) (by decide +kernel), List.mem_of_getElem? (i := 1058) (by decide +kernel), List.mem_of_getElem? (i := 1059) (by decide +kernel)⟩
def lw_privs_5 : List (MethodName × Nat) := [(⟨"NumberedWavesModel", "stormOf", "(III)I"⟩, 38), (⟨"NumberedWavesModel", "lacks", "(III)I"⟩, 38), (⟨"NumberedWavesModel", "keep", "(III)V"⟩, 38), (⟨"NumberedWavesModel", "sumOf", "(I)I"⟩, 38), (⟨"NumberedWavesModel", "swellDigest", "(JI)J"⟩, 38), (⟨"NumberedWavesModel", "timeDigest", "(JI)J"⟩, 38), (⟨"NumberedWavesModel", "numberDigest", "(JI)J"⟩, 38)]
theorem lw_r5 : ∀ q ∈ lw_privs_5, lw_okq q := List.forall_mem_cons.mpr ⟨lw_p64, List.forall_mem_cons.mpr ⟨lw_p65, List.forall_mem_cons.mpr ⟨lw_p66, List.forall_mem_cons.mpr ⟨lw_p67, List.forall_mem_cons.mpr ⟨lw_p68, List.forall_mem_cons.mpr ⟨lw_p69, List.forall_mem_cons.mpr ⟨lw_p70, fun _ h => absurd h List.not_mem_nil⟩⟩⟩⟩⟩⟩⟩
def lw_privs : List (MethodName × Nat) := lw_privs_1 ++ (lw_privs_2 ++ (lw_privs_3 ++ (lw_privs_4 ++ (lw_privs_5))))
def lw_tbl : List Cond := k2_sels lw_privs ++ tables_1
theorem lw_privs_ok : ∀ q ∈ lw_privs, lw_okq q := by
  show ∀ q ∈ lw_privs_1 ++ (lw_privs_2 ++ (lw_privs_3 ++ (lw_privs_4 ++ (lw_privs_5)))), lw_okq q
  exact List.forall_mem_append.mpr ⟨lw_r1, List.forall_mem_append.mpr ⟨lw_r2, List.forall_mem_append.mpr ⟨lw_r3, List.forall_mem_append.mpr ⟨lw_r4, lw_r5⟩⟩⟩⟩
end
section
def RX0 : String := "NumberedWaves$Pairs"
def TX0 : u_T := fun k => match k with
  | 0 => ("NumberedWaves$Pairs", "first", "[I", true)
  | 1 => ("NumberedWaves$Pairs", "second", "[I", true)
  | _ => ("NumberedWaves$Pairs", "size", "I", false)
def tyX0 : Nat → FieldType := fun k => match k with
  | 0 => .array .int
  | 1 => .array .int
  | _ => .int
abbrev wsX00 : List Cond := u_ws RX0 TX0 3
theorem nmX0 : ∀ a, a < 3 → ∀ b, b < 3 → a ≠ b → (TX0 a).2.1 ≠ (TX0 b).2.1 := by decide +kernel
theorem tyX0_ok : ∀ k, k < 3 → parseFieldDescriptor (TX0 k).2.2.1 = some (tyX0 k) := by decide +kernel
abbrev cX0_init : ByteArray := prog_2_method_1_code
def yX0_init : MethodName := ⟨RX0, "<init>", "(I)V"⟩
abbrev cX0_append : ByteArray := prog_2_method_2_code
def yX0_append : MethodName := ⟨RX0, "append", "(II)Z"⟩
abbrev cX0_dropLast : ByteArray := prog_2_method_3_code
def yX0_dropLast : MethodName := ⟨RX0, "dropLast", "()Z"⟩
abbrev cX0_firstWithSecond : ByteArray := prog_2_method_4_code
def yX0_firstWithSecond : MethodName := ⟨RX0, "firstWithSecond", "(I)I"⟩
def RX1 : String := "NumberedWaves$Sheet"
def TX1 : u_T := fun k => match k with
  | 0 => ("NumberedWaves$Sheet", "items", "[I", true)
  | 1 => ("NumberedWaves$Sheet", "form", "I", false)
  | 2 => ("NumberedWaves$Sheet", "size", "I", false)
  | _ => ("NumberedWaves$Sheet", "lost", "Z", false)
def tyX1 : Nat → FieldType := fun k => match k with
  | 0 => .array .int
  | 1 => .int
  | 2 => .int
  | _ => .boolean
abbrev wsX10 : List Cond := u_ws RX1 TX1 4
theorem nmX1 : ∀ a, a < 4 → ∀ b, b < 4 → a ≠ b → (TX1 a).2.1 ≠ (TX1 b).2.1 := by decide +kernel
theorem tyX1_ok : ∀ k, k < 4 → parseFieldDescriptor (TX1 k).2.2.1 = some (tyX1 k) := by decide +kernel
abbrev cX1_init : ByteArray := prog_3_method_1_code
def yX1_init : MethodName := ⟨RX1, "<init>", "()V"⟩
abbrev cX1_renew : ByteArray := prog_3_method_2_code
def yX1_renew : MethodName := ⟨RX1, "renew", "(II)V"⟩
abbrev cX1_store : ByteArray := prog_3_method_3_code
def yX1_store : MethodName := ⟨RX1, "store", "(II)V"⟩
abbrev cX1_hasRange : ByteArray := prog_3_method_4_code
def yX1_hasRange : MethodName := ⟨RX1, "hasRange", "(II)Z"⟩
def RX2 : String := "NumberedWaves$Text"
def TX2 : u_T := fun k => match k with
  | 0 => ("NumberedWaves$Text", "bytes", "[I", true)
  | 1 => ("NumberedWaves$Text", "partOfPlace", "[I", true)
  | 2 => ("NumberedWaves$Text", "leastOfPart", "[I", true)
  | 3 => ("NumberedWaves$Text", "parts", "[I", true)
  | 4 => ("NumberedWaves$Text", "length", "I", false)
  | 5 => ("NumberedWaves$Text", "flaw", "I", false)
  | _ => ("NumberedWaves$Text", "entries", "I", false)
def tyX2 : Nat → FieldType := fun k => match k with
  | 0 => .array .int
  | 1 => .array .int
  | 2 => .array .int
  | 3 => .array .int
  | 4 => .int
  | 5 => .int
  | _ => .int
abbrev wsX20 : List Cond := u_ws RX2 TX2 7
theorem nmX2 : ∀ a, a < 7 → ∀ b, b < 7 → a ≠ b → (TX2 a).2.1 ≠ (TX2 b).2.1 := by decide +kernel
theorem tyX2_ok : ∀ k, k < 7 → parseFieldDescriptor (TX2 k).2.2.1 = some (tyX2 k) := by decide +kernel
abbrev cX2_init : ByteArray := prog_4_method_1_code
def yX2_init : MethodName := ⟨RX2, "<init>", "(I[I[I)V"⟩
abbrev cX2_part : ByteArray := prog_4_method_2_code
def yX2_part : MethodName := ⟨RX2, "part", "(II)I"⟩
abbrev cX2_append : ByteArray := prog_4_method_3_code
def yX2_append : MethodName := ⟨RX2, "append", "(I)Z"⟩
abbrev cX2_cutTo : ByteArray := prog_4_method_4_code
def yX2_cutTo : MethodName := ⟨RX2, "cutTo", "(I)V"⟩
abbrev cX2_parse : ByteArray := prog_4_method_5_code
def yX2_parse : MethodName := ⟨RX2, "parse", "()V"⟩
abbrev cX2_goesOn : ByteArray := prog_4_method_6_code
def yX2_goesOn : MethodName := ⟨RX2, "goesOn", "(I)Z"⟩
def RX3 : String := "NumberedWaves$Waves"
def TX3 : u_T := fun k => match k with
  | 0 => ("NumberedWaves$Waves", "heights", "[I", true)
  | 1 => ("NumberedWaves$Waves", "crests", "[I", true)
  | 2 => ("NumberedWaves$Waves", "voided", "[Z", true)
  | 3 => ("NumberedWaves$Waves", "turns", "[I", true)
  | 4 => ("NumberedWaves$Waves", "numbers", "[I", true)
  | 5 => ("NumberedWaves$Waves", "times", "[I", true)
  | _ => ("NumberedWaves$Waves", "calls", "I", false)
def tyX3 : Nat → FieldType := fun k => match k with
  | 0 => .array .int
  | 1 => .array .int
  | 2 => .array .boolean
  | 3 => .array .int
  | 4 => .array .int
  | 5 => .array .int
  | _ => .int
abbrev wsX30 : List Cond := u_ws RX3 TX3 7
theorem nmX3 : ∀ a, a < 7 → ∀ b, b < 7 → a ≠ b → (TX3 a).2.1 ≠ (TX3 b).2.1 := by decide +kernel
theorem tyX3_ok : ∀ k, k < 7 → parseFieldDescriptor (TX3 k).2.2.1 = some (tyX3 k) := by decide +kernel
abbrev cX3_init : ByteArray := prog_5_method_1_code
def yX3_init : MethodName := ⟨RX3, "<init>", "()V"⟩
abbrev cX3_numberAt : ByteArray := prog_5_method_2_code
def yX3_numberAt : MethodName := ⟨RX3, "numberAt", "(I)I"⟩
abbrev cX3_isDouble : ByteArray := prog_5_method_3_code
def yX3_isDouble : MethodName := ⟨RX3, "isDouble", "(I)Z"⟩
abbrev cX3_last : ByteArray := prog_5_method_4_code
def yX3_last : MethodName := ⟨RX3, "last", "()I"⟩
abbrev cX3_breakingBy : ByteArray := prog_5_method_5_code
def yX3_breakingBy : MethodName := ⟨RX3, "breakingBy", "(I)I"⟩
abbrev cX3_reckon : ByteArray := prog_5_method_6_code
def yX3_reckon : MethodName := ⟨RX3, "reckon", "(LNumberedWaves$Text;ILNumberedWaves$Pairs;LNumberedWaves$Pairs;)V"⟩
abbrev cX3_reckonHeights : ByteArray := prog_5_method_7_code
def yX3_reckonHeights : MethodName := ⟨RX3, "reckonHeights", "(LNumberedWaves$Text;)V"⟩
abbrev cX3_reckonNumbers : ByteArray := prog_5_method_8_code
def yX3_reckonNumbers : MethodName := ⟨RX3, "reckonNumbers", "(LNumberedWaves$Pairs;)V"⟩
def RX4 : String := "NumberedWaves"
def TX4 : u_T := fun k => match k with
  | 0 => ("NumberedWaves", "swells", "LNumberedWaves$Text;", true)
  | 1 => ("NumberedWaves", "finds", "LNumberedWaves$Text;", true)
  | 2 => ("NumberedWaves", "slips", "LNumberedWaves$Pairs;", true)
  | 3 => ("NumberedWaves", "wakes", "LNumberedWaves$Pairs;", true)
  | 4 => ("NumberedWaves", "tickets", "LNumberedWaves$Pairs;", true)
  | 5 => ("NumberedWaves", "sayings", "LNumberedWaves$Pairs;", true)
  | 6 => ("NumberedWaves", "kept", "LNumberedWaves$Waves;", true)
  | 7 => ("NumberedWaves", "sheets", "[LNumberedWaves$Sheet;", true)
  | 8 => ("NumberedWaves", "dueNumbers", "[I", true)
  | 9 => ("NumberedWaves", "ways", "[J", true)
  | 10 => ("NumberedWaves", "deep", "I", false)
  | 11 => ("NumberedWaves", "latest", "I", false)
  | _ => ("NumberedWaves", "keptIsFresh", "Z", false)
def tyX4 : Nat → FieldType := fun k => match k with
  | 0 => .object "NumberedWaves$Text"
  | 1 => .object "NumberedWaves$Text"
  | 2 => .object "NumberedWaves$Pairs"
  | 3 => .object "NumberedWaves$Pairs"
  | 4 => .object "NumberedWaves$Pairs"
  | 5 => .object "NumberedWaves$Pairs"
  | 6 => .object "NumberedWaves$Waves"
  | 7 => .array (.object "NumberedWaves$Sheet")
  | 8 => .array .int
  | 9 => .array .long
  | 10 => .int
  | 11 => .int
  | _ => .boolean
abbrev wsX40 : List Cond := u_ws RX4 TX4 13
theorem nmX4 : ∀ a, a < 13 → ∀ b, b < 13 → a ≠ b → (TX4 a).2.1 ≠ (TX4 b).2.1 := by decide +kernel
theorem tyX4_ok : ∀ k, k < 13 → parseFieldDescriptor (TX4 k).2.2.1 = some (tyX4 k) := by decide +kernel
abbrev cX4_init : ByteArray := prog_1_method_1_code
def yX4_init : MethodName := ⟨RX4, "<init>", "()V"⟩
abbrev cX4_type : ByteArray := prog_1_method_2_code
def yX4_type : MethodName := ⟨RX4, "type", "(II)I"⟩
abbrev cX4_wipe : ByteArray := prog_1_method_3_code
def yX4_wipe : MethodName := ⟨RX4, "wipe", "(I)I"⟩
abbrev cX4_undo : ByteArray := prog_1_method_4_code
def yX4_undo : MethodName := ⟨RX4, "undo", "(I)I"⟩
abbrev cX4_fault : ByteArray := prog_1_method_5_code
def yX4_fault : MethodName := ⟨RX4, "fault", "(I)I"⟩
abbrev cX4_swell : ByteArray := prog_1_method_6_code
def yX4_swell : MethodName := ⟨RX4, "swell", "(II)I"⟩
abbrev cX4_find : ByteArray := prog_1_method_7_code
def yX4_find : MethodName := ⟨RX4, "find", "(II)I"⟩
abbrev cX4_depth : ByteArray := prog_1_method_8_code
def yX4_depth : MethodName := ⟨RX4, "depth", "(I)I"⟩
abbrev cX4_slip : ByteArray := prog_1_method_9_code
def yX4_slip : MethodName := ⟨RX4, "slip", "(II)I"⟩
abbrev cX4_wake : ByteArray := prog_1_method_10_code
def yX4_wake : MethodName := ⟨RX4, "wake", "(I)I"⟩
abbrev cX4_ticket : ByteArray := prog_1_method_11_code
def yX4_ticket : MethodName := ⟨RX4, "ticket", "(II)I"⟩
abbrev cX4_back : ByteArray := prog_1_method_12_code
def yX4_back : MethodName := ⟨RX4, "back", "(I)I"⟩
abbrev cX4_read : ByteArray := prog_1_method_13_code
def yX4_read : MethodName := ⟨RX4, "read", "(I)I"⟩
abbrev cX4_high : ByteArray := prog_1_method_14_code
def yX4_high : MethodName := ⟨RX4, "high", "(I)I"⟩
abbrev cX4_wave : ByteArray := prog_1_method_15_code
def yX4_wave : MethodName := ⟨RX4, "wave", "(II)I"⟩
abbrev cX4_when : ByteArray := prog_1_method_16_code
def yX4_when : MethodName := ⟨RX4, "when", "(I)I"⟩
abbrev cX4_called : ByteArray := prog_1_method_17_code
def yX4_called : MethodName := ⟨RX4, "called", "(II)I"⟩
abbrev cX4_brings : ByteArray := prog_1_method_18_code
def yX4_brings : MethodName := ⟨RX4, "brings", "(I)I"⟩
abbrev cX4_claims : ByteArray := prog_1_method_19_code
def yX4_claims : MethodName := ⟨RX4, "claims", "(I)I"⟩
abbrev cX4_good : ByteArray := prog_1_method_20_code
def yX4_good : MethodName := ⟨RX4, "good", "(I)I"⟩
abbrev cX4_agree : ByteArray := prog_1_method_21_code
def yX4_agree : MethodName := ⟨RX4, "agree", "(IIII)I"⟩
abbrev cX4_run : ByteArray := prog_1_method_22_code
def yX4_run : MethodName := ⟨RX4, "run", "(II)I"⟩
abbrev cX4_bar : ByteArray := prog_1_method_23_code
def yX4_bar : MethodName := ⟨RX4, "bar", "(I)I"⟩
abbrev cX4_earn : ByteArray := prog_1_method_24_code
def yX4_earn : MethodName := ⟨RX4, "earn", "(II)I"⟩
abbrev cX4_heard : ByteArray := prog_1_method_25_code
def yX4_heard : MethodName := ⟨RX4, "heard", "(II)I"⟩
abbrev cX4_forget : ByteArray := prog_1_method_26_code
def yX4_forget : MethodName := ⟨RX4, "forget", "()I"⟩
abbrev cX4_skipped : ByteArray := prog_1_method_27_code
def yX4_skipped : MethodName := ⟨RX4, "skipped", "(I)I"⟩
abbrev cX4_voids : ByteArray := prog_1_method_28_code
def yX4_voids : MethodName := ⟨RX4, "voids", "(I)I"⟩
abbrev cX4_often : ByteArray := prog_1_method_29_code
def yX4_often : MethodName := ⟨RX4, "often", "(II)I"⟩
abbrev cX4_hoarse : ByteArray := prog_1_method_30_code
def yX4_hoarse : MethodName := ⟨RX4, "hoarse", "(III)J"⟩
abbrev cX4_storm : ByteArray := prog_1_method_31_code
def yX4_storm : MethodName := ⟨RX4, "storm", "(III)I"⟩
abbrev cX4_sheet : ByteArray := prog_1_method_32_code
def yX4_sheet : MethodName := ⟨RX4, "sheet", "(III)I"⟩
abbrev cX4_lose : ByteArray := prog_1_method_33_code
def yX4_lose : MethodName := ⟨RX4, "lose", "(I)I"⟩
abbrev cX4_put : ByteArray := prog_1_method_34_code
def yX4_put : MethodName := ⟨RX4, "put", "(IIII)I"⟩
abbrev cX4_get : ByteArray := prog_1_method_35_code
def yX4_get : MethodName := ⟨RX4, "get", "(III)I"⟩
abbrev cX4_copy : ByteArray := prog_1_method_36_code
def yX4_copy : MethodName := ⟨RX4, "copy", "(IIIII)I"⟩
abbrev cX4_write : ByteArray := prog_1_method_37_code
def yX4_write : MethodName := ⟨RX4, "write", "(II)I"⟩
abbrev cX4_count : ByteArray := prog_1_method_38_code
def yX4_count : MethodName := ⟨RX4, "count", "(I)I"⟩
abbrev cX4_digest : ByteArray := prog_1_method_39_code
def yX4_digest : MethodName := ⟨RX4, "digest", "()J"⟩
abbrev cX4_digestSwells : ByteArray := prog_1_method_40_code
def yX4_digestSwells : MethodName := ⟨RX4, "digestSwells", "(J)J"⟩
abbrev cX4_digestFinds : ByteArray := prog_1_method_41_code
def yX4_digestFinds : MethodName := ⟨RX4, "digestFinds", "(J)J"⟩
abbrev cX4_digestTimes : ByteArray := prog_1_method_42_code
def yX4_digestTimes : MethodName := ⟨RX4, "digestTimes", "(J)J"⟩
abbrev cX4_digestNumbers : ByteArray := prog_1_method_43_code
def yX4_digestNumbers : MethodName := ⟨RX4, "digestNumbers", "(J)J"⟩
abbrev cX4_digestTickets : ByteArray := prog_1_method_44_code
def yX4_digestTickets : MethodName := ⟨RX4, "digestTickets", "(J)J"⟩
abbrev cX4_digestPlans : ByteArray := prog_1_method_45_code
def yX4_digestPlans : MethodName := ⟨RX4, "digestPlans", "(J)J"⟩
abbrev cX4_isBelow : ByteArray := prog_1_method_46_code
def yX4_isBelow : MethodName := ⟨RX4, "isBelow", "(II)Z"⟩
abbrev cX4_isFrom : ByteArray := prog_1_method_47_code
def yX4_isFrom : MethodName := ⟨RX4, "isFrom", "(III)Z"⟩
abbrev cX4_isTime : ByteArray := prog_1_method_48_code
def yX4_isTime : MethodName := ⟨RX4, "isTime", "(I)Z"⟩
abbrev cX4_isNumber : ByteArray := prog_1_method_49_code
def yX4_isNumber : MethodName := ⟨RX4, "isNumber", "(I)Z"⟩
abbrev cX4_mayBeTicket : ByteArray := prog_1_method_50_code
def yX4_mayBeTicket : MethodName := ⟨RX4, "mayBeTicket", "(II)Z"⟩
abbrev cX4_textOf : ByteArray := prog_1_method_51_code
def yX4_textOf : MethodName := ⟨RX4, "textOf", "(I)LNumberedWaves$Text;"⟩
abbrev cX4_partOf : ByteArray := prog_1_method_52_code
def yX4_partOf : MethodName := ⟨RX4, "partOf", "(LNumberedWaves$Text;II)I"⟩
abbrev cX4_tell : ByteArray := prog_1_method_53_code
def yX4_tell : MethodName := ⟨RX4, "tell", "(LNumberedWaves$Pairs;II)I"⟩
abbrev cX4_finding : ByteArray := prog_1_method_54_code
def yX4_finding : MethodName := ⟨RX4, "finding", "(I)I"⟩
abbrev cX4_sheetRefusal : ByteArray := prog_1_method_55_code
def yX4_sheetRefusal : MethodName := ⟨RX4, "sheetRefusal", "(I)I"⟩
abbrev cX4_itemRefusal : ByteArray := prog_1_method_56_code
def yX4_itemRefusal : MethodName := ⟨RX4, "itemRefusal", "(III)I"⟩
abbrev cX4_waves : ByteArray := prog_1_method_57_code
def yX4_waves : MethodName := ⟨RX4, "waves", "()LNumberedWaves$Waves;"⟩
abbrev cX4_isCrest : ByteArray := prog_1_method_58_code
def yX4_isCrest : MethodName := ⟨RX4, "isCrest", "(III)Z"⟩
abbrev cX4_breaksAt : ByteArray := prog_1_method_59_code
def yX4_breaksAt : MethodName := ⟨RX4, "breaksAt", "(II)Z"⟩
abbrev cX4_valueOf : ByteArray := prog_1_method_60_code
def yX4_valueOf : MethodName := ⟨RX4, "valueOf", "(I)I"⟩
abbrev cX4_worthOf : ByteArray := prog_1_method_61_code
def yX4_worthOf : MethodName := ⟨RX4, "worthOf", "(LNumberedWaves$Waves;I)I"⟩
abbrev cX4_claimsBy : ByteArray := prog_1_method_62_code
def yX4_claimsBy : MethodName := ⟨RX4, "claimsBy", "(LNumberedWaves$Waves;I)I"⟩
abbrev cX4_sumOfRun : ByteArray := prog_1_method_63_code
def yX4_sumOfRun : MethodName := ⟨RX4, "sumOfRun", "(LNumberedWaves$Waves;II)I"⟩
abbrev cX4_firstCrest : ByteArray := prog_1_method_64_code
def yX4_firstCrest : MethodName := ⟨RX4, "firstCrest", "(II)I"⟩
abbrev cX4_leastCommonMultiple : ByteArray := prog_1_method_65_code
def yX4_leastCommonMultiple : MethodName := ⟨RX4, "leastCommonMultiple", "(II)I"⟩
abbrev cX4_fitsSlip : ByteArray := prog_1_method_66_code
def yX4_fitsSlip : MethodName := ⟨RX4, "fitsSlip", "(LNumberedWaves$Waves;II)Z"⟩
abbrev cX4_fitsWake : ByteArray := prog_1_method_67_code
def yX4_fitsWake : MethodName := ⟨RX4, "fitsWake", "(LNumberedWaves$Waves;I)Z"⟩
abbrev cX4_markDueNumbers : ByteArray := prog_1_method_68_code
def yX4_markDueNumbers : MethodName := ⟨RX4, "markDueNumbers", "()I"⟩
abbrev cX4_fitsPeriod : ByteArray := prog_1_method_69_code
def yX4_fitsPeriod : MethodName := ⟨RX4, "fitsPeriod", "(LNumberedWaves$Waves;III)Z"⟩
abbrev cX4_stepWays : ByteArray := prog_1_method_70_code
def yX4_stepWays : MethodName := ⟨RX4, "stepWays", "(I)V"⟩
abbrev cX4_sharedTwos : ByteArray := prog_1_method_71_code
def yX4_sharedTwos : MethodName := ⟨RX4, "sharedTwos", "(JJ)I"⟩
def RX5 : String := "NumberedWavesModel"
def TX5 : u_T := fun k => match k with
  | 0 => ("NumberedWavesModel", "typed", "[I", true)
  | 1 => ("NumberedWavesModel", "texts", "[I", true)
  | 2 => ("NumberedWavesModel", "swells", "I", false)
  | 3 => ("NumberedWavesModel", "heights", "[I", true)
  | 4 => ("NumberedWavesModel", "periods", "[I", true)
  | 5 => ("NumberedWavesModel", "froms", "[I", true)
  | 6 => ("NumberedWavesModel", "finds", "I", false)
  | 7 => ("NumberedWavesModel", "moduli", "[I", true)
  | 8 => ("NumberedWavesModel", "rests", "[I", true)
  | 9 => ("NumberedWavesModel", "values", "[I", true)
  | 10 => ("NumberedWavesModel", "depthNow", "I", false)
  | 11 => ("NumberedWavesModel", "slips", "I", false)
  | 12 => ("NumberedWavesModel", "slipOf", "[I", true)
  | 13 => ("NumberedWavesModel", "slipMany", "[I", true)
  | 14 => ("NumberedWavesModel", "wakes", "I", false)
  | 15 => ("NumberedWavesModel", "wakeAt", "[I", true)
  | 16 => ("NumberedWavesModel", "tickets", "I", false)
  | 17 => ("NumberedWavesModel", "holders", "[I", true)
  | 18 => ("NumberedWavesModel", "numbers", "[I", true)
  | 19 => ("NumberedWavesModel", "highs", "[I", true)
  | 20 => ("NumberedWavesModel", "crests", "[I", true)
  | 21 => ("NumberedWavesModel", "numberAt", "[I", true)
  | 22 => ("NumberedWavesModel", "slipsNow", "I", false)
  | 23 => ("NumberedWavesModel", "wakesNow", "I", false)
  | 24 => ("NumberedWavesModel", "ticketsNow", "I", false)
  | 25 => ("NumberedWavesModel", "calledMany", "I", false)
  | 26 => ("NumberedWavesModel", "lastNumber", "I", false)
  | 27 => ("NumberedWavesModel", "isCalled", "[Z", true)
  | 28 => ("NumberedWavesModel", "heards", "I", false)
  | 29 => ("NumberedWavesModel", "heardAt", "[I", true)
  | 30 => ("NumberedWavesModel", "heardNumber", "[I", true)
  | 31 => ("NumberedWavesModel", "ways", "[J", true)
  | 32 => ("NumberedWavesModel", "isThere", "[Z", true)
  | 33 => ("NumberedWavesModel", "forms", "[I", true)
  | 34 => ("NumberedWavesModel", "sizes", "[I", true)
  | 35 => ("NumberedWavesModel", "items", "[I", true)
  | 36 => ("NumberedWavesModel", "moved", "[I", true)
  | _ => ("NumberedWavesModel", "finding", "I", false)
def tyX5 : Nat → FieldType := fun k => match k with
  | 0 => .array .int
  | 1 => .array .int
  | 2 => .int
  | 3 => .array .int
  | 4 => .array .int
  | 5 => .array .int
  | 6 => .int
  | 7 => .array .int
  | 8 => .array .int
  | 9 => .array .int
  | 10 => .int
  | 11 => .int
  | 12 => .array .int
  | 13 => .array .int
  | 14 => .int
  | 15 => .array .int
  | 16 => .int
  | 17 => .array .int
  | 18 => .array .int
  | 19 => .array .int
  | 20 => .array .int
  | 21 => .array .int
  | 22 => .int
  | 23 => .int
  | 24 => .int
  | 25 => .int
  | 26 => .int
  | 27 => .array .boolean
  | 28 => .int
  | 29 => .array .int
  | 30 => .array .int
  | 31 => .array .long
  | 32 => .array .boolean
  | 33 => .array .int
  | 34 => .array .int
  | 35 => .array .int
  | 36 => .array .int
  | _ => .int
abbrev wsX50 : List Cond := u_ws RX5 TX5 38
theorem nmX5 : ∀ a, a < 38 → ∀ b, b < 38 → a ≠ b → (TX5 a).2.1 ≠ (TX5 b).2.1 := by decide +kernel
theorem tyX5_ok : ∀ k, k < 38 → parseFieldDescriptor (TX5 k).2.2.1 = some (tyX5 k) := by decide +kernel
abbrev cX5_init : ByteArray := prog_7_method_1_code
def yX5_init : MethodName := ⟨RX5, "<init>", "()V"⟩
abbrev cX5_in : ByteArray := prog_7_method_3_code
def yX5_in : MethodName := ⟨RX5, "in", "(III)Z"⟩
abbrev cX5_no : ByteArray := prog_7_method_4_code
def yX5_no : MethodName := ⟨RX5, "no", "(I)J"⟩
abbrev cX5_lowest : ByteArray := prog_7_method_5_code
def yX5_lowest : MethodName := ⟨RX5, "lowest", "(JJI)J"⟩
abbrev cX5_isText : ByteArray := prog_7_method_6_code
def yX5_isText : MethodName := ⟨RX5, "isText", "(I)Z"⟩
abbrev cX5_isTime : ByteArray := prog_7_method_7_code
def yX5_isTime : MethodName := ⟨RX5, "isTime", "(I)Z"⟩
abbrev cX5_isNumber : ByteArray := prog_7_method_8_code
def yX5_isNumber : MethodName := ⟨RX5, "isNumber", "(I)Z"⟩
abbrev cX5_type : ByteArray := prog_7_method_9_code
def yX5_type : MethodName := ⟨RX5, "type", "(II)I"⟩
abbrev cX5_wipe : ByteArray := prog_7_method_10_code
def yX5_wipe : MethodName := ⟨RX5, "wipe", "(I)I"⟩
abbrev cX5_undo : ByteArray := prog_7_method_11_code
def yX5_undo : MethodName := ⟨RX5, "undo", "(I)I"⟩
abbrev cX5_figureAt : ByteArray := prog_7_method_12_code
def yX5_figureAt : MethodName := ⟨RX5, "figureAt", "(II)I"⟩
abbrev cX5_twoAt : ByteArray := prog_7_method_13_code
def yX5_twoAt : MethodName := ⟨RX5, "twoAt", "(II)I"⟩
abbrev cX5_readsOne : ByteArray := prog_7_method_14_code
def yX5_readsOne : MethodName := ⟨RX5, "readsOne", "(III)I"⟩
abbrev cX5_readsText : ByteArray := prog_7_method_15_code
def yX5_readsText : MethodName := ⟨RX5, "readsText", "(I)I"⟩
abbrev cX5_faultOf : ByteArray := prog_7_method_16_code
def yX5_faultOf : MethodName := ⟨RX5, "faultOf", "(I)I"⟩
abbrev cX5_reads : ByteArray := prog_7_method_17_code
def yX5_reads : MethodName := ⟨RX5, "reads", "()V"⟩
abbrev cX5_fault : ByteArray := prog_7_method_18_code
def yX5_fault : MethodName := ⟨RX5, "fault", "(I)I"⟩
abbrev cX5_isSwell : ByteArray := prog_7_method_19_code
def yX5_isSwell : MethodName := ⟨RX5, "isSwell", "(I)Z"⟩
abbrev cX5_isFind : ByteArray := prog_7_method_20_code
def yX5_isFind : MethodName := ⟨RX5, "isFind", "(I)Z"⟩
abbrev cX5_swellOf : ByteArray := prog_7_method_21_code
def yX5_swellOf : MethodName := ⟨RX5, "swellOf", "(II)I"⟩
abbrev cX5_swell : ByteArray := prog_7_method_22_code
def yX5_swell : MethodName := ⟨RX5, "swell", "(II)I"⟩
abbrev cX5_findOf : ByteArray := prog_7_method_23_code
def yX5_findOf : MethodName := ⟨RX5, "findOf", "(II)I"⟩
abbrev cX5_find : ByteArray := prog_7_method_24_code
def yX5_find : MethodName := ⟨RX5, "find", "(II)I"⟩
abbrev cX5_depth : ByteArray := prog_7_method_25_code
def yX5_depth : MethodName := ⟨RX5, "depth", "(I)I"⟩
abbrev cX5_slip : ByteArray := prog_7_method_26_code
def yX5_slip : MethodName := ⟨RX5, "slip", "(II)I"⟩
abbrev cX5_wake : ByteArray := prog_7_method_27_code
def yX5_wake : MethodName := ⟨RX5, "wake", "(I)I"⟩
abbrev cX5_ticket : ByteArray := prog_7_method_28_code
def yX5_ticket : MethodName := ⟨RX5, "ticket", "(II)I"⟩
abbrev cX5_back : ByteArray := prog_7_method_29_code
def yX5_back : MethodName := ⟨RX5, "back", "(I)I"⟩
abbrev cX5_read : ByteArray := prog_7_method_30_code
def yX5_read : MethodName := ⟨RX5, "read", "(I)I"⟩
abbrev cX5_asTold : ByteArray := prog_7_method_31_code
def yX5_asTold : MethodName := ⟨RX5, "asTold", "()V"⟩
abbrev cX5_isWake : ByteArray := prog_7_method_32_code
def yX5_isWake : MethodName := ⟨RX5, "isWake", "(I)Z"⟩
abbrev cX5_skips : ByteArray := prog_7_method_33_code
def yX5_skips : MethodName := ⟨RX5, "skips", "(I)I"⟩
abbrev cX5_isCrest : ByteArray := prog_7_method_34_code
def yX5_isCrest : MethodName := ⟨RX5, "isCrest", "(II)Z"⟩
abbrev cX5_breaks : ByteArray := prog_7_method_35_code
def yX5_breaks : MethodName := ⟨RX5, "breaks", "(I)Z"⟩
abbrev cX5_lays : ByteArray := prog_7_method_36_code
def yX5_lays : MethodName := ⟨RX5, "lays", "()V"⟩
abbrev cX5_laysTold : ByteArray := prog_7_method_37_code
def yX5_laysTold : MethodName := ⟨RX5, "laysTold", "()V"⟩
abbrev cX5_highOf : ByteArray := prog_7_method_38_code
def yX5_highOf : MethodName := ⟨RX5, "highOf", "(I)I"⟩
abbrev cX5_high : ByteArray := prog_7_method_39_code
def yX5_high : MethodName := ⟨RX5, "high", "(I)I"⟩
abbrev cX5_waveOf : ByteArray := prog_7_method_40_code
def yX5_waveOf : MethodName := ⟨RX5, "waveOf", "(II)I"⟩
abbrev cX5_wave : ByteArray := prog_7_method_41_code
def yX5_wave : MethodName := ⟨RX5, "wave", "(II)I"⟩
abbrev cX5_timeOf : ByteArray := prog_7_method_42_code
def yX5_timeOf : MethodName := ⟨RX5, "timeOf", "(I)I"⟩
abbrev cX5_whenOf : ByteArray := prog_7_method_43_code
def yX5_whenOf : MethodName := ⟨RX5, "whenOf", "(I)I"⟩
abbrev cX5_when : ByteArray := prog_7_method_44_code
def yX5_when : MethodName := ⟨RX5, "when", "(I)I"⟩
abbrev cX5_calledOf : ByteArray := prog_7_method_45_code
def yX5_calledOf : MethodName := ⟨RX5, "calledOf", "(II)I"⟩
abbrev cX5_called : ByteArray := prog_7_method_46_code
def yX5_called : MethodName := ⟨RX5, "called", "(II)I"⟩
abbrev cX5_bringsNow : ByteArray := prog_7_method_47_code
def yX5_bringsNow : MethodName := ⟨RX5, "bringsNow", "(I)I"⟩
abbrev cX5_bringsOf : ByteArray := prog_7_method_48_code
def yX5_bringsOf : MethodName := ⟨RX5, "bringsOf", "(I)I"⟩
abbrev cX5_brings : ByteArray := prog_7_method_49_code
def yX5_brings : MethodName := ⟨RX5, "brings", "(I)I"⟩
abbrev cX5_holderOf : ByteArray := prog_7_method_50_code
def yX5_holderOf : MethodName := ⟨RX5, "holderOf", "(I)I"⟩
abbrev cX5_claimsNow : ByteArray := prog_7_method_51_code
def yX5_claimsNow : MethodName := ⟨RX5, "claimsNow", "(I)I"⟩
abbrev cX5_claimsOf : ByteArray := prog_7_method_52_code
def yX5_claimsOf : MethodName := ⟨RX5, "claimsOf", "(I)I"⟩
abbrev cX5_claims : ByteArray := prog_7_method_53_code
def yX5_claims : MethodName := ⟨RX5, "claims", "(I)I"⟩
abbrev cX5_goodOf : ByteArray := prog_7_method_54_code
def yX5_goodOf : MethodName := ⟨RX5, "goodOf", "(I)I"⟩
abbrev cX5_good : ByteArray := prog_7_method_55_code
def yX5_good : MethodName := ⟨RX5, "good", "(I)I"⟩
abbrev cX5_agreeOf : ByteArray := prog_7_method_56_code
def yX5_agreeOf : MethodName := ⟨RX5, "agreeOf", "(IIII)I"⟩
abbrev cX5_lowestBy : ByteArray := prog_7_method_57_code
def yX5_lowestBy : MethodName := ⟨RX5, "lowestBy", "(II)I"⟩
abbrev cX5_agree : ByteArray := prog_7_method_58_code
def yX5_agree : MethodName := ⟨RX5, "agree", "(IIII)I"⟩
abbrev cX5_runOf : ByteArray := prog_7_method_59_code
def yX5_runOf : MethodName := ⟨RX5, "runOf", "(II)I"⟩
abbrev cX5_run : ByteArray := prog_7_method_60_code
def yX5_run : MethodName := ⟨RX5, "run", "(II)I"⟩
abbrev cX5_barOf : ByteArray := prog_7_method_61_code
def yX5_barOf : MethodName := ⟨RX5, "barOf", "(I)I"⟩
abbrev cX5_bar : ByteArray := prog_7_method_62_code
def yX5_bar : MethodName := ⟨RX5, "bar", "(I)I"⟩
abbrev cX5_earnOf : ByteArray := prog_7_method_63_code
def yX5_earnOf : MethodName := ⟨RX5, "earnOf", "(II)I"⟩
abbrev cX5_earn : ByteArray := prog_7_method_64_code
def yX5_earn : MethodName := ⟨RX5, "earn", "(II)I"⟩
abbrev cX5_heard : ByteArray := prog_7_method_65_code
def yX5_heard : MethodName := ⟨RX5, "heard", "(II)I"⟩
abbrev cX5_forget : ByteArray := prog_7_method_66_code
def yX5_forget : MethodName := ⟨RX5, "forget", "()I"⟩
abbrev cX5_isHeard : ByteArray := prog_7_method_67_code
def yX5_isHeard : MethodName := ⟨RX5, "isHeard", "()Z"⟩
abbrev cX5_skippedOf : ByteArray := prog_7_method_68_code
def yX5_skippedOf : MethodName := ⟨RX5, "skippedOf", "(I)I"⟩
abbrev cX5_skipped : ByteArray := prog_7_method_69_code
def yX5_skipped : MethodName := ⟨RX5, "skipped", "(I)I"⟩
abbrev cX5_voidsOf : ByteArray := prog_7_method_70_code
def yX5_voidsOf : MethodName := ⟨RX5, "voidsOf", "(I)I"⟩
abbrev cX5_voids : ByteArray := prog_7_method_71_code
def yX5_voids : MethodName := ⟨RX5, "voids", "(I)I"⟩
abbrev cX5_oftenOf : ByteArray := prog_7_method_72_code
def yX5_oftenOf : MethodName := ⟨RX5, "oftenOf", "(II)I"⟩
abbrev cX5_often : ByteArray := prog_7_method_73_code
def yX5_often : MethodName := ⟨RX5, "often", "(II)I"⟩
abbrev cX5_hoarseOf : ByteArray := prog_7_method_74_code
def yX5_hoarseOf : MethodName := ⟨RX5, "hoarseOf", "(III)J"⟩
abbrev cX5_hoarse : ByteArray := prog_7_method_75_code
def yX5_hoarse : MethodName := ⟨RX5, "hoarse", "(III)J"⟩
abbrev cX5_stormOf : ByteArray := prog_7_method_76_code
def yX5_stormOf : MethodName := ⟨RX5, "stormOf", "(III)I"⟩
abbrev cX5_storm : ByteArray := prog_7_method_77_code
def yX5_storm : MethodName := ⟨RX5, "storm", "(III)I"⟩
abbrev cX5_meets : ByteArray := prog_7_method_78_code
def yX5_meets : MethodName := ⟨RX5, "meets", "(I)I"⟩
abbrev cX5_isSheet : ByteArray := prog_7_method_79_code
def yX5_isSheet : MethodName := ⟨RX5, "isSheet", "(I)Z"⟩
abbrev cX5_sheet : ByteArray := prog_7_method_80_code
def yX5_sheet : MethodName := ⟨RX5, "sheet", "(III)I"⟩
abbrev cX5_lose : ByteArray := prog_7_method_81_code
def yX5_lose : MethodName := ⟨RX5, "lose", "(I)I"⟩
abbrev cX5_lacks : ByteArray := prog_7_method_82_code
def yX5_lacks : MethodName := ⟨RX5, "lacks", "(III)I"⟩
abbrev cX5_keep : ByteArray := prog_7_method_83_code
def yX5_keep : MethodName := ⟨RX5, "keep", "(III)V"⟩
abbrev cX5_put : ByteArray := prog_7_method_84_code
def yX5_put : MethodName := ⟨RX5, "put", "(IIII)I"⟩
abbrev cX5_get : ByteArray := prog_7_method_85_code
def yX5_get : MethodName := ⟨RX5, "get", "(III)I"⟩
abbrev cX5_copy : ByteArray := prog_7_method_86_code
def yX5_copy : MethodName := ⟨RX5, "copy", "(IIIII)I"⟩
abbrev cX5_write : ByteArray := prog_7_method_87_code
def yX5_write : MethodName := ⟨RX5, "write", "(II)I"⟩
abbrev cX5_sumOf : ByteArray := prog_7_method_88_code
def yX5_sumOf : MethodName := ⟨RX5, "sumOf", "(I)I"⟩
abbrev cX5_count : ByteArray := prog_7_method_89_code
def yX5_count : MethodName := ⟨RX5, "count", "(I)I"⟩
abbrev cX5_swellDigest : ByteArray := prog_7_method_90_code
def yX5_swellDigest : MethodName := ⟨RX5, "swellDigest", "(JI)J"⟩
abbrev cX5_timeDigest : ByteArray := prog_7_method_91_code
def yX5_timeDigest : MethodName := ⟨RX5, "timeDigest", "(JI)J"⟩
abbrev cX5_numberDigest : ByteArray := prog_7_method_92_code
def yX5_numberDigest : MethodName := ⟨RX5, "numberDigest", "(JI)J"⟩
abbrev cX5_digest : ByteArray := prog_7_method_93_code
def yX5_digest : MethodName := ⟨RX5, "digest", "()J"⟩
def RJ9 : String := "java/lang/Math"
def TJ9 : u_T := fun k => match k with
  | _ => ("", "", "", false)
def tyJ9 : Nat → FieldType := fun k => match k with
  | _ => .int
abbrev wsJ90 : List Cond := u_ws RJ9 TJ9 0
theorem nmJ9 : ∀ a, a < 0 → ∀ b, b < 0 → a ≠ b → (TJ9 a).2.1 ≠ (TJ9 b).2.1 := by decide +kernel
theorem tyJ9_ok : ∀ k, k < 0 → parseFieldDescriptor (TJ9 k).2.2.1 = some (tyJ9 k) := by decide +kernel
abbrev cJ9_max_7cf53 : ByteArray := prog_8_method_65_code
def yJ9_max_7cf53 : MethodName := ⟨RJ9, "max", "(II)I"⟩
abbrev cJ9_min_7cf53 : ByteArray := prog_8_method_69_code
def yJ9_min_7cf53 : MethodName := ⟨RJ9, "min", "(II)I"⟩
def RJ10 : String := "java/lang/System"
def TJ10 : u_T := fun k => match k with
  | _ => ("", "", "", false)
def tyJ10 : Nat → FieldType := fun k => match k with
  | _ => .int
abbrev wsJ100 : List Cond := u_ws RJ10 TJ10 0
theorem nmJ10 : ∀ a, a < 0 → ∀ b, b < 0 → a ≠ b → (TJ10 a).2.1 ≠ (TJ10 b).2.1 := by decide +kernel
theorem tyJ10_ok : ∀ k, k < 0 → parseFieldDescriptor (TJ10 k).2.2.1 = some (tyJ10 k) := by decide +kernel
def RJ7 : String := "java/util/Arrays"
def TJ7 : u_T := fun k => match k with
  | _ => ("", "", "", false)
def tyJ7 : Nat → FieldType := fun k => match k with
  | _ => .int
abbrev wsJ70 : List Cond := u_ws RJ7 TJ7 0
theorem nmJ7 : ∀ a, a < 0 → ∀ b, b < 0 → a ≠ b → (TJ7 a).2.1 ≠ (TJ7 b).2.1 := by decide +kernel
theorem tyJ7_ok : ∀ k, k < 0 → parseFieldDescriptor (TJ7 k).2.2.1 = some (tyJ7 k) := by decide +kernel
abbrev cJ7_fill_d0a16 : ByteArray := prog_10_method_101_code
def yJ7_fill_d0a16 : MethodName := ⟨RJ7, "fill", "([JJ)V"⟩
abbrev cJ7_fill_53178 : ByteArray := prog_10_method_103_code
def yJ7_fill_53178 : MethodName := ⟨RJ7, "fill", "([II)V"⟩
def RL : String := "NumberedWavesLaw"
abbrev cL_law : ByteArray := code
def yL_law : MethodName := ⟨RL, "law", "([I)Z"⟩
abbrev vwCl : List vw_C := [(RX0, TX0, 3), (RX1, TX1, 4), (RX2, TX2, 7), (RX3, TX3, 7), (RX4, TX4, 13), (RX5, TX5, 38)]
end
section
theorem dX0_init_0 : decode cX0_init 0 = .ok (.aload_n 0, 1) := by decide +kernel
theorem dX0_init_1 : decode cX0_init 1 = .ok (.invokespecial 3, 3) := by decide +kernel
theorem dX0_init_4 : decode cX0_init 4 = .ok (.aload_n 0, 1) := by decide +kernel
theorem dX0_init_5 : decode cX0_init 5 = .ok (.iload_n 1, 1) := by decide +kernel
theorem dX0_init_6 : decode cX0_init 6 = .ok (.newarray .int, 2) := by decide +kernel
theorem dX0_init_8 : decode cX0_init 8 = .ok (.putfield 9, 3) := by decide +kernel
theorem dX0_init_11 : decode cX0_init 11 = .ok (.aload_n 0, 1) := by decide +kernel
theorem dX0_init_12 : decode cX0_init 12 = .ok (.iload_n 1, 1) := by decide +kernel
theorem dX0_init_13 : decode cX0_init 13 = .ok (.newarray .int, 2) := by decide +kernel
theorem dX0_init_15 : decode cX0_init 15 = .ok (.putfield 15, 3) := by decide +kernel
theorem dX0_init_18 : decode cX0_init 18 = .ok (.aload_n 0, 1) := by decide +kernel
theorem dX0_init_19 : decode cX0_init 19 = .ok (.iconst 0, 1) := by decide +kernel
theorem dX0_init_20 : decode cX0_init 20 = .ok (.putfield 18, 3) := by decide +kernel
theorem dX0_init_23 : decode cX0_init 23 = .ok (.return_, 1) := by decide +kernel
theorem dX0_append_0 : decode cX0_append 0 = .ok (.aload_n 0, 1) := by decide +kernel
theorem dX0_append_1 : decode cX0_append 1 = .ok (.getfield 18, 3) := by decide +kernel
theorem dX0_append_4 : decode cX0_append 4 = .ok (.aload_n 0, 1) := by decide +kernel
theorem dX0_append_5 : decode cX0_append 5 = .ok (.getfield 9, 3) := by decide +kernel
theorem dX0_append_8 : decode cX0_append 8 = .ok (.arraylength, 1) := by decide +kernel
theorem dX0_append_9 : decode cX0_append 9 = .ok (.if_icmp .lt 5, 3) := by decide +kernel
theorem dX0_append_12 : decode cX0_append 12 = .ok (.iconst 0, 1) := by decide +kernel
theorem dX0_append_13 : decode cX0_append 13 = .ok (.ireturn, 1) := by decide +kernel
theorem dX0_append_14 : decode cX0_append 14 = .ok (.aload_n 0, 1) := by decide +kernel
theorem dX0_append_15 : decode cX0_append 15 = .ok (.getfield 9, 3) := by decide +kernel
theorem dX0_append_18 : decode cX0_append 18 = .ok (.aload_n 0, 1) := by decide +kernel
theorem dX0_append_19 : decode cX0_append 19 = .ok (.getfield 18, 3) := by decide +kernel
theorem dX0_append_22 : decode cX0_append 22 = .ok (.iload_n 1, 1) := by decide +kernel
theorem dX0_append_23 : decode cX0_append 23 = .ok (.iastore, 1) := by decide +kernel
theorem dX0_append_24 : decode cX0_append 24 = .ok (.aload_n 0, 1) := by decide +kernel
theorem dX0_append_25 : decode cX0_append 25 = .ok (.getfield 15, 3) := by decide +kernel
theorem dX0_append_28 : decode cX0_append 28 = .ok (.aload_n 0, 1) := by decide +kernel
theorem dX0_append_29 : decode cX0_append 29 = .ok (.getfield 18, 3) := by decide +kernel
theorem dX0_append_32 : decode cX0_append 32 = .ok (.iload_n 2, 1) := by decide +kernel
theorem dX0_append_33 : decode cX0_append 33 = .ok (.iastore, 1) := by decide +kernel
theorem dX0_append_34 : decode cX0_append 34 = .ok (.aload_n 0, 1) := by decide +kernel
theorem dX0_append_35 : decode cX0_append 35 = .ok (.dup, 1) := by decide +kernel
theorem dX0_append_36 : decode cX0_append 36 = .ok (.getfield 18, 3) := by decide +kernel
theorem dX0_append_39 : decode cX0_append 39 = .ok (.iconst 1, 1) := by decide +kernel
theorem dX0_append_40 : decode cX0_append 40 = .ok (.iadd, 1) := by decide +kernel
theorem dX0_append_41 : decode cX0_append 41 = .ok (.putfield 18, 3) := by decide +kernel
theorem dX0_append_44 : decode cX0_append 44 = .ok (.iconst 1, 1) := by decide +kernel
theorem dX0_append_45 : decode cX0_append 45 = .ok (.ireturn, 1) := by decide +kernel
theorem dX0_dropLast_0 : decode cX0_dropLast 0 = .ok (.aload_n 0, 1) := by decide +kernel
theorem dX0_dropLast_1 : decode cX0_dropLast 1 = .ok (.getfield 18, 3) := by decide +kernel
theorem dX0_dropLast_4 : decode cX0_dropLast 4 = .ok (.ifCond .ne 5, 3) := by decide +kernel
theorem dX0_dropLast_7 : decode cX0_dropLast 7 = .ok (.iconst 0, 1) := by decide +kernel
theorem dX0_dropLast_8 : decode cX0_dropLast 8 = .ok (.ireturn, 1) := by decide +kernel
theorem dX0_dropLast_9 : decode cX0_dropLast 9 = .ok (.aload_n 0, 1) := by decide +kernel
theorem dX0_dropLast_10 : decode cX0_dropLast 10 = .ok (.dup, 1) := by decide +kernel
theorem dX0_dropLast_11 : decode cX0_dropLast 11 = .ok (.getfield 18, 3) := by decide +kernel
theorem dX0_dropLast_14 : decode cX0_dropLast 14 = .ok (.iconst 1, 1) := by decide +kernel
theorem dX0_dropLast_15 : decode cX0_dropLast 15 = .ok (.isub, 1) := by decide +kernel
theorem dX0_dropLast_16 : decode cX0_dropLast 16 = .ok (.putfield 18, 3) := by decide +kernel
theorem dX0_dropLast_19 : decode cX0_dropLast 19 = .ok (.iconst 1, 1) := by decide +kernel
theorem dX0_dropLast_20 : decode cX0_dropLast 20 = .ok (.ireturn, 1) := by decide +kernel
theorem dX0_firstWithSecond_0 : decode cX0_firstWithSecond 0 = .ok (.iconst 0, 1) := by decide +kernel
theorem dX0_firstWithSecond_1 : decode cX0_firstWithSecond 1 = .ok (.istore_n 2, 1) := by decide +kernel
theorem dX0_firstWithSecond_2 : decode cX0_firstWithSecond 2 = .ok (.iload_n 2, 1) := by decide +kernel
theorem dX0_firstWithSecond_3 : decode cX0_firstWithSecond 3 = .ok (.aload_n 0, 1) := by decide +kernel
theorem dX0_firstWithSecond_4 : decode cX0_firstWithSecond 4 = .ok (.getfield 18, 3) := by decide +kernel
theorem dX0_firstWithSecond_7 : decode cX0_firstWithSecond 7 = .ok (.if_icmp .ge 21, 3) := by decide +kernel
theorem dX0_firstWithSecond_10 : decode cX0_firstWithSecond 10 = .ok (.aload_n 0, 1) := by decide +kernel
theorem dX0_firstWithSecond_11 : decode cX0_firstWithSecond 11 = .ok (.getfield 15, 3) := by decide +kernel
theorem dX0_firstWithSecond_14 : decode cX0_firstWithSecond 14 = .ok (.iload_n 2, 1) := by decide +kernel
theorem dX0_firstWithSecond_15 : decode cX0_firstWithSecond 15 = .ok (.iaload, 1) := by decide +kernel
theorem dX0_firstWithSecond_16 : decode cX0_firstWithSecond 16 = .ok (.iload_n 1, 1) := by decide +kernel
theorem dX0_firstWithSecond_17 : decode cX0_firstWithSecond 17 = .ok (.if_icmp .ne 5, 3) := by decide +kernel
theorem dX0_firstWithSecond_20 : decode cX0_firstWithSecond 20 = .ok (.iload_n 2, 1) := by decide +kernel
theorem dX0_firstWithSecond_21 : decode cX0_firstWithSecond 21 = .ok (.ireturn, 1) := by decide +kernel
theorem dX0_firstWithSecond_22 : decode cX0_firstWithSecond 22 = .ok (.iinc 2 1, 3) := by decide +kernel
theorem dX0_firstWithSecond_25 : decode cX0_firstWithSecond 25 = .ok (.goto (-23), 3) := by decide +kernel
theorem dX0_firstWithSecond_28 : decode cX0_firstWithSecond 28 = .ok (.iconst (-1), 1) := by decide +kernel
theorem dX0_firstWithSecond_29 : decode cX0_firstWithSecond 29 = .ok (.ireturn, 1) := by decide +kernel
theorem dX1_init_0 : decode cX1_init 0 = .ok (.aload_n 0, 1) := by decide +kernel
theorem dX1_init_1 : decode cX1_init 1 = .ok (.invokespecial 3, 3) := by decide +kernel
theorem dX1_init_4 : decode cX1_init 4 = .ok (.aload_n 0, 1) := by decide +kernel
theorem dX1_init_5 : decode cX1_init 5 = .ok (.bipush 48, 2) := by decide +kernel
theorem dX1_init_7 : decode cX1_init 7 = .ok (.newarray .int, 2) := by decide +kernel
theorem dX1_init_9 : decode cX1_init 9 = .ok (.putfield 9, 3) := by decide +kernel
theorem dX1_init_12 : decode cX1_init 12 = .ok (.aload_n 0, 1) := by decide +kernel
theorem dX1_init_13 : decode cX1_init 13 = .ok (.iconst 0, 1) := by decide +kernel
theorem dX1_init_14 : decode cX1_init 14 = .ok (.putfield 15, 3) := by decide +kernel
theorem dX1_init_17 : decode cX1_init 17 = .ok (.aload_n 0, 1) := by decide +kernel
theorem dX1_init_18 : decode cX1_init 18 = .ok (.iconst 0, 1) := by decide +kernel
theorem dX1_init_19 : decode cX1_init 19 = .ok (.putfield 19, 3) := by decide +kernel
theorem dX1_init_22 : decode cX1_init 22 = .ok (.aload_n 0, 1) := by decide +kernel
theorem dX1_init_23 : decode cX1_init 23 = .ok (.iconst 1, 1) := by decide +kernel
theorem dX1_init_24 : decode cX1_init 24 = .ok (.putfield 22, 3) := by decide +kernel
theorem dX1_init_27 : decode cX1_init 27 = .ok (.return_, 1) := by decide +kernel
theorem dX1_renew_0 : decode cX1_renew 0 = .ok (.aload_n 0, 1) := by decide +kernel
theorem dX1_renew_1 : decode cX1_renew 1 = .ok (.getfield 9, 3) := by decide +kernel
theorem dX1_renew_4 : decode cX1_renew 4 = .ok (.iconst 0, 1) := by decide +kernel
theorem dX1_renew_5 : decode cX1_renew 5 = .ok (.invokestatic 26, 3) := by decide +kernel
theorem dX1_renew_8 : decode cX1_renew 8 = .ok (.aload_n 0, 1) := by decide +kernel
theorem dX1_renew_9 : decode cX1_renew 9 = .ok (.iload_n 1, 1) := by decide +kernel
theorem dX1_renew_10 : decode cX1_renew 10 = .ok (.putfield 15, 3) := by decide +kernel
theorem dX1_renew_13 : decode cX1_renew 13 = .ok (.aload_n 0, 1) := by decide +kernel
theorem dX1_renew_14 : decode cX1_renew 14 = .ok (.iload_n 2, 1) := by decide +kernel
theorem dX1_renew_15 : decode cX1_renew 15 = .ok (.putfield 19, 3) := by decide +kernel
theorem dX1_renew_18 : decode cX1_renew 18 = .ok (.aload_n 0, 1) := by decide +kernel
theorem dX1_renew_19 : decode cX1_renew 19 = .ok (.iconst 0, 1) := by decide +kernel
theorem dX1_renew_20 : decode cX1_renew 20 = .ok (.putfield 22, 3) := by decide +kernel
theorem dX1_renew_23 : decode cX1_renew 23 = .ok (.return_, 1) := by decide +kernel
theorem dX1_store_0 : decode cX1_store 0 = .ok (.aload_n 0, 1) := by decide +kernel
theorem dX1_store_1 : decode cX1_store 1 = .ok (.getfield 9, 3) := by decide +kernel
theorem dX1_store_4 : decode cX1_store 4 = .ok (.iload_n 1, 1) := by decide +kernel
theorem dX1_store_5 : decode cX1_store 5 = .ok (.aload_n 0, 1) := by decide +kernel
theorem dX1_store_6 : decode cX1_store 6 = .ok (.getfield 15, 3) := by decide +kernel
theorem dX1_store_9 : decode cX1_store 9 = .ok (.ifCond .ne 8, 3) := by decide +kernel
theorem dX1_store_12 : decode cX1_store 12 = .ok (.iload_n 2, 1) := by decide +kernel
theorem dX1_store_13 : decode cX1_store 13 = .ok (.i2b, 1) := by decide +kernel
theorem dX1_store_14 : decode cX1_store 14 = .ok (.goto 17, 3) := by decide +kernel
theorem dX1_store_17 : decode cX1_store 17 = .ok (.aload_n 0, 1) := by decide +kernel
theorem dX1_store_18 : decode cX1_store 18 = .ok (.getfield 15, 3) := by decide +kernel
theorem dX1_store_21 : decode cX1_store 21 = .ok (.iconst 1, 1) := by decide +kernel
theorem dX1_store_22 : decode cX1_store 22 = .ok (.if_icmp .ne 8, 3) := by decide +kernel
theorem dX1_store_25 : decode cX1_store 25 = .ok (.iload_n 2, 1) := by decide +kernel
theorem dX1_store_26 : decode cX1_store 26 = .ok (.i2s, 1) := by decide +kernel
theorem dX1_store_27 : decode cX1_store 27 = .ok (.goto 4, 3) := by decide +kernel
theorem dX1_store_30 : decode cX1_store 30 = .ok (.iload_n 2, 1) := by decide +kernel
theorem dX1_store_31 : decode cX1_store 31 = .ok (.iastore, 1) := by decide +kernel
theorem dX1_store_32 : decode cX1_store 32 = .ok (.return_, 1) := by decide +kernel
theorem dX1_hasRange_0 : decode cX1_hasRange 0 = .ok (.iload_n 1, 1) := by decide +kernel
theorem dX1_hasRange_1 : decode cX1_hasRange 1 = .ok (.ifCond .lt 29, 3) := by decide +kernel
theorem dX1_hasRange_4 : decode cX1_hasRange 4 = .ok (.iload_n 2, 1) := by decide +kernel
theorem dX1_hasRange_5 : decode cX1_hasRange 5 = .ok (.ifCond .lt 25, 3) := by decide +kernel
theorem dX1_hasRange_8 : decode cX1_hasRange 8 = .ok (.iload_n 1, 1) := by decide +kernel
theorem dX1_hasRange_9 : decode cX1_hasRange 9 = .ok (.aload_n 0, 1) := by decide +kernel
theorem dX1_hasRange_10 : decode cX1_hasRange 10 = .ok (.getfield 19, 3) := by decide +kernel
theorem dX1_hasRange_13 : decode cX1_hasRange 13 = .ok (.if_icmp .gt 17, 3) := by decide +kernel
theorem dX1_hasRange_16 : decode cX1_hasRange 16 = .ok (.iload_n 2, 1) := by decide +kernel
theorem dX1_hasRange_17 : decode cX1_hasRange 17 = .ok (.aload_n 0, 1) := by decide +kernel
theorem dX1_hasRange_18 : decode cX1_hasRange 18 = .ok (.getfield 19, 3) := by decide +kernel
theorem dX1_hasRange_21 : decode cX1_hasRange 21 = .ok (.iload_n 1, 1) := by decide +kernel
theorem dX1_hasRange_22 : decode cX1_hasRange 22 = .ok (.isub, 1) := by decide +kernel
theorem dX1_hasRange_23 : decode cX1_hasRange 23 = .ok (.if_icmp .gt 7, 3) := by decide +kernel
theorem dX1_hasRange_26 : decode cX1_hasRange 26 = .ok (.iconst 1, 1) := by decide +kernel
theorem dX1_hasRange_27 : decode cX1_hasRange 27 = .ok (.goto 4, 3) := by decide +kernel
theorem dX1_hasRange_30 : decode cX1_hasRange 30 = .ok (.iconst 0, 1) := by decide +kernel
theorem dX1_hasRange_31 : decode cX1_hasRange 31 = .ok (.ireturn, 1) := by decide +kernel
theorem dX2_init_0 : decode cX2_init 0 = .ok (.aload_n 0, 1) := by decide +kernel
theorem dX2_init_1 : decode cX2_init 1 = .ok (.invokespecial 3, 3) := by decide +kernel
theorem dX2_init_4 : decode cX2_init 4 = .ok (.aload_n 0, 1) := by decide +kernel
theorem dX2_init_5 : decode cX2_init 5 = .ok (.iload_n 1, 1) := by decide +kernel
theorem dX2_init_6 : decode cX2_init 6 = .ok (.newarray .int, 2) := by decide +kernel
theorem dX2_init_8 : decode cX2_init 8 = .ok (.putfield 9, 3) := by decide +kernel
theorem dX2_init_11 : decode cX2_init 11 = .ok (.aload_n 0, 1) := by decide +kernel
theorem dX2_init_12 : decode cX2_init 12 = .ok (.aload_n 2, 1) := by decide +kernel
theorem dX2_init_13 : decode cX2_init 13 = .ok (.putfield 15, 3) := by decide +kernel
theorem dX2_init_16 : decode cX2_init 16 = .ok (.aload_n 0, 1) := by decide +kernel
theorem dX2_init_17 : decode cX2_init 17 = .ok (.aload_n 3, 1) := by decide +kernel
theorem dX2_init_18 : decode cX2_init 18 = .ok (.putfield 18, 3) := by decide +kernel
theorem dX2_init_21 : decode cX2_init 21 = .ok (.aload_n 0, 1) := by decide +kernel
theorem dX2_init_22 : decode cX2_init 22 = .ok (.iload_n 1, 1) := by decide +kernel
theorem dX2_init_23 : decode cX2_init 23 = .ok (.iconst 1, 1) := by decide +kernel
theorem dX2_init_24 : decode cX2_init 24 = .ok (.iadd, 1) := by decide +kernel
theorem dX2_init_25 : decode cX2_init 25 = .ok (.bipush 6, 2) := by decide +kernel
theorem dX2_init_27 : decode cX2_init 27 = .ok (.idiv, 1) := by decide +kernel
theorem dX2_init_28 : decode cX2_init 28 = .ok (.iconst 3, 1) := by decide +kernel
theorem dX2_init_29 : decode cX2_init 29 = .ok (.imul, 1) := by decide +kernel
theorem dX2_init_30 : decode cX2_init 30 = .ok (.newarray .int, 2) := by decide +kernel
theorem dX2_init_32 : decode cX2_init 32 = .ok (.putfield 21, 3) := by decide +kernel
theorem dX2_init_35 : decode cX2_init 35 = .ok (.aload_n 0, 1) := by decide +kernel
theorem dX2_init_36 : decode cX2_init 36 = .ok (.iconst 0, 1) := by decide +kernel
theorem dX2_init_37 : decode cX2_init 37 = .ok (.putfield 24, 3) := by decide +kernel
theorem dX2_init_40 : decode cX2_init 40 = .ok (.aload_n 0, 1) := by decide +kernel
theorem dX2_init_41 : decode cX2_init 41 = .ok (.iconst (-1), 1) := by decide +kernel
theorem dX2_init_42 : decode cX2_init 42 = .ok (.putfield 28, 3) := by decide +kernel
theorem dX2_init_45 : decode cX2_init 45 = .ok (.aload_n 0, 1) := by decide +kernel
theorem dX2_init_46 : decode cX2_init 46 = .ok (.iconst 0, 1) := by decide +kernel
theorem dX2_init_47 : decode cX2_init 47 = .ok (.putfield 31, 3) := by decide +kernel
theorem dX2_init_50 : decode cX2_init 50 = .ok (.return_, 1) := by decide +kernel
theorem dX2_part_0 : decode cX2_part 0 = .ok (.aload_n 0, 1) := by decide +kernel
theorem dX2_part_1 : decode cX2_part 1 = .ok (.getfield 21, 3) := by decide +kernel
theorem dX2_part_4 : decode cX2_part 4 = .ok (.iconst 3, 1) := by decide +kernel
theorem dX2_part_5 : decode cX2_part 5 = .ok (.iload_n 1, 1) := by decide +kernel
theorem dX2_part_6 : decode cX2_part 6 = .ok (.imul, 1) := by decide +kernel
theorem dX2_part_7 : decode cX2_part 7 = .ok (.iload_n 2, 1) := by decide +kernel
theorem dX2_part_8 : decode cX2_part 8 = .ok (.iadd, 1) := by decide +kernel
theorem dX2_part_9 : decode cX2_part 9 = .ok (.iaload, 1) := by decide +kernel
theorem dX2_part_10 : decode cX2_part 10 = .ok (.ireturn, 1) := by decide +kernel
theorem dX2_append_0 : decode cX2_append 0 = .ok (.aload_n 0, 1) := by decide +kernel
theorem dX2_append_1 : decode cX2_append 1 = .ok (.getfield 24, 3) := by decide +kernel
theorem dX2_append_4 : decode cX2_append 4 = .ok (.aload_n 0, 1) := by decide +kernel
theorem dX2_append_5 : decode cX2_append 5 = .ok (.getfield 9, 3) := by decide +kernel
theorem dX2_append_8 : decode cX2_append 8 = .ok (.arraylength, 1) := by decide +kernel
theorem dX2_append_9 : decode cX2_append 9 = .ok (.if_icmp .lt 5, 3) := by decide +kernel
theorem dX2_append_12 : decode cX2_append 12 = .ok (.iconst 0, 1) := by decide +kernel
theorem dX2_append_13 : decode cX2_append 13 = .ok (.ireturn, 1) := by decide +kernel
theorem dX2_append_14 : decode cX2_append 14 = .ok (.aload_n 0, 1) := by decide +kernel
theorem dX2_append_15 : decode cX2_append 15 = .ok (.getfield 9, 3) := by decide +kernel
theorem dX2_append_18 : decode cX2_append 18 = .ok (.aload_n 0, 1) := by decide +kernel
theorem dX2_append_19 : decode cX2_append 19 = .ok (.getfield 24, 3) := by decide +kernel
theorem dX2_append_22 : decode cX2_append 22 = .ok (.iload_n 1, 1) := by decide +kernel
theorem dX2_append_23 : decode cX2_append 23 = .ok (.iastore, 1) := by decide +kernel
theorem dX2_append_24 : decode cX2_append 24 = .ok (.aload_n 0, 1) := by decide +kernel
theorem dX2_append_25 : decode cX2_append 25 = .ok (.dup, 1) := by decide +kernel
theorem dX2_append_26 : decode cX2_append 26 = .ok (.getfield 24, 3) := by decide +kernel
theorem dX2_append_29 : decode cX2_append 29 = .ok (.iconst 1, 1) := by decide +kernel
theorem dX2_append_30 : decode cX2_append 30 = .ok (.iadd, 1) := by decide +kernel
theorem dX2_append_31 : decode cX2_append 31 = .ok (.putfield 24, 3) := by decide +kernel
theorem dX2_append_34 : decode cX2_append 34 = .ok (.aload_n 0, 1) := by decide +kernel
theorem dX2_append_35 : decode cX2_append 35 = .ok (.invokevirtual 34, 3) := by decide +kernel
theorem dX2_append_38 : decode cX2_append 38 = .ok (.iconst 1, 1) := by decide +kernel
theorem dX2_append_39 : decode cX2_append 39 = .ok (.ireturn, 1) := by decide +kernel
theorem dX2_cutTo_0 : decode cX2_cutTo 0 = .ok (.aload_n 0, 1) := by decide +kernel
theorem dX2_cutTo_1 : decode cX2_cutTo 1 = .ok (.iload_n 1, 1) := by decide +kernel
theorem dX2_cutTo_2 : decode cX2_cutTo 2 = .ok (.putfield 24, 3) := by decide +kernel
theorem dX2_cutTo_5 : decode cX2_cutTo 5 = .ok (.aload_n 0, 1) := by decide +kernel
theorem dX2_cutTo_6 : decode cX2_cutTo 6 = .ok (.invokevirtual 34, 3) := by decide +kernel
theorem dX2_cutTo_9 : decode cX2_cutTo 9 = .ok (.return_, 1) := by decide +kernel
theorem dX2_parse_0 : decode cX2_parse 0 = .ok (.aload_n 0, 1) := by decide +kernel
theorem dX2_parse_1 : decode cX2_parse 1 = .ok (.getfield 21, 3) := by decide +kernel
theorem dX2_parse_4 : decode cX2_parse 4 = .ok (.iconst 0, 1) := by decide +kernel
theorem dX2_parse_5 : decode cX2_parse 5 = .ok (.invokestatic 37, 3) := by decide +kernel
theorem dX2_parse_8 : decode cX2_parse 8 = .ok (.aload_n 0, 1) := by decide +kernel
theorem dX2_parse_9 : decode cX2_parse 9 = .ok (.iconst (-1), 1) := by decide +kernel
theorem dX2_parse_10 : decode cX2_parse 10 = .ok (.putfield 28, 3) := by decide +kernel
theorem dX2_parse_13 : decode cX2_parse 13 = .ok (.iconst 0, 1) := by decide +kernel
theorem dX2_parse_14 : decode cX2_parse 14 = .ok (.istore_n 1, 1) := by decide +kernel
theorem dX2_parse_15 : decode cX2_parse 15 = .ok (.iload_n 1, 1) := by decide +kernel
theorem dX2_parse_16 : decode cX2_parse 16 = .ok (.aload_n 0, 1) := by decide +kernel
theorem dX2_parse_17 : decode cX2_parse 17 = .ok (.getfield 24, 3) := by decide +kernel
theorem dX2_parse_20 : decode cX2_parse 20 = .ok (.if_icmp .ge 30, 3) := by decide +kernel
theorem dX2_parse_23 : decode cX2_parse 23 = .ok (.aload_n 0, 1) := by decide +kernel
theorem dX2_parse_24 : decode cX2_parse 24 = .ok (.getfield 28, 3) := by decide +kernel
theorem dX2_parse_27 : decode cX2_parse 27 = .ok (.iconst (-1), 1) := by decide +kernel
theorem dX2_parse_28 : decode cX2_parse 28 = .ok (.if_icmp .ne 22, 3) := by decide +kernel
theorem dX2_parse_31 : decode cX2_parse 31 = .ok (.aload_n 0, 1) := by decide +kernel
theorem dX2_parse_32 : decode cX2_parse 32 = .ok (.iload_n 1, 1) := by decide +kernel
theorem dX2_parse_33 : decode cX2_parse 33 = .ok (.invokevirtual 43, 3) := by decide +kernel
theorem dX2_parse_36 : decode cX2_parse 36 = .ok (.ifCond .ne 8, 3) := by decide +kernel
theorem dX2_parse_39 : decode cX2_parse 39 = .ok (.aload_n 0, 1) := by decide +kernel
theorem dX2_parse_40 : decode cX2_parse 40 = .ok (.iload_n 1, 1) := by decide +kernel
theorem dX2_parse_41 : decode cX2_parse 41 = .ok (.putfield 28, 3) := by decide +kernel
theorem dX2_parse_44 : decode cX2_parse 44 = .ok (.iinc 1 1, 3) := by decide +kernel
theorem dX2_parse_47 : decode cX2_parse 47 = .ok (.goto (-32), 3) := by decide +kernel
theorem dX2_parse_50 : decode cX2_parse 50 = .ok (.aload_n 0, 1) := by decide +kernel
theorem dX2_parse_51 : decode cX2_parse 51 = .ok (.getfield 28, 3) := by decide +kernel
theorem dX2_parse_54 : decode cX2_parse 54 = .ok (.iconst (-1), 1) := by decide +kernel
theorem dX2_parse_55 : decode cX2_parse 55 = .ok (.if_icmp .ne 29, 3) := by decide +kernel
theorem dX2_parse_58 : decode cX2_parse 58 = .ok (.aload_n 0, 1) := by decide +kernel
theorem dX2_parse_59 : decode cX2_parse 59 = .ok (.getfield 24, 3) := by decide +kernel
theorem dX2_parse_62 : decode cX2_parse 62 = .ok (.ifCond .le 22, 3) := by decide +kernel
theorem dX2_parse_65 : decode cX2_parse 65 = .ok (.aload_n 0, 1) := by decide +kernel
theorem dX2_parse_66 : decode cX2_parse 66 = .ok (.getfield 24, 3) := by decide +kernel
theorem dX2_parse_69 : decode cX2_parse 69 = .ok (.bipush 6, 2) := by decide +kernel
theorem dX2_parse_71 : decode cX2_parse 71 = .ok (.irem, 1) := by decide +kernel
theorem dX2_parse_72 : decode cX2_parse 72 = .ok (.iconst 5, 1) := by decide +kernel
theorem dX2_parse_73 : decode cX2_parse 73 = .ok (.if_icmp .eq 11, 3) := by decide +kernel
theorem dX2_parse_76 : decode cX2_parse 76 = .ok (.aload_n 0, 1) := by decide +kernel
theorem dX2_parse_77 : decode cX2_parse 77 = .ok (.aload_n 0, 1) := by decide +kernel
theorem dX2_parse_78 : decode cX2_parse 78 = .ok (.getfield 24, 3) := by decide +kernel
theorem dX2_parse_81 : decode cX2_parse 81 = .ok (.putfield 28, 3) := by decide +kernel
theorem dX2_parse_84 : decode cX2_parse 84 = .ok (.aload_n 0, 1) := by decide +kernel
theorem dX2_parse_85 : decode cX2_parse 85 = .ok (.aload_n 0, 1) := by decide +kernel
theorem dX2_parse_86 : decode cX2_parse 86 = .ok (.getfield 28, 3) := by decide +kernel
theorem dX2_parse_89 : decode cX2_parse 89 = .ok (.iconst (-1), 1) := by decide +kernel
theorem dX2_parse_90 : decode cX2_parse 90 = .ok (.if_icmp .ne 15, 3) := by decide +kernel
theorem dX2_parse_93 : decode cX2_parse 93 = .ok (.aload_n 0, 1) := by decide +kernel
theorem dX2_parse_94 : decode cX2_parse 94 = .ok (.getfield 24, 3) := by decide +kernel
theorem dX2_parse_97 : decode cX2_parse 97 = .ok (.iconst 1, 1) := by decide +kernel
theorem dX2_parse_98 : decode cX2_parse 98 = .ok (.iadd, 1) := by decide +kernel
theorem dX2_parse_99 : decode cX2_parse 99 = .ok (.bipush 6, 2) := by decide +kernel
theorem dX2_parse_101 : decode cX2_parse 101 = .ok (.idiv, 1) := by decide +kernel
theorem dX2_parse_102 : decode cX2_parse 102 = .ok (.goto 4, 3) := by decide +kernel
theorem dX2_parse_105 : decode cX2_parse 105 = .ok (.iconst 0, 1) := by decide +kernel
theorem dX2_parse_106 : decode cX2_parse 106 = .ok (.putfield 31, 3) := by decide +kernel
theorem dX2_parse_109 : decode cX2_parse 109 = .ok (.return_, 1) := by decide +kernel
theorem dX2_goesOn_0 : decode cX2_goesOn 0 = .ok (.iload_n 1, 1) := by decide +kernel
theorem dX2_goesOn_1 : decode cX2_goesOn 1 = .ok (.bipush 6, 2) := by decide +kernel
theorem dX2_goesOn_3 : decode cX2_goesOn 3 = .ok (.irem, 1) := by decide +kernel
theorem dX2_goesOn_4 : decode cX2_goesOn 4 = .ok (.istore_n 2, 1) := by decide +kernel
theorem dX2_goesOn_5 : decode cX2_goesOn 5 = .ok (.iload_n 2, 1) := by decide +kernel
theorem dX2_goesOn_6 : decode cX2_goesOn 6 = .ok (.iconst 5, 1) := by decide +kernel
theorem dX2_goesOn_7 : decode cX2_goesOn 7 = .ok (.if_icmp .ne 20, 3) := by decide +kernel
theorem dX2_goesOn_10 : decode cX2_goesOn 10 = .ok (.aload_n 0, 1) := by decide +kernel
theorem dX2_goesOn_11 : decode cX2_goesOn 11 = .ok (.getfield 9, 3) := by decide +kernel
theorem dX2_goesOn_14 : decode cX2_goesOn 14 = .ok (.iload_n 1, 1) := by decide +kernel
theorem dX2_goesOn_15 : decode cX2_goesOn 15 = .ok (.iaload, 1) := by decide +kernel
theorem dX2_goesOn_16 : decode cX2_goesOn 16 = .ok (.bipush 59, 2) := by decide +kernel
theorem dX2_goesOn_18 : decode cX2_goesOn 18 = .ok (.if_icmp .ne 7, 3) := by decide +kernel
theorem dX2_goesOn_21 : decode cX2_goesOn 21 = .ok (.iconst 1, 1) := by decide +kernel
theorem dX2_goesOn_22 : decode cX2_goesOn 22 = .ok (.goto 4, 3) := by decide +kernel
theorem dX2_goesOn_25 : decode cX2_goesOn 25 = .ok (.iconst 0, 1) := by decide +kernel
theorem dX2_goesOn_26 : decode cX2_goesOn 26 = .ok (.ireturn, 1) := by decide +kernel
theorem dX2_goesOn_27 : decode cX2_goesOn 27 = .ok (.aload_n 0, 1) := by decide +kernel
theorem dX2_goesOn_28 : decode cX2_goesOn 28 = .ok (.getfield 9, 3) := by decide +kernel
theorem dX2_goesOn_31 : decode cX2_goesOn 31 = .ok (.iload_n 1, 1) := by decide +kernel
theorem dX2_goesOn_32 : decode cX2_goesOn 32 = .ok (.iaload, 1) := by decide +kernel
theorem dX2_goesOn_33 : decode cX2_goesOn 33 = .ok (.bipush 48, 2) := by decide +kernel
theorem dX2_goesOn_35 : decode cX2_goesOn 35 = .ok (.isub, 1) := by decide +kernel
theorem dX2_goesOn_36 : decode cX2_goesOn 36 = .ok (.istore_n 3, 1) := by decide +kernel
theorem dX2_goesOn_37 : decode cX2_goesOn 37 = .ok (.iload_n 3, 1) := by decide +kernel
theorem dX2_goesOn_38 : decode cX2_goesOn 38 = .ok (.ifCond .lt 9, 3) := by decide +kernel
theorem dX2_goesOn_41 : decode cX2_goesOn 41 = .ok (.iload_n 3, 1) := by decide +kernel
theorem dX2_goesOn_42 : decode cX2_goesOn 42 = .ok (.bipush 9, 2) := by decide +kernel
theorem dX2_goesOn_44 : decode cX2_goesOn 44 = .ok (.if_icmp .le 5, 3) := by decide +kernel
theorem dX2_goesOn_47 : decode cX2_goesOn 47 = .ok (.iconst 0, 1) := by decide +kernel
theorem dX2_goesOn_48 : decode cX2_goesOn 48 = .ok (.ireturn, 1) := by decide +kernel
theorem dX2_goesOn_49 : decode cX2_goesOn 49 = .ok (.aload_n 0, 1) := by decide +kernel
theorem dX2_goesOn_50 : decode cX2_goesOn 50 = .ok (.getfield 15, 3) := by decide +kernel
theorem dX2_goesOn_53 : decode cX2_goesOn 53 = .ok (.iload_n 2, 1) := by decide +kernel
theorem dX2_goesOn_54 : decode cX2_goesOn 54 = .ok (.iaload, 1) := by decide +kernel
theorem dX2_goesOn_55 : decode cX2_goesOn 55 = .ok (.istore 4, 2) := by decide +kernel
theorem dX2_goesOn_57 : decode cX2_goesOn 57 = .ok (.iconst 3, 1) := by decide +kernel
theorem dX2_goesOn_58 : decode cX2_goesOn 58 = .ok (.iload_n 1, 1) := by decide +kernel
theorem dX2_goesOn_59 : decode cX2_goesOn 59 = .ok (.bipush 6, 2) := by decide +kernel
theorem dX2_goesOn_61 : decode cX2_goesOn 61 = .ok (.idiv, 1) := by decide +kernel
theorem dX2_goesOn_62 : decode cX2_goesOn 62 = .ok (.imul, 1) := by decide +kernel
theorem dX2_goesOn_63 : decode cX2_goesOn 63 = .ok (.iload 4, 2) := by decide +kernel
theorem dX2_goesOn_65 : decode cX2_goesOn 65 = .ok (.iadd, 1) := by decide +kernel
theorem dX2_goesOn_66 : decode cX2_goesOn 66 = .ok (.istore 5, 2) := by decide +kernel
theorem dX2_goesOn_68 : decode cX2_goesOn 68 = .ok (.aload_n 0, 1) := by decide +kernel
theorem dX2_goesOn_69 : decode cX2_goesOn 69 = .ok (.getfield 21, 3) := by decide +kernel
theorem dX2_goesOn_72 : decode cX2_goesOn 72 = .ok (.iload 5, 2) := by decide +kernel
theorem dX2_goesOn_74 : decode cX2_goesOn 74 = .ok (.bipush 10, 2) := by decide +kernel
theorem dX2_goesOn_76 : decode cX2_goesOn 76 = .ok (.aload_n 0, 1) := by decide +kernel
theorem dX2_goesOn_77 : decode cX2_goesOn 77 = .ok (.getfield 21, 3) := by decide +kernel
theorem dX2_goesOn_80 : decode cX2_goesOn 80 = .ok (.iload 5, 2) := by decide +kernel
theorem dX2_goesOn_82 : decode cX2_goesOn 82 = .ok (.iaload, 1) := by decide +kernel
theorem dX2_goesOn_83 : decode cX2_goesOn 83 = .ok (.imul, 1) := by decide +kernel
theorem dX2_goesOn_84 : decode cX2_goesOn 84 = .ok (.iload_n 3, 1) := by decide +kernel
theorem dX2_goesOn_85 : decode cX2_goesOn 85 = .ok (.iadd, 1) := by decide +kernel
theorem dX2_goesOn_86 : decode cX2_goesOn 86 = .ok (.iastore, 1) := by decide +kernel
theorem dX2_goesOn_87 : decode cX2_goesOn 87 = .ok (.iload_n 2, 1) := by decide +kernel
theorem dX2_goesOn_88 : decode cX2_goesOn 88 = .ok (.iconst 4, 1) := by decide +kernel
theorem dX2_goesOn_89 : decode cX2_goesOn 89 = .ok (.if_icmp .eq 16, 3) := by decide +kernel
theorem dX2_goesOn_92 : decode cX2_goesOn 92 = .ok (.aload_n 0, 1) := by decide +kernel
theorem dX2_goesOn_93 : decode cX2_goesOn 93 = .ok (.getfield 15, 3) := by decide +kernel
theorem dX2_goesOn_96 : decode cX2_goesOn 96 = .ok (.iload_n 2, 1) := by decide +kernel
theorem dX2_goesOn_97 : decode cX2_goesOn 97 = .ok (.iconst 1, 1) := by decide +kernel
theorem dX2_goesOn_98 : decode cX2_goesOn 98 = .ok (.iadd, 1) := by decide +kernel
theorem dX2_goesOn_99 : decode cX2_goesOn 99 = .ok (.iaload, 1) := by decide +kernel
theorem dX2_goesOn_100 : decode cX2_goesOn 100 = .ok (.iload 4, 2) := by decide +kernel
theorem dX2_goesOn_102 : decode cX2_goesOn 102 = .ok (.if_icmp .eq 7, 3) := by decide +kernel
theorem dX2_goesOn_105 : decode cX2_goesOn 105 = .ok (.iconst 1, 1) := by decide +kernel
theorem dX2_goesOn_106 : decode cX2_goesOn 106 = .ok (.goto 4, 3) := by decide +kernel
theorem dX2_goesOn_109 : decode cX2_goesOn 109 = .ok (.iconst 0, 1) := by decide +kernel
theorem dX2_goesOn_110 : decode cX2_goesOn 110 = .ok (.istore 6, 2) := by decide +kernel
theorem dX2_goesOn_112 : decode cX2_goesOn 112 = .ok (.iload 6, 2) := by decide +kernel
theorem dX2_goesOn_114 : decode cX2_goesOn 114 = .ok (.ifCond .eq 20, 3) := by decide +kernel
theorem dX2_goesOn_117 : decode cX2_goesOn 117 = .ok (.aload_n 0, 1) := by decide +kernel
theorem dX2_goesOn_118 : decode cX2_goesOn 118 = .ok (.getfield 21, 3) := by decide +kernel
theorem dX2_goesOn_121 : decode cX2_goesOn 121 = .ok (.iload 5, 2) := by decide +kernel
theorem dX2_goesOn_123 : decode cX2_goesOn 123 = .ok (.iaload, 1) := by decide +kernel
theorem dX2_goesOn_124 : decode cX2_goesOn 124 = .ok (.aload_n 0, 1) := by decide +kernel
theorem dX2_goesOn_125 : decode cX2_goesOn 125 = .ok (.getfield 18, 3) := by decide +kernel
theorem dX2_goesOn_128 : decode cX2_goesOn 128 = .ok (.iload 4, 2) := by decide +kernel
theorem dX2_goesOn_130 : decode cX2_goesOn 130 = .ok (.iaload, 1) := by decide +kernel
theorem dX2_goesOn_131 : decode cX2_goesOn 131 = .ok (.if_icmp .lt 7, 3) := by decide +kernel
theorem dX2_goesOn_134 : decode cX2_goesOn 134 = .ok (.iconst 1, 1) := by decide +kernel
theorem dX2_goesOn_135 : decode cX2_goesOn 135 = .ok (.goto 4, 3) := by decide +kernel
theorem dX2_goesOn_138 : decode cX2_goesOn 138 = .ok (.iconst 0, 1) := by decide +kernel
theorem dX2_goesOn_139 : decode cX2_goesOn 139 = .ok (.ireturn, 1) := by decide +kernel
theorem dX3_init_0 : decode cX3_init 0 = .ok (.aload_n 0, 1) := by decide +kernel
theorem dX3_init_1 : decode cX3_init 1 = .ok (.invokespecial 3, 3) := by decide +kernel
theorem dX3_init_4 : decode cX3_init 4 = .ok (.aload_n 0, 1) := by decide +kernel
theorem dX3_init_5 : decode cX3_init 5 = .ok (.sipush 240, 3) := by decide +kernel
theorem dX3_init_8 : decode cX3_init 8 = .ok (.newarray .int, 2) := by decide +kernel
theorem dX3_init_10 : decode cX3_init 10 = .ok (.putfield 9, 3) := by decide +kernel
theorem dX3_init_13 : decode cX3_init 13 = .ok (.aload_n 0, 1) := by decide +kernel
theorem dX3_init_14 : decode cX3_init 14 = .ok (.sipush 240, 3) := by decide +kernel
theorem dX3_init_17 : decode cX3_init 17 = .ok (.newarray .int, 2) := by decide +kernel
theorem dX3_init_19 : decode cX3_init 19 = .ok (.putfield 15, 3) := by decide +kernel
theorem dX3_init_22 : decode cX3_init 22 = .ok (.aload_n 0, 1) := by decide +kernel
theorem dX3_init_23 : decode cX3_init 23 = .ok (.sipush 240, 3) := by decide +kernel
theorem dX3_init_26 : decode cX3_init 26 = .ok (.newarray .boolean, 2) := by decide +kernel
theorem dX3_init_28 : decode cX3_init 28 = .ok (.putfield 18, 3) := by decide +kernel
theorem dX3_init_31 : decode cX3_init 31 = .ok (.aload_n 0, 1) := by decide +kernel
theorem dX3_init_32 : decode cX3_init 32 = .ok (.sipush 240, 3) := by decide +kernel
theorem dX3_init_35 : decode cX3_init 35 = .ok (.newarray .int, 2) := by decide +kernel
theorem dX3_init_37 : decode cX3_init 37 = .ok (.putfield 22, 3) := by decide +kernel
theorem dX3_init_40 : decode cX3_init 40 = .ok (.aload_n 0, 1) := by decide +kernel
theorem dX3_init_41 : decode cX3_init 41 = .ok (.sipush 241, 3) := by decide +kernel
theorem dX3_init_44 : decode cX3_init 44 = .ok (.newarray .int, 2) := by decide +kernel
theorem dX3_init_46 : decode cX3_init 46 = .ok (.putfield 25, 3) := by decide +kernel
theorem dX3_init_49 : decode cX3_init 49 = .ok (.aload_n 0, 1) := by decide +kernel
theorem dX3_init_50 : decode cX3_init 50 = .ok (.sipush 401, 3) := by decide +kernel
theorem dX3_init_53 : decode cX3_init 53 = .ok (.newarray .int, 2) := by decide +kernel
theorem dX3_init_55 : decode cX3_init 55 = .ok (.putfield 28, 3) := by decide +kernel
theorem dX3_init_58 : decode cX3_init 58 = .ok (.return_, 1) := by decide +kernel
theorem dX3_numberAt_0 : decode cX3_numberAt 0 = .ok (.aload_n 0, 1) := by decide +kernel
theorem dX3_numberAt_1 : decode cX3_numberAt 1 = .ok (.getfield 25, 3) := by decide +kernel
theorem dX3_numberAt_4 : decode cX3_numberAt 4 = .ok (.aload_n 0, 1) := by decide +kernel
theorem dX3_numberAt_5 : decode cX3_numberAt 5 = .ok (.getfield 22, 3) := by decide +kernel
theorem dX3_numberAt_8 : decode cX3_numberAt 8 = .ok (.iload_n 1, 1) := by decide +kernel
theorem dX3_numberAt_9 : decode cX3_numberAt 9 = .ok (.iaload, 1) := by decide +kernel
theorem dX3_numberAt_10 : decode cX3_numberAt 10 = .ok (.iaload, 1) := by decide +kernel
theorem dX3_numberAt_11 : decode cX3_numberAt 11 = .ok (.ireturn, 1) := by decide +kernel
theorem dX3_isDouble_0 : decode cX3_isDouble 0 = .ok (.aload_n 0, 1) := by decide +kernel
theorem dX3_isDouble_1 : decode cX3_isDouble 1 = .ok (.getfield 15, 3) := by decide +kernel
theorem dX3_isDouble_4 : decode cX3_isDouble 4 = .ok (.iload_n 1, 1) := by decide +kernel
theorem dX3_isDouble_5 : decode cX3_isDouble 5 = .ok (.iaload, 1) := by decide +kernel
theorem dX3_isDouble_6 : decode cX3_isDouble 6 = .ok (.iconst 2, 1) := by decide +kernel
theorem dX3_isDouble_7 : decode cX3_isDouble 7 = .ok (.if_icmp .lt 7, 3) := by decide +kernel
theorem dX3_isDouble_10 : decode cX3_isDouble 10 = .ok (.iconst 1, 1) := by decide +kernel
theorem dX3_isDouble_11 : decode cX3_isDouble 11 = .ok (.goto 4, 3) := by decide +kernel
theorem dX3_isDouble_14 : decode cX3_isDouble 14 = .ok (.iconst 0, 1) := by decide +kernel
theorem dX3_isDouble_15 : decode cX3_isDouble 15 = .ok (.ireturn, 1) := by decide +kernel
theorem dX3_last_0 : decode cX3_last 0 = .ok (.aload_n 0, 1) := by decide +kernel
theorem dX3_last_1 : decode cX3_last 1 = .ok (.getfield 25, 3) := by decide +kernel
theorem dX3_last_4 : decode cX3_last 4 = .ok (.aload_n 0, 1) := by decide +kernel
theorem dX3_last_5 : decode cX3_last 5 = .ok (.getfield 31, 3) := by decide +kernel
theorem dX3_last_8 : decode cX3_last 8 = .ok (.iaload, 1) := by decide +kernel
theorem dX3_last_9 : decode cX3_last 9 = .ok (.ireturn, 1) := by decide +kernel
theorem dX3_breakingBy_0 : decode cX3_breakingBy 0 = .ok (.iconst 0, 1) := by decide +kernel
theorem dX3_breakingBy_1 : decode cX3_breakingBy 1 = .ok (.istore_n 2, 1) := by decide +kernel
theorem dX3_breakingBy_2 : decode cX3_breakingBy 2 = .ok (.iconst 0, 1) := by decide +kernel
theorem dX3_breakingBy_3 : decode cX3_breakingBy 3 = .ok (.istore_n 3, 1) := by decide +kernel
theorem dX3_breakingBy_4 : decode cX3_breakingBy 4 = .ok (.iload_n 3, 1) := by decide +kernel
theorem dX3_breakingBy_5 : decode cX3_breakingBy 5 = .ok (.sipush 240, 3) := by decide +kernel
theorem dX3_breakingBy_8 : decode cX3_breakingBy 8 = .ok (.if_icmp .ge 25, 3) := by decide +kernel
theorem dX3_breakingBy_11 : decode cX3_breakingBy 11 = .ok (.aload_n 0, 1) := by decide +kernel
theorem dX3_breakingBy_12 : decode cX3_breakingBy 12 = .ok (.getfield 9, 3) := by decide +kernel
theorem dX3_breakingBy_15 : decode cX3_breakingBy 15 = .ok (.iload_n 3, 1) := by decide +kernel
theorem dX3_breakingBy_16 : decode cX3_breakingBy 16 = .ok (.iaload, 1) := by decide +kernel
theorem dX3_breakingBy_17 : decode cX3_breakingBy 17 = .ok (.iload_n 1, 1) := by decide +kernel
theorem dX3_breakingBy_18 : decode cX3_breakingBy 18 = .ok (.invokestatic 35, 3) := by decide +kernel
theorem dX3_breakingBy_21 : decode cX3_breakingBy 21 = .ok (.ifCond .eq 6, 3) := by decide +kernel
theorem dX3_breakingBy_24 : decode cX3_breakingBy 24 = .ok (.iinc 2 1, 3) := by decide +kernel
theorem dX3_breakingBy_27 : decode cX3_breakingBy 27 = .ok (.iinc 3 1, 3) := by decide +kernel
theorem dX3_breakingBy_30 : decode cX3_breakingBy 30 = .ok (.goto (-26), 3) := by decide +kernel
theorem dX3_breakingBy_33 : decode cX3_breakingBy 33 = .ok (.iload_n 2, 1) := by decide +kernel
theorem dX3_breakingBy_34 : decode cX3_breakingBy 34 = .ok (.ireturn, 1) := by decide +kernel
theorem dX3_reckon_0 : decode cX3_reckon 0 = .ok (.aload_n 0, 1) := by decide +kernel
theorem dX3_reckon_1 : decode cX3_reckon 1 = .ok (.aload_n 1, 1) := by decide +kernel
theorem dX3_reckon_2 : decode cX3_reckon 2 = .ok (.invokevirtual 39, 3) := by decide +kernel
theorem dX3_reckon_5 : decode cX3_reckon 5 = .ok (.aload_n 0, 1) := by decide +kernel
theorem dX3_reckon_6 : decode cX3_reckon 6 = .ok (.aload 4, 2) := by decide +kernel
theorem dX3_reckon_8 : decode cX3_reckon 8 = .ok (.invokevirtual 43, 3) := by decide +kernel
theorem dX3_reckon_11 : decode cX3_reckon 11 = .ok (.aload_n 0, 1) := by decide +kernel
theorem dX3_reckon_12 : decode cX3_reckon 12 = .ok (.getfield 28, 3) := by decide +kernel
theorem dX3_reckon_15 : decode cX3_reckon 15 = .ok (.iconst (-1), 1) := by decide +kernel
theorem dX3_reckon_16 : decode cX3_reckon 16 = .ok (.invokestatic 47, 3) := by decide +kernel
theorem dX3_reckon_19 : decode cX3_reckon 19 = .ok (.iconst 0, 1) := by decide +kernel
theorem dX3_reckon_20 : decode cX3_reckon 20 = .ok (.istore 5, 2) := by decide +kernel
theorem dX3_reckon_22 : decode cX3_reckon 22 = .ok (.iload 5, 2) := by decide +kernel
theorem dX3_reckon_24 : decode cX3_reckon 24 = .ok (.sipush 240, 3) := by decide +kernel
theorem dX3_reckon_27 : decode cX3_reckon 27 = .ok (.if_icmp .ge 17, 3) := by decide +kernel
theorem dX3_reckon_30 : decode cX3_reckon 30 = .ok (.aload_n 0, 1) := by decide +kernel
theorem dX3_reckon_31 : decode cX3_reckon 31 = .ok (.getfield 18, 3) := by decide +kernel
theorem dX3_reckon_34 : decode cX3_reckon 34 = .ok (.iload 5, 2) := by decide +kernel
theorem dX3_reckon_36 : decode cX3_reckon 36 = .ok (.iconst 0, 1) := by decide +kernel
theorem dX3_reckon_37 : decode cX3_reckon 37 = .ok (.bastore, 1) := by decide +kernel
theorem dX3_reckon_38 : decode cX3_reckon 38 = .ok (.iinc 5 1, 3) := by decide +kernel
theorem dX3_reckon_41 : decode cX3_reckon 41 = .ok (.goto (-19), 3) := by decide +kernel
theorem dX3_reckon_44 : decode cX3_reckon 44 = .ok (.iconst 0, 1) := by decide +kernel
theorem dX3_reckon_45 : decode cX3_reckon 45 = .ok (.istore 5, 2) := by decide +kernel
theorem dX3_reckon_47 : decode cX3_reckon 47 = .ok (.iload 5, 2) := by decide +kernel
theorem dX3_reckon_49 : decode cX3_reckon 49 = .ok (.aload_n 3, 1) := by decide +kernel
theorem dX3_reckon_50 : decode cX3_reckon 50 = .ok (.getfield 53, 3) := by decide +kernel
theorem dX3_reckon_53 : decode cX3_reckon 53 = .ok (.if_icmp .ge 22, 3) := by decide +kernel
theorem dX3_reckon_56 : decode cX3_reckon 56 = .ok (.aload_n 0, 1) := by decide +kernel
theorem dX3_reckon_57 : decode cX3_reckon 57 = .ok (.getfield 18, 3) := by decide +kernel
theorem dX3_reckon_60 : decode cX3_reckon 60 = .ok (.aload_n 3, 1) := by decide +kernel
theorem dX3_reckon_61 : decode cX3_reckon 61 = .ok (.getfield 58, 3) := by decide +kernel
theorem dX3_reckon_64 : decode cX3_reckon 64 = .ok (.iload 5, 2) := by decide +kernel
theorem dX3_reckon_66 : decode cX3_reckon 66 = .ok (.iaload, 1) := by decide +kernel
theorem dX3_reckon_67 : decode cX3_reckon 67 = .ok (.iconst 1, 1) := by decide +kernel
theorem dX3_reckon_68 : decode cX3_reckon 68 = .ok (.bastore, 1) := by decide +kernel
theorem dX3_reckon_69 : decode cX3_reckon 69 = .ok (.iinc 5 1, 3) := by decide +kernel
theorem dX3_reckon_72 : decode cX3_reckon 72 = .ok (.goto (-25), 3) := by decide +kernel
theorem dX3_reckon_75 : decode cX3_reckon 75 = .ok (.aload_n 0, 1) := by decide +kernel
theorem dX3_reckon_76 : decode cX3_reckon 76 = .ok (.iconst 0, 1) := by decide +kernel
theorem dX3_reckon_77 : decode cX3_reckon 77 = .ok (.putfield 31, 3) := by decide +kernel
theorem dX3_reckon_80 : decode cX3_reckon 80 = .ok (.iconst 0, 1) := by decide +kernel
theorem dX3_reckon_81 : decode cX3_reckon 81 = .ok (.istore 5, 2) := by decide +kernel
theorem dX3_reckon_83 : decode cX3_reckon 83 = .ok (.iload 5, 2) := by decide +kernel
theorem dX3_reckon_85 : decode cX3_reckon 85 = .ok (.sipush 240, 3) := by decide +kernel
theorem dX3_reckon_88 : decode cX3_reckon 88 = .ok (.if_icmp .ge 78, 3) := by decide +kernel
theorem dX3_reckon_91 : decode cX3_reckon 91 = .ok (.aload_n 0, 1) := by decide +kernel
theorem dX3_reckon_92 : decode cX3_reckon 92 = .ok (.getfield 22, 3) := by decide +kernel
theorem dX3_reckon_95 : decode cX3_reckon 95 = .ok (.iload 5, 2) := by decide +kernel
theorem dX3_reckon_97 : decode cX3_reckon 97 = .ok (.iconst 0, 1) := by decide +kernel
theorem dX3_reckon_98 : decode cX3_reckon 98 = .ok (.iastore, 1) := by decide +kernel
theorem dX3_reckon_99 : decode cX3_reckon 99 = .ok (.aload_n 0, 1) := by decide +kernel
theorem dX3_reckon_100 : decode cX3_reckon 100 = .ok (.getfield 9, 3) := by decide +kernel
theorem dX3_reckon_103 : decode cX3_reckon 103 = .ok (.iload 5, 2) := by decide +kernel
theorem dX3_reckon_105 : decode cX3_reckon 105 = .ok (.iaload, 1) := by decide +kernel
theorem dX3_reckon_106 : decode cX3_reckon 106 = .ok (.iload_n 2, 1) := by decide +kernel
theorem dX3_reckon_107 : decode cX3_reckon 107 = .ok (.invokestatic 35, 3) := by decide +kernel
theorem dX3_reckon_110 : decode cX3_reckon 110 = .ok (.ifCond .eq 50, 3) := by decide +kernel
theorem dX3_reckon_113 : decode cX3_reckon 113 = .ok (.aload_n 0, 1) := by decide +kernel
theorem dX3_reckon_114 : decode cX3_reckon 114 = .ok (.getfield 18, 3) := by decide +kernel
theorem dX3_reckon_117 : decode cX3_reckon 117 = .ok (.iload 5, 2) := by decide +kernel
theorem dX3_reckon_119 : decode cX3_reckon 119 = .ok (.baload, 1) := by decide +kernel
theorem dX3_reckon_120 : decode cX3_reckon 120 = .ok (.ifCond .ne 40, 3) := by decide +kernel
theorem dX3_reckon_123 : decode cX3_reckon 123 = .ok (.aload_n 0, 1) := by decide +kernel
theorem dX3_reckon_124 : decode cX3_reckon 124 = .ok (.dup, 1) := by decide +kernel
theorem dX3_reckon_125 : decode cX3_reckon 125 = .ok (.getfield 31, 3) := by decide +kernel
theorem dX3_reckon_128 : decode cX3_reckon 128 = .ok (.iconst 1, 1) := by decide +kernel
theorem dX3_reckon_129 : decode cX3_reckon 129 = .ok (.iadd, 1) := by decide +kernel
theorem dX3_reckon_130 : decode cX3_reckon 130 = .ok (.putfield 31, 3) := by decide +kernel
theorem dX3_reckon_133 : decode cX3_reckon 133 = .ok (.aload_n 0, 1) := by decide +kernel
theorem dX3_reckon_134 : decode cX3_reckon 134 = .ok (.getfield 22, 3) := by decide +kernel
theorem dX3_reckon_137 : decode cX3_reckon 137 = .ok (.iload 5, 2) := by decide +kernel
theorem dX3_reckon_139 : decode cX3_reckon 139 = .ok (.aload_n 0, 1) := by decide +kernel
theorem dX3_reckon_140 : decode cX3_reckon 140 = .ok (.getfield 31, 3) := by decide +kernel
theorem dX3_reckon_143 : decode cX3_reckon 143 = .ok (.iastore, 1) := by decide +kernel
theorem dX3_reckon_144 : decode cX3_reckon 144 = .ok (.aload_n 0, 1) := by decide +kernel
theorem dX3_reckon_145 : decode cX3_reckon 145 = .ok (.getfield 28, 3) := by decide +kernel
theorem dX3_reckon_148 : decode cX3_reckon 148 = .ok (.aload_n 0, 1) := by decide +kernel
theorem dX3_reckon_149 : decode cX3_reckon 149 = .ok (.getfield 25, 3) := by decide +kernel
theorem dX3_reckon_152 : decode cX3_reckon 152 = .ok (.aload_n 0, 1) := by decide +kernel
theorem dX3_reckon_153 : decode cX3_reckon 153 = .ok (.getfield 31, 3) := by decide +kernel
theorem dX3_reckon_156 : decode cX3_reckon 156 = .ok (.iaload, 1) := by decide +kernel
theorem dX3_reckon_157 : decode cX3_reckon 157 = .ok (.iload 5, 2) := by decide +kernel
theorem dX3_reckon_159 : decode cX3_reckon 159 = .ok (.iastore, 1) := by decide +kernel
theorem dX3_reckon_160 : decode cX3_reckon 160 = .ok (.iinc 5 1, 3) := by decide +kernel
theorem dX3_reckon_163 : decode cX3_reckon 163 = .ok (.goto (-80), 3) := by decide +kernel
theorem dX3_reckon_166 : decode cX3_reckon 166 = .ok (.return_, 1) := by decide +kernel
theorem dX3_reckonHeights_0 : decode cX3_reckonHeights 0 = .ok (.aload_n 0, 1) := by decide +kernel
theorem dX3_reckonHeights_1 : decode cX3_reckonHeights 1 = .ok (.getfield 9, 3) := by decide +kernel
theorem dX3_reckonHeights_4 : decode cX3_reckonHeights 4 = .ok (.iconst 0, 1) := by decide +kernel
theorem dX3_reckonHeights_5 : decode cX3_reckonHeights 5 = .ok (.invokestatic 47, 3) := by decide +kernel
theorem dX3_reckonHeights_8 : decode cX3_reckonHeights 8 = .ok (.aload_n 0, 1) := by decide +kernel
theorem dX3_reckonHeights_9 : decode cX3_reckonHeights 9 = .ok (.getfield 15, 3) := by decide +kernel
theorem dX3_reckonHeights_12 : decode cX3_reckonHeights 12 = .ok (.iconst 0, 1) := by decide +kernel
theorem dX3_reckonHeights_13 : decode cX3_reckonHeights 13 = .ok (.invokestatic 47, 3) := by decide +kernel
theorem dX3_reckonHeights_16 : decode cX3_reckonHeights 16 = .ok (.iconst 0, 1) := by decide +kernel
theorem dX3_reckonHeights_17 : decode cX3_reckonHeights 17 = .ok (.istore_n 2, 1) := by decide +kernel
theorem dX3_reckonHeights_18 : decode cX3_reckonHeights 18 = .ok (.iload_n 2, 1) := by decide +kernel
theorem dX3_reckonHeights_19 : decode cX3_reckonHeights 19 = .ok (.aload_n 1, 1) := by decide +kernel
theorem dX3_reckonHeights_20 : decode cX3_reckonHeights 20 = .ok (.getfield 61, 3) := by decide +kernel
theorem dX3_reckonHeights_23 : decode cX3_reckonHeights 23 = .ok (.if_icmp .ge 68, 3) := by decide +kernel
theorem dX3_reckonHeights_26 : decode cX3_reckonHeights 26 = .ok (.iconst 0, 1) := by decide +kernel
theorem dX3_reckonHeights_27 : decode cX3_reckonHeights 27 = .ok (.istore_n 3, 1) := by decide +kernel
theorem dX3_reckonHeights_28 : decode cX3_reckonHeights 28 = .ok (.iload_n 3, 1) := by decide +kernel
theorem dX3_reckonHeights_29 : decode cX3_reckonHeights 29 = .ok (.sipush 240, 3) := by decide +kernel
theorem dX3_reckonHeights_32 : decode cX3_reckonHeights 32 = .ok (.if_icmp .ge 53, 3) := by decide +kernel
theorem dX3_reckonHeights_35 : decode cX3_reckonHeights 35 = .ok (.iload_n 3, 1) := by decide +kernel
theorem dX3_reckonHeights_36 : decode cX3_reckonHeights 36 = .ok (.aload_n 1, 1) := by decide +kernel
theorem dX3_reckonHeights_37 : decode cX3_reckonHeights 37 = .ok (.iload_n 2, 1) := by decide +kernel
theorem dX3_reckonHeights_38 : decode cX3_reckonHeights 38 = .ok (.iconst 2, 1) := by decide +kernel
theorem dX3_reckonHeights_39 : decode cX3_reckonHeights 39 = .ok (.invokevirtual 66, 3) := by decide +kernel
theorem dX3_reckonHeights_42 : decode cX3_reckonHeights 42 = .ok (.aload_n 1, 1) := by decide +kernel
theorem dX3_reckonHeights_43 : decode cX3_reckonHeights 43 = .ok (.iload_n 2, 1) := by decide +kernel
theorem dX3_reckonHeights_44 : decode cX3_reckonHeights 44 = .ok (.iconst 1, 1) := by decide +kernel
theorem dX3_reckonHeights_45 : decode cX3_reckonHeights 45 = .ok (.invokevirtual 66, 3) := by decide +kernel
theorem dX3_reckonHeights_48 : decode cX3_reckonHeights 48 = .ok (.invokestatic 70, 3) := by decide +kernel
theorem dX3_reckonHeights_51 : decode cX3_reckonHeights 51 = .ok (.ifCond .eq 28, 3) := by decide +kernel
theorem dX3_reckonHeights_54 : decode cX3_reckonHeights 54 = .ok (.aload_n 0, 1) := by decide +kernel
theorem dX3_reckonHeights_55 : decode cX3_reckonHeights 55 = .ok (.getfield 9, 3) := by decide +kernel
theorem dX3_reckonHeights_58 : decode cX3_reckonHeights 58 = .ok (.iload_n 3, 1) := by decide +kernel
theorem dX3_reckonHeights_59 : decode cX3_reckonHeights 59 = .ok (.dup2, 1) := by decide +kernel
theorem dX3_reckonHeights_60 : decode cX3_reckonHeights 60 = .ok (.iaload, 1) := by decide +kernel
theorem dX3_reckonHeights_61 : decode cX3_reckonHeights 61 = .ok (.aload_n 1, 1) := by decide +kernel
theorem dX3_reckonHeights_62 : decode cX3_reckonHeights 62 = .ok (.iload_n 2, 1) := by decide +kernel
theorem dX3_reckonHeights_63 : decode cX3_reckonHeights 63 = .ok (.iconst 0, 1) := by decide +kernel
theorem dX3_reckonHeights_64 : decode cX3_reckonHeights 64 = .ok (.invokevirtual 66, 3) := by decide +kernel
theorem dX3_reckonHeights_67 : decode cX3_reckonHeights 67 = .ok (.iadd, 1) := by decide +kernel
theorem dX3_reckonHeights_68 : decode cX3_reckonHeights 68 = .ok (.iastore, 1) := by decide +kernel
theorem dX3_reckonHeights_69 : decode cX3_reckonHeights 69 = .ok (.aload_n 0, 1) := by decide +kernel
theorem dX3_reckonHeights_70 : decode cX3_reckonHeights 70 = .ok (.getfield 15, 3) := by decide +kernel
theorem dX3_reckonHeights_73 : decode cX3_reckonHeights 73 = .ok (.iload_n 3, 1) := by decide +kernel
theorem dX3_reckonHeights_74 : decode cX3_reckonHeights 74 = .ok (.dup2, 1) := by decide +kernel
theorem dX3_reckonHeights_75 : decode cX3_reckonHeights 75 = .ok (.iaload, 1) := by decide +kernel
theorem dX3_reckonHeights_76 : decode cX3_reckonHeights 76 = .ok (.iconst 1, 1) := by decide +kernel
theorem dX3_reckonHeights_77 : decode cX3_reckonHeights 77 = .ok (.iadd, 1) := by decide +kernel
theorem dX3_reckonHeights_78 : decode cX3_reckonHeights 78 = .ok (.iastore, 1) := by decide +kernel
theorem dX3_reckonHeights_79 : decode cX3_reckonHeights 79 = .ok (.iinc 3 1, 3) := by decide +kernel
theorem dX3_reckonHeights_82 : decode cX3_reckonHeights 82 = .ok (.goto (-54), 3) := by decide +kernel
theorem dX3_reckonHeights_85 : decode cX3_reckonHeights 85 = .ok (.iinc 2 1, 3) := by decide +kernel
theorem dX3_reckonHeights_88 : decode cX3_reckonHeights 88 = .ok (.goto (-70), 3) := by decide +kernel
theorem dX3_reckonHeights_91 : decode cX3_reckonHeights 91 = .ok (.return_, 1) := by decide +kernel
theorem dX3_reckonNumbers_0 : decode cX3_reckonNumbers 0 = .ok (.iconst 0, 1) := by decide +kernel
theorem dX3_reckonNumbers_1 : decode cX3_reckonNumbers 1 = .ok (.istore_n 2, 1) := by decide +kernel
theorem dX3_reckonNumbers_2 : decode cX3_reckonNumbers 2 = .ok (.iload_n 2, 1) := by decide +kernel
theorem dX3_reckonNumbers_3 : decode cX3_reckonNumbers 3 = .ok (.sipush 240, 3) := by decide +kernel
theorem dX3_reckonNumbers_6 : decode cX3_reckonNumbers 6 = .ok (.if_icmp .gt 16, 3) := by decide +kernel
theorem dX3_reckonNumbers_9 : decode cX3_reckonNumbers 9 = .ok (.aload_n 0, 1) := by decide +kernel
theorem dX3_reckonNumbers_10 : decode cX3_reckonNumbers 10 = .ok (.getfield 25, 3) := by decide +kernel
theorem dX3_reckonNumbers_13 : decode cX3_reckonNumbers 13 = .ok (.iload_n 2, 1) := by decide +kernel
theorem dX3_reckonNumbers_14 : decode cX3_reckonNumbers 14 = .ok (.iload_n 2, 1) := by decide +kernel
theorem dX3_reckonNumbers_15 : decode cX3_reckonNumbers 15 = .ok (.iastore, 1) := by decide +kernel
theorem dX3_reckonNumbers_16 : decode cX3_reckonNumbers 16 = .ok (.iinc 2 1, 3) := by decide +kernel
theorem dX3_reckonNumbers_19 : decode cX3_reckonNumbers 19 = .ok (.goto (-17), 3) := by decide +kernel
theorem dX3_reckonNumbers_22 : decode cX3_reckonNumbers 22 = .ok (.iconst 0, 1) := by decide +kernel
theorem dX3_reckonNumbers_23 : decode cX3_reckonNumbers 23 = .ok (.istore_n 2, 1) := by decide +kernel
theorem dX3_reckonNumbers_24 : decode cX3_reckonNumbers 24 = .ok (.iload_n 2, 1) := by decide +kernel
theorem dX3_reckonNumbers_25 : decode cX3_reckonNumbers 25 = .ok (.aload_n 1, 1) := by decide +kernel
theorem dX3_reckonNumbers_26 : decode cX3_reckonNumbers 26 = .ok (.getfield 53, 3) := by decide +kernel
theorem dX3_reckonNumbers_29 : decode cX3_reckonNumbers 29 = .ok (.if_icmp .ge 44, 3) := by decide +kernel
theorem dX3_reckonNumbers_32 : decode cX3_reckonNumbers 32 = .ok (.aload_n 1, 1) := by decide +kernel
theorem dX3_reckonNumbers_33 : decode cX3_reckonNumbers 33 = .ok (.getfield 58, 3) := by decide +kernel
theorem dX3_reckonNumbers_36 : decode cX3_reckonNumbers 36 = .ok (.iload_n 2, 1) := by decide +kernel
theorem dX3_reckonNumbers_37 : decode cX3_reckonNumbers 37 = .ok (.iaload, 1) := by decide +kernel
theorem dX3_reckonNumbers_38 : decode cX3_reckonNumbers 38 = .ok (.istore_n 3, 1) := by decide +kernel
theorem dX3_reckonNumbers_39 : decode cX3_reckonNumbers 39 = .ok (.iload_n 3, 1) := by decide +kernel
theorem dX3_reckonNumbers_40 : decode cX3_reckonNumbers 40 = .ok (.sipush 240, 3) := by decide +kernel
theorem dX3_reckonNumbers_43 : decode cX3_reckonNumbers 43 = .ok (.if_icmp .gt 24, 3) := by decide +kernel
theorem dX3_reckonNumbers_46 : decode cX3_reckonNumbers 46 = .ok (.aload_n 0, 1) := by decide +kernel
theorem dX3_reckonNumbers_47 : decode cX3_reckonNumbers 47 = .ok (.getfield 25, 3) := by decide +kernel
theorem dX3_reckonNumbers_50 : decode cX3_reckonNumbers 50 = .ok (.iload_n 3, 1) := by decide +kernel
theorem dX3_reckonNumbers_51 : decode cX3_reckonNumbers 51 = .ok (.dup2, 1) := by decide +kernel
theorem dX3_reckonNumbers_52 : decode cX3_reckonNumbers 52 = .ok (.iaload, 1) := by decide +kernel
theorem dX3_reckonNumbers_53 : decode cX3_reckonNumbers 53 = .ok (.aload_n 1, 1) := by decide +kernel
theorem dX3_reckonNumbers_54 : decode cX3_reckonNumbers 54 = .ok (.getfield 74, 3) := by decide +kernel
theorem dX3_reckonNumbers_57 : decode cX3_reckonNumbers 57 = .ok (.iload_n 2, 1) := by decide +kernel
theorem dX3_reckonNumbers_58 : decode cX3_reckonNumbers 58 = .ok (.iaload, 1) := by decide +kernel
theorem dX3_reckonNumbers_59 : decode cX3_reckonNumbers 59 = .ok (.iadd, 1) := by decide +kernel
theorem dX3_reckonNumbers_60 : decode cX3_reckonNumbers 60 = .ok (.iastore, 1) := by decide +kernel
theorem dX3_reckonNumbers_61 : decode cX3_reckonNumbers 61 = .ok (.iinc 3 1, 3) := by decide +kernel
theorem dX3_reckonNumbers_64 : decode cX3_reckonNumbers 64 = .ok (.goto (-25), 3) := by decide +kernel
theorem dX3_reckonNumbers_67 : decode cX3_reckonNumbers 67 = .ok (.iinc 2 1, 3) := by decide +kernel
theorem dX3_reckonNumbers_70 : decode cX3_reckonNumbers 70 = .ok (.goto (-46), 3) := by decide +kernel
theorem dX3_reckonNumbers_73 : decode cX3_reckonNumbers 73 = .ok (.return_, 1) := by decide +kernel
theorem dX4_init_0 : decode cX4_init 0 = .ok (.aload_n 0, 1) := by decide +kernel
theorem dX4_init_1 : decode cX4_init 1 = .ok (.invokespecial 1, 3) := by decide +kernel
theorem dX4_init_4 : decode cX4_init 4 = .ok (.aload_n 0, 1) := by decide +kernel
theorem dX4_init_5 : decode cX4_init 5 = .ok (.new 7, 3) := by decide +kernel
theorem dX4_init_8 : decode cX4_init 8 = .ok (.dup, 1) := by decide +kernel
theorem dX4_init_9 : decode cX4_init 9 = .ok (.bipush 35, 2) := by decide +kernel
theorem dX4_init_11 : decode cX4_init 11 = .ok (.getstatic 9, 3) := by decide +kernel
theorem dX4_init_14 : decode cX4_init 14 = .ok (.getstatic 15, 3) := by decide +kernel
theorem dX4_init_17 : decode cX4_init 17 = .ok (.invokespecial 18, 3) := by decide +kernel
theorem dX4_init_20 : decode cX4_init 20 = .ok (.putfield 21, 3) := by decide +kernel
theorem dX4_init_23 : decode cX4_init 23 = .ok (.aload_n 0, 1) := by decide +kernel
theorem dX4_init_24 : decode cX4_init 24 = .ok (.new 7, 3) := by decide +kernel
theorem dX4_init_27 : decode cX4_init 27 = .ok (.dup, 1) := by decide +kernel
theorem dX4_init_28 : decode cX4_init 28 = .ok (.bipush 47, 2) := by decide +kernel
theorem dX4_init_30 : decode cX4_init 30 = .ok (.getstatic 25, 3) := by decide +kernel
theorem dX4_init_33 : decode cX4_init 33 = .ok (.getstatic 28, 3) := by decide +kernel
theorem dX4_init_36 : decode cX4_init 36 = .ok (.invokespecial 18, 3) := by decide +kernel
theorem dX4_init_39 : decode cX4_init 39 = .ok (.putfield 31, 3) := by decide +kernel
theorem dX4_init_42 : decode cX4_init 42 = .ok (.aload_n 0, 1) := by decide +kernel
theorem dX4_init_43 : decode cX4_init 43 = .ok (.new 34, 3) := by decide +kernel
theorem dX4_init_46 : decode cX4_init 46 = .ok (.dup, 1) := by decide +kernel
theorem dX4_init_47 : decode cX4_init 47 = .ok (.bipush 12, 2) := by decide +kernel
theorem dX4_init_49 : decode cX4_init 49 = .ok (.invokespecial 36, 3) := by decide +kernel
theorem dX4_init_52 : decode cX4_init 52 = .ok (.putfield 39, 3) := by decide +kernel
theorem dX4_init_55 : decode cX4_init 55 = .ok (.aload_n 0, 1) := by decide +kernel
theorem dX4_init_56 : decode cX4_init 56 = .ok (.new 34, 3) := by decide +kernel
theorem dX4_init_59 : decode cX4_init 59 = .ok (.dup, 1) := by decide +kernel
theorem dX4_init_60 : decode cX4_init 60 = .ok (.bipush 8, 2) := by decide +kernel
theorem dX4_init_62 : decode cX4_init 62 = .ok (.invokespecial 36, 3) := by decide +kernel
theorem dX4_init_65 : decode cX4_init 65 = .ok (.putfield 43, 3) := by decide +kernel
theorem dX4_init_68 : decode cX4_init 68 = .ok (.aload_n 0, 1) := by decide +kernel
theorem dX4_init_69 : decode cX4_init 69 = .ok (.new 34, 3) := by decide +kernel
theorem dX4_init_72 : decode cX4_init 72 = .ok (.dup, 1) := by decide +kernel
theorem dX4_init_73 : decode cX4_init 73 = .ok (.bipush 12, 2) := by decide +kernel
theorem dX4_init_75 : decode cX4_init 75 = .ok (.invokespecial 36, 3) := by decide +kernel
theorem dX4_init_78 : decode cX4_init 78 = .ok (.putfield 46, 3) := by decide +kernel
theorem dX4_init_81 : decode cX4_init 81 = .ok (.aload_n 0, 1) := by decide +kernel
theorem dX4_init_82 : decode cX4_init 82 = .ok (.new 34, 3) := by decide +kernel
theorem dX4_init_85 : decode cX4_init 85 = .ok (.dup, 1) := by decide +kernel
theorem dX4_init_86 : decode cX4_init 86 = .ok (.bipush 8, 2) := by decide +kernel
theorem dX4_init_88 : decode cX4_init 88 = .ok (.invokespecial 36, 3) := by decide +kernel
theorem dX4_init_91 : decode cX4_init 91 = .ok (.putfield 49, 3) := by decide +kernel
theorem dX4_init_94 : decode cX4_init 94 = .ok (.aload_n 0, 1) := by decide +kernel
theorem dX4_init_95 : decode cX4_init 95 = .ok (.new 52, 3) := by decide +kernel
theorem dX4_init_98 : decode cX4_init 98 = .ok (.dup, 1) := by decide +kernel
theorem dX4_init_99 : decode cX4_init 99 = .ok (.invokespecial 54, 3) := by decide +kernel
theorem dX4_init_102 : decode cX4_init 102 = .ok (.putfield 55, 3) := by decide +kernel
theorem dX4_init_105 : decode cX4_init 105 = .ok (.aload_n 0, 1) := by decide +kernel
theorem dX4_init_106 : decode cX4_init 106 = .ok (.iconst 4, 1) := by decide +kernel
theorem dX4_init_107 : decode cX4_init 107 = .ok (.anewarray 59, 3) := by decide +kernel
theorem dX4_init_110 : decode cX4_init 110 = .ok (.putfield 61, 3) := by decide +kernel
theorem dX4_init_113 : decode cX4_init 113 = .ok (.iconst 0, 1) := by decide +kernel
theorem dX4_init_114 : decode cX4_init 114 = .ok (.istore_n 1, 1) := by decide +kernel
theorem dX4_init_115 : decode cX4_init 115 = .ok (.iload_n 1, 1) := by decide +kernel
theorem dX4_init_116 : decode cX4_init 116 = .ok (.iconst 4, 1) := by decide +kernel
theorem dX4_init_117 : decode cX4_init 117 = .ok (.if_icmp .ge 22, 3) := by decide +kernel
theorem dX4_init_120 : decode cX4_init 120 = .ok (.aload_n 0, 1) := by decide +kernel
theorem dX4_init_121 : decode cX4_init 121 = .ok (.getfield 61, 3) := by decide +kernel
theorem dX4_init_124 : decode cX4_init 124 = .ok (.iload_n 1, 1) := by decide +kernel
theorem dX4_init_125 : decode cX4_init 125 = .ok (.new 59, 3) := by decide +kernel
theorem dX4_init_128 : decode cX4_init 128 = .ok (.dup, 1) := by decide +kernel
theorem dX4_init_129 : decode cX4_init 129 = .ok (.invokespecial 65, 3) := by decide +kernel
theorem dX4_init_132 : decode cX4_init 132 = .ok (.aastore, 1) := by decide +kernel
theorem dX4_init_133 : decode cX4_init 133 = .ok (.iinc 1 1, 3) := by decide +kernel
theorem dX4_init_136 : decode cX4_init 136 = .ok (.goto (-21), 3) := by decide +kernel
theorem dX4_init_139 : decode cX4_init 139 = .ok (.aload_n 0, 1) := by decide +kernel
theorem dX4_init_140 : decode cX4_init 140 = .ok (.sipush 240, 3) := by decide +kernel
theorem dX4_init_143 : decode cX4_init 143 = .ok (.newarray .int, 2) := by decide +kernel
theorem dX4_init_145 : decode cX4_init 145 = .ok (.putfield 66, 3) := by decide +kernel
theorem dX4_init_148 : decode cX4_init 148 = .ok (.aload_n 0, 1) := by decide +kernel
theorem dX4_init_149 : decode cX4_init 149 = .ok (.bipush 13, 2) := by decide +kernel
theorem dX4_init_151 : decode cX4_init 151 = .ok (.newarray .long, 2) := by decide +kernel
theorem dX4_init_153 : decode cX4_init 153 = .ok (.putfield 69, 3) := by decide +kernel
theorem dX4_init_156 : decode cX4_init 156 = .ok (.aload_n 0, 1) := by decide +kernel
theorem dX4_init_157 : decode cX4_init 157 = .ok (.iconst 0, 1) := by decide +kernel
theorem dX4_init_158 : decode cX4_init 158 = .ok (.putfield 73, 3) := by decide +kernel
theorem dX4_init_161 : decode cX4_init 161 = .ok (.aload_n 0, 1) := by decide +kernel
theorem dX4_init_162 : decode cX4_init 162 = .ok (.iconst 0, 1) := by decide +kernel
theorem dX4_init_163 : decode cX4_init 163 = .ok (.putfield 77, 3) := by decide +kernel
theorem dX4_init_166 : decode cX4_init 166 = .ok (.aload_n 0, 1) := by decide +kernel
theorem dX4_init_167 : decode cX4_init 167 = .ok (.iconst 0, 1) := by decide +kernel
theorem dX4_init_168 : decode cX4_init 168 = .ok (.putfield 80, 3) := by decide +kernel
theorem dX4_init_171 : decode cX4_init 171 = .ok (.return_, 1) := by decide +kernel
theorem dX4_type_0 : decode cX4_type 0 = .ok (.iload_n 1, 1) := by decide +kernel
theorem dX4_type_1 : decode cX4_type 1 = .ok (.iconst 2, 1) := by decide +kernel
theorem dX4_type_2 : decode cX4_type 2 = .ok (.invokestatic 84, 3) := by decide +kernel
theorem dX4_type_5 : decode cX4_type 5 = .ok (.ifCond .eq 13, 3) := by decide +kernel
theorem dX4_type_8 : decode cX4_type 8 = .ok (.iload_n 2, 1) := by decide +kernel
theorem dX4_type_9 : decode cX4_type 9 = .ok (.sipush 256, 3) := by decide +kernel
theorem dX4_type_12 : decode cX4_type 12 = .ok (.invokestatic 84, 3) := by decide +kernel
theorem dX4_type_15 : decode cX4_type 15 = .ok (.ifCond .ne 6, 3) := by decide +kernel
theorem dX4_type_18 : decode cX4_type 18 = .ok (.bipush (-2), 2) := by decide +kernel
theorem dX4_type_20 : decode cX4_type 20 = .ok (.ireturn, 1) := by decide +kernel
theorem dX4_type_21 : decode cX4_type 21 = .ok (.aload_n 0, 1) := by decide +kernel
theorem dX4_type_22 : decode cX4_type 22 = .ok (.iload_n 1, 1) := by decide +kernel
theorem dX4_type_23 : decode cX4_type 23 = .ok (.invokevirtual 88, 3) := by decide +kernel
theorem dX4_type_26 : decode cX4_type 26 = .ok (.astore_n 3, 1) := by decide +kernel
theorem dX4_type_27 : decode cX4_type 27 = .ok (.aload_n 3, 1) := by decide +kernel
theorem dX4_type_28 : decode cX4_type 28 = .ok (.iload_n 2, 1) := by decide +kernel
theorem dX4_type_29 : decode cX4_type 29 = .ok (.invokevirtual 92, 3) := by decide +kernel
theorem dX4_type_32 : decode cX4_type 32 = .ok (.ifCond .ne 6, 3) := by decide +kernel
theorem dX4_type_35 : decode cX4_type 35 = .ok (.bipush (-4), 2) := by decide +kernel
theorem dX4_type_37 : decode cX4_type 37 = .ok (.ireturn, 1) := by decide +kernel
theorem dX4_type_38 : decode cX4_type 38 = .ok (.aload_n 0, 1) := by decide +kernel
theorem dX4_type_39 : decode cX4_type 39 = .ok (.iconst 0, 1) := by decide +kernel
theorem dX4_type_40 : decode cX4_type 40 = .ok (.putfield 80, 3) := by decide +kernel
theorem dX4_type_43 : decode cX4_type 43 = .ok (.aload_n 3, 1) := by decide +kernel
theorem dX4_type_44 : decode cX4_type 44 = .ok (.getfield 96, 3) := by decide +kernel
theorem dX4_type_47 : decode cX4_type 47 = .ok (.ireturn, 1) := by decide +kernel
theorem dX4_wipe_0 : decode cX4_wipe 0 = .ok (.iload_n 1, 1) := by decide +kernel
theorem dX4_wipe_1 : decode cX4_wipe 1 = .ok (.iconst 2, 1) := by decide +kernel
theorem dX4_wipe_2 : decode cX4_wipe 2 = .ok (.invokestatic 84, 3) := by decide +kernel
theorem dX4_wipe_5 : decode cX4_wipe 5 = .ok (.ifCond .ne 6, 3) := by decide +kernel
theorem dX4_wipe_8 : decode cX4_wipe 8 = .ok (.bipush (-2), 2) := by decide +kernel
theorem dX4_wipe_10 : decode cX4_wipe 10 = .ok (.ireturn, 1) := by decide +kernel
theorem dX4_wipe_11 : decode cX4_wipe 11 = .ok (.aload_n 0, 1) := by decide +kernel
theorem dX4_wipe_12 : decode cX4_wipe 12 = .ok (.iload_n 1, 1) := by decide +kernel
theorem dX4_wipe_13 : decode cX4_wipe 13 = .ok (.invokevirtual 88, 3) := by decide +kernel
theorem dX4_wipe_16 : decode cX4_wipe 16 = .ok (.astore_n 2, 1) := by decide +kernel
theorem dX4_wipe_17 : decode cX4_wipe 17 = .ok (.aload_n 2, 1) := by decide +kernel
theorem dX4_wipe_18 : decode cX4_wipe 18 = .ok (.getfield 96, 3) := by decide +kernel
theorem dX4_wipe_21 : decode cX4_wipe 21 = .ok (.istore_n 3, 1) := by decide +kernel
theorem dX4_wipe_22 : decode cX4_wipe 22 = .ok (.aload_n 2, 1) := by decide +kernel
theorem dX4_wipe_23 : decode cX4_wipe 23 = .ok (.iconst 0, 1) := by decide +kernel
theorem dX4_wipe_24 : decode cX4_wipe 24 = .ok (.invokevirtual 99, 3) := by decide +kernel
theorem dX4_wipe_27 : decode cX4_wipe 27 = .ok (.aload_n 0, 1) := by decide +kernel
theorem dX4_wipe_28 : decode cX4_wipe 28 = .ok (.iconst 0, 1) := by decide +kernel
theorem dX4_wipe_29 : decode cX4_wipe 29 = .ok (.putfield 80, 3) := by decide +kernel
theorem dX4_wipe_32 : decode cX4_wipe 32 = .ok (.iload_n 3, 1) := by decide +kernel
theorem dX4_wipe_33 : decode cX4_wipe 33 = .ok (.ireturn, 1) := by decide +kernel
theorem dX4_undo_0 : decode cX4_undo 0 = .ok (.iload_n 1, 1) := by decide +kernel
theorem dX4_undo_1 : decode cX4_undo 1 = .ok (.iconst 2, 1) := by decide +kernel
theorem dX4_undo_2 : decode cX4_undo 2 = .ok (.invokestatic 84, 3) := by decide +kernel
theorem dX4_undo_5 : decode cX4_undo 5 = .ok (.ifCond .ne 6, 3) := by decide +kernel
theorem dX4_undo_8 : decode cX4_undo 8 = .ok (.bipush (-2), 2) := by decide +kernel
theorem dX4_undo_10 : decode cX4_undo 10 = .ok (.ireturn, 1) := by decide +kernel
theorem dX4_undo_11 : decode cX4_undo 11 = .ok (.aload_n 0, 1) := by decide +kernel
theorem dX4_undo_12 : decode cX4_undo 12 = .ok (.iload_n 1, 1) := by decide +kernel
theorem dX4_undo_13 : decode cX4_undo 13 = .ok (.invokevirtual 88, 3) := by decide +kernel
theorem dX4_undo_16 : decode cX4_undo 16 = .ok (.astore_n 2, 1) := by decide +kernel
theorem dX4_undo_17 : decode cX4_undo 17 = .ok (.aload_n 2, 1) := by decide +kernel
theorem dX4_undo_18 : decode cX4_undo 18 = .ok (.getfield 96, 3) := by decide +kernel
theorem dX4_undo_21 : decode cX4_undo 21 = .ok (.ifCond .ne 6, 3) := by decide +kernel
theorem dX4_undo_24 : decode cX4_undo 24 = .ok (.bipush (-3), 2) := by decide +kernel
theorem dX4_undo_26 : decode cX4_undo 26 = .ok (.ireturn, 1) := by decide +kernel
theorem dX4_undo_27 : decode cX4_undo 27 = .ok (.aload_n 2, 1) := by decide +kernel
theorem dX4_undo_28 : decode cX4_undo 28 = .ok (.aload_n 2, 1) := by decide +kernel
theorem dX4_undo_29 : decode cX4_undo 29 = .ok (.getfield 96, 3) := by decide +kernel
theorem dX4_undo_32 : decode cX4_undo 32 = .ok (.iconst 1, 1) := by decide +kernel
theorem dX4_undo_33 : decode cX4_undo 33 = .ok (.isub, 1) := by decide +kernel
theorem dX4_undo_34 : decode cX4_undo 34 = .ok (.invokevirtual 99, 3) := by decide +kernel
theorem dX4_undo_37 : decode cX4_undo 37 = .ok (.aload_n 0, 1) := by decide +kernel
theorem dX4_undo_38 : decode cX4_undo 38 = .ok (.iconst 0, 1) := by decide +kernel
theorem dX4_undo_39 : decode cX4_undo 39 = .ok (.putfield 80, 3) := by decide +kernel
theorem dX4_undo_42 : decode cX4_undo 42 = .ok (.aload_n 2, 1) := by decide +kernel
theorem dX4_undo_43 : decode cX4_undo 43 = .ok (.getfield 96, 3) := by decide +kernel
theorem dX4_undo_46 : decode cX4_undo 46 = .ok (.ireturn, 1) := by decide +kernel
theorem dX4_fault_0 : decode cX4_fault 0 = .ok (.iload_n 1, 1) := by decide +kernel
theorem dX4_fault_1 : decode cX4_fault 1 = .ok (.iconst 2, 1) := by decide +kernel
theorem dX4_fault_2 : decode cX4_fault 2 = .ok (.invokestatic 84, 3) := by decide +kernel
theorem dX4_fault_5 : decode cX4_fault 5 = .ok (.ifCond .eq 14, 3) := by decide +kernel
theorem dX4_fault_8 : decode cX4_fault 8 = .ok (.aload_n 0, 1) := by decide +kernel
theorem dX4_fault_9 : decode cX4_fault 9 = .ok (.iload_n 1, 1) := by decide +kernel
theorem dX4_fault_10 : decode cX4_fault 10 = .ok (.invokevirtual 88, 3) := by decide +kernel
theorem dX4_fault_13 : decode cX4_fault 13 = .ok (.getfield 102, 3) := by decide +kernel
theorem dX4_fault_16 : decode cX4_fault 16 = .ok (.goto 5, 3) := by decide +kernel
theorem dX4_fault_19 : decode cX4_fault 19 = .ok (.bipush (-2), 2) := by decide +kernel
theorem dX4_fault_21 : decode cX4_fault 21 = .ok (.ireturn, 1) := by decide +kernel
theorem dX4_swell_0 : decode cX4_swell 0 = .ok (.aload_n 0, 1) := by decide +kernel
theorem dX4_swell_1 : decode cX4_swell 1 = .ok (.getfield 21, 3) := by decide +kernel
theorem dX4_swell_4 : decode cX4_swell 4 = .ok (.iload_n 1, 1) := by decide +kernel
theorem dX4_swell_5 : decode cX4_swell 5 = .ok (.iload_n 2, 1) := by decide +kernel
theorem dX4_swell_6 : decode cX4_swell 6 = .ok (.invokestatic 105, 3) := by decide +kernel
theorem dX4_swell_9 : decode cX4_swell 9 = .ok (.ireturn, 1) := by decide +kernel
theorem dX4_find_0 : decode cX4_find 0 = .ok (.aload_n 0, 1) := by decide +kernel
theorem dX4_find_1 : decode cX4_find 1 = .ok (.getfield 31, 3) := by decide +kernel
theorem dX4_find_4 : decode cX4_find 4 = .ok (.iload_n 1, 1) := by decide +kernel
theorem dX4_find_5 : decode cX4_find 5 = .ok (.iload_n 2, 1) := by decide +kernel
theorem dX4_find_6 : decode cX4_find 6 = .ok (.invokestatic 105, 3) := by decide +kernel
theorem dX4_find_9 : decode cX4_find 9 = .ok (.ireturn, 1) := by decide +kernel
theorem dX4_depth_0 : decode cX4_depth 0 = .ok (.iload_n 1, 1) := by decide +kernel
theorem dX4_depth_1 : decode cX4_depth 1 = .ok (.iconst 0, 1) := by decide +kernel
theorem dX4_depth_2 : decode cX4_depth 2 = .ok (.bipush 55, 2) := by decide +kernel
theorem dX4_depth_4 : decode cX4_depth 4 = .ok (.invokestatic 109, 3) := by decide +kernel
theorem dX4_depth_7 : decode cX4_depth 7 = .ok (.ifCond .ne 6, 3) := by decide +kernel
theorem dX4_depth_10 : decode cX4_depth 10 = .ok (.bipush (-2), 2) := by decide +kernel
theorem dX4_depth_12 : decode cX4_depth 12 = .ok (.ireturn, 1) := by decide +kernel
theorem dX4_depth_13 : decode cX4_depth 13 = .ok (.aload_n 0, 1) := by decide +kernel
theorem dX4_depth_14 : decode cX4_depth 14 = .ok (.getfield 73, 3) := by decide +kernel
theorem dX4_depth_17 : decode cX4_depth 17 = .ok (.istore_n 2, 1) := by decide +kernel
theorem dX4_depth_18 : decode cX4_depth 18 = .ok (.aload_n 0, 1) := by decide +kernel
theorem dX4_depth_19 : decode cX4_depth 19 = .ok (.iload_n 1, 1) := by decide +kernel
theorem dX4_depth_20 : decode cX4_depth 20 = .ok (.putfield 73, 3) := by decide +kernel
theorem dX4_depth_23 : decode cX4_depth 23 = .ok (.aload_n 0, 1) := by decide +kernel
theorem dX4_depth_24 : decode cX4_depth 24 = .ok (.iconst 0, 1) := by decide +kernel
theorem dX4_depth_25 : decode cX4_depth 25 = .ok (.putfield 80, 3) := by decide +kernel
theorem dX4_depth_28 : decode cX4_depth 28 = .ok (.iload_n 2, 1) := by decide +kernel
theorem dX4_depth_29 : decode cX4_depth 29 = .ok (.ireturn, 1) := by decide +kernel
theorem dX4_slip_0 : decode cX4_slip 0 = .ok (.iload_n 1, 1) := by decide +kernel
theorem dX4_slip_1 : decode cX4_slip 1 = .ok (.iconst 1, 1) := by decide +kernel
theorem dX4_slip_2 : decode cX4_slip 2 = .ok (.sipush 240, 3) := by decide +kernel
theorem dX4_slip_5 : decode cX4_slip 5 = .ok (.invokestatic 109, 3) := by decide +kernel
theorem dX4_slip_8 : decode cX4_slip 8 = .ok (.ifCond .eq 13, 3) := by decide +kernel
theorem dX4_slip_11 : decode cX4_slip 11 = .ok (.iload_n 2, 1) := by decide +kernel
theorem dX4_slip_12 : decode cX4_slip 12 = .ok (.iconst 1, 1) := by decide +kernel
theorem dX4_slip_13 : decode cX4_slip 13 = .ok (.bipush 11, 2) := by decide +kernel
theorem dX4_slip_15 : decode cX4_slip 15 = .ok (.invokestatic 109, 3) := by decide +kernel
theorem dX4_slip_18 : decode cX4_slip 18 = .ok (.ifCond .ne 6, 3) := by decide +kernel
theorem dX4_slip_21 : decode cX4_slip 21 = .ok (.bipush (-2), 2) := by decide +kernel
theorem dX4_slip_23 : decode cX4_slip 23 = .ok (.ireturn, 1) := by decide +kernel
theorem dX4_slip_24 : decode cX4_slip 24 = .ok (.aload_n 0, 1) := by decide +kernel
theorem dX4_slip_25 : decode cX4_slip 25 = .ok (.aload_n 0, 1) := by decide +kernel
theorem dX4_slip_26 : decode cX4_slip 26 = .ok (.getfield 39, 3) := by decide +kernel
theorem dX4_slip_29 : decode cX4_slip 29 = .ok (.iload_n 1, 1) := by decide +kernel
theorem dX4_slip_30 : decode cX4_slip 30 = .ok (.iload_n 2, 1) := by decide +kernel
theorem dX4_slip_31 : decode cX4_slip 31 = .ok (.invokevirtual 113, 3) := by decide +kernel
theorem dX4_slip_34 : decode cX4_slip 34 = .ok (.ireturn, 1) := by decide +kernel
theorem dX4_wake_0 : decode cX4_wake 0 = .ok (.iload_n 1, 1) := by decide +kernel
theorem dX4_wake_1 : decode cX4_wake 1 = .ok (.invokestatic 117, 3) := by decide +kernel
theorem dX4_wake_4 : decode cX4_wake 4 = .ok (.ifCond .eq 16, 3) := by decide +kernel
theorem dX4_wake_7 : decode cX4_wake 7 = .ok (.aload_n 0, 1) := by decide +kernel
theorem dX4_wake_8 : decode cX4_wake 8 = .ok (.aload_n 0, 1) := by decide +kernel
theorem dX4_wake_9 : decode cX4_wake 9 = .ok (.getfield 43, 3) := by decide +kernel
theorem dX4_wake_12 : decode cX4_wake 12 = .ok (.iload_n 1, 1) := by decide +kernel
theorem dX4_wake_13 : decode cX4_wake 13 = .ok (.iconst 0, 1) := by decide +kernel
theorem dX4_wake_14 : decode cX4_wake 14 = .ok (.invokevirtual 113, 3) := by decide +kernel
theorem dX4_wake_17 : decode cX4_wake 17 = .ok (.goto 5, 3) := by decide +kernel
theorem dX4_wake_20 : decode cX4_wake 20 = .ok (.bipush (-2), 2) := by decide +kernel
theorem dX4_wake_22 : decode cX4_wake 22 = .ok (.ireturn, 1) := by decide +kernel
theorem dX4_ticket_0 : decode cX4_ticket 0 = .ok (.iload_n 1, 1) := by decide +kernel
theorem dX4_ticket_1 : decode cX4_ticket 1 = .ok (.iload_n 2, 1) := by decide +kernel
theorem dX4_ticket_2 : decode cX4_ticket 2 = .ok (.invokestatic 120, 3) := by decide +kernel
theorem dX4_ticket_5 : decode cX4_ticket 5 = .ok (.ifCond .eq 16, 3) := by decide +kernel
theorem dX4_ticket_8 : decode cX4_ticket 8 = .ok (.aload_n 0, 1) := by decide +kernel
theorem dX4_ticket_9 : decode cX4_ticket 9 = .ok (.aload_n 0, 1) := by decide +kernel
theorem dX4_ticket_10 : decode cX4_ticket 10 = .ok (.getfield 46, 3) := by decide +kernel
theorem dX4_ticket_13 : decode cX4_ticket 13 = .ok (.iload_n 1, 1) := by decide +kernel
theorem dX4_ticket_14 : decode cX4_ticket 14 = .ok (.iload_n 2, 1) := by decide +kernel
theorem dX4_ticket_15 : decode cX4_ticket 15 = .ok (.invokevirtual 113, 3) := by decide +kernel
theorem dX4_ticket_18 : decode cX4_ticket 18 = .ok (.goto 5, 3) := by decide +kernel
theorem dX4_ticket_21 : decode cX4_ticket 21 = .ok (.bipush (-2), 2) := by decide +kernel
theorem dX4_ticket_23 : decode cX4_ticket 23 = .ok (.ireturn, 1) := by decide +kernel
theorem dX4_back_0 : decode cX4_back 0 = .ok (.iload_n 1, 1) := by decide +kernel
theorem dX4_back_1 : decode cX4_back 1 = .ok (.iconst 3, 1) := by decide +kernel
theorem dX4_back_2 : decode cX4_back 2 = .ok (.invokestatic 84, 3) := by decide +kernel
theorem dX4_back_5 : decode cX4_back 5 = .ok (.ifCond .ne 6, 3) := by decide +kernel
theorem dX4_back_8 : decode cX4_back 8 = .ok (.bipush (-2), 2) := by decide +kernel
theorem dX4_back_10 : decode cX4_back 10 = .ok (.ireturn, 1) := by decide +kernel
theorem dX4_back_11 : decode cX4_back 11 = .ok (.iload_n 1, 1) := by decide +kernel
theorem dX4_back_12 : decode cX4_back 12 = .ok (.ifCond .ne 10, 3) := by decide +kernel
theorem dX4_back_15 : decode cX4_back 15 = .ok (.aload_n 0, 1) := by decide +kernel
theorem dX4_back_16 : decode cX4_back 16 = .ok (.getfield 39, 3) := by decide +kernel
theorem dX4_back_19 : decode cX4_back 19 = .ok (.goto 19, 3) := by decide +kernel
theorem dX4_back_22 : decode cX4_back 22 = .ok (.iload_n 1, 1) := by decide +kernel
theorem dX4_back_23 : decode cX4_back 23 = .ok (.iconst 1, 1) := by decide +kernel
theorem dX4_back_24 : decode cX4_back 24 = .ok (.if_icmp .ne 10, 3) := by decide +kernel
theorem dX4_back_27 : decode cX4_back 27 = .ok (.aload_n 0, 1) := by decide +kernel
theorem dX4_back_28 : decode cX4_back 28 = .ok (.getfield 43, 3) := by decide +kernel
theorem dX4_back_31 : decode cX4_back 31 = .ok (.goto 7, 3) := by decide +kernel
theorem dX4_back_34 : decode cX4_back 34 = .ok (.aload_n 0, 1) := by decide +kernel
theorem dX4_back_35 : decode cX4_back 35 = .ok (.getfield 46, 3) := by decide +kernel
theorem dX4_back_38 : decode cX4_back 38 = .ok (.astore_n 2, 1) := by decide +kernel
theorem dX4_back_39 : decode cX4_back 39 = .ok (.aload_n 2, 1) := by decide +kernel
theorem dX4_back_40 : decode cX4_back 40 = .ok (.invokevirtual 123, 3) := by decide +kernel
theorem dX4_back_43 : decode cX4_back 43 = .ok (.ifCond .ne 6, 3) := by decide +kernel
theorem dX4_back_46 : decode cX4_back 46 = .ok (.bipush (-3), 2) := by decide +kernel
theorem dX4_back_48 : decode cX4_back 48 = .ok (.ireturn, 1) := by decide +kernel
theorem dX4_back_49 : decode cX4_back 49 = .ok (.aload_n 0, 1) := by decide +kernel
theorem dX4_back_50 : decode cX4_back 50 = .ok (.iconst 0, 1) := by decide +kernel
theorem dX4_back_51 : decode cX4_back 51 = .ok (.putfield 80, 3) := by decide +kernel
theorem dX4_back_54 : decode cX4_back 54 = .ok (.aload_n 2, 1) := by decide +kernel
theorem dX4_back_55 : decode cX4_back 55 = .ok (.getfield 127, 3) := by decide +kernel
theorem dX4_back_58 : decode cX4_back 58 = .ok (.ireturn, 1) := by decide +kernel
theorem dX4_read_0 : decode cX4_read 0 = .ok (.aload_n 0, 1) := by decide +kernel
theorem dX4_read_1 : decode cX4_read 1 = .ok (.iload_n 1, 1) := by decide +kernel
theorem dX4_read_2 : decode cX4_read 2 = .ok (.invokevirtual 130, 3) := by decide +kernel
theorem dX4_read_5 : decode cX4_read 5 = .ok (.istore_n 2, 1) := by decide +kernel
theorem dX4_read_6 : decode cX4_read 6 = .ok (.iload_n 2, 1) := by decide +kernel
theorem dX4_read_7 : decode cX4_read 7 = .ok (.ifCond .eq 5, 3) := by decide +kernel
theorem dX4_read_10 : decode cX4_read 10 = .ok (.iload_n 2, 1) := by decide +kernel
theorem dX4_read_11 : decode cX4_read 11 = .ok (.ireturn, 1) := by decide +kernel
theorem dX4_read_12 : decode cX4_read 12 = .ok (.aload_n 0, 1) := by decide +kernel
theorem dX4_read_13 : decode cX4_read 13 = .ok (.getfield 61, 3) := by decide +kernel
theorem dX4_read_16 : decode cX4_read 16 = .ok (.iload_n 1, 1) := by decide +kernel
theorem dX4_read_17 : decode cX4_read 17 = .ok (.aaload, 1) := by decide +kernel
theorem dX4_read_18 : decode cX4_read 18 = .ok (.astore_n 3, 1) := by decide +kernel
theorem dX4_read_19 : decode cX4_read 19 = .ok (.iconst 0, 1) := by decide +kernel
theorem dX4_read_20 : decode cX4_read 20 = .ok (.istore 4, 2) := by decide +kernel
theorem dX4_read_22 : decode cX4_read 22 = .ok (.iconst 0, 1) := by decide +kernel
theorem dX4_read_23 : decode cX4_read 23 = .ok (.istore 5, 2) := by decide +kernel
theorem dX4_read_25 : decode cX4_read 25 = .ok (.iload 5, 2) := by decide +kernel
theorem dX4_read_27 : decode cX4_read 27 = .ok (.iconst 1, 1) := by decide +kernel
theorem dX4_read_28 : decode cX4_read 28 = .ok (.iadd, 1) := by decide +kernel
theorem dX4_read_29 : decode cX4_read 29 = .ok (.aload_n 3, 1) := by decide +kernel
theorem dX4_read_30 : decode cX4_read 30 = .ok (.getfield 134, 3) := by decide +kernel
theorem dX4_read_33 : decode cX4_read 33 = .ok (.if_icmp .ge 59, 3) := by decide +kernel
theorem dX4_read_36 : decode cX4_read 36 = .ok (.aload_n 3, 1) := by decide +kernel
theorem dX4_read_37 : decode cX4_read 37 = .ok (.getfield 135, 3) := by decide +kernel
theorem dX4_read_40 : decode cX4_read 40 = .ok (.iload 5, 2) := by decide +kernel
theorem dX4_read_42 : decode cX4_read 42 = .ok (.iaload, 1) := by decide +kernel
theorem dX4_read_43 : decode cX4_read 43 = .ok (.istore 6, 2) := by decide +kernel
theorem dX4_read_45 : decode cX4_read 45 = .ok (.aload_n 3, 1) := by decide +kernel
theorem dX4_read_46 : decode cX4_read 46 = .ok (.getfield 135, 3) := by decide +kernel
theorem dX4_read_49 : decode cX4_read 49 = .ok (.iload 5, 2) := by decide +kernel
theorem dX4_read_51 : decode cX4_read 51 = .ok (.iconst 1, 1) := by decide +kernel
theorem dX4_read_52 : decode cX4_read 52 = .ok (.iadd, 1) := by decide +kernel
theorem dX4_read_53 : decode cX4_read 53 = .ok (.iaload, 1) := by decide +kernel
theorem dX4_read_54 : decode cX4_read 54 = .ok (.istore 7, 2) := by decide +kernel
theorem dX4_read_56 : decode cX4_read 56 = .ok (.iload 6, 2) := by decide +kernel
theorem dX4_read_58 : decode cX4_read 58 = .ok (.iload 7, 2) := by decide +kernel
theorem dX4_read_60 : decode cX4_read 60 = .ok (.invokestatic 120, 3) := by decide +kernel
theorem dX4_read_63 : decode cX4_read 63 = .ok (.ifCond .eq 29, 3) := by decide +kernel
theorem dX4_read_66 : decode cX4_read 66 = .ok (.aload_n 0, 1) := by decide +kernel
theorem dX4_read_67 : decode cX4_read 67 = .ok (.getfield 46, 3) := by decide +kernel
theorem dX4_read_70 : decode cX4_read 70 = .ok (.iload 6, 2) := by decide +kernel
theorem dX4_read_72 : decode cX4_read 72 = .ok (.iload 7, 2) := by decide +kernel
theorem dX4_read_74 : decode cX4_read 74 = .ok (.invokevirtual 138, 3) := by decide +kernel
theorem dX4_read_77 : decode cX4_read 77 = .ok (.ifCond .ne 6, 3) := by decide +kernel
theorem dX4_read_80 : decode cX4_read 80 = .ok (.goto 12, 3) := by decide +kernel
theorem dX4_read_83 : decode cX4_read 83 = .ok (.iinc 4 1, 3) := by decide +kernel
theorem dX4_read_86 : decode cX4_read 86 = .ok (.iinc 5 2, 3) := by decide +kernel
theorem dX4_read_89 : decode cX4_read 89 = .ok (.goto (-64), 3) := by decide +kernel
theorem dX4_read_92 : decode cX4_read 92 = .ok (.iload 4, 2) := by decide +kernel
theorem dX4_read_94 : decode cX4_read 94 = .ok (.ireturn, 1) := by decide +kernel
theorem dX4_high_0 : decode cX4_high 0 = .ok (.iload_n 1, 1) := by decide +kernel
theorem dX4_high_1 : decode cX4_high 1 = .ok (.invokestatic 117, 3) := by decide +kernel
theorem dX4_high_4 : decode cX4_high 4 = .ok (.ifCond .eq 15, 3) := by decide +kernel
theorem dX4_high_7 : decode cX4_high 7 = .ok (.aload_n 0, 1) := by decide +kernel
theorem dX4_high_8 : decode cX4_high 8 = .ok (.invokevirtual 140, 3) := by decide +kernel
theorem dX4_high_11 : decode cX4_high 11 = .ok (.getfield 144, 3) := by decide +kernel
theorem dX4_high_14 : decode cX4_high 14 = .ok (.iload_n 1, 1) := by decide +kernel
theorem dX4_high_15 : decode cX4_high 15 = .ok (.iaload, 1) := by decide +kernel
theorem dX4_high_16 : decode cX4_high 16 = .ok (.goto 5, 3) := by decide +kernel
theorem dX4_high_19 : decode cX4_high 19 = .ok (.bipush (-2), 2) := by decide +kernel
theorem dX4_high_21 : decode cX4_high 21 = .ok (.ireturn, 1) := by decide +kernel
theorem dX4_wave_0 : decode cX4_wave 0 = .ok (.iload_n 1, 1) := by decide +kernel
theorem dX4_wave_1 : decode cX4_wave 1 = .ok (.invokestatic 117, 3) := by decide +kernel
theorem dX4_wave_4 : decode cX4_wave 4 = .ok (.ifCond .eq 11, 3) := by decide +kernel
theorem dX4_wave_7 : decode cX4_wave 7 = .ok (.iload_n 2, 1) := by decide +kernel
theorem dX4_wave_8 : decode cX4_wave 8 = .ok (.iconst 3, 1) := by decide +kernel
theorem dX4_wave_9 : decode cX4_wave 9 = .ok (.invokestatic 84, 3) := by decide +kernel
theorem dX4_wave_12 : decode cX4_wave 12 = .ok (.ifCond .ne 6, 3) := by decide +kernel
theorem dX4_wave_15 : decode cX4_wave 15 = .ok (.bipush (-2), 2) := by decide +kernel
theorem dX4_wave_17 : decode cX4_wave 17 = .ok (.ireturn, 1) := by decide +kernel
theorem dX4_wave_18 : decode cX4_wave 18 = .ok (.iload_n 2, 1) := by decide +kernel
theorem dX4_wave_19 : decode cX4_wave 19 = .ok (.ifCond .ne 28, 3) := by decide +kernel
theorem dX4_wave_22 : decode cX4_wave 22 = .ok (.aload_n 0, 1) := by decide +kernel
theorem dX4_wave_23 : decode cX4_wave 23 = .ok (.invokevirtual 140, 3) := by decide +kernel
theorem dX4_wave_26 : decode cX4_wave 26 = .ok (.getfield 144, 3) := by decide +kernel
theorem dX4_wave_29 : decode cX4_wave 29 = .ok (.iload_n 1, 1) := by decide +kernel
theorem dX4_wave_30 : decode cX4_wave 30 = .ok (.iaload, 1) := by decide +kernel
theorem dX4_wave_31 : decode cX4_wave 31 = .ok (.aload_n 0, 1) := by decide +kernel
theorem dX4_wave_32 : decode cX4_wave 32 = .ok (.getfield 73, 3) := by decide +kernel
theorem dX4_wave_35 : decode cX4_wave 35 = .ok (.invokestatic 147, 3) := by decide +kernel
theorem dX4_wave_38 : decode cX4_wave 38 = .ok (.ifCond .eq 7, 3) := by decide +kernel
theorem dX4_wave_41 : decode cX4_wave 41 = .ok (.iconst 1, 1) := by decide +kernel
theorem dX4_wave_42 : decode cX4_wave 42 = .ok (.goto 4, 3) := by decide +kernel
theorem dX4_wave_45 : decode cX4_wave 45 = .ok (.iconst 0, 1) := by decide +kernel
theorem dX4_wave_46 : decode cX4_wave 46 = .ok (.ireturn, 1) := by decide +kernel
theorem dX4_wave_47 : decode cX4_wave 47 = .ok (.iload_n 2, 1) := by decide +kernel
theorem dX4_wave_48 : decode cX4_wave 48 = .ok (.iconst 1, 1) := by decide +kernel
theorem dX4_wave_49 : decode cX4_wave 49 = .ok (.if_icmp .ne 12, 3) := by decide +kernel
theorem dX4_wave_52 : decode cX4_wave 52 = .ok (.aload_n 0, 1) := by decide +kernel
theorem dX4_wave_53 : decode cX4_wave 53 = .ok (.invokevirtual 140, 3) := by decide +kernel
theorem dX4_wave_56 : decode cX4_wave 56 = .ok (.iload_n 1, 1) := by decide +kernel
theorem dX4_wave_57 : decode cX4_wave 57 = .ok (.invokevirtual 150, 3) := by decide +kernel
theorem dX4_wave_60 : decode cX4_wave 60 = .ok (.ireturn, 1) := by decide +kernel
theorem dX4_wave_61 : decode cX4_wave 61 = .ok (.aload_n 0, 1) := by decide +kernel
theorem dX4_wave_62 : decode cX4_wave 62 = .ok (.invokevirtual 140, 3) := by decide +kernel
theorem dX4_wave_65 : decode cX4_wave 65 = .ok (.iload_n 1, 1) := by decide +kernel
theorem dX4_wave_66 : decode cX4_wave 66 = .ok (.invokevirtual 153, 3) := by decide +kernel
theorem dX4_wave_69 : decode cX4_wave 69 = .ok (.ifCond .eq 7, 3) := by decide +kernel
theorem dX4_wave_72 : decode cX4_wave 72 = .ok (.iconst 1, 1) := by decide +kernel
theorem dX4_wave_73 : decode cX4_wave 73 = .ok (.goto 4, 3) := by decide +kernel
theorem dX4_wave_76 : decode cX4_wave 76 = .ok (.iconst 0, 1) := by decide +kernel
theorem dX4_wave_77 : decode cX4_wave 77 = .ok (.ireturn, 1) := by decide +kernel
theorem dX4_when_0 : decode cX4_when 0 = .ok (.iload_n 1, 1) := by decide +kernel
theorem dX4_when_1 : decode cX4_when 1 = .ok (.invokestatic 156, 3) := by decide +kernel
theorem dX4_when_4 : decode cX4_when 4 = .ok (.ifCond .eq 15, 3) := by decide +kernel
theorem dX4_when_7 : decode cX4_when 7 = .ok (.aload_n 0, 1) := by decide +kernel
theorem dX4_when_8 : decode cX4_when 8 = .ok (.invokevirtual 140, 3) := by decide +kernel
theorem dX4_when_11 : decode cX4_when 11 = .ok (.getfield 159, 3) := by decide +kernel
theorem dX4_when_14 : decode cX4_when 14 = .ok (.iload_n 1, 1) := by decide +kernel
theorem dX4_when_15 : decode cX4_when 15 = .ok (.iaload, 1) := by decide +kernel
theorem dX4_when_16 : decode cX4_when 16 = .ok (.goto 5, 3) := by decide +kernel
theorem dX4_when_19 : decode cX4_when 19 = .ok (.bipush (-2), 2) := by decide +kernel
theorem dX4_when_21 : decode cX4_when 21 = .ok (.ireturn, 1) := by decide +kernel
theorem dX4_called_0 : decode cX4_called 0 = .ok (.iload_n 1, 1) := by decide +kernel
theorem dX4_called_1 : decode cX4_called 1 = .ok (.invokestatic 117, 3) := by decide +kernel
theorem dX4_called_4 : decode cX4_called 4 = .ok (.ifCond .eq 10, 3) := by decide +kernel
theorem dX4_called_7 : decode cX4_called 7 = .ok (.iload_n 2, 1) := by decide +kernel
theorem dX4_called_8 : decode cX4_called 8 = .ok (.invokestatic 117, 3) := by decide +kernel
theorem dX4_called_11 : decode cX4_called 11 = .ok (.ifCond .ne 6, 3) := by decide +kernel
theorem dX4_called_14 : decode cX4_called 14 = .ok (.bipush (-2), 2) := by decide +kernel
theorem dX4_called_16 : decode cX4_called 16 = .ok (.ireturn, 1) := by decide +kernel
theorem dX4_called_17 : decode cX4_called 17 = .ok (.aload_n 0, 1) := by decide +kernel
theorem dX4_called_18 : decode cX4_called 18 = .ok (.invokevirtual 140, 3) := by decide +kernel
theorem dX4_called_21 : decode cX4_called 21 = .ok (.astore_n 3, 1) := by decide +kernel
theorem dX4_called_22 : decode cX4_called 22 = .ok (.iconst 0, 1) := by decide +kernel
theorem dX4_called_23 : decode cX4_called 23 = .ok (.istore 4, 2) := by decide +kernel
theorem dX4_called_25 : decode cX4_called 25 = .ok (.iload_n 1, 1) := by decide +kernel
theorem dX4_called_26 : decode cX4_called 26 = .ok (.istore 5, 2) := by decide +kernel
theorem dX4_called_28 : decode cX4_called 28 = .ok (.iload 5, 2) := by decide +kernel
theorem dX4_called_30 : decode cX4_called 30 = .ok (.iload_n 2, 1) := by decide +kernel
theorem dX4_called_31 : decode cX4_called 31 = .ok (.if_icmp .gt 22, 3) := by decide +kernel
theorem dX4_called_34 : decode cX4_called 34 = .ok (.aload_n 3, 1) := by decide +kernel
theorem dX4_called_35 : decode cX4_called 35 = .ok (.getfield 162, 3) := by decide +kernel
theorem dX4_called_38 : decode cX4_called 38 = .ok (.iload 5, 2) := by decide +kernel
theorem dX4_called_40 : decode cX4_called 40 = .ok (.iaload, 1) := by decide +kernel
theorem dX4_called_41 : decode cX4_called 41 = .ok (.ifCond .le 6, 3) := by decide +kernel
theorem dX4_called_44 : decode cX4_called 44 = .ok (.iinc 4 1, 3) := by decide +kernel
theorem dX4_called_47 : decode cX4_called 47 = .ok (.iinc 5 1, 3) := by decide +kernel
theorem dX4_called_50 : decode cX4_called 50 = .ok (.goto (-22), 3) := by decide +kernel
theorem dX4_called_53 : decode cX4_called 53 = .ok (.iload 4, 2) := by decide +kernel
theorem dX4_called_55 : decode cX4_called 55 = .ok (.ireturn, 1) := by decide +kernel
theorem dX4_brings_0 : decode cX4_brings 0 = .ok (.iload_n 1, 1) := by decide +kernel
theorem dX4_brings_1 : decode cX4_brings 1 = .ok (.invokestatic 156, 3) := by decide +kernel
theorem dX4_brings_4 : decode cX4_brings 4 = .ok (.ifCond .eq 11, 3) := by decide +kernel
theorem dX4_brings_7 : decode cX4_brings 7 = .ok (.aload_n 0, 1) := by decide +kernel
theorem dX4_brings_8 : decode cX4_brings 8 = .ok (.iload_n 1, 1) := by decide +kernel
theorem dX4_brings_9 : decode cX4_brings 9 = .ok (.invokevirtual 165, 3) := by decide +kernel
theorem dX4_brings_12 : decode cX4_brings 12 = .ok (.goto 5, 3) := by decide +kernel
theorem dX4_brings_15 : decode cX4_brings 15 = .ok (.bipush (-2), 2) := by decide +kernel
theorem dX4_brings_17 : decode cX4_brings 17 = .ok (.ireturn, 1) := by decide +kernel
theorem dX4_claims_0 : decode cX4_claims 0 = .ok (.iload_n 1, 1) := by decide +kernel
theorem dX4_claims_1 : decode cX4_claims 1 = .ok (.bipush 8, 2) := by decide +kernel
theorem dX4_claims_3 : decode cX4_claims 3 = .ok (.invokestatic 84, 3) := by decide +kernel
theorem dX4_claims_6 : decode cX4_claims 6 = .ok (.ifCond .ne 6, 3) := by decide +kernel
theorem dX4_claims_9 : decode cX4_claims 9 = .ok (.bipush (-2), 2) := by decide +kernel
theorem dX4_claims_11 : decode cX4_claims 11 = .ok (.ireturn, 1) := by decide +kernel
theorem dX4_claims_12 : decode cX4_claims 12 = .ok (.aload_n 0, 1) := by decide +kernel
theorem dX4_claims_13 : decode cX4_claims 13 = .ok (.aload_n 0, 1) := by decide +kernel
theorem dX4_claims_14 : decode cX4_claims 14 = .ok (.invokevirtual 140, 3) := by decide +kernel
theorem dX4_claims_17 : decode cX4_claims 17 = .ok (.iload_n 1, 1) := by decide +kernel
theorem dX4_claims_18 : decode cX4_claims 18 = .ok (.invokevirtual 168, 3) := by decide +kernel
theorem dX4_claims_21 : decode cX4_claims 21 = .ok (.ireturn, 1) := by decide +kernel
theorem dX4_good_0 : decode cX4_good 0 = .ok (.iload_n 1, 1) := by decide +kernel
theorem dX4_good_1 : decode cX4_good 1 = .ok (.aload_n 0, 1) := by decide +kernel
theorem dX4_good_2 : decode cX4_good 2 = .ok (.getfield 46, 3) := by decide +kernel
theorem dX4_good_5 : decode cX4_good 5 = .ok (.getfield 127, 3) := by decide +kernel
theorem dX4_good_8 : decode cX4_good 8 = .ok (.invokestatic 84, 3) := by decide +kernel
theorem dX4_good_11 : decode cX4_good 11 = .ok (.ifCond .ne 6, 3) := by decide +kernel
theorem dX4_good_14 : decode cX4_good 14 = .ok (.bipush (-2), 2) := by decide +kernel
theorem dX4_good_16 : decode cX4_good 16 = .ok (.ireturn, 1) := by decide +kernel
theorem dX4_good_17 : decode cX4_good 17 = .ok (.aload_n 0, 1) := by decide +kernel
theorem dX4_good_18 : decode cX4_good 18 = .ok (.getfield 46, 3) := by decide +kernel
theorem dX4_good_21 : decode cX4_good 21 = .ok (.getfield 172, 3) := by decide +kernel
theorem dX4_good_24 : decode cX4_good 24 = .ok (.iload_n 1, 1) := by decide +kernel
theorem dX4_good_25 : decode cX4_good 25 = .ok (.iaload, 1) := by decide +kernel
theorem dX4_good_26 : decode cX4_good 26 = .ok (.istore_n 2, 1) := by decide +kernel
theorem dX4_good_27 : decode cX4_good 27 = .ok (.aload_n 0, 1) := by decide +kernel
theorem dX4_good_28 : decode cX4_good 28 = .ok (.getfield 46, 3) := by decide +kernel
theorem dX4_good_31 : decode cX4_good 31 = .ok (.iload_n 2, 1) := by decide +kernel
theorem dX4_good_32 : decode cX4_good 32 = .ok (.invokevirtual 175, 3) := by decide +kernel
theorem dX4_good_35 : decode cX4_good 35 = .ok (.iload_n 1, 1) := by decide +kernel
theorem dX4_good_36 : decode cX4_good 36 = .ok (.if_icmp .ne 7, 3) := by decide +kernel
theorem dX4_good_39 : decode cX4_good 39 = .ok (.iconst 1, 1) := by decide +kernel
theorem dX4_good_40 : decode cX4_good 40 = .ok (.goto 4, 3) := by decide +kernel
theorem dX4_good_43 : decode cX4_good 43 = .ok (.iconst 0, 1) := by decide +kernel
theorem dX4_good_44 : decode cX4_good 44 = .ok (.istore_n 3, 1) := by decide +kernel
theorem dX4_good_45 : decode cX4_good 45 = .ok (.iload_n 3, 1) := by decide +kernel
theorem dX4_good_46 : decode cX4_good 46 = .ok (.ifCond .eq 20, 3) := by decide +kernel
theorem dX4_good_49 : decode cX4_good 49 = .ok (.aload_n 0, 1) := by decide +kernel
theorem dX4_good_50 : decode cX4_good 50 = .ok (.invokevirtual 140, 3) := by decide +kernel
theorem dX4_good_53 : decode cX4_good 53 = .ok (.getfield 159, 3) := by decide +kernel
theorem dX4_good_56 : decode cX4_good 56 = .ok (.iload_n 2, 1) := by decide +kernel
theorem dX4_good_57 : decode cX4_good 57 = .ok (.iaload, 1) := by decide +kernel
theorem dX4_good_58 : decode cX4_good 58 = .ok (.iconst (-1), 1) := by decide +kernel
theorem dX4_good_59 : decode cX4_good 59 = .ok (.if_icmp .eq 7, 3) := by decide +kernel
theorem dX4_good_62 : decode cX4_good 62 = .ok (.iconst 1, 1) := by decide +kernel
theorem dX4_good_63 : decode cX4_good 63 = .ok (.goto 4, 3) := by decide +kernel
theorem dX4_good_66 : decode cX4_good 66 = .ok (.iconst 0, 1) := by decide +kernel
theorem dX4_good_67 : decode cX4_good 67 = .ok (.ireturn, 1) := by decide +kernel
theorem dX4_agree_0 : decode cX4_agree 0 = .ok (.iload_n 1, 1) := by decide +kernel
theorem dX4_agree_1 : decode cX4_agree 1 = .ok (.aload_n 0, 1) := by decide +kernel
theorem dX4_agree_2 : decode cX4_agree 2 = .ok (.getfield 21, 3) := by decide +kernel
theorem dX4_agree_5 : decode cX4_agree 5 = .ok (.getfield 178, 3) := by decide +kernel
theorem dX4_agree_8 : decode cX4_agree 8 = .ok (.invokestatic 84, 3) := by decide +kernel
theorem dX4_agree_11 : decode cX4_agree 11 = .ok (.ifCond .eq 22, 3) := by decide +kernel
theorem dX4_agree_14 : decode cX4_agree 14 = .ok (.iload_n 2, 1) := by decide +kernel
theorem dX4_agree_15 : decode cX4_agree 15 = .ok (.aload_n 0, 1) := by decide +kernel
theorem dX4_agree_16 : decode cX4_agree 16 = .ok (.getfield 21, 3) := by decide +kernel
theorem dX4_agree_19 : decode cX4_agree 19 = .ok (.getfield 178, 3) := by decide +kernel
theorem dX4_agree_22 : decode cX4_agree 22 = .ok (.invokestatic 84, 3) := by decide +kernel
theorem dX4_agree_25 : decode cX4_agree 25 = .ok (.ifCond .eq 8, 3) := by decide +kernel
theorem dX4_agree_28 : decode cX4_agree 28 = .ok (.iload_n 1, 1) := by decide +kernel
theorem dX4_agree_29 : decode cX4_agree 29 = .ok (.iload_n 2, 1) := by decide +kernel
theorem dX4_agree_30 : decode cX4_agree 30 = .ok (.if_icmp .ne 6, 3) := by decide +kernel
theorem dX4_agree_33 : decode cX4_agree 33 = .ok (.bipush (-2), 2) := by decide +kernel
theorem dX4_agree_35 : decode cX4_agree 35 = .ok (.ireturn, 1) := by decide +kernel
theorem dX4_agree_36 : decode cX4_agree 36 = .ok (.iload_n 3, 1) := by decide +kernel
theorem dX4_agree_37 : decode cX4_agree 37 = .ok (.invokestatic 117, 3) := by decide +kernel
theorem dX4_agree_40 : decode cX4_agree 40 = .ok (.ifCond .eq 12, 3) := by decide +kernel
theorem dX4_agree_43 : decode cX4_agree 43 = .ok (.iload 4, 2) := by decide +kernel
theorem dX4_agree_45 : decode cX4_agree 45 = .ok (.iconst 2, 1) := by decide +kernel
theorem dX4_agree_46 : decode cX4_agree 46 = .ok (.invokestatic 84, 3) := by decide +kernel
theorem dX4_agree_49 : decode cX4_agree 49 = .ok (.ifCond .ne 6, 3) := by decide +kernel
theorem dX4_agree_52 : decode cX4_agree 52 = .ok (.bipush (-2), 2) := by decide +kernel
theorem dX4_agree_54 : decode cX4_agree 54 = .ok (.ireturn, 1) := by decide +kernel
theorem dX4_agree_55 : decode cX4_agree 55 = .ok (.aload_n 0, 1) := by decide +kernel
theorem dX4_agree_56 : decode cX4_agree 56 = .ok (.getfield 21, 3) := by decide +kernel
theorem dX4_agree_59 : decode cX4_agree 59 = .ok (.iload_n 1, 1) := by decide +kernel
theorem dX4_agree_60 : decode cX4_agree 60 = .ok (.iconst 1, 1) := by decide +kernel
theorem dX4_agree_61 : decode cX4_agree 61 = .ok (.invokevirtual 181, 3) := by decide +kernel
theorem dX4_agree_64 : decode cX4_agree 64 = .ok (.istore 5, 2) := by decide +kernel
theorem dX4_agree_66 : decode cX4_agree 66 = .ok (.aload_n 0, 1) := by decide +kernel
theorem dX4_agree_67 : decode cX4_agree 67 = .ok (.getfield 21, 3) := by decide +kernel
theorem dX4_agree_70 : decode cX4_agree 70 = .ok (.iload_n 2, 1) := by decide +kernel
theorem dX4_agree_71 : decode cX4_agree 71 = .ok (.iconst 1, 1) := by decide +kernel
theorem dX4_agree_72 : decode cX4_agree 72 = .ok (.invokevirtual 181, 3) := by decide +kernel
theorem dX4_agree_75 : decode cX4_agree 75 = .ok (.istore 6, 2) := by decide +kernel
theorem dX4_agree_77 : decode cX4_agree 77 = .ok (.aload_n 0, 1) := by decide +kernel
theorem dX4_agree_78 : decode cX4_agree 78 = .ok (.iload_n 1, 1) := by decide +kernel
theorem dX4_agree_79 : decode cX4_agree 79 = .ok (.iload_n 3, 1) := by decide +kernel
theorem dX4_agree_80 : decode cX4_agree 80 = .ok (.aload_n 0, 1) := by decide +kernel
theorem dX4_agree_81 : decode cX4_agree 81 = .ok (.getfield 21, 3) := by decide +kernel
theorem dX4_agree_84 : decode cX4_agree 84 = .ok (.iload_n 2, 1) := by decide +kernel
theorem dX4_agree_85 : decode cX4_agree 85 = .ok (.iconst 2, 1) := by decide +kernel
theorem dX4_agree_86 : decode cX4_agree 86 = .ok (.invokevirtual 181, 3) := by decide +kernel
theorem dX4_agree_89 : decode cX4_agree 89 = .ok (.invokestatic 185, 3) := by decide +kernel
theorem dX4_agree_92 : decode cX4_agree 92 = .ok (.invokevirtual 190, 3) := by decide +kernel
theorem dX4_agree_95 : decode cX4_agree 95 = .ok (.istore 7, 2) := by decide +kernel
theorem dX4_agree_97 : decode cX4_agree 97 = .ok (.iconst 0, 1) := by decide +kernel
theorem dX4_agree_98 : decode cX4_agree 98 = .ok (.istore 8, 2) := by decide +kernel
theorem dX4_agree_100 : decode cX4_agree 100 = .ok (.iload 8, 2) := by decide +kernel
theorem dX4_agree_102 : decode cX4_agree 102 = .ok (.iload 6, 2) := by decide +kernel
theorem dX4_agree_104 : decode cX4_agree 104 = .ok (.if_icmp .ge 53, 3) := by decide +kernel
theorem dX4_agree_107 : decode cX4_agree 107 = .ok (.iload 7, 2) := by decide +kernel
theorem dX4_agree_109 : decode cX4_agree 109 = .ok (.aload_n 0, 1) := by decide +kernel
theorem dX4_agree_110 : decode cX4_agree 110 = .ok (.getfield 21, 3) := by decide +kernel
theorem dX4_agree_113 : decode cX4_agree 113 = .ok (.iload_n 2, 1) := by decide +kernel
theorem dX4_agree_114 : decode cX4_agree 114 = .ok (.iconst 2, 1) := by decide +kernel
theorem dX4_agree_115 : decode cX4_agree 115 = .ok (.invokevirtual 181, 3) := by decide +kernel
theorem dX4_agree_118 : decode cX4_agree 118 = .ok (.iload 6, 2) := by decide +kernel
theorem dX4_agree_120 : decode cX4_agree 120 = .ok (.invokestatic 193, 3) := by decide +kernel
theorem dX4_agree_123 : decode cX4_agree 123 = .ok (.ifCond .eq 21, 3) := by decide +kernel
theorem dX4_agree_126 : decode cX4_agree 126 = .ok (.iload 4, 2) := by decide +kernel
theorem dX4_agree_128 : decode cX4_agree 128 = .ok (.ifCond .ne 8, 3) := by decide +kernel
theorem dX4_agree_131 : decode cX4_agree 131 = .ok (.iload 7, 2) := by decide +kernel
theorem dX4_agree_133 : decode cX4_agree 133 = .ok (.goto 10, 3) := by decide +kernel
theorem dX4_agree_136 : decode cX4_agree 136 = .ok (.iload 5, 2) := by decide +kernel
theorem dX4_agree_138 : decode cX4_agree 138 = .ok (.iload 6, 2) := by decide +kernel
theorem dX4_agree_140 : decode cX4_agree 140 = .ok (.invokestatic 196, 3) := by decide +kernel
theorem dX4_agree_143 : decode cX4_agree 143 = .ok (.ireturn, 1) := by decide +kernel
theorem dX4_agree_144 : decode cX4_agree 144 = .ok (.iload 7, 2) := by decide +kernel
theorem dX4_agree_146 : decode cX4_agree 146 = .ok (.iload 5, 2) := by decide +kernel
theorem dX4_agree_148 : decode cX4_agree 148 = .ok (.iadd, 1) := by decide +kernel
theorem dX4_agree_149 : decode cX4_agree 149 = .ok (.istore 7, 2) := by decide +kernel
theorem dX4_agree_151 : decode cX4_agree 151 = .ok (.iinc 8 1, 3) := by decide +kernel
theorem dX4_agree_154 : decode cX4_agree 154 = .ok (.goto (-54), 3) := by decide +kernel
theorem dX4_agree_157 : decode cX4_agree 157 = .ok (.iconst (-1), 1) := by decide +kernel
theorem dX4_agree_158 : decode cX4_agree 158 = .ok (.ireturn, 1) := by decide +kernel
theorem dX4_run_0 : decode cX4_run 0 = .ok (.iload_n 1, 1) := by decide +kernel
theorem dX4_run_1 : decode cX4_run 1 = .ok (.iconst 1, 1) := by decide +kernel
theorem dX4_run_2 : decode cX4_run 2 = .ok (.bipush 9, 2) := by decide +kernel
theorem dX4_run_4 : decode cX4_run 4 = .ok (.invokestatic 109, 3) := by decide +kernel
theorem dX4_run_7 : decode cX4_run 7 = .ok (.ifCond .eq 11, 3) := by decide +kernel
theorem dX4_run_10 : decode cX4_run 10 = .ok (.iload_n 2, 1) := by decide +kernel
theorem dX4_run_11 : decode cX4_run 11 = .ok (.iconst 2, 1) := by decide +kernel
theorem dX4_run_12 : decode cX4_run 12 = .ok (.invokestatic 84, 3) := by decide +kernel
theorem dX4_run_15 : decode cX4_run 15 = .ok (.ifCond .ne 6, 3) := by decide +kernel
theorem dX4_run_18 : decode cX4_run 18 = .ok (.bipush (-2), 2) := by decide +kernel
theorem dX4_run_20 : decode cX4_run 20 = .ok (.ireturn, 1) := by decide +kernel
theorem dX4_run_21 : decode cX4_run 21 = .ok (.aload_n 0, 1) := by decide +kernel
theorem dX4_run_22 : decode cX4_run 22 = .ok (.invokevirtual 140, 3) := by decide +kernel
theorem dX4_run_25 : decode cX4_run 25 = .ok (.astore_n 3, 1) := by decide +kernel
theorem dX4_run_26 : decode cX4_run 26 = .ok (.iconst (-1), 1) := by decide +kernel
theorem dX4_run_27 : decode cX4_run 27 = .ok (.istore 4, 2) := by decide +kernel
theorem dX4_run_29 : decode cX4_run 29 = .ok (.iconst (-1), 1) := by decide +kernel
theorem dX4_run_30 : decode cX4_run 30 = .ok (.istore 5, 2) := by decide +kernel
theorem dX4_run_32 : decode cX4_run 32 = .ok (.iconst 1, 1) := by decide +kernel
theorem dX4_run_33 : decode cX4_run 33 = .ok (.istore 6, 2) := by decide +kernel
theorem dX4_run_35 : decode cX4_run 35 = .ok (.iload 6, 2) := by decide +kernel
theorem dX4_run_37 : decode cX4_run 37 = .ok (.iload_n 1, 1) := by decide +kernel
theorem dX4_run_38 : decode cX4_run 38 = .ok (.iadd, 1) := by decide +kernel
theorem dX4_run_39 : decode cX4_run 39 = .ok (.iconst 1, 1) := by decide +kernel
theorem dX4_run_40 : decode cX4_run 40 = .ok (.isub, 1) := by decide +kernel
theorem dX4_run_41 : decode cX4_run 41 = .ok (.aload_n 3, 1) := by decide +kernel
theorem dX4_run_42 : decode cX4_run 42 = .ok (.invokevirtual 199, 3) := by decide +kernel
theorem dX4_run_45 : decode cX4_run 45 = .ok (.if_icmp .gt 34, 3) := by decide +kernel
theorem dX4_run_48 : decode cX4_run 48 = .ok (.aload_n 0, 1) := by decide +kernel
theorem dX4_run_49 : decode cX4_run 49 = .ok (.aload_n 3, 1) := by decide +kernel
theorem dX4_run_50 : decode cX4_run 50 = .ok (.iload 6, 2) := by decide +kernel
theorem dX4_run_52 : decode cX4_run 52 = .ok (.iload_n 1, 1) := by decide +kernel
theorem dX4_run_53 : decode cX4_run 53 = .ok (.invokevirtual 203, 3) := by decide +kernel
theorem dX4_run_56 : decode cX4_run 56 = .ok (.istore 7, 2) := by decide +kernel
theorem dX4_run_58 : decode cX4_run 58 = .ok (.iload 7, 2) := by decide +kernel
theorem dX4_run_60 : decode cX4_run 60 = .ok (.iload 5, 2) := by decide +kernel
theorem dX4_run_62 : decode cX4_run 62 = .ok (.if_icmp .le 11, 3) := by decide +kernel
theorem dX4_run_65 : decode cX4_run 65 = .ok (.iload 7, 2) := by decide +kernel
theorem dX4_run_67 : decode cX4_run 67 = .ok (.istore 5, 2) := by decide +kernel
theorem dX4_run_69 : decode cX4_run 69 = .ok (.iload 6, 2) := by decide +kernel
theorem dX4_run_71 : decode cX4_run 71 = .ok (.istore 4, 2) := by decide +kernel
theorem dX4_run_73 : decode cX4_run 73 = .ok (.iinc 6 1, 3) := by decide +kernel
theorem dX4_run_76 : decode cX4_run 76 = .ok (.goto (-41), 3) := by decide +kernel
theorem dX4_run_79 : decode cX4_run 79 = .ok (.iload_n 2, 1) := by decide +kernel
theorem dX4_run_80 : decode cX4_run 80 = .ok (.ifCond .ne 8, 3) := by decide +kernel
theorem dX4_run_83 : decode cX4_run 83 = .ok (.iload 4, 2) := by decide +kernel
theorem dX4_run_85 : decode cX4_run 85 = .ok (.goto 5, 3) := by decide +kernel
theorem dX4_run_88 : decode cX4_run 88 = .ok (.iload 5, 2) := by decide +kernel
theorem dX4_run_90 : decode cX4_run 90 = .ok (.ireturn, 1) := by decide +kernel
theorem dX4_bar_0 : decode cX4_bar 0 = .ok (.iload_n 1, 1) := by decide +kernel
theorem dX4_bar_1 : decode cX4_bar 1 = .ok (.iconst 0, 1) := by decide +kernel
theorem dX4_bar_2 : decode cX4_bar 2 = .ok (.sipush 240, 3) := by decide +kernel
theorem dX4_bar_5 : decode cX4_bar 5 = .ok (.invokestatic 109, 3) := by decide +kernel
theorem dX4_bar_8 : decode cX4_bar 8 = .ok (.ifCond .ne 6, 3) := by decide +kernel
theorem dX4_bar_11 : decode cX4_bar 11 = .ok (.bipush (-2), 2) := by decide +kernel
theorem dX4_bar_13 : decode cX4_bar 13 = .ok (.ireturn, 1) := by decide +kernel
theorem dX4_bar_14 : decode cX4_bar 14 = .ok (.aload_n 0, 1) := by decide +kernel
theorem dX4_bar_15 : decode cX4_bar 15 = .ok (.invokevirtual 140, 3) := by decide +kernel
theorem dX4_bar_18 : decode cX4_bar 18 = .ok (.astore_n 2, 1) := by decide +kernel
theorem dX4_bar_19 : decode cX4_bar 19 = .ok (.iconst 0, 1) := by decide +kernel
theorem dX4_bar_20 : decode cX4_bar 20 = .ok (.istore_n 3, 1) := by decide +kernel
theorem dX4_bar_21 : decode cX4_bar 21 = .ok (.iload_n 3, 1) := by decide +kernel
theorem dX4_bar_22 : decode cX4_bar 22 = .ok (.bipush 55, 2) := by decide +kernel
theorem dX4_bar_24 : decode cX4_bar 24 = .ok (.if_icmp .ge 20, 3) := by decide +kernel
theorem dX4_bar_27 : decode cX4_bar 27 = .ok (.aload_n 2, 1) := by decide +kernel
theorem dX4_bar_28 : decode cX4_bar 28 = .ok (.iload_n 3, 1) := by decide +kernel
theorem dX4_bar_29 : decode cX4_bar 29 = .ok (.invokevirtual 207, 3) := by decide +kernel
theorem dX4_bar_32 : decode cX4_bar 32 = .ok (.iload_n 1, 1) := by decide +kernel
theorem dX4_bar_33 : decode cX4_bar 33 = .ok (.if_icmp .gt 5, 3) := by decide +kernel
theorem dX4_bar_36 : decode cX4_bar 36 = .ok (.iload_n 3, 1) := by decide +kernel
theorem dX4_bar_37 : decode cX4_bar 37 = .ok (.ireturn, 1) := by decide +kernel
theorem dX4_bar_38 : decode cX4_bar 38 = .ok (.iinc 3 1, 3) := by decide +kernel
theorem dX4_bar_41 : decode cX4_bar 41 = .ok (.goto (-20), 3) := by decide +kernel
theorem dX4_bar_44 : decode cX4_bar 44 = .ok (.bipush 55, 2) := by decide +kernel
theorem dX4_bar_46 : decode cX4_bar 46 = .ok (.ireturn, 1) := by decide +kernel
theorem dX4_earn_0 : decode cX4_earn 0 = .ok (.iload_n 1, 1) := by decide +kernel
theorem dX4_earn_1 : decode cX4_earn 1 = .ok (.bipush 8, 2) := by decide +kernel
theorem dX4_earn_3 : decode cX4_earn 3 = .ok (.invokestatic 84, 3) := by decide +kernel
theorem dX4_earn_6 : decode cX4_earn 6 = .ok (.ifCond .eq 11, 3) := by decide +kernel
theorem dX4_earn_9 : decode cX4_earn 9 = .ok (.iload_n 2, 1) := by decide +kernel
theorem dX4_earn_10 : decode cX4_earn 10 = .ok (.iconst 2, 1) := by decide +kernel
theorem dX4_earn_11 : decode cX4_earn 11 = .ok (.invokestatic 84, 3) := by decide +kernel
theorem dX4_earn_14 : decode cX4_earn 14 = .ok (.ifCond .ne 6, 3) := by decide +kernel
theorem dX4_earn_17 : decode cX4_earn 17 = .ok (.bipush (-2), 2) := by decide +kernel
theorem dX4_earn_19 : decode cX4_earn 19 = .ok (.ireturn, 1) := by decide +kernel
theorem dX4_earn_20 : decode cX4_earn 20 = .ok (.aload_n 0, 1) := by decide +kernel
theorem dX4_earn_21 : decode cX4_earn 21 = .ok (.invokevirtual 140, 3) := by decide +kernel
theorem dX4_earn_24 : decode cX4_earn 24 = .ok (.astore_n 3, 1) := by decide +kernel
theorem dX4_earn_25 : decode cX4_earn 25 = .ok (.iconst (-1), 1) := by decide +kernel
theorem dX4_earn_26 : decode cX4_earn 26 = .ok (.istore 4, 2) := by decide +kernel
theorem dX4_earn_28 : decode cX4_earn 28 = .ok (.iconst 0, 1) := by decide +kernel
theorem dX4_earn_29 : decode cX4_earn 29 = .ok (.istore 5, 2) := by decide +kernel
theorem dX4_earn_31 : decode cX4_earn 31 = .ok (.iconst 1, 1) := by decide +kernel
theorem dX4_earn_32 : decode cX4_earn 32 = .ok (.istore 6, 2) := by decide +kernel
theorem dX4_earn_34 : decode cX4_earn 34 = .ok (.iload 6, 2) := by decide +kernel
theorem dX4_earn_36 : decode cX4_earn 36 = .ok (.sipush 400, 3) := by decide +kernel
theorem dX4_earn_39 : decode cX4_earn 39 = .ok (.if_icmp .gt 46, 3) := by decide +kernel
theorem dX4_earn_42 : decode cX4_earn 42 = .ok (.aload_n 0, 1) := by decide +kernel
theorem dX4_earn_43 : decode cX4_earn 43 = .ok (.getfield 46, 3) := by decide +kernel
theorem dX4_earn_46 : decode cX4_earn 46 = .ok (.iload 6, 2) := by decide +kernel
theorem dX4_earn_48 : decode cX4_earn 48 = .ok (.invokevirtual 175, 3) := by decide +kernel
theorem dX4_earn_51 : decode cX4_earn 51 = .ok (.iconst (-1), 1) := by decide +kernel
theorem dX4_earn_52 : decode cX4_earn 52 = .ok (.if_icmp .ne 27, 3) := by decide +kernel
theorem dX4_earn_55 : decode cX4_earn 55 = .ok (.aload_n 0, 1) := by decide +kernel
theorem dX4_earn_56 : decode cX4_earn 56 = .ok (.aload_n 3, 1) := by decide +kernel
theorem dX4_earn_57 : decode cX4_earn 57 = .ok (.iload 6, 2) := by decide +kernel
theorem dX4_earn_59 : decode cX4_earn 59 = .ok (.invokevirtual 210, 3) := by decide +kernel
theorem dX4_earn_62 : decode cX4_earn 62 = .ok (.istore 7, 2) := by decide +kernel
theorem dX4_earn_64 : decode cX4_earn 64 = .ok (.iload 7, 2) := by decide +kernel
theorem dX4_earn_66 : decode cX4_earn 66 = .ok (.iload 5, 2) := by decide +kernel
theorem dX4_earn_68 : decode cX4_earn 68 = .ok (.if_icmp .le 11, 3) := by decide +kernel
theorem dX4_earn_71 : decode cX4_earn 71 = .ok (.iload 7, 2) := by decide +kernel
theorem dX4_earn_73 : decode cX4_earn 73 = .ok (.istore 5, 2) := by decide +kernel
theorem dX4_earn_75 : decode cX4_earn 75 = .ok (.iload 6, 2) := by decide +kernel
theorem dX4_earn_77 : decode cX4_earn 77 = .ok (.istore 4, 2) := by decide +kernel
theorem dX4_earn_79 : decode cX4_earn 79 = .ok (.iinc 6 1, 3) := by decide +kernel
theorem dX4_earn_82 : decode cX4_earn 82 = .ok (.goto (-48), 3) := by decide +kernel
theorem dX4_earn_85 : decode cX4_earn 85 = .ok (.iload 4, 2) := by decide +kernel
theorem dX4_earn_87 : decode cX4_earn 87 = .ok (.iconst (-1), 1) := by decide +kernel
theorem dX4_earn_88 : decode cX4_earn 88 = .ok (.if_icmp .ne 5, 3) := by decide +kernel
theorem dX4_earn_91 : decode cX4_earn 91 = .ok (.iconst (-1), 1) := by decide +kernel
theorem dX4_earn_92 : decode cX4_earn 92 = .ok (.ireturn, 1) := by decide +kernel
theorem dX4_earn_93 : decode cX4_earn 93 = .ok (.iload_n 2, 1) := by decide +kernel
theorem dX4_earn_94 : decode cX4_earn 94 = .ok (.ifCond .ne 8, 3) := by decide +kernel
theorem dX4_earn_97 : decode cX4_earn 97 = .ok (.iload 4, 2) := by decide +kernel
theorem dX4_earn_99 : decode cX4_earn 99 = .ok (.goto 12, 3) := by decide +kernel
theorem dX4_earn_102 : decode cX4_earn 102 = .ok (.aload_n 0, 1) := by decide +kernel
theorem dX4_earn_103 : decode cX4_earn 103 = .ok (.aload_n 3, 1) := by decide +kernel
theorem dX4_earn_104 : decode cX4_earn 104 = .ok (.iload_n 1, 1) := by decide +kernel
theorem dX4_earn_105 : decode cX4_earn 105 = .ok (.invokevirtual 168, 3) := by decide +kernel
theorem dX4_earn_108 : decode cX4_earn 108 = .ok (.iload 5, 2) := by decide +kernel
theorem dX4_earn_110 : decode cX4_earn 110 = .ok (.iadd, 1) := by decide +kernel
theorem dX4_earn_111 : decode cX4_earn 111 = .ok (.ireturn, 1) := by decide +kernel
theorem dX4_heard_0 : decode cX4_heard 0 = .ok (.iload_n 1, 1) := by decide +kernel
theorem dX4_heard_1 : decode cX4_heard 1 = .ok (.invokestatic 117, 3) := by decide +kernel
theorem dX4_heard_4 : decode cX4_heard 4 = .ok (.ifCond .eq 14, 3) := by decide +kernel
theorem dX4_heard_7 : decode cX4_heard 7 = .ok (.iload_n 2, 1) := by decide +kernel
theorem dX4_heard_8 : decode cX4_heard 8 = .ok (.iconst 0, 1) := by decide +kernel
theorem dX4_heard_9 : decode cX4_heard 9 = .ok (.sipush 400, 3) := by decide +kernel
theorem dX4_heard_12 : decode cX4_heard 12 = .ok (.invokestatic 109, 3) := by decide +kernel
theorem dX4_heard_15 : decode cX4_heard 15 = .ok (.ifCond .ne 6, 3) := by decide +kernel
theorem dX4_heard_18 : decode cX4_heard 18 = .ok (.bipush (-2), 2) := by decide +kernel
theorem dX4_heard_20 : decode cX4_heard 20 = .ok (.ireturn, 1) := by decide +kernel
theorem dX4_heard_21 : decode cX4_heard 21 = .ok (.aload_n 0, 1) := by decide +kernel
theorem dX4_heard_22 : decode cX4_heard 22 = .ok (.getfield 49, 3) := by decide +kernel
theorem dX4_heard_25 : decode cX4_heard 25 = .ok (.iload_n 1, 1) := by decide +kernel
theorem dX4_heard_26 : decode cX4_heard 26 = .ok (.iload_n 2, 1) := by decide +kernel
theorem dX4_heard_27 : decode cX4_heard 27 = .ok (.invokevirtual 138, 3) := by decide +kernel
theorem dX4_heard_30 : decode cX4_heard 30 = .ok (.ifCond .eq 13, 3) := by decide +kernel
theorem dX4_heard_33 : decode cX4_heard 33 = .ok (.aload_n 0, 1) := by decide +kernel
theorem dX4_heard_34 : decode cX4_heard 34 = .ok (.getfield 49, 3) := by decide +kernel
theorem dX4_heard_37 : decode cX4_heard 37 = .ok (.getfield 127, 3) := by decide +kernel
theorem dX4_heard_40 : decode cX4_heard 40 = .ok (.goto 5, 3) := by decide +kernel
theorem dX4_heard_43 : decode cX4_heard 43 = .ok (.bipush (-4), 2) := by decide +kernel
theorem dX4_heard_45 : decode cX4_heard 45 = .ok (.ireturn, 1) := by decide +kernel
theorem dX4_forget_0 : decode cX4_forget 0 = .ok (.aload_n 0, 1) := by decide +kernel
theorem dX4_forget_1 : decode cX4_forget 1 = .ok (.getfield 49, 3) := by decide +kernel
theorem dX4_forget_4 : decode cX4_forget 4 = .ok (.getfield 127, 3) := by decide +kernel
theorem dX4_forget_7 : decode cX4_forget 7 = .ok (.istore_n 1, 1) := by decide +kernel
theorem dX4_forget_8 : decode cX4_forget 8 = .ok (.aload_n 0, 1) := by decide +kernel
theorem dX4_forget_9 : decode cX4_forget 9 = .ok (.getfield 49, 3) := by decide +kernel
theorem dX4_forget_12 : decode cX4_forget 12 = .ok (.iconst 0, 1) := by decide +kernel
theorem dX4_forget_13 : decode cX4_forget 13 = .ok (.putfield 127, 3) := by decide +kernel
theorem dX4_forget_16 : decode cX4_forget 16 = .ok (.iload_n 1, 1) := by decide +kernel
theorem dX4_forget_17 : decode cX4_forget 17 = .ok (.ireturn, 1) := by decide +kernel
theorem dX4_skipped_0 : decode cX4_skipped 0 = .ok (.iload_n 1, 1) := by decide +kernel
theorem dX4_skipped_1 : decode cX4_skipped 1 = .ok (.iconst 1, 1) := by decide +kernel
theorem dX4_skipped_2 : decode cX4_skipped 2 = .ok (.bipush 11, 2) := by decide +kernel
theorem dX4_skipped_4 : decode cX4_skipped 4 = .ok (.invokestatic 109, 3) := by decide +kernel
theorem dX4_skipped_7 : decode cX4_skipped 7 = .ok (.ifCond .ne 6, 3) := by decide +kernel
theorem dX4_skipped_10 : decode cX4_skipped 10 = .ok (.bipush (-2), 2) := by decide +kernel
theorem dX4_skipped_12 : decode cX4_skipped 12 = .ok (.ireturn, 1) := by decide +kernel
theorem dX4_skipped_13 : decode cX4_skipped 13 = .ok (.aload_n 0, 1) := by decide +kernel
theorem dX4_skipped_14 : decode cX4_skipped 14 = .ok (.invokevirtual 140, 3) := by decide +kernel
theorem dX4_skipped_17 : decode cX4_skipped 17 = .ok (.astore_n 2, 1) := by decide +kernel
theorem dX4_skipped_18 : decode cX4_skipped 18 = .ok (.iconst 0, 1) := by decide +kernel
theorem dX4_skipped_19 : decode cX4_skipped 19 = .ok (.istore_n 3, 1) := by decide +kernel
theorem dX4_skipped_20 : decode cX4_skipped 20 = .ok (.iconst 1, 1) := by decide +kernel
theorem dX4_skipped_21 : decode cX4_skipped 21 = .ok (.istore 4, 2) := by decide +kernel
theorem dX4_skipped_23 : decode cX4_skipped 23 = .ok (.iload 4, 2) := by decide +kernel
theorem dX4_skipped_25 : decode cX4_skipped 25 = .ok (.bipush 31, 2) := by decide +kernel
theorem dX4_skipped_27 : decode cX4_skipped 27 = .ok (.if_icmp .gt 29, 3) := by decide +kernel
theorem dX4_skipped_30 : decode cX4_skipped 30 = .ok (.aload_n 0, 1) := by decide +kernel
theorem dX4_skipped_31 : decode cX4_skipped 31 = .ok (.aload_n 2, 1) := by decide +kernel
theorem dX4_skipped_32 : decode cX4_skipped 32 = .ok (.iload 4, 2) := by decide +kernel
theorem dX4_skipped_34 : decode cX4_skipped 34 = .ok (.iload_n 1, 1) := by decide +kernel
theorem dX4_skipped_35 : decode cX4_skipped 35 = .ok (.invokevirtual 213, 3) := by decide +kernel
theorem dX4_skipped_38 : decode cX4_skipped 38 = .ok (.ifCond .eq 12, 3) := by decide +kernel
theorem dX4_skipped_41 : decode cX4_skipped 41 = .ok (.iload_n 3, 1) := by decide +kernel
theorem dX4_skipped_42 : decode cX4_skipped 42 = .ok (.iconst 1, 1) := by decide +kernel
theorem dX4_skipped_43 : decode cX4_skipped 43 = .ok (.iload 4, 2) := by decide +kernel
theorem dX4_skipped_45 : decode cX4_skipped 45 = .ok (.iconst 1, 1) := by decide +kernel
theorem dX4_skipped_46 : decode cX4_skipped 46 = .ok (.isub, 1) := by decide +kernel
theorem dX4_skipped_47 : decode cX4_skipped 47 = .ok (.ishl, 1) := by decide +kernel
theorem dX4_skipped_48 : decode cX4_skipped 48 = .ok (.ior, 1) := by decide +kernel
theorem dX4_skipped_49 : decode cX4_skipped 49 = .ok (.istore_n 3, 1) := by decide +kernel
theorem dX4_skipped_50 : decode cX4_skipped 50 = .ok (.iinc 4 1, 3) := by decide +kernel
theorem dX4_skipped_53 : decode cX4_skipped 53 = .ok (.goto (-30), 3) := by decide +kernel
theorem dX4_skipped_56 : decode cX4_skipped 56 = .ok (.iload_n 3, 1) := by decide +kernel
theorem dX4_skipped_57 : decode cX4_skipped 57 = .ok (.ireturn, 1) := by decide +kernel
theorem dX4_voids_0 : decode cX4_voids 0 = .ok (.iload_n 1, 1) := by decide +kernel
theorem dX4_voids_1 : decode cX4_voids 1 = .ok (.iconst (-1), 1) := by decide +kernel
theorem dX4_voids_2 : decode cX4_voids 2 = .ok (.sipush 239, 3) := by decide +kernel
theorem dX4_voids_5 : decode cX4_voids 5 = .ok (.invokestatic 109, 3) := by decide +kernel
theorem dX4_voids_8 : decode cX4_voids 8 = .ok (.ifCond .ne 6, 3) := by decide +kernel
theorem dX4_voids_11 : decode cX4_voids 11 = .ok (.bipush (-2), 2) := by decide +kernel
theorem dX4_voids_13 : decode cX4_voids 13 = .ok (.ireturn, 1) := by decide +kernel
theorem dX4_voids_14 : decode cX4_voids 14 = .ok (.aload_n 0, 1) := by decide +kernel
theorem dX4_voids_15 : decode cX4_voids 15 = .ok (.invokevirtual 140, 3) := by decide +kernel
theorem dX4_voids_18 : decode cX4_voids 18 = .ok (.astore_n 2, 1) := by decide +kernel
theorem dX4_voids_19 : decode cX4_voids 19 = .ok (.iconst 0, 1) := by decide +kernel
theorem dX4_voids_20 : decode cX4_voids 20 = .ok (.istore_n 3, 1) := by decide +kernel
theorem dX4_voids_21 : decode cX4_voids 21 = .ok (.iconst 0, 1) := by decide +kernel
theorem dX4_voids_22 : decode cX4_voids 22 = .ok (.istore 4, 2) := by decide +kernel
theorem dX4_voids_24 : decode cX4_voids 24 = .ok (.iload 4, 2) := by decide +kernel
theorem dX4_voids_26 : decode cX4_voids 26 = .ok (.sipush 240, 3) := by decide +kernel
theorem dX4_voids_29 : decode cX4_voids 29 = .ok (.if_icmp .ge 30, 3) := by decide +kernel
theorem dX4_voids_32 : decode cX4_voids 32 = .ok (.aload_n 0, 1) := by decide +kernel
theorem dX4_voids_33 : decode cX4_voids 33 = .ok (.aload_n 2, 1) := by decide +kernel
theorem dX4_voids_34 : decode cX4_voids 34 = .ok (.iload 4, 2) := by decide +kernel
theorem dX4_voids_36 : decode cX4_voids 36 = .ok (.invokevirtual 217, 3) := by decide +kernel
theorem dX4_voids_39 : decode cX4_voids 39 = .ok (.ifCond .eq 14, 3) := by decide +kernel
theorem dX4_voids_42 : decode cX4_voids 42 = .ok (.iload_n 3, 1) := by decide +kernel
theorem dX4_voids_43 : decode cX4_voids 43 = .ok (.iload_n 1, 1) := by decide +kernel
theorem dX4_voids_44 : decode cX4_voids 44 = .ok (.if_icmp .ne 6, 3) := by decide +kernel
theorem dX4_voids_47 : decode cX4_voids 47 = .ok (.iload 4, 2) := by decide +kernel
theorem dX4_voids_49 : decode cX4_voids 49 = .ok (.ireturn, 1) := by decide +kernel
theorem dX4_voids_50 : decode cX4_voids 50 = .ok (.iinc 3 1, 3) := by decide +kernel
theorem dX4_voids_53 : decode cX4_voids 53 = .ok (.iinc 4 1, 3) := by decide +kernel
theorem dX4_voids_56 : decode cX4_voids 56 = .ok (.goto (-32), 3) := by decide +kernel
theorem dX4_voids_59 : decode cX4_voids 59 = .ok (.iload_n 1, 1) := by decide +kernel
theorem dX4_voids_60 : decode cX4_voids 60 = .ok (.iconst (-1), 1) := by decide +kernel
theorem dX4_voids_61 : decode cX4_voids 61 = .ok (.if_icmp .ne 7, 3) := by decide +kernel
theorem dX4_voids_64 : decode cX4_voids 64 = .ok (.iload_n 3, 1) := by decide +kernel
theorem dX4_voids_65 : decode cX4_voids 65 = .ok (.goto 4, 3) := by decide +kernel
theorem dX4_voids_68 : decode cX4_voids 68 = .ok (.iconst (-1), 1) := by decide +kernel
theorem dX4_voids_69 : decode cX4_voids 69 = .ok (.ireturn, 1) := by decide +kernel
theorem dX4_often_0 : decode cX4_often 0 = .ok (.iload_n 1, 1) := by decide +kernel
theorem dX4_often_1 : decode cX4_often 1 = .ok (.aload_n 0, 1) := by decide +kernel
theorem dX4_often_2 : decode cX4_often 2 = .ok (.getfield 21, 3) := by decide +kernel
theorem dX4_often_5 : decode cX4_often 5 = .ok (.getfield 178, 3) := by decide +kernel
theorem dX4_often_8 : decode cX4_often 8 = .ok (.invokestatic 84, 3) := by decide +kernel
theorem dX4_often_11 : decode cX4_often 11 = .ok (.ifCond .eq 13, 3) := by decide +kernel
theorem dX4_often_14 : decode cX4_often 14 = .ok (.iload_n 2, 1) := by decide +kernel
theorem dX4_often_15 : decode cX4_often 15 = .ok (.iconst (-1), 1) := by decide +kernel
theorem dX4_often_16 : decode cX4_often 16 = .ok (.bipush 97, 2) := by decide +kernel
theorem dX4_often_18 : decode cX4_often 18 = .ok (.invokestatic 109, 3) := by decide +kernel
theorem dX4_often_21 : decode cX4_often 21 = .ok (.ifCond .ne 6, 3) := by decide +kernel
theorem dX4_often_24 : decode cX4_often 24 = .ok (.bipush (-2), 2) := by decide +kernel
theorem dX4_often_26 : decode cX4_often 26 = .ok (.ireturn, 1) := by decide +kernel
theorem dX4_often_27 : decode cX4_often 27 = .ok (.aload_n 0, 1) := by decide +kernel
theorem dX4_often_28 : decode cX4_often 28 = .ok (.invokevirtual 140, 3) := by decide +kernel
theorem dX4_often_31 : decode cX4_often 31 = .ok (.astore_n 3, 1) := by decide +kernel
theorem dX4_often_32 : decode cX4_often 32 = .ok (.aload_n 0, 1) := by decide +kernel
theorem dX4_often_33 : decode cX4_often 33 = .ok (.invokevirtual 221, 3) := by decide +kernel
theorem dX4_often_36 : decode cX4_often 36 = .ok (.istore 4, 2) := by decide +kernel
theorem dX4_often_38 : decode cX4_often 38 = .ok (.iconst 0, 1) := by decide +kernel
theorem dX4_often_39 : decode cX4_often 39 = .ok (.istore 5, 2) := by decide +kernel
theorem dX4_often_41 : decode cX4_often 41 = .ok (.iconst 2, 1) := by decide +kernel
theorem dX4_often_42 : decode cX4_often 42 = .ok (.istore 6, 2) := by decide +kernel
theorem dX4_often_44 : decode cX4_often 44 = .ok (.iload 6, 2) := by decide +kernel
theorem dX4_often_46 : decode cX4_often 46 = .ok (.bipush 99, 2) := by decide +kernel
theorem dX4_often_48 : decode cX4_often 48 = .ok (.if_icmp .gt 34, 3) := by decide +kernel
theorem dX4_often_51 : decode cX4_often 51 = .ok (.aload_n 0, 1) := by decide +kernel
theorem dX4_often_52 : decode cX4_often 52 = .ok (.aload_n 3, 1) := by decide +kernel
theorem dX4_often_53 : decode cX4_often 53 = .ok (.iload_n 1, 1) := by decide +kernel
theorem dX4_often_54 : decode cX4_often 54 = .ok (.iload 6, 2) := by decide +kernel
theorem dX4_often_56 : decode cX4_often 56 = .ok (.iload 4, 2) := by decide +kernel
theorem dX4_often_58 : decode cX4_often 58 = .ok (.invokevirtual 224, 3) := by decide +kernel
theorem dX4_often_61 : decode cX4_often 61 = .ok (.ifCond .eq 15, 3) := by decide +kernel
theorem dX4_often_64 : decode cX4_often 64 = .ok (.iload 5, 2) := by decide +kernel
theorem dX4_often_66 : decode cX4_often 66 = .ok (.iload_n 2, 1) := by decide +kernel
theorem dX4_often_67 : decode cX4_often 67 = .ok (.if_icmp .ne 6, 3) := by decide +kernel
theorem dX4_often_70 : decode cX4_often 70 = .ok (.iload 6, 2) := by decide +kernel
theorem dX4_often_72 : decode cX4_often 72 = .ok (.ireturn, 1) := by decide +kernel
theorem dX4_often_73 : decode cX4_often 73 = .ok (.iinc 5 1, 3) := by decide +kernel
theorem dX4_often_76 : decode cX4_often 76 = .ok (.iinc 6 1, 3) := by decide +kernel
theorem dX4_often_79 : decode cX4_often 79 = .ok (.goto (-35), 3) := by decide +kernel
theorem dX4_often_82 : decode cX4_often 82 = .ok (.iload_n 2, 1) := by decide +kernel
theorem dX4_often_83 : decode cX4_often 83 = .ok (.iconst (-1), 1) := by decide +kernel
theorem dX4_often_84 : decode cX4_often 84 = .ok (.if_icmp .ne 8, 3) := by decide +kernel
theorem dX4_often_87 : decode cX4_often 87 = .ok (.iload 5, 2) := by decide +kernel
theorem dX4_often_89 : decode cX4_often 89 = .ok (.goto 4, 3) := by decide +kernel
theorem dX4_often_92 : decode cX4_often 92 = .ok (.iconst (-1), 1) := by decide +kernel
theorem dX4_often_93 : decode cX4_often 93 = .ok (.ireturn, 1) := by decide +kernel
theorem dX4_hoarse_0 : decode cX4_hoarse 0 = .ok (.iload_n 1, 1) := by decide +kernel
theorem dX4_hoarse_1 : decode cX4_hoarse 1 = .ok (.iconst 0, 1) := by decide +kernel
theorem dX4_hoarse_2 : decode cX4_hoarse 2 = .ok (.bipush 16, 2) := by decide +kernel
theorem dX4_hoarse_4 : decode cX4_hoarse 4 = .ok (.invokestatic 109, 3) := by decide +kernel
theorem dX4_hoarse_7 : decode cX4_hoarse 7 = .ok (.ifCond .eq 21, 3) := by decide +kernel
theorem dX4_hoarse_10 : decode cX4_hoarse 10 = .ok (.iload_n 2, 1) := by decide +kernel
theorem dX4_hoarse_11 : decode cX4_hoarse 11 = .ok (.iconst 1, 1) := by decide +kernel
theorem dX4_hoarse_12 : decode cX4_hoarse 12 = .ok (.bipush 12, 2) := by decide +kernel
theorem dX4_hoarse_14 : decode cX4_hoarse 14 = .ok (.invokestatic 109, 3) := by decide +kernel
theorem dX4_hoarse_17 : decode cX4_hoarse 17 = .ok (.ifCond .eq 11, 3) := by decide +kernel
theorem dX4_hoarse_20 : decode cX4_hoarse 20 = .ok (.iload_n 3, 1) := by decide +kernel
theorem dX4_hoarse_21 : decode cX4_hoarse 21 = .ok (.iconst 2, 1) := by decide +kernel
theorem dX4_hoarse_22 : decode cX4_hoarse 22 = .ok (.invokestatic 84, 3) := by decide +kernel
theorem dX4_hoarse_25 : decode cX4_hoarse 25 = .ok (.ifCond .ne 7, 3) := by decide +kernel
theorem dX4_hoarse_28 : decode cX4_hoarse 28 = .ok (.ldc2_w 228, 3) := by decide +kernel
theorem dX4_hoarse_31 : decode cX4_hoarse 31 = .ok (.lreturn, 1) := by decide +kernel
theorem dX4_hoarse_32 : decode cX4_hoarse 32 = .ok (.aload_n 0, 1) := by decide +kernel
theorem dX4_hoarse_33 : decode cX4_hoarse 33 = .ok (.getfield 69, 3) := by decide +kernel
theorem dX4_hoarse_36 : decode cX4_hoarse 36 = .ok (.lconst 0, 1) := by decide +kernel
theorem dX4_hoarse_37 : decode cX4_hoarse 37 = .ok (.invokestatic 230, 3) := by decide +kernel
theorem dX4_hoarse_40 : decode cX4_hoarse 40 = .ok (.aload_n 0, 1) := by decide +kernel
theorem dX4_hoarse_41 : decode cX4_hoarse 41 = .ok (.getfield 69, 3) := by decide +kernel
theorem dX4_hoarse_44 : decode cX4_hoarse 44 = .ok (.iconst 0, 1) := by decide +kernel
theorem dX4_hoarse_45 : decode cX4_hoarse 45 = .ok (.lconst 1, 1) := by decide +kernel
theorem dX4_hoarse_46 : decode cX4_hoarse 46 = .ok (.lastore, 1) := by decide +kernel
theorem dX4_hoarse_47 : decode cX4_hoarse 47 = .ok (.lconst 0, 1) := by decide +kernel
theorem dX4_hoarse_48 : decode cX4_hoarse 48 = .ok (.lstore 4, 2) := by decide +kernel
theorem dX4_hoarse_50 : decode cX4_hoarse 50 = .ok (.lconst 1, 1) := by decide +kernel
theorem dX4_hoarse_51 : decode cX4_hoarse 51 = .ok (.lstore 6, 2) := by decide +kernel
theorem dX4_hoarse_53 : decode cX4_hoarse 53 = .ok (.iload_n 2, 1) := by decide +kernel
theorem dX4_hoarse_54 : decode cX4_hoarse 54 = .ok (.aload_n 0, 1) := by decide +kernel
theorem dX4_hoarse_55 : decode cX4_hoarse 55 = .ok (.invokevirtual 140, 3) := by decide +kernel
theorem dX4_hoarse_58 : decode cX4_hoarse 58 = .ok (.getfield 236, 3) := by decide +kernel
theorem dX4_hoarse_61 : decode cX4_hoarse 61 = .ok (.invokestatic 239, 3) := by decide +kernel
theorem dX4_hoarse_64 : decode cX4_hoarse 64 = .ok (.istore 8, 2) := by decide +kernel
theorem dX4_hoarse_66 : decode cX4_hoarse 66 = .ok (.iconst 0, 1) := by decide +kernel
theorem dX4_hoarse_67 : decode cX4_hoarse 67 = .ok (.istore 9, 2) := by decide +kernel
theorem dX4_hoarse_69 : decode cX4_hoarse 69 = .ok (.iload 9, 2) := by decide +kernel
theorem dX4_hoarse_71 : decode cX4_hoarse 71 = .ok (.iload 8, 2) := by decide +kernel
theorem dX4_hoarse_73 : decode cX4_hoarse 73 = .ok (.if_icmp .ge 37, 3) := by decide +kernel
theorem dX4_hoarse_76 : decode cX4_hoarse 76 = .ok (.aload_n 0, 1) := by decide +kernel
theorem dX4_hoarse_77 : decode cX4_hoarse 77 = .ok (.iload_n 1, 1) := by decide +kernel
theorem dX4_hoarse_78 : decode cX4_hoarse 78 = .ok (.invokevirtual 242, 3) := by decide +kernel
theorem dX4_hoarse_81 : decode cX4_hoarse 81 = .ok (.lload 4, 2) := by decide +kernel
theorem dX4_hoarse_83 : decode cX4_hoarse 83 = .ok (.ldc2_w 245, 3) := by decide +kernel
theorem dX4_hoarse_86 : decode cX4_hoarse 86 = .ok (.lmul, 1) := by decide +kernel
theorem dX4_hoarse_87 : decode cX4_hoarse 87 = .ok (.aload_n 0, 1) := by decide +kernel
theorem dX4_hoarse_88 : decode cX4_hoarse 88 = .ok (.getfield 69, 3) := by decide +kernel
theorem dX4_hoarse_91 : decode cX4_hoarse 91 = .ok (.iload_n 2, 1) := by decide +kernel
theorem dX4_hoarse_92 : decode cX4_hoarse 92 = .ok (.laload, 1) := by decide +kernel
theorem dX4_hoarse_93 : decode cX4_hoarse 93 = .ok (.ladd, 1) := by decide +kernel
theorem dX4_hoarse_94 : decode cX4_hoarse 94 = .ok (.lstore 4, 2) := by decide +kernel
theorem dX4_hoarse_96 : decode cX4_hoarse 96 = .ok (.lload 6, 2) := by decide +kernel
theorem dX4_hoarse_98 : decode cX4_hoarse 98 = .ok (.ldc2_w 245, 3) := by decide +kernel
theorem dX4_hoarse_101 : decode cX4_hoarse 101 = .ok (.lmul, 1) := by decide +kernel
theorem dX4_hoarse_102 : decode cX4_hoarse 102 = .ok (.lstore 6, 2) := by decide +kernel
theorem dX4_hoarse_104 : decode cX4_hoarse 104 = .ok (.iinc 9 1, 3) := by decide +kernel
theorem dX4_hoarse_107 : decode cX4_hoarse 107 = .ok (.goto (-38), 3) := by decide +kernel
theorem dX4_hoarse_110 : decode cX4_hoarse 110 = .ok (.lload 4, 2) := by decide +kernel
theorem dX4_hoarse_112 : decode cX4_hoarse 112 = .ok (.lload 6, 2) := by decide +kernel
theorem dX4_hoarse_114 : decode cX4_hoarse 114 = .ok (.invokestatic 247, 3) := by decide +kernel
theorem dX4_hoarse_117 : decode cX4_hoarse 117 = .ok (.istore 9, 2) := by decide +kernel
theorem dX4_hoarse_119 : decode cX4_hoarse 119 = .ok (.iload_n 3, 1) := by decide +kernel
theorem dX4_hoarse_120 : decode cX4_hoarse 120 = .ok (.ifCond .ne 11, 3) := by decide +kernel
theorem dX4_hoarse_123 : decode cX4_hoarse 123 = .ok (.lload 4, 2) := by decide +kernel
theorem dX4_hoarse_125 : decode cX4_hoarse 125 = .ok (.iload 9, 2) := by decide +kernel
theorem dX4_hoarse_127 : decode cX4_hoarse 127 = .ok (.lshr, 1) := by decide +kernel
theorem dX4_hoarse_128 : decode cX4_hoarse 128 = .ok (.goto 8, 3) := by decide +kernel
theorem dX4_hoarse_131 : decode cX4_hoarse 131 = .ok (.lload 6, 2) := by decide +kernel
theorem dX4_hoarse_133 : decode cX4_hoarse 133 = .ok (.iload 9, 2) := by decide +kernel
theorem dX4_hoarse_135 : decode cX4_hoarse 135 = .ok (.lshr, 1) := by decide +kernel
theorem dX4_hoarse_136 : decode cX4_hoarse 136 = .ok (.lreturn, 1) := by decide +kernel
theorem dX4_storm_0 : decode cX4_storm 0 = .ok (.iload_n 2, 1) := by decide +kernel
theorem dX4_storm_1 : decode cX4_storm 1 = .ok (.iconst 1, 1) := by decide +kernel
theorem dX4_storm_2 : decode cX4_storm 2 = .ok (.bipush 99, 2) := by decide +kernel
theorem dX4_storm_4 : decode cX4_storm 4 = .ok (.invokestatic 109, 3) := by decide +kernel
theorem dX4_storm_7 : decode cX4_storm 7 = .ok (.ifCond .eq 11, 3) := by decide +kernel
theorem dX4_storm_10 : decode cX4_storm 10 = .ok (.iload_n 3, 1) := by decide +kernel
theorem dX4_storm_11 : decode cX4_storm 11 = .ok (.iconst 2, 1) := by decide +kernel
theorem dX4_storm_12 : decode cX4_storm 12 = .ok (.invokestatic 84, 3) := by decide +kernel
theorem dX4_storm_15 : decode cX4_storm 15 = .ok (.ifCond .ne 6, 3) := by decide +kernel
theorem dX4_storm_18 : decode cX4_storm 18 = .ok (.bipush (-2), 2) := by decide +kernel
theorem dX4_storm_20 : decode cX4_storm 20 = .ok (.ireturn, 1) := by decide +kernel
theorem dX4_storm_21 : decode cX4_storm 21 = .ok (.aload_n 0, 1) := by decide +kernel
theorem dX4_storm_22 : decode cX4_storm 22 = .ok (.invokevirtual 140, 3) := by decide +kernel
theorem dX4_storm_25 : decode cX4_storm 25 = .ok (.astore 4, 2) := by decide +kernel
theorem dX4_storm_27 : decode cX4_storm 27 = .ok (.iconst 0, 1) := by decide +kernel
theorem dX4_storm_28 : decode cX4_storm 28 = .ok (.istore 5, 2) := by decide +kernel
theorem dX4_storm_30 : decode cX4_storm 30 = .ok (.iconst 0, 1) := by decide +kernel
theorem dX4_storm_31 : decode cX4_storm 31 = .ok (.istore 6, 2) := by decide +kernel
theorem dX4_storm_33 : decode cX4_storm 33 = .ok (.iload_n 1, 1) := by decide +kernel
theorem dX4_storm_34 : decode cX4_storm 34 = .ok (.istore 7, 2) := by decide +kernel
theorem dX4_storm_36 : decode cX4_storm 36 = .ok (.iconst 0, 1) := by decide +kernel
theorem dX4_storm_37 : decode cX4_storm 37 = .ok (.istore 8, 2) := by decide +kernel
theorem dX4_storm_39 : decode cX4_storm 39 = .ok (.iload 8, 2) := by decide +kernel
theorem dX4_storm_41 : decode cX4_storm 41 = .ok (.iload_n 2, 1) := by decide +kernel
theorem dX4_storm_42 : decode cX4_storm 42 = .ok (.if_icmp .ge 55, 3) := by decide +kernel
theorem dX4_storm_45 : decode cX4_storm 45 = .ok (.ldc 251, 2) := by decide +kernel
theorem dX4_storm_47 : decode cX4_storm 47 = .ok (.iload 7, 2) := by decide +kernel
theorem dX4_storm_49 : decode cX4_storm 49 = .ok (.imul, 1) := by decide +kernel
theorem dX4_storm_50 : decode cX4_storm 50 = .ok (.sipush 12345, 3) := by decide +kernel
theorem dX4_storm_53 : decode cX4_storm 53 = .ok (.iadd, 1) := by decide +kernel
theorem dX4_storm_54 : decode cX4_storm 54 = .ok (.istore 7, 2) := by decide +kernel
theorem dX4_storm_56 : decode cX4_storm 56 = .ok (.aload 4, 2) := by decide +kernel
theorem dX4_storm_58 : decode cX4_storm 58 = .ok (.iload 7, 2) := by decide +kernel
theorem dX4_storm_60 : decode cX4_storm 60 = .ok (.bipush 16, 2) := by decide +kernel
theorem dX4_storm_62 : decode cX4_storm 62 = .ok (.iushr, 1) := by decide +kernel
theorem dX4_storm_63 : decode cX4_storm 63 = .ok (.sipush 240, 3) := by decide +kernel
theorem dX4_storm_66 : decode cX4_storm 66 = .ok (.irem, 1) := by decide +kernel
theorem dX4_storm_67 : decode cX4_storm 67 = .ok (.invokevirtual 150, 3) := by decide +kernel
theorem dX4_storm_70 : decode cX4_storm 70 = .ok (.istore 9, 2) := by decide +kernel
theorem dX4_storm_72 : decode cX4_storm 72 = .ok (.iload 9, 2) := by decide +kernel
theorem dX4_storm_74 : decode cX4_storm 74 = .ok (.ifCond .le 17, 3) := by decide +kernel
theorem dX4_storm_77 : decode cX4_storm 77 = .ok (.iload 5, 2) := by decide +kernel
theorem dX4_storm_79 : decode cX4_storm 79 = .ok (.aload_n 0, 1) := by decide +kernel
theorem dX4_storm_80 : decode cX4_storm 80 = .ok (.iload 9, 2) := by decide +kernel
theorem dX4_storm_82 : decode cX4_storm 82 = .ok (.invokevirtual 165, 3) := by decide +kernel
theorem dX4_storm_85 : decode cX4_storm 85 = .ok (.iadd, 1) := by decide +kernel
theorem dX4_storm_86 : decode cX4_storm 86 = .ok (.istore 5, 2) := by decide +kernel
theorem dX4_storm_88 : decode cX4_storm 88 = .ok (.iinc 6 1, 3) := by decide +kernel
theorem dX4_storm_91 : decode cX4_storm 91 = .ok (.iinc 8 1, 3) := by decide +kernel
theorem dX4_storm_94 : decode cX4_storm 94 = .ok (.goto (-55), 3) := by decide +kernel
theorem dX4_storm_97 : decode cX4_storm 97 = .ok (.iload_n 3, 1) := by decide +kernel
theorem dX4_storm_98 : decode cX4_storm 98 = .ok (.ifCond .ne 8, 3) := by decide +kernel
theorem dX4_storm_101 : decode cX4_storm 101 = .ok (.iload 5, 2) := by decide +kernel
theorem dX4_storm_103 : decode cX4_storm 103 = .ok (.goto 5, 3) := by decide +kernel
theorem dX4_storm_106 : decode cX4_storm 106 = .ok (.iload 6, 2) := by decide +kernel
theorem dX4_storm_108 : decode cX4_storm 108 = .ok (.ireturn, 1) := by decide +kernel
theorem dX4_sheet_0 : decode cX4_sheet 0 = .ok (.iload_n 1, 1) := by decide +kernel
theorem dX4_sheet_1 : decode cX4_sheet 1 = .ok (.iconst 4, 1) := by decide +kernel
theorem dX4_sheet_2 : decode cX4_sheet 2 = .ok (.invokestatic 84, 3) := by decide +kernel
theorem dX4_sheet_5 : decode cX4_sheet 5 = .ok (.ifCond .eq 17, 3) := by decide +kernel
theorem dX4_sheet_8 : decode cX4_sheet 8 = .ok (.iload_n 2, 1) := by decide +kernel
theorem dX4_sheet_9 : decode cX4_sheet 9 = .ok (.iconst 3, 1) := by decide +kernel
theorem dX4_sheet_10 : decode cX4_sheet 10 = .ok (.invokestatic 84, 3) := by decide +kernel
theorem dX4_sheet_13 : decode cX4_sheet 13 = .ok (.ifCond .eq 9, 3) := by decide +kernel
theorem dX4_sheet_16 : decode cX4_sheet 16 = .ok (.iload_n 3, 1) := by decide +kernel
theorem dX4_sheet_17 : decode cX4_sheet 17 = .ok (.bipush 48, 2) := by decide +kernel
theorem dX4_sheet_19 : decode cX4_sheet 19 = .ok (.if_icmp .le 6, 3) := by decide +kernel
theorem dX4_sheet_22 : decode cX4_sheet 22 = .ok (.bipush (-2), 2) := by decide +kernel
theorem dX4_sheet_24 : decode cX4_sheet 24 = .ok (.ireturn, 1) := by decide +kernel
theorem dX4_sheet_25 : decode cX4_sheet 25 = .ok (.iload_n 3, 1) := by decide +kernel
theorem dX4_sheet_26 : decode cX4_sheet 26 = .ok (.ifCond .ge 9, 3) := by decide +kernel
theorem dX4_sheet_29 : decode cX4_sheet 29 = .ok (.aload_n 0, 1) := by decide +kernel
theorem dX4_sheet_30 : decode cX4_sheet 30 = .ok (.iconst 5, 1) := by decide +kernel
theorem dX4_sheet_31 : decode cX4_sheet 31 = .ok (.invokevirtual 252, 3) := by decide +kernel
theorem dX4_sheet_34 : decode cX4_sheet 34 = .ok (.ireturn, 1) := by decide +kernel
theorem dX4_sheet_35 : decode cX4_sheet 35 = .ok (.aload_n 0, 1) := by decide +kernel
theorem dX4_sheet_36 : decode cX4_sheet 36 = .ok (.getfield 61, 3) := by decide +kernel
theorem dX4_sheet_39 : decode cX4_sheet 39 = .ok (.iload_n 1, 1) := by decide +kernel
theorem dX4_sheet_40 : decode cX4_sheet 40 = .ok (.aaload, 1) := by decide +kernel
theorem dX4_sheet_41 : decode cX4_sheet 41 = .ok (.iload_n 2, 1) := by decide +kernel
theorem dX4_sheet_42 : decode cX4_sheet 42 = .ok (.iload_n 3, 1) := by decide +kernel
theorem dX4_sheet_43 : decode cX4_sheet 43 = .ok (.invokevirtual 255, 3) := by decide +kernel
theorem dX4_sheet_46 : decode cX4_sheet 46 = .ok (.iload_n 3, 1) := by decide +kernel
theorem dX4_sheet_47 : decode cX4_sheet 47 = .ok (.ireturn, 1) := by decide +kernel
theorem dX4_lose_0 : decode cX4_lose 0 = .ok (.aload_n 0, 1) := by decide +kernel
theorem dX4_lose_1 : decode cX4_lose 1 = .ok (.iload_n 1, 1) := by decide +kernel
theorem dX4_lose_2 : decode cX4_lose 2 = .ok (.invokevirtual 130, 3) := by decide +kernel
theorem dX4_lose_5 : decode cX4_lose 5 = .ok (.istore_n 2, 1) := by decide +kernel
theorem dX4_lose_6 : decode cX4_lose 6 = .ok (.iload_n 2, 1) := by decide +kernel
theorem dX4_lose_7 : decode cX4_lose 7 = .ok (.ifCond .eq 5, 3) := by decide +kernel
theorem dX4_lose_10 : decode cX4_lose 10 = .ok (.iload_n 2, 1) := by decide +kernel
theorem dX4_lose_11 : decode cX4_lose 11 = .ok (.ireturn, 1) := by decide +kernel
theorem dX4_lose_12 : decode cX4_lose 12 = .ok (.aload_n 0, 1) := by decide +kernel
theorem dX4_lose_13 : decode cX4_lose 13 = .ok (.getfield 61, 3) := by decide +kernel
theorem dX4_lose_16 : decode cX4_lose 16 = .ok (.iload_n 1, 1) := by decide +kernel
theorem dX4_lose_17 : decode cX4_lose 17 = .ok (.aaload, 1) := by decide +kernel
theorem dX4_lose_18 : decode cX4_lose 18 = .ok (.iconst 1, 1) := by decide +kernel
theorem dX4_lose_19 : decode cX4_lose 19 = .ok (.putfield 259, 3) := by decide +kernel
theorem dX4_lose_22 : decode cX4_lose 22 = .ok (.aload_n 0, 1) := by decide +kernel
theorem dX4_lose_23 : decode cX4_lose 23 = .ok (.getfield 61, 3) := by decide +kernel
theorem dX4_lose_26 : decode cX4_lose 26 = .ok (.iload_n 1, 1) := by decide +kernel
theorem dX4_lose_27 : decode cX4_lose 27 = .ok (.aaload, 1) := by decide +kernel
theorem dX4_lose_28 : decode cX4_lose 28 = .ok (.getfield 134, 3) := by decide +kernel
theorem dX4_lose_31 : decode cX4_lose 31 = .ok (.ireturn, 1) := by decide +kernel
theorem dX4_put_0 : decode cX4_put 0 = .ok (.aload_n 0, 1) := by decide +kernel
theorem dX4_put_1 : decode cX4_put 1 = .ok (.iload_n 1, 1) := by decide +kernel
theorem dX4_put_2 : decode cX4_put 2 = .ok (.iload_n 2, 1) := by decide +kernel
theorem dX4_put_3 : decode cX4_put 3 = .ok (.iload_n 3, 1) := by decide +kernel
theorem dX4_put_4 : decode cX4_put 4 = .ok (.invokevirtual 262, 3) := by decide +kernel
theorem dX4_put_7 : decode cX4_put 7 = .ok (.istore 5, 2) := by decide +kernel
theorem dX4_put_9 : decode cX4_put 9 = .ok (.iload 5, 2) := by decide +kernel
theorem dX4_put_11 : decode cX4_put 11 = .ok (.ifCond .eq 6, 3) := by decide +kernel
theorem dX4_put_14 : decode cX4_put 14 = .ok (.iload 5, 2) := by decide +kernel
theorem dX4_put_16 : decode cX4_put 16 = .ok (.ireturn, 1) := by decide +kernel
theorem dX4_put_17 : decode cX4_put 17 = .ok (.aload_n 0, 1) := by decide +kernel
theorem dX4_put_18 : decode cX4_put 18 = .ok (.getfield 61, 3) := by decide +kernel
theorem dX4_put_21 : decode cX4_put 21 = .ok (.iload_n 1, 1) := by decide +kernel
theorem dX4_put_22 : decode cX4_put 22 = .ok (.aaload, 1) := by decide +kernel
theorem dX4_put_23 : decode cX4_put 23 = .ok (.iload_n 3, 1) := by decide +kernel
theorem dX4_put_24 : decode cX4_put 24 = .ok (.iload 4, 2) := by decide +kernel
theorem dX4_put_26 : decode cX4_put 26 = .ok (.invokevirtual 266, 3) := by decide +kernel
theorem dX4_put_29 : decode cX4_put 29 = .ok (.iconst 1, 1) := by decide +kernel
theorem dX4_put_30 : decode cX4_put 30 = .ok (.ireturn, 1) := by decide +kernel
theorem dX4_get_0 : decode cX4_get 0 = .ok (.aload_n 0, 1) := by decide +kernel
theorem dX4_get_1 : decode cX4_get 1 = .ok (.iload_n 1, 1) := by decide +kernel
theorem dX4_get_2 : decode cX4_get 2 = .ok (.iload_n 2, 1) := by decide +kernel
theorem dX4_get_3 : decode cX4_get 3 = .ok (.iload_n 3, 1) := by decide +kernel
theorem dX4_get_4 : decode cX4_get 4 = .ok (.invokevirtual 262, 3) := by decide +kernel
theorem dX4_get_7 : decode cX4_get 7 = .ok (.ifCond .eq 9, 3) := by decide +kernel
theorem dX4_get_10 : decode cX4_get 10 = .ok (.ldc_w 269, 3) := by decide +kernel
theorem dX4_get_13 : decode cX4_get 13 = .ok (.goto 14, 3) := by decide +kernel
theorem dX4_get_16 : decode cX4_get 16 = .ok (.aload_n 0, 1) := by decide +kernel
theorem dX4_get_17 : decode cX4_get 17 = .ok (.getfield 61, 3) := by decide +kernel
theorem dX4_get_20 : decode cX4_get 20 = .ok (.iload_n 1, 1) := by decide +kernel
theorem dX4_get_21 : decode cX4_get 21 = .ok (.aaload, 1) := by decide +kernel
theorem dX4_get_22 : decode cX4_get 22 = .ok (.getfield 135, 3) := by decide +kernel
theorem dX4_get_25 : decode cX4_get 25 = .ok (.iload_n 3, 1) := by decide +kernel
theorem dX4_get_26 : decode cX4_get 26 = .ok (.iaload, 1) := by decide +kernel
theorem dX4_get_27 : decode cX4_get 27 = .ok (.ireturn, 1) := by decide +kernel
theorem dX4_copy_0 : decode cX4_copy 0 = .ok (.iload_n 1, 1) := by decide +kernel
theorem dX4_copy_1 : decode cX4_copy 1 = .ok (.iconst 4, 1) := by decide +kernel
theorem dX4_copy_2 : decode cX4_copy 2 = .ok (.invokestatic 84, 3) := by decide +kernel
theorem dX4_copy_5 : decode cX4_copy 5 = .ok (.ifCond .eq 11, 3) := by decide +kernel
theorem dX4_copy_8 : decode cX4_copy 8 = .ok (.iload_n 3, 1) := by decide +kernel
theorem dX4_copy_9 : decode cX4_copy 9 = .ok (.iconst 4, 1) := by decide +kernel
theorem dX4_copy_10 : decode cX4_copy 10 = .ok (.invokestatic 84, 3) := by decide +kernel
theorem dX4_copy_13 : decode cX4_copy 13 = .ok (.ifCond .ne 6, 3) := by decide +kernel
theorem dX4_copy_16 : decode cX4_copy 16 = .ok (.bipush (-2), 2) := by decide +kernel
theorem dX4_copy_18 : decode cX4_copy 18 = .ok (.ireturn, 1) := by decide +kernel
theorem dX4_copy_19 : decode cX4_copy 19 = .ok (.aload_n 0, 1) := by decide +kernel
theorem dX4_copy_20 : decode cX4_copy 20 = .ok (.getfield 61, 3) := by decide +kernel
theorem dX4_copy_23 : decode cX4_copy 23 = .ok (.iload_n 1, 1) := by decide +kernel
theorem dX4_copy_24 : decode cX4_copy 24 = .ok (.aaload, 1) := by decide +kernel
theorem dX4_copy_25 : decode cX4_copy 25 = .ok (.astore 6, 2) := by decide +kernel
theorem dX4_copy_27 : decode cX4_copy 27 = .ok (.aload_n 0, 1) := by decide +kernel
theorem dX4_copy_28 : decode cX4_copy 28 = .ok (.getfield 61, 3) := by decide +kernel
theorem dX4_copy_31 : decode cX4_copy 31 = .ok (.iload_n 3, 1) := by decide +kernel
theorem dX4_copy_32 : decode cX4_copy 32 = .ok (.aaload, 1) := by decide +kernel
theorem dX4_copy_33 : decode cX4_copy 33 = .ok (.astore 7, 2) := by decide +kernel
theorem dX4_copy_35 : decode cX4_copy 35 = .ok (.aload 6, 2) := by decide +kernel
theorem dX4_copy_37 : decode cX4_copy 37 = .ok (.getfield 259, 3) := by decide +kernel
theorem dX4_copy_40 : decode cX4_copy 40 = .ok (.ifCond .ne 11, 3) := by decide +kernel
theorem dX4_copy_43 : decode cX4_copy 43 = .ok (.aload 7, 2) := by decide +kernel
theorem dX4_copy_45 : decode cX4_copy 45 = .ok (.getfield 259, 3) := by decide +kernel
theorem dX4_copy_48 : decode cX4_copy 48 = .ok (.ifCond .eq 9, 3) := by decide +kernel
theorem dX4_copy_51 : decode cX4_copy 51 = .ok (.aload_n 0, 1) := by decide +kernel
theorem dX4_copy_52 : decode cX4_copy 52 = .ok (.iconst 1, 1) := by decide +kernel
theorem dX4_copy_53 : decode cX4_copy 53 = .ok (.invokevirtual 252, 3) := by decide +kernel
theorem dX4_copy_56 : decode cX4_copy 56 = .ok (.ireturn, 1) := by decide +kernel
theorem dX4_copy_57 : decode cX4_copy 57 = .ok (.aload 6, 2) := by decide +kernel
theorem dX4_copy_59 : decode cX4_copy 59 = .ok (.getfield 270, 3) := by decide +kernel
theorem dX4_copy_62 : decode cX4_copy 62 = .ok (.aload 7, 2) := by decide +kernel
theorem dX4_copy_64 : decode cX4_copy 64 = .ok (.getfield 270, 3) := by decide +kernel
theorem dX4_copy_67 : decode cX4_copy 67 = .ok (.if_icmp .eq 9, 3) := by decide +kernel
theorem dX4_copy_70 : decode cX4_copy 70 = .ok (.aload_n 0, 1) := by decide +kernel
theorem dX4_copy_71 : decode cX4_copy 71 = .ok (.iconst 4, 1) := by decide +kernel
theorem dX4_copy_72 : decode cX4_copy 72 = .ok (.invokevirtual 252, 3) := by decide +kernel
theorem dX4_copy_75 : decode cX4_copy 75 = .ok (.ireturn, 1) := by decide +kernel
theorem dX4_copy_76 : decode cX4_copy 76 = .ok (.aload 6, 2) := by decide +kernel
theorem dX4_copy_78 : decode cX4_copy 78 = .ok (.iload_n 2, 1) := by decide +kernel
theorem dX4_copy_79 : decode cX4_copy 79 = .ok (.iload 5, 2) := by decide +kernel
theorem dX4_copy_81 : decode cX4_copy 81 = .ok (.invokevirtual 273, 3) := by decide +kernel
theorem dX4_copy_84 : decode cX4_copy 84 = .ok (.ifCond .eq 15, 3) := by decide +kernel
theorem dX4_copy_87 : decode cX4_copy 87 = .ok (.aload 7, 2) := by decide +kernel
theorem dX4_copy_89 : decode cX4_copy 89 = .ok (.iload 4, 2) := by decide +kernel
theorem dX4_copy_91 : decode cX4_copy 91 = .ok (.iload 5, 2) := by decide +kernel
theorem dX4_copy_93 : decode cX4_copy 93 = .ok (.invokevirtual 273, 3) := by decide +kernel
theorem dX4_copy_96 : decode cX4_copy 96 = .ok (.ifCond .ne 9, 3) := by decide +kernel
theorem dX4_copy_99 : decode cX4_copy 99 = .ok (.aload_n 0, 1) := by decide +kernel
theorem dX4_copy_100 : decode cX4_copy 100 = .ok (.iconst 2, 1) := by decide +kernel
theorem dX4_copy_101 : decode cX4_copy 101 = .ok (.invokevirtual 252, 3) := by decide +kernel
theorem dX4_copy_104 : decode cX4_copy 104 = .ok (.ireturn, 1) := by decide +kernel
theorem dX4_copy_105 : decode cX4_copy 105 = .ok (.aload 6, 2) := by decide +kernel
theorem dX4_copy_107 : decode cX4_copy 107 = .ok (.getfield 135, 3) := by decide +kernel
theorem dX4_copy_110 : decode cX4_copy 110 = .ok (.iload_n 2, 1) := by decide +kernel
theorem dX4_copy_111 : decode cX4_copy 111 = .ok (.aload 7, 2) := by decide +kernel
theorem dX4_copy_113 : decode cX4_copy 113 = .ok (.getfield 135, 3) := by decide +kernel
theorem dX4_copy_116 : decode cX4_copy 116 = .ok (.iload 4, 2) := by decide +kernel
theorem dX4_copy_118 : decode cX4_copy 118 = .ok (.iload 5, 2) := by decide +kernel
theorem dX4_copy_120 : decode cX4_copy 120 = .ok (.invokestatic 276, 3) := by decide +kernel
theorem dX4_copy_123 : decode cX4_copy 123 = .ok (.iconst 1, 1) := by decide +kernel
theorem dX4_copy_124 : decode cX4_copy 124 = .ok (.ireturn, 1) := by decide +kernel
theorem dX4_write_0 : decode cX4_write 0 = .ok (.iload_n 1, 1) := by decide +kernel
theorem dX4_write_1 : decode cX4_write 1 = .ok (.invokestatic 117, 3) := by decide +kernel
theorem dX4_write_4 : decode cX4_write 4 = .ok (.ifCond .ne 6, 3) := by decide +kernel
theorem dX4_write_7 : decode cX4_write 7 = .ok (.bipush (-2), 2) := by decide +kernel
theorem dX4_write_9 : decode cX4_write 9 = .ok (.ireturn, 1) := by decide +kernel
theorem dX4_write_10 : decode cX4_write 10 = .ok (.aload_n 0, 1) := by decide +kernel
theorem dX4_write_11 : decode cX4_write 11 = .ok (.iload_n 2, 1) := by decide +kernel
theorem dX4_write_12 : decode cX4_write 12 = .ok (.invokevirtual 130, 3) := by decide +kernel
theorem dX4_write_15 : decode cX4_write 15 = .ok (.istore_n 3, 1) := by decide +kernel
theorem dX4_write_16 : decode cX4_write 16 = .ok (.iload_n 3, 1) := by decide +kernel
theorem dX4_write_17 : decode cX4_write 17 = .ok (.ifCond .eq 5, 3) := by decide +kernel
theorem dX4_write_20 : decode cX4_write 20 = .ok (.iload_n 3, 1) := by decide +kernel
theorem dX4_write_21 : decode cX4_write 21 = .ok (.ireturn, 1) := by decide +kernel
theorem dX4_write_22 : decode cX4_write 22 = .ok (.aload_n 0, 1) := by decide +kernel
theorem dX4_write_23 : decode cX4_write 23 = .ok (.invokevirtual 140, 3) := by decide +kernel
theorem dX4_write_26 : decode cX4_write 26 = .ok (.astore 4, 2) := by decide +kernel
theorem dX4_write_28 : decode cX4_write 28 = .ok (.aload_n 0, 1) := by decide +kernel
theorem dX4_write_29 : decode cX4_write 29 = .ok (.getfield 61, 3) := by decide +kernel
theorem dX4_write_32 : decode cX4_write 32 = .ok (.iload_n 2, 1) := by decide +kernel
theorem dX4_write_33 : decode cX4_write 33 = .ok (.aaload, 1) := by decide +kernel
theorem dX4_write_34 : decode cX4_write 34 = .ok (.getfield 134, 3) := by decide +kernel
theorem dX4_write_37 : decode cX4_write 37 = .ok (.sipush 240, 3) := by decide +kernel
theorem dX4_write_40 : decode cX4_write 40 = .ok (.iload_n 1, 1) := by decide +kernel
theorem dX4_write_41 : decode cX4_write 41 = .ok (.isub, 1) := by decide +kernel
theorem dX4_write_42 : decode cX4_write 42 = .ok (.invokestatic 239, 3) := by decide +kernel
theorem dX4_write_45 : decode cX4_write 45 = .ok (.istore 5, 2) := by decide +kernel
theorem dX4_write_47 : decode cX4_write 47 = .ok (.iconst 0, 1) := by decide +kernel
theorem dX4_write_48 : decode cX4_write 48 = .ok (.istore 6, 2) := by decide +kernel
theorem dX4_write_50 : decode cX4_write 50 = .ok (.iload 6, 2) := by decide +kernel
theorem dX4_write_52 : decode cX4_write 52 = .ok (.iload 5, 2) := by decide +kernel
theorem dX4_write_54 : decode cX4_write 54 = .ok (.if_icmp .ge 29, 3) := by decide +kernel
theorem dX4_write_57 : decode cX4_write 57 = .ok (.aload_n 0, 1) := by decide +kernel
theorem dX4_write_58 : decode cX4_write 58 = .ok (.getfield 61, 3) := by decide +kernel
theorem dX4_write_61 : decode cX4_write 61 = .ok (.iload_n 2, 1) := by decide +kernel
theorem dX4_write_62 : decode cX4_write 62 = .ok (.aaload, 1) := by decide +kernel
theorem dX4_write_63 : decode cX4_write 63 = .ok (.iload 6, 2) := by decide +kernel
theorem dX4_write_65 : decode cX4_write 65 = .ok (.aload 4, 2) := by decide +kernel
theorem dX4_write_67 : decode cX4_write 67 = .ok (.iload_n 1, 1) := by decide +kernel
theorem dX4_write_68 : decode cX4_write 68 = .ok (.iload 6, 2) := by decide +kernel
theorem dX4_write_70 : decode cX4_write 70 = .ok (.iadd, 1) := by decide +kernel
theorem dX4_write_71 : decode cX4_write 71 = .ok (.invokevirtual 150, 3) := by decide +kernel
theorem dX4_write_74 : decode cX4_write 74 = .ok (.invokevirtual 266, 3) := by decide +kernel
theorem dX4_write_77 : decode cX4_write 77 = .ok (.iinc 6 1, 3) := by decide +kernel
theorem dX4_write_80 : decode cX4_write 80 = .ok (.goto (-30), 3) := by decide +kernel
theorem dX4_write_83 : decode cX4_write 83 = .ok (.iload 5, 2) := by decide +kernel
theorem dX4_write_85 : decode cX4_write 85 = .ok (.ireturn, 1) := by decide +kernel
theorem dX4_count_0 : decode cX4_count 0 = .ok (.iload_n 1, 1) := by decide +kernel
theorem dX4_count_1 : decode cX4_count 1 = .ok (.tableswitch 124 0 8 #[51, 59, 67, 75, 83, 95, 103, 111, 119], 51) := by decide +kernel
theorem dX4_count_52 : decode cX4_count 52 = .ok (.aload_n 0, 1) := by decide +kernel
theorem dX4_count_53 : decode cX4_count 53 = .ok (.getfield 21, 3) := by decide +kernel
theorem dX4_count_56 : decode cX4_count 56 = .ok (.getfield 178, 3) := by decide +kernel
theorem dX4_count_59 : decode cX4_count 59 = .ok (.ireturn, 1) := by decide +kernel
theorem dX4_count_60 : decode cX4_count 60 = .ok (.aload_n 0, 1) := by decide +kernel
theorem dX4_count_61 : decode cX4_count 61 = .ok (.getfield 31, 3) := by decide +kernel
theorem dX4_count_64 : decode cX4_count 64 = .ok (.getfield 178, 3) := by decide +kernel
theorem dX4_count_67 : decode cX4_count 67 = .ok (.ireturn, 1) := by decide +kernel
theorem dX4_count_68 : decode cX4_count 68 = .ok (.aload_n 0, 1) := by decide +kernel
theorem dX4_count_69 : decode cX4_count 69 = .ok (.getfield 21, 3) := by decide +kernel
theorem dX4_count_72 : decode cX4_count 72 = .ok (.getfield 96, 3) := by decide +kernel
theorem dX4_count_75 : decode cX4_count 75 = .ok (.ireturn, 1) := by decide +kernel
theorem dX4_count_76 : decode cX4_count 76 = .ok (.aload_n 0, 1) := by decide +kernel
theorem dX4_count_77 : decode cX4_count 77 = .ok (.getfield 31, 3) := by decide +kernel
theorem dX4_count_80 : decode cX4_count 80 = .ok (.getfield 96, 3) := by decide +kernel
theorem dX4_count_83 : decode cX4_count 83 = .ok (.ireturn, 1) := by decide +kernel
theorem dX4_count_84 : decode cX4_count 84 = .ok (.aload_n 0, 1) := by decide +kernel
theorem dX4_count_85 : decode cX4_count 85 = .ok (.invokevirtual 140, 3) := by decide +kernel
theorem dX4_count_88 : decode cX4_count 88 = .ok (.aload_n 0, 1) := by decide +kernel
theorem dX4_count_89 : decode cX4_count 89 = .ok (.getfield 73, 3) := by decide +kernel
theorem dX4_count_92 : decode cX4_count 92 = .ok (.invokevirtual 207, 3) := by decide +kernel
theorem dX4_count_95 : decode cX4_count 95 = .ok (.ireturn, 1) := by decide +kernel
theorem dX4_count_96 : decode cX4_count 96 = .ok (.aload_n 0, 1) := by decide +kernel
theorem dX4_count_97 : decode cX4_count 97 = .ok (.getfield 46, 3) := by decide +kernel
theorem dX4_count_100 : decode cX4_count 100 = .ok (.getfield 127, 3) := by decide +kernel
theorem dX4_count_103 : decode cX4_count 103 = .ok (.ireturn, 1) := by decide +kernel
theorem dX4_count_104 : decode cX4_count 104 = .ok (.aload_n 0, 1) := by decide +kernel
theorem dX4_count_105 : decode cX4_count 105 = .ok (.invokevirtual 140, 3) := by decide +kernel
theorem dX4_count_108 : decode cX4_count 108 = .ok (.invokevirtual 199, 3) := by decide +kernel
theorem dX4_count_111 : decode cX4_count 111 = .ok (.ireturn, 1) := by decide +kernel
theorem dX4_count_112 : decode cX4_count 112 = .ok (.aload_n 0, 1) := by decide +kernel
theorem dX4_count_113 : decode cX4_count 113 = .ok (.getfield 49, 3) := by decide +kernel
theorem dX4_count_116 : decode cX4_count 116 = .ok (.getfield 127, 3) := by decide +kernel
theorem dX4_count_119 : decode cX4_count 119 = .ok (.ireturn, 1) := by decide +kernel
theorem dX4_count_120 : decode cX4_count 120 = .ok (.aload_n 0, 1) := by decide +kernel
theorem dX4_count_121 : decode cX4_count 121 = .ok (.getfield 77, 3) := by decide +kernel
theorem dX4_count_124 : decode cX4_count 124 = .ok (.ireturn, 1) := by decide +kernel
theorem dX4_count_125 : decode cX4_count 125 = .ok (.bipush (-2), 2) := by decide +kernel
theorem dX4_count_127 : decode cX4_count 127 = .ok (.ireturn, 1) := by decide +kernel
theorem dX4_digest_0 : decode cX4_digest 0 = .ok (.ldc2_w 282, 3) := by decide +kernel
theorem dX4_digest_3 : decode cX4_digest 3 = .ok (.lstore_n 1, 1) := by decide +kernel
theorem dX4_digest_4 : decode cX4_digest 4 = .ok (.iconst 0, 1) := by decide +kernel
theorem dX4_digest_5 : decode cX4_digest 5 = .ok (.istore_n 3, 1) := by decide +kernel
theorem dX4_digest_6 : decode cX4_digest 6 = .ok (.iload_n 3, 1) := by decide +kernel
theorem dX4_digest_7 : decode cX4_digest 7 = .ok (.bipush 7, 2) := by decide +kernel
theorem dX4_digest_9 : decode cX4_digest 9 = .ok (.if_icmp .gt 22, 3) := by decide +kernel
theorem dX4_digest_12 : decode cX4_digest 12 = .ok (.ldc2_w 284, 3) := by decide +kernel
theorem dX4_digest_15 : decode cX4_digest 15 = .ok (.lload_n 1, 1) := by decide +kernel
theorem dX4_digest_16 : decode cX4_digest 16 = .ok (.lmul, 1) := by decide +kernel
theorem dX4_digest_17 : decode cX4_digest 17 = .ok (.aload_n 0, 1) := by decide +kernel
theorem dX4_digest_18 : decode cX4_digest 18 = .ok (.iload_n 3, 1) := by decide +kernel
theorem dX4_digest_19 : decode cX4_digest 19 = .ok (.invokevirtual 286, 3) := by decide +kernel
theorem dX4_digest_22 : decode cX4_digest 22 = .ok (.i2l, 1) := by decide +kernel
theorem dX4_digest_23 : decode cX4_digest 23 = .ok (.ladd, 1) := by decide +kernel
theorem dX4_digest_24 : decode cX4_digest 24 = .ok (.lstore_n 1, 1) := by decide +kernel
theorem dX4_digest_25 : decode cX4_digest 25 = .ok (.iinc 3 1, 3) := by decide +kernel
theorem dX4_digest_28 : decode cX4_digest 28 = .ok (.goto (-22), 3) := by decide +kernel
theorem dX4_digest_31 : decode cX4_digest 31 = .ok (.ldc2_w 284, 3) := by decide +kernel
theorem dX4_digest_34 : decode cX4_digest 34 = .ok (.lload_n 1, 1) := by decide +kernel
theorem dX4_digest_35 : decode cX4_digest 35 = .ok (.lmul, 1) := by decide +kernel
theorem dX4_digest_36 : decode cX4_digest 36 = .ok (.aload_n 0, 1) := by decide +kernel
theorem dX4_digest_37 : decode cX4_digest 37 = .ok (.iconst 0, 1) := by decide +kernel
theorem dX4_digest_38 : decode cX4_digest 38 = .ok (.invokevirtual 289, 3) := by decide +kernel
theorem dX4_digest_41 : decode cX4_digest 41 = .ok (.i2l, 1) := by decide +kernel
theorem dX4_digest_42 : decode cX4_digest 42 = .ok (.ladd, 1) := by decide +kernel
theorem dX4_digest_43 : decode cX4_digest 43 = .ok (.lstore_n 1, 1) := by decide +kernel
theorem dX4_digest_44 : decode cX4_digest 44 = .ok (.ldc2_w 284, 3) := by decide +kernel
theorem dX4_digest_47 : decode cX4_digest 47 = .ok (.lload_n 1, 1) := by decide +kernel
theorem dX4_digest_48 : decode cX4_digest 48 = .ok (.lmul, 1) := by decide +kernel
theorem dX4_digest_49 : decode cX4_digest 49 = .ok (.aload_n 0, 1) := by decide +kernel
theorem dX4_digest_50 : decode cX4_digest 50 = .ok (.iconst 1, 1) := by decide +kernel
theorem dX4_digest_51 : decode cX4_digest 51 = .ok (.invokevirtual 289, 3) := by decide +kernel
theorem dX4_digest_54 : decode cX4_digest 54 = .ok (.i2l, 1) := by decide +kernel
theorem dX4_digest_55 : decode cX4_digest 55 = .ok (.ladd, 1) := by decide +kernel
theorem dX4_digest_56 : decode cX4_digest 56 = .ok (.lstore_n 1, 1) := by decide +kernel
theorem dX4_digest_57 : decode cX4_digest 57 = .ok (.aload_n 0, 1) := by decide +kernel
theorem dX4_digest_58 : decode cX4_digest 58 = .ok (.lload_n 1, 1) := by decide +kernel
theorem dX4_digest_59 : decode cX4_digest 59 = .ok (.invokevirtual 292, 3) := by decide +kernel
theorem dX4_digest_62 : decode cX4_digest 62 = .ok (.lstore_n 1, 1) := by decide +kernel
theorem dX4_digest_63 : decode cX4_digest 63 = .ok (.aload_n 0, 1) := by decide +kernel
theorem dX4_digest_64 : decode cX4_digest 64 = .ok (.lload_n 1, 1) := by decide +kernel
theorem dX4_digest_65 : decode cX4_digest 65 = .ok (.invokevirtual 296, 3) := by decide +kernel
theorem dX4_digest_68 : decode cX4_digest 68 = .ok (.lstore_n 1, 1) := by decide +kernel
theorem dX4_digest_69 : decode cX4_digest 69 = .ok (.aload_n 0, 1) := by decide +kernel
theorem dX4_digest_70 : decode cX4_digest 70 = .ok (.lload_n 1, 1) := by decide +kernel
theorem dX4_digest_71 : decode cX4_digest 71 = .ok (.invokevirtual 299, 3) := by decide +kernel
theorem dX4_digest_74 : decode cX4_digest 74 = .ok (.lstore_n 1, 1) := by decide +kernel
theorem dX4_digest_75 : decode cX4_digest 75 = .ok (.aload_n 0, 1) := by decide +kernel
theorem dX4_digest_76 : decode cX4_digest 76 = .ok (.lload_n 1, 1) := by decide +kernel
theorem dX4_digest_77 : decode cX4_digest 77 = .ok (.invokevirtual 302, 3) := by decide +kernel
theorem dX4_digest_80 : decode cX4_digest 80 = .ok (.lstore_n 1, 1) := by decide +kernel
theorem dX4_digest_81 : decode cX4_digest 81 = .ok (.aload_n 0, 1) := by decide +kernel
theorem dX4_digest_82 : decode cX4_digest 82 = .ok (.lload_n 1, 1) := by decide +kernel
theorem dX4_digest_83 : decode cX4_digest 83 = .ok (.invokevirtual 305, 3) := by decide +kernel
theorem dX4_digest_86 : decode cX4_digest 86 = .ok (.lstore_n 1, 1) := by decide +kernel
theorem dX4_digest_87 : decode cX4_digest 87 = .ok (.aload_n 0, 1) := by decide +kernel
theorem dX4_digest_88 : decode cX4_digest 88 = .ok (.lload_n 1, 1) := by decide +kernel
theorem dX4_digest_89 : decode cX4_digest 89 = .ok (.invokevirtual 308, 3) := by decide +kernel
theorem dX4_digest_92 : decode cX4_digest 92 = .ok (.lreturn, 1) := by decide +kernel
theorem dX4_digestSwells_0 : decode cX4_digestSwells 0 = .ok (.lload_n 1, 1) := by decide +kernel
theorem dX4_digestSwells_1 : decode cX4_digestSwells 1 = .ok (.lstore_n 3, 1) := by decide +kernel
theorem dX4_digestSwells_2 : decode cX4_digestSwells 2 = .ok (.iconst 0, 1) := by decide +kernel
theorem dX4_digestSwells_3 : decode cX4_digestSwells 3 = .ok (.istore 5, 2) := by decide +kernel
theorem dX4_digestSwells_5 : decode cX4_digestSwells 5 = .ok (.iload 5, 2) := by decide +kernel
theorem dX4_digestSwells_7 : decode cX4_digestSwells 7 = .ok (.aload_n 0, 1) := by decide +kernel
theorem dX4_digestSwells_8 : decode cX4_digestSwells 8 = .ok (.getfield 21, 3) := by decide +kernel
theorem dX4_digestSwells_11 : decode cX4_digestSwells 11 = .ok (.getfield 178, 3) := by decide +kernel
theorem dX4_digestSwells_14 : decode cX4_digestSwells 14 = .ok (.if_icmp .ge 104, 3) := by decide +kernel
theorem dX4_digestSwells_17 : decode cX4_digestSwells 17 = .ok (.iconst 0, 1) := by decide +kernel
theorem dX4_digestSwells_18 : decode cX4_digestSwells 18 = .ok (.istore 6, 2) := by decide +kernel
theorem dX4_digestSwells_20 : decode cX4_digestSwells 20 = .ok (.iload 6, 2) := by decide +kernel
theorem dX4_digestSwells_22 : decode cX4_digestSwells 22 = .ok (.iconst 3, 1) := by decide +kernel
theorem dX4_digestSwells_23 : decode cX4_digestSwells 23 = .ok (.if_icmp .ge 25, 3) := by decide +kernel
theorem dX4_digestSwells_26 : decode cX4_digestSwells 26 = .ok (.ldc2_w 284, 3) := by decide +kernel
theorem dX4_digestSwells_29 : decode cX4_digestSwells 29 = .ok (.lload_n 3, 1) := by decide +kernel
theorem dX4_digestSwells_30 : decode cX4_digestSwells 30 = .ok (.lmul, 1) := by decide +kernel
theorem dX4_digestSwells_31 : decode cX4_digestSwells 31 = .ok (.aload_n 0, 1) := by decide +kernel
theorem dX4_digestSwells_32 : decode cX4_digestSwells 32 = .ok (.iload 5, 2) := by decide +kernel
theorem dX4_digestSwells_34 : decode cX4_digestSwells 34 = .ok (.iload 6, 2) := by decide +kernel
theorem dX4_digestSwells_36 : decode cX4_digestSwells 36 = .ok (.invokevirtual 311, 3) := by decide +kernel
theorem dX4_digestSwells_39 : decode cX4_digestSwells 39 = .ok (.i2l, 1) := by decide +kernel
theorem dX4_digestSwells_40 : decode cX4_digestSwells 40 = .ok (.ladd, 1) := by decide +kernel
theorem dX4_digestSwells_41 : decode cX4_digestSwells 41 = .ok (.lstore_n 3, 1) := by decide +kernel
theorem dX4_digestSwells_42 : decode cX4_digestSwells 42 = .ok (.iinc 6 1, 3) := by decide +kernel
theorem dX4_digestSwells_45 : decode cX4_digestSwells 45 = .ok (.goto (-25), 3) := by decide +kernel
theorem dX4_digestSwells_48 : decode cX4_digestSwells 48 = .ok (.ldc2_w 284, 3) := by decide +kernel
theorem dX4_digestSwells_51 : decode cX4_digestSwells 51 = .ok (.lload_n 3, 1) := by decide +kernel
theorem dX4_digestSwells_52 : decode cX4_digestSwells 52 = .ok (.lmul, 1) := by decide +kernel
theorem dX4_digestSwells_53 : decode cX4_digestSwells 53 = .ok (.aload_n 0, 1) := by decide +kernel
theorem dX4_digestSwells_54 : decode cX4_digestSwells 54 = .ok (.iconst 0, 1) := by decide +kernel
theorem dX4_digestSwells_55 : decode cX4_digestSwells 55 = .ok (.iload 5, 2) := by decide +kernel
theorem dX4_digestSwells_57 : decode cX4_digestSwells 57 = .ok (.iconst 5, 1) := by decide +kernel
theorem dX4_digestSwells_58 : decode cX4_digestSwells 58 = .ok (.iconst 0, 1) := by decide +kernel
theorem dX4_digestSwells_59 : decode cX4_digestSwells 59 = .ok (.invokevirtual 314, 3) := by decide +kernel
theorem dX4_digestSwells_62 : decode cX4_digestSwells 62 = .ok (.i2l, 1) := by decide +kernel
theorem dX4_digestSwells_63 : decode cX4_digestSwells 63 = .ok (.ladd, 1) := by decide +kernel
theorem dX4_digestSwells_64 : decode cX4_digestSwells 64 = .ok (.lstore_n 3, 1) := by decide +kernel
theorem dX4_digestSwells_65 : decode cX4_digestSwells 65 = .ok (.ldc2_w 284, 3) := by decide +kernel
theorem dX4_digestSwells_68 : decode cX4_digestSwells 68 = .ok (.lload_n 3, 1) := by decide +kernel
theorem dX4_digestSwells_69 : decode cX4_digestSwells 69 = .ok (.lmul, 1) := by decide +kernel
theorem dX4_digestSwells_70 : decode cX4_digestSwells 70 = .ok (.aload_n 0, 1) := by decide +kernel
theorem dX4_digestSwells_71 : decode cX4_digestSwells 71 = .ok (.iconst 0, 1) := by decide +kernel
theorem dX4_digestSwells_72 : decode cX4_digestSwells 72 = .ok (.iload 5, 2) := by decide +kernel
theorem dX4_digestSwells_74 : decode cX4_digestSwells 74 = .ok (.iconst 5, 1) := by decide +kernel
theorem dX4_digestSwells_75 : decode cX4_digestSwells 75 = .ok (.iconst 1, 1) := by decide +kernel
theorem dX4_digestSwells_76 : decode cX4_digestSwells 76 = .ok (.invokevirtual 314, 3) := by decide +kernel
theorem dX4_digestSwells_79 : decode cX4_digestSwells 79 = .ok (.i2l, 1) := by decide +kernel
theorem dX4_digestSwells_80 : decode cX4_digestSwells 80 = .ok (.ladd, 1) := by decide +kernel
theorem dX4_digestSwells_81 : decode cX4_digestSwells 81 = .ok (.lstore_n 3, 1) := by decide +kernel
theorem dX4_digestSwells_82 : decode cX4_digestSwells 82 = .ok (.ldc2_w 284, 3) := by decide +kernel
theorem dX4_digestSwells_85 : decode cX4_digestSwells 85 = .ok (.lload_n 3, 1) := by decide +kernel
theorem dX4_digestSwells_86 : decode cX4_digestSwells 86 = .ok (.lmul, 1) := by decide +kernel
theorem dX4_digestSwells_87 : decode cX4_digestSwells 87 = .ok (.aload_n 0, 1) := by decide +kernel
theorem dX4_digestSwells_88 : decode cX4_digestSwells 88 = .ok (.iload 5, 2) := by decide +kernel
theorem dX4_digestSwells_90 : decode cX4_digestSwells 90 = .ok (.iconst (-1), 1) := by decide +kernel
theorem dX4_digestSwells_91 : decode cX4_digestSwells 91 = .ok (.invokevirtual 318, 3) := by decide +kernel
theorem dX4_digestSwells_94 : decode cX4_digestSwells 94 = .ok (.i2l, 1) := by decide +kernel
theorem dX4_digestSwells_95 : decode cX4_digestSwells 95 = .ok (.ladd, 1) := by decide +kernel
theorem dX4_digestSwells_96 : decode cX4_digestSwells 96 = .ok (.lstore_n 3, 1) := by decide +kernel
theorem dX4_digestSwells_97 : decode cX4_digestSwells 97 = .ok (.ldc2_w 284, 3) := by decide +kernel
theorem dX4_digestSwells_100 : decode cX4_digestSwells 100 = .ok (.lload_n 3, 1) := by decide +kernel
theorem dX4_digestSwells_101 : decode cX4_digestSwells 101 = .ok (.lmul, 1) := by decide +kernel
theorem dX4_digestSwells_102 : decode cX4_digestSwells 102 = .ok (.aload_n 0, 1) := by decide +kernel
theorem dX4_digestSwells_103 : decode cX4_digestSwells 103 = .ok (.iload 5, 2) := by decide +kernel
theorem dX4_digestSwells_105 : decode cX4_digestSwells 105 = .ok (.iconst 0, 1) := by decide +kernel
theorem dX4_digestSwells_106 : decode cX4_digestSwells 106 = .ok (.invokevirtual 318, 3) := by decide +kernel
theorem dX4_digestSwells_109 : decode cX4_digestSwells 109 = .ok (.i2l, 1) := by decide +kernel
theorem dX4_digestSwells_110 : decode cX4_digestSwells 110 = .ok (.ladd, 1) := by decide +kernel
theorem dX4_digestSwells_111 : decode cX4_digestSwells 111 = .ok (.lstore_n 3, 1) := by decide +kernel
theorem dX4_digestSwells_112 : decode cX4_digestSwells 112 = .ok (.iinc 5 1, 3) := by decide +kernel
theorem dX4_digestSwells_115 : decode cX4_digestSwells 115 = .ok (.goto (-110), 3) := by decide +kernel
theorem dX4_digestSwells_118 : decode cX4_digestSwells 118 = .ok (.lload_n 3, 1) := by decide +kernel
theorem dX4_digestSwells_119 : decode cX4_digestSwells 119 = .ok (.lreturn, 1) := by decide +kernel
theorem dX4_digestFinds_0 : decode cX4_digestFinds 0 = .ok (.lload_n 1, 1) := by decide +kernel
theorem dX4_digestFinds_1 : decode cX4_digestFinds 1 = .ok (.lstore_n 3, 1) := by decide +kernel
theorem dX4_digestFinds_2 : decode cX4_digestFinds 2 = .ok (.iconst 0, 1) := by decide +kernel
theorem dX4_digestFinds_3 : decode cX4_digestFinds 3 = .ok (.istore 5, 2) := by decide +kernel
theorem dX4_digestFinds_5 : decode cX4_digestFinds 5 = .ok (.iload 5, 2) := by decide +kernel
theorem dX4_digestFinds_7 : decode cX4_digestFinds 7 = .ok (.aload_n 0, 1) := by decide +kernel
theorem dX4_digestFinds_8 : decode cX4_digestFinds 8 = .ok (.getfield 31, 3) := by decide +kernel
theorem dX4_digestFinds_11 : decode cX4_digestFinds 11 = .ok (.getfield 178, 3) := by decide +kernel
theorem dX4_digestFinds_14 : decode cX4_digestFinds 14 = .ok (.if_icmp .ge 40, 3) := by decide +kernel
theorem dX4_digestFinds_17 : decode cX4_digestFinds 17 = .ok (.iconst 0, 1) := by decide +kernel
theorem dX4_digestFinds_18 : decode cX4_digestFinds 18 = .ok (.istore 6, 2) := by decide +kernel
theorem dX4_digestFinds_20 : decode cX4_digestFinds 20 = .ok (.iload 6, 2) := by decide +kernel
theorem dX4_digestFinds_22 : decode cX4_digestFinds 22 = .ok (.iconst 3, 1) := by decide +kernel
theorem dX4_digestFinds_23 : decode cX4_digestFinds 23 = .ok (.if_icmp .ge 25, 3) := by decide +kernel
theorem dX4_digestFinds_26 : decode cX4_digestFinds 26 = .ok (.ldc2_w 284, 3) := by decide +kernel
theorem dX4_digestFinds_29 : decode cX4_digestFinds 29 = .ok (.lload_n 3, 1) := by decide +kernel
theorem dX4_digestFinds_30 : decode cX4_digestFinds 30 = .ok (.lmul, 1) := by decide +kernel
theorem dX4_digestFinds_31 : decode cX4_digestFinds 31 = .ok (.aload_n 0, 1) := by decide +kernel
theorem dX4_digestFinds_32 : decode cX4_digestFinds 32 = .ok (.iload 5, 2) := by decide +kernel
theorem dX4_digestFinds_34 : decode cX4_digestFinds 34 = .ok (.iload 6, 2) := by decide +kernel
theorem dX4_digestFinds_36 : decode cX4_digestFinds 36 = .ok (.invokevirtual 321, 3) := by decide +kernel
theorem dX4_digestFinds_39 : decode cX4_digestFinds 39 = .ok (.i2l, 1) := by decide +kernel
theorem dX4_digestFinds_40 : decode cX4_digestFinds 40 = .ok (.ladd, 1) := by decide +kernel
theorem dX4_digestFinds_41 : decode cX4_digestFinds 41 = .ok (.lstore_n 3, 1) := by decide +kernel
theorem dX4_digestFinds_42 : decode cX4_digestFinds 42 = .ok (.iinc 6 1, 3) := by decide +kernel
theorem dX4_digestFinds_45 : decode cX4_digestFinds 45 = .ok (.goto (-25), 3) := by decide +kernel
theorem dX4_digestFinds_48 : decode cX4_digestFinds 48 = .ok (.iinc 5 1, 3) := by decide +kernel
theorem dX4_digestFinds_51 : decode cX4_digestFinds 51 = .ok (.goto (-46), 3) := by decide +kernel
theorem dX4_digestFinds_54 : decode cX4_digestFinds 54 = .ok (.lload_n 3, 1) := by decide +kernel
theorem dX4_digestFinds_55 : decode cX4_digestFinds 55 = .ok (.lreturn, 1) := by decide +kernel
theorem dX4_digestTimes_0 : decode cX4_digestTimes 0 = .ok (.lload_n 1, 1) := by decide +kernel
theorem dX4_digestTimes_1 : decode cX4_digestTimes 1 = .ok (.lstore_n 3, 1) := by decide +kernel
theorem dX4_digestTimes_2 : decode cX4_digestTimes 2 = .ok (.getstatic 324, 3) := by decide +kernel
theorem dX4_digestTimes_5 : decode cX4_digestTimes 5 = .ok (.astore 5, 2) := by decide +kernel
theorem dX4_digestTimes_7 : decode cX4_digestTimes 7 = .ok (.aload 5, 2) := by decide +kernel
theorem dX4_digestTimes_9 : decode cX4_digestTimes 9 = .ok (.arraylength, 1) := by decide +kernel
theorem dX4_digestTimes_10 : decode cX4_digestTimes 10 = .ok (.istore 6, 2) := by decide +kernel
theorem dX4_digestTimes_12 : decode cX4_digestTimes 12 = .ok (.iconst 0, 1) := by decide +kernel
theorem dX4_digestTimes_13 : decode cX4_digestTimes 13 = .ok (.istore 7, 2) := by decide +kernel
theorem dX4_digestTimes_15 : decode cX4_digestTimes 15 = .ok (.iload 7, 2) := by decide +kernel
theorem dX4_digestTimes_17 : decode cX4_digestTimes 17 = .ok (.iload 6, 2) := by decide +kernel
theorem dX4_digestTimes_19 : decode cX4_digestTimes 19 = .ok (.if_icmp .ge 76, 3) := by decide +kernel
theorem dX4_digestTimes_22 : decode cX4_digestTimes 22 = .ok (.aload 5, 2) := by decide +kernel
theorem dX4_digestTimes_24 : decode cX4_digestTimes 24 = .ok (.iload 7, 2) := by decide +kernel
theorem dX4_digestTimes_26 : decode cX4_digestTimes 26 = .ok (.iaload, 1) := by decide +kernel
theorem dX4_digestTimes_27 : decode cX4_digestTimes 27 = .ok (.istore 8, 2) := by decide +kernel
theorem dX4_digestTimes_29 : decode cX4_digestTimes 29 = .ok (.ldc2_w 284, 3) := by decide +kernel
theorem dX4_digestTimes_32 : decode cX4_digestTimes 32 = .ok (.lload_n 3, 1) := by decide +kernel
theorem dX4_digestTimes_33 : decode cX4_digestTimes 33 = .ok (.lmul, 1) := by decide +kernel
theorem dX4_digestTimes_34 : decode cX4_digestTimes 34 = .ok (.aload_n 0, 1) := by decide +kernel
theorem dX4_digestTimes_35 : decode cX4_digestTimes 35 = .ok (.iload 8, 2) := by decide +kernel
theorem dX4_digestTimes_37 : decode cX4_digestTimes 37 = .ok (.invokevirtual 327, 3) := by decide +kernel
theorem dX4_digestTimes_40 : decode cX4_digestTimes 40 = .ok (.i2l, 1) := by decide +kernel
theorem dX4_digestTimes_41 : decode cX4_digestTimes 41 = .ok (.ladd, 1) := by decide +kernel
theorem dX4_digestTimes_42 : decode cX4_digestTimes 42 = .ok (.lstore_n 3, 1) := by decide +kernel
theorem dX4_digestTimes_43 : decode cX4_digestTimes 43 = .ok (.iconst 0, 1) := by decide +kernel
theorem dX4_digestTimes_44 : decode cX4_digestTimes 44 = .ok (.istore 9, 2) := by decide +kernel
theorem dX4_digestTimes_46 : decode cX4_digestTimes 46 = .ok (.iload 9, 2) := by decide +kernel
theorem dX4_digestTimes_48 : decode cX4_digestTimes 48 = .ok (.iconst 3, 1) := by decide +kernel
theorem dX4_digestTimes_49 : decode cX4_digestTimes 49 = .ok (.if_icmp .ge 25, 3) := by decide +kernel
theorem dX4_digestTimes_52 : decode cX4_digestTimes 52 = .ok (.ldc2_w 284, 3) := by decide +kernel
theorem dX4_digestTimes_55 : decode cX4_digestTimes 55 = .ok (.lload_n 3, 1) := by decide +kernel
theorem dX4_digestTimes_56 : decode cX4_digestTimes 56 = .ok (.lmul, 1) := by decide +kernel
theorem dX4_digestTimes_57 : decode cX4_digestTimes 57 = .ok (.aload_n 0, 1) := by decide +kernel
theorem dX4_digestTimes_58 : decode cX4_digestTimes 58 = .ok (.iload 8, 2) := by decide +kernel
theorem dX4_digestTimes_60 : decode cX4_digestTimes 60 = .ok (.iload 9, 2) := by decide +kernel
theorem dX4_digestTimes_62 : decode cX4_digestTimes 62 = .ok (.invokevirtual 330, 3) := by decide +kernel
theorem dX4_digestTimes_65 : decode cX4_digestTimes 65 = .ok (.i2l, 1) := by decide +kernel
theorem dX4_digestTimes_66 : decode cX4_digestTimes 66 = .ok (.ladd, 1) := by decide +kernel
theorem dX4_digestTimes_67 : decode cX4_digestTimes 67 = .ok (.lstore_n 3, 1) := by decide +kernel
theorem dX4_digestTimes_68 : decode cX4_digestTimes 68 = .ok (.iinc 9 1, 3) := by decide +kernel
theorem dX4_digestTimes_71 : decode cX4_digestTimes 71 = .ok (.goto (-25), 3) := by decide +kernel
theorem dX4_digestTimes_74 : decode cX4_digestTimes 74 = .ok (.ldc2_w 284, 3) := by decide +kernel
theorem dX4_digestTimes_77 : decode cX4_digestTimes 77 = .ok (.lload_n 3, 1) := by decide +kernel
theorem dX4_digestTimes_78 : decode cX4_digestTimes 78 = .ok (.lmul, 1) := by decide +kernel
theorem dX4_digestTimes_79 : decode cX4_digestTimes 79 = .ok (.aload_n 0, 1) := by decide +kernel
theorem dX4_digestTimes_80 : decode cX4_digestTimes 80 = .ok (.iconst 0, 1) := by decide +kernel
theorem dX4_digestTimes_81 : decode cX4_digestTimes 81 = .ok (.iload 8, 2) := by decide +kernel
theorem dX4_digestTimes_83 : decode cX4_digestTimes 83 = .ok (.invokevirtual 333, 3) := by decide +kernel
theorem dX4_digestTimes_86 : decode cX4_digestTimes 86 = .ok (.i2l, 1) := by decide +kernel
theorem dX4_digestTimes_87 : decode cX4_digestTimes 87 = .ok (.ladd, 1) := by decide +kernel
theorem dX4_digestTimes_88 : decode cX4_digestTimes 88 = .ok (.lstore_n 3, 1) := by decide +kernel
theorem dX4_digestTimes_89 : decode cX4_digestTimes 89 = .ok (.iinc 7 1, 3) := by decide +kernel
theorem dX4_digestTimes_92 : decode cX4_digestTimes 92 = .ok (.goto (-77), 3) := by decide +kernel
theorem dX4_digestTimes_95 : decode cX4_digestTimes 95 = .ok (.lload_n 3, 1) := by decide +kernel
theorem dX4_digestTimes_96 : decode cX4_digestTimes 96 = .ok (.lreturn, 1) := by decide +kernel
theorem dX4_digestNumbers_0 : decode cX4_digestNumbers 0 = .ok (.lload_n 1, 1) := by decide +kernel
theorem dX4_digestNumbers_1 : decode cX4_digestNumbers 1 = .ok (.lstore_n 3, 1) := by decide +kernel
theorem dX4_digestNumbers_2 : decode cX4_digestNumbers 2 = .ok (.getstatic 336, 3) := by decide +kernel
theorem dX4_digestNumbers_5 : decode cX4_digestNumbers 5 = .ok (.astore 5, 2) := by decide +kernel
theorem dX4_digestNumbers_7 : decode cX4_digestNumbers 7 = .ok (.aload 5, 2) := by decide +kernel
theorem dX4_digestNumbers_9 : decode cX4_digestNumbers 9 = .ok (.arraylength, 1) := by decide +kernel
theorem dX4_digestNumbers_10 : decode cX4_digestNumbers 10 = .ok (.istore 6, 2) := by decide +kernel
theorem dX4_digestNumbers_12 : decode cX4_digestNumbers 12 = .ok (.iconst 0, 1) := by decide +kernel
theorem dX4_digestNumbers_13 : decode cX4_digestNumbers 13 = .ok (.istore 7, 2) := by decide +kernel
theorem dX4_digestNumbers_15 : decode cX4_digestNumbers 15 = .ok (.iload 7, 2) := by decide +kernel
theorem dX4_digestNumbers_17 : decode cX4_digestNumbers 17 = .ok (.iload 6, 2) := by decide +kernel
theorem dX4_digestNumbers_19 : decode cX4_digestNumbers 19 = .ok (.if_icmp .ge 44, 3) := by decide +kernel
theorem dX4_digestNumbers_22 : decode cX4_digestNumbers 22 = .ok (.aload 5, 2) := by decide +kernel
theorem dX4_digestNumbers_24 : decode cX4_digestNumbers 24 = .ok (.iload 7, 2) := by decide +kernel
theorem dX4_digestNumbers_26 : decode cX4_digestNumbers 26 = .ok (.iaload, 1) := by decide +kernel
theorem dX4_digestNumbers_27 : decode cX4_digestNumbers 27 = .ok (.istore 8, 2) := by decide +kernel
theorem dX4_digestNumbers_29 : decode cX4_digestNumbers 29 = .ok (.ldc2_w 284, 3) := by decide +kernel
theorem dX4_digestNumbers_32 : decode cX4_digestNumbers 32 = .ok (.lload_n 3, 1) := by decide +kernel
theorem dX4_digestNumbers_33 : decode cX4_digestNumbers 33 = .ok (.lmul, 1) := by decide +kernel
theorem dX4_digestNumbers_34 : decode cX4_digestNumbers 34 = .ok (.aload_n 0, 1) := by decide +kernel
theorem dX4_digestNumbers_35 : decode cX4_digestNumbers 35 = .ok (.iload 8, 2) := by decide +kernel
theorem dX4_digestNumbers_37 : decode cX4_digestNumbers 37 = .ok (.invokevirtual 339, 3) := by decide +kernel
theorem dX4_digestNumbers_40 : decode cX4_digestNumbers 40 = .ok (.i2l, 1) := by decide +kernel
theorem dX4_digestNumbers_41 : decode cX4_digestNumbers 41 = .ok (.ladd, 1) := by decide +kernel
theorem dX4_digestNumbers_42 : decode cX4_digestNumbers 42 = .ok (.lstore_n 3, 1) := by decide +kernel
theorem dX4_digestNumbers_43 : decode cX4_digestNumbers 43 = .ok (.ldc2_w 284, 3) := by decide +kernel
theorem dX4_digestNumbers_46 : decode cX4_digestNumbers 46 = .ok (.lload_n 3, 1) := by decide +kernel
theorem dX4_digestNumbers_47 : decode cX4_digestNumbers 47 = .ok (.lmul, 1) := by decide +kernel
theorem dX4_digestNumbers_48 : decode cX4_digestNumbers 48 = .ok (.aload_n 0, 1) := by decide +kernel
theorem dX4_digestNumbers_49 : decode cX4_digestNumbers 49 = .ok (.iload 8, 2) := by decide +kernel
theorem dX4_digestNumbers_51 : decode cX4_digestNumbers 51 = .ok (.invokevirtual 342, 3) := by decide +kernel
theorem dX4_digestNumbers_54 : decode cX4_digestNumbers 54 = .ok (.i2l, 1) := by decide +kernel
theorem dX4_digestNumbers_55 : decode cX4_digestNumbers 55 = .ok (.ladd, 1) := by decide +kernel
theorem dX4_digestNumbers_56 : decode cX4_digestNumbers 56 = .ok (.lstore_n 3, 1) := by decide +kernel
theorem dX4_digestNumbers_57 : decode cX4_digestNumbers 57 = .ok (.iinc 7 1, 3) := by decide +kernel
theorem dX4_digestNumbers_60 : decode cX4_digestNumbers 60 = .ok (.goto (-45), 3) := by decide +kernel
theorem dX4_digestNumbers_63 : decode cX4_digestNumbers 63 = .ok (.lload_n 3, 1) := by decide +kernel
theorem dX4_digestNumbers_64 : decode cX4_digestNumbers 64 = .ok (.lreturn, 1) := by decide +kernel
theorem dX4_digestTickets_0 : decode cX4_digestTickets 0 = .ok (.lload_n 1, 1) := by decide +kernel
theorem dX4_digestTickets_1 : decode cX4_digestTickets 1 = .ok (.lstore_n 3, 1) := by decide +kernel
theorem dX4_digestTickets_2 : decode cX4_digestTickets 2 = .ok (.iconst 0, 1) := by decide +kernel
theorem dX4_digestTickets_3 : decode cX4_digestTickets 3 = .ok (.istore 5, 2) := by decide +kernel
theorem dX4_digestTickets_5 : decode cX4_digestTickets 5 = .ok (.iload 5, 2) := by decide +kernel
theorem dX4_digestTickets_7 : decode cX4_digestTickets 7 = .ok (.bipush 8, 2) := by decide +kernel
theorem dX4_digestTickets_9 : decode cX4_digestTickets 9 = .ok (.if_icmp .ge 53, 3) := by decide +kernel
theorem dX4_digestTickets_12 : decode cX4_digestTickets 12 = .ok (.ldc2_w 284, 3) := by decide +kernel
theorem dX4_digestTickets_15 : decode cX4_digestTickets 15 = .ok (.lload_n 3, 1) := by decide +kernel
theorem dX4_digestTickets_16 : decode cX4_digestTickets 16 = .ok (.lmul, 1) := by decide +kernel
theorem dX4_digestTickets_17 : decode cX4_digestTickets 17 = .ok (.aload_n 0, 1) := by decide +kernel
theorem dX4_digestTickets_18 : decode cX4_digestTickets 18 = .ok (.iload 5, 2) := by decide +kernel
theorem dX4_digestTickets_20 : decode cX4_digestTickets 20 = .ok (.invokevirtual 345, 3) := by decide +kernel
theorem dX4_digestTickets_23 : decode cX4_digestTickets 23 = .ok (.i2l, 1) := by decide +kernel
theorem dX4_digestTickets_24 : decode cX4_digestTickets 24 = .ok (.ladd, 1) := by decide +kernel
theorem dX4_digestTickets_25 : decode cX4_digestTickets 25 = .ok (.lstore_n 3, 1) := by decide +kernel
theorem dX4_digestTickets_26 : decode cX4_digestTickets 26 = .ok (.ldc2_w 284, 3) := by decide +kernel
theorem dX4_digestTickets_29 : decode cX4_digestTickets 29 = .ok (.lload_n 3, 1) := by decide +kernel
theorem dX4_digestTickets_30 : decode cX4_digestTickets 30 = .ok (.lmul, 1) := by decide +kernel
theorem dX4_digestTickets_31 : decode cX4_digestTickets 31 = .ok (.aload_n 0, 1) := by decide +kernel
theorem dX4_digestTickets_32 : decode cX4_digestTickets 32 = .ok (.iload 5, 2) := by decide +kernel
theorem dX4_digestTickets_34 : decode cX4_digestTickets 34 = .ok (.iconst 0, 1) := by decide +kernel
theorem dX4_digestTickets_35 : decode cX4_digestTickets 35 = .ok (.invokevirtual 348, 3) := by decide +kernel
theorem dX4_digestTickets_38 : decode cX4_digestTickets 38 = .ok (.i2l, 1) := by decide +kernel
theorem dX4_digestTickets_39 : decode cX4_digestTickets 39 = .ok (.ladd, 1) := by decide +kernel
theorem dX4_digestTickets_40 : decode cX4_digestTickets 40 = .ok (.lstore_n 3, 1) := by decide +kernel
theorem dX4_digestTickets_41 : decode cX4_digestTickets 41 = .ok (.ldc2_w 284, 3) := by decide +kernel
theorem dX4_digestTickets_44 : decode cX4_digestTickets 44 = .ok (.lload_n 3, 1) := by decide +kernel
theorem dX4_digestTickets_45 : decode cX4_digestTickets 45 = .ok (.lmul, 1) := by decide +kernel
theorem dX4_digestTickets_46 : decode cX4_digestTickets 46 = .ok (.aload_n 0, 1) := by decide +kernel
theorem dX4_digestTickets_47 : decode cX4_digestTickets 47 = .ok (.iload 5, 2) := by decide +kernel
theorem dX4_digestTickets_49 : decode cX4_digestTickets 49 = .ok (.iconst 1, 1) := by decide +kernel
theorem dX4_digestTickets_50 : decode cX4_digestTickets 50 = .ok (.invokevirtual 348, 3) := by decide +kernel
theorem dX4_digestTickets_53 : decode cX4_digestTickets 53 = .ok (.i2l, 1) := by decide +kernel
theorem dX4_digestTickets_54 : decode cX4_digestTickets 54 = .ok (.ladd, 1) := by decide +kernel
theorem dX4_digestTickets_55 : decode cX4_digestTickets 55 = .ok (.lstore_n 3, 1) := by decide +kernel
theorem dX4_digestTickets_56 : decode cX4_digestTickets 56 = .ok (.iinc 5 1, 3) := by decide +kernel
theorem dX4_digestTickets_59 : decode cX4_digestTickets 59 = .ok (.goto (-54), 3) := by decide +kernel
theorem dX4_digestTickets_62 : decode cX4_digestTickets 62 = .ok (.iconst 0, 1) := by decide +kernel
theorem dX4_digestTickets_63 : decode cX4_digestTickets 63 = .ok (.istore 5, 2) := by decide +kernel
theorem dX4_digestTickets_65 : decode cX4_digestTickets 65 = .ok (.iload 5, 2) := by decide +kernel
theorem dX4_digestTickets_67 : decode cX4_digestTickets 67 = .ok (.aload_n 0, 1) := by decide +kernel
theorem dX4_digestTickets_68 : decode cX4_digestTickets 68 = .ok (.getfield 46, 3) := by decide +kernel
theorem dX4_digestTickets_71 : decode cX4_digestTickets 71 = .ok (.getfield 127, 3) := by decide +kernel
theorem dX4_digestTickets_74 : decode cX4_digestTickets 74 = .ok (.if_icmp .ge 23, 3) := by decide +kernel
theorem dX4_digestTickets_77 : decode cX4_digestTickets 77 = .ok (.ldc2_w 284, 3) := by decide +kernel
theorem dX4_digestTickets_80 : decode cX4_digestTickets 80 = .ok (.lload_n 3, 1) := by decide +kernel
theorem dX4_digestTickets_81 : decode cX4_digestTickets 81 = .ok (.lmul, 1) := by decide +kernel
theorem dX4_digestTickets_82 : decode cX4_digestTickets 82 = .ok (.aload_n 0, 1) := by decide +kernel
theorem dX4_digestTickets_83 : decode cX4_digestTickets 83 = .ok (.iload 5, 2) := by decide +kernel
theorem dX4_digestTickets_85 : decode cX4_digestTickets 85 = .ok (.invokevirtual 351, 3) := by decide +kernel
theorem dX4_digestTickets_88 : decode cX4_digestTickets 88 = .ok (.i2l, 1) := by decide +kernel
theorem dX4_digestTickets_89 : decode cX4_digestTickets 89 = .ok (.ladd, 1) := by decide +kernel
theorem dX4_digestTickets_90 : decode cX4_digestTickets 90 = .ok (.lstore_n 3, 1) := by decide +kernel
theorem dX4_digestTickets_91 : decode cX4_digestTickets 91 = .ok (.iinc 5 1, 3) := by decide +kernel
theorem dX4_digestTickets_94 : decode cX4_digestTickets 94 = .ok (.goto (-29), 3) := by decide +kernel
theorem dX4_digestTickets_97 : decode cX4_digestTickets 97 = .ok (.lload_n 3, 1) := by decide +kernel
theorem dX4_digestTickets_98 : decode cX4_digestTickets 98 = .ok (.lreturn, 1) := by decide +kernel
theorem dX4_digestPlans_0 : decode cX4_digestPlans 0 = .ok (.lload_n 1, 1) := by decide +kernel
theorem dX4_digestPlans_1 : decode cX4_digestPlans 1 = .ok (.lstore_n 3, 1) := by decide +kernel
theorem dX4_digestPlans_2 : decode cX4_digestPlans 2 = .ok (.ldc2_w 284, 3) := by decide +kernel
theorem dX4_digestPlans_5 : decode cX4_digestPlans 5 = .ok (.lload_n 3, 1) := by decide +kernel
theorem dX4_digestPlans_6 : decode cX4_digestPlans 6 = .ok (.lmul, 1) := by decide +kernel
theorem dX4_digestPlans_7 : decode cX4_digestPlans 7 = .ok (.aload_n 0, 1) := by decide +kernel
theorem dX4_digestPlans_8 : decode cX4_digestPlans 8 = .ok (.iconst 3, 1) := by decide +kernel
theorem dX4_digestPlans_9 : decode cX4_digestPlans 9 = .ok (.iconst 0, 1) := by decide +kernel
theorem dX4_digestPlans_10 : decode cX4_digestPlans 10 = .ok (.invokevirtual 354, 3) := by decide +kernel
theorem dX4_digestPlans_13 : decode cX4_digestPlans 13 = .ok (.i2l, 1) := by decide +kernel
theorem dX4_digestPlans_14 : decode cX4_digestPlans 14 = .ok (.ladd, 1) := by decide +kernel
theorem dX4_digestPlans_15 : decode cX4_digestPlans 15 = .ok (.lstore_n 3, 1) := by decide +kernel
theorem dX4_digestPlans_16 : decode cX4_digestPlans 16 = .ok (.ldc2_w 284, 3) := by decide +kernel
theorem dX4_digestPlans_19 : decode cX4_digestPlans 19 = .ok (.lload_n 3, 1) := by decide +kernel
theorem dX4_digestPlans_20 : decode cX4_digestPlans 20 = .ok (.lmul, 1) := by decide +kernel
theorem dX4_digestPlans_21 : decode cX4_digestPlans 21 = .ok (.aload_n 0, 1) := by decide +kernel
theorem dX4_digestPlans_22 : decode cX4_digestPlans 22 = .ok (.iconst 3, 1) := by decide +kernel
theorem dX4_digestPlans_23 : decode cX4_digestPlans 23 = .ok (.iconst 1, 1) := by decide +kernel
theorem dX4_digestPlans_24 : decode cX4_digestPlans 24 = .ok (.invokevirtual 354, 3) := by decide +kernel
theorem dX4_digestPlans_27 : decode cX4_digestPlans 27 = .ok (.i2l, 1) := by decide +kernel
theorem dX4_digestPlans_28 : decode cX4_digestPlans 28 = .ok (.ladd, 1) := by decide +kernel
theorem dX4_digestPlans_29 : decode cX4_digestPlans 29 = .ok (.lstore_n 3, 1) := by decide +kernel
theorem dX4_digestPlans_30 : decode cX4_digestPlans 30 = .ok (.ldc2_w 284, 3) := by decide +kernel
theorem dX4_digestPlans_33 : decode cX4_digestPlans 33 = .ok (.lload_n 3, 1) := by decide +kernel
theorem dX4_digestPlans_34 : decode cX4_digestPlans 34 = .ok (.lmul, 1) := by decide +kernel
theorem dX4_digestPlans_35 : decode cX4_digestPlans 35 = .ok (.aload_n 0, 1) := by decide +kernel
theorem dX4_digestPlans_36 : decode cX4_digestPlans 36 = .ok (.bipush 9, 2) := by decide +kernel
theorem dX4_digestPlans_38 : decode cX4_digestPlans 38 = .ok (.invokevirtual 357, 3) := by decide +kernel
theorem dX4_digestPlans_41 : decode cX4_digestPlans 41 = .ok (.i2l, 1) := by decide +kernel
theorem dX4_digestPlans_42 : decode cX4_digestPlans 42 = .ok (.ladd, 1) := by decide +kernel
theorem dX4_digestPlans_43 : decode cX4_digestPlans 43 = .ok (.lstore_n 3, 1) := by decide +kernel
theorem dX4_digestPlans_44 : decode cX4_digestPlans 44 = .ok (.ldc2_w 284, 3) := by decide +kernel
theorem dX4_digestPlans_47 : decode cX4_digestPlans 47 = .ok (.lload_n 3, 1) := by decide +kernel
theorem dX4_digestPlans_48 : decode cX4_digestPlans 48 = .ok (.lmul, 1) := by decide +kernel
theorem dX4_digestPlans_49 : decode cX4_digestPlans 49 = .ok (.aload_n 0, 1) := by decide +kernel
theorem dX4_digestPlans_50 : decode cX4_digestPlans 50 = .ok (.iconst 1, 1) := by decide +kernel
theorem dX4_digestPlans_51 : decode cX4_digestPlans 51 = .ok (.invokevirtual 360, 3) := by decide +kernel
theorem dX4_digestPlans_54 : decode cX4_digestPlans 54 = .ok (.i2l, 1) := by decide +kernel
theorem dX4_digestPlans_55 : decode cX4_digestPlans 55 = .ok (.ladd, 1) := by decide +kernel
theorem dX4_digestPlans_56 : decode cX4_digestPlans 56 = .ok (.lstore_n 3, 1) := by decide +kernel
theorem dX4_digestPlans_57 : decode cX4_digestPlans 57 = .ok (.ldc2_w 284, 3) := by decide +kernel
theorem dX4_digestPlans_60 : decode cX4_digestPlans 60 = .ok (.lload_n 3, 1) := by decide +kernel
theorem dX4_digestPlans_61 : decode cX4_digestPlans 61 = .ok (.lmul, 1) := by decide +kernel
theorem dX4_digestPlans_62 : decode cX4_digestPlans 62 = .ok (.aload_n 0, 1) := by decide +kernel
theorem dX4_digestPlans_63 : decode cX4_digestPlans 63 = .ok (.iconst (-1), 1) := by decide +kernel
theorem dX4_digestPlans_64 : decode cX4_digestPlans 64 = .ok (.invokevirtual 363, 3) := by decide +kernel
theorem dX4_digestPlans_67 : decode cX4_digestPlans 67 = .ok (.i2l, 1) := by decide +kernel
theorem dX4_digestPlans_68 : decode cX4_digestPlans 68 = .ok (.ladd, 1) := by decide +kernel
theorem dX4_digestPlans_69 : decode cX4_digestPlans 69 = .ok (.lstore_n 3, 1) := by decide +kernel
theorem dX4_digestPlans_70 : decode cX4_digestPlans 70 = .ok (.ldc2_w 284, 3) := by decide +kernel
theorem dX4_digestPlans_73 : decode cX4_digestPlans 73 = .ok (.lload_n 3, 1) := by decide +kernel
theorem dX4_digestPlans_74 : decode cX4_digestPlans 74 = .ok (.lmul, 1) := by decide +kernel
theorem dX4_digestPlans_75 : decode cX4_digestPlans 75 = .ok (.aload_n 0, 1) := by decide +kernel
theorem dX4_digestPlans_76 : decode cX4_digestPlans 76 = .ok (.iconst 0, 1) := by decide +kernel
theorem dX4_digestPlans_77 : decode cX4_digestPlans 77 = .ok (.invokevirtual 363, 3) := by decide +kernel
theorem dX4_digestPlans_80 : decode cX4_digestPlans 80 = .ok (.i2l, 1) := by decide +kernel
theorem dX4_digestPlans_81 : decode cX4_digestPlans 81 = .ok (.ladd, 1) := by decide +kernel
theorem dX4_digestPlans_82 : decode cX4_digestPlans 82 = .ok (.lstore_n 3, 1) := by decide +kernel
theorem dX4_digestPlans_83 : decode cX4_digestPlans 83 = .ok (.ldc2_w 284, 3) := by decide +kernel
theorem dX4_digestPlans_86 : decode cX4_digestPlans 86 = .ok (.lload_n 3, 1) := by decide +kernel
theorem dX4_digestPlans_87 : decode cX4_digestPlans 87 = .ok (.lmul, 1) := by decide +kernel
theorem dX4_digestPlans_88 : decode cX4_digestPlans 88 = .ok (.aload_n 0, 1) := by decide +kernel
theorem dX4_digestPlans_89 : decode cX4_digestPlans 89 = .ok (.iconst 5, 1) := by decide +kernel
theorem dX4_digestPlans_90 : decode cX4_digestPlans 90 = .ok (.iconst 4, 1) := by decide +kernel
theorem dX4_digestPlans_91 : decode cX4_digestPlans 91 = .ok (.iconst 0, 1) := by decide +kernel
theorem dX4_digestPlans_92 : decode cX4_digestPlans 92 = .ok (.invokevirtual 366, 3) := by decide +kernel
theorem dX4_digestPlans_95 : decode cX4_digestPlans 95 = .ok (.ladd, 1) := by decide +kernel
theorem dX4_digestPlans_96 : decode cX4_digestPlans 96 = .ok (.lstore_n 3, 1) := by decide +kernel
theorem dX4_digestPlans_97 : decode cX4_digestPlans 97 = .ok (.ldc2_w 284, 3) := by decide +kernel
theorem dX4_digestPlans_100 : decode cX4_digestPlans 100 = .ok (.lload_n 3, 1) := by decide +kernel
theorem dX4_digestPlans_101 : decode cX4_digestPlans 101 = .ok (.lmul, 1) := by decide +kernel
theorem dX4_digestPlans_102 : decode cX4_digestPlans 102 = .ok (.aload_n 0, 1) := by decide +kernel
theorem dX4_digestPlans_103 : decode cX4_digestPlans 103 = .ok (.iconst 5, 1) := by decide +kernel
theorem dX4_digestPlans_104 : decode cX4_digestPlans 104 = .ok (.iconst 4, 1) := by decide +kernel
theorem dX4_digestPlans_105 : decode cX4_digestPlans 105 = .ok (.iconst 1, 1) := by decide +kernel
theorem dX4_digestPlans_106 : decode cX4_digestPlans 106 = .ok (.invokevirtual 366, 3) := by decide +kernel
theorem dX4_digestPlans_109 : decode cX4_digestPlans 109 = .ok (.ladd, 1) := by decide +kernel
theorem dX4_digestPlans_110 : decode cX4_digestPlans 110 = .ok (.lstore_n 3, 1) := by decide +kernel
theorem dX4_digestPlans_111 : decode cX4_digestPlans 111 = .ok (.ldc2_w 284, 3) := by decide +kernel
theorem dX4_digestPlans_114 : decode cX4_digestPlans 114 = .ok (.lload_n 3, 1) := by decide +kernel
theorem dX4_digestPlans_115 : decode cX4_digestPlans 115 = .ok (.lmul, 1) := by decide +kernel
theorem dX4_digestPlans_116 : decode cX4_digestPlans 116 = .ok (.aload_n 0, 1) := by decide +kernel
theorem dX4_digestPlans_117 : decode cX4_digestPlans 117 = .ok (.bipush 7, 2) := by decide +kernel
theorem dX4_digestPlans_119 : decode cX4_digestPlans 119 = .ok (.bipush 30, 2) := by decide +kernel
theorem dX4_digestPlans_121 : decode cX4_digestPlans 121 = .ok (.iconst 0, 1) := by decide +kernel
theorem dX4_digestPlans_122 : decode cX4_digestPlans 122 = .ok (.invokevirtual 370, 3) := by decide +kernel
theorem dX4_digestPlans_125 : decode cX4_digestPlans 125 = .ok (.i2l, 1) := by decide +kernel
theorem dX4_digestPlans_126 : decode cX4_digestPlans 126 = .ok (.ladd, 1) := by decide +kernel
theorem dX4_digestPlans_127 : decode cX4_digestPlans 127 = .ok (.lstore_n 3, 1) := by decide +kernel
theorem dX4_digestPlans_128 : decode cX4_digestPlans 128 = .ok (.ldc2_w 284, 3) := by decide +kernel
theorem dX4_digestPlans_131 : decode cX4_digestPlans 131 = .ok (.lload_n 3, 1) := by decide +kernel
theorem dX4_digestPlans_132 : decode cX4_digestPlans 132 = .ok (.lmul, 1) := by decide +kernel
theorem dX4_digestPlans_133 : decode cX4_digestPlans 133 = .ok (.aload_n 0, 1) := by decide +kernel
theorem dX4_digestPlans_134 : decode cX4_digestPlans 134 = .ok (.bipush 7, 2) := by decide +kernel
theorem dX4_digestPlans_136 : decode cX4_digestPlans 136 = .ok (.bipush 30, 2) := by decide +kernel
theorem dX4_digestPlans_138 : decode cX4_digestPlans 138 = .ok (.iconst 1, 1) := by decide +kernel
theorem dX4_digestPlans_139 : decode cX4_digestPlans 139 = .ok (.invokevirtual 370, 3) := by decide +kernel
theorem dX4_digestPlans_142 : decode cX4_digestPlans 142 = .ok (.i2l, 1) := by decide +kernel
theorem dX4_digestPlans_143 : decode cX4_digestPlans 143 = .ok (.ladd, 1) := by decide +kernel
theorem dX4_digestPlans_144 : decode cX4_digestPlans 144 = .ok (.lstore_n 3, 1) := by decide +kernel
theorem dX4_digestPlans_145 : decode cX4_digestPlans 145 = .ok (.lload_n 3, 1) := by decide +kernel
theorem dX4_digestPlans_146 : decode cX4_digestPlans 146 = .ok (.lreturn, 1) := by decide +kernel
theorem dX4_isBelow_0 : decode cX4_isBelow 0 = .ok (.iload_n 0, 1) := by decide +kernel
theorem dX4_isBelow_1 : decode cX4_isBelow 1 = .ok (.ifCond .lt 12, 3) := by decide +kernel
theorem dX4_isBelow_4 : decode cX4_isBelow 4 = .ok (.iload_n 0, 1) := by decide +kernel
theorem dX4_isBelow_5 : decode cX4_isBelow 5 = .ok (.iload_n 1, 1) := by decide +kernel
theorem dX4_isBelow_6 : decode cX4_isBelow 6 = .ok (.if_icmp .ge 7, 3) := by decide +kernel
theorem dX4_isBelow_9 : decode cX4_isBelow 9 = .ok (.iconst 1, 1) := by decide +kernel
theorem dX4_isBelow_10 : decode cX4_isBelow 10 = .ok (.goto 4, 3) := by decide +kernel
theorem dX4_isBelow_13 : decode cX4_isBelow 13 = .ok (.iconst 0, 1) := by decide +kernel
theorem dX4_isBelow_14 : decode cX4_isBelow 14 = .ok (.ireturn, 1) := by decide +kernel
theorem dX4_isFrom_0 : decode cX4_isFrom 0 = .ok (.iload_n 0, 1) := by decide +kernel
theorem dX4_isFrom_1 : decode cX4_isFrom 1 = .ok (.iload_n 1, 1) := by decide +kernel
theorem dX4_isFrom_2 : decode cX4_isFrom 2 = .ok (.if_icmp .lt 12, 3) := by decide +kernel
theorem dX4_isFrom_5 : decode cX4_isFrom 5 = .ok (.iload_n 0, 1) := by decide +kernel
theorem dX4_isFrom_6 : decode cX4_isFrom 6 = .ok (.iload_n 2, 1) := by decide +kernel
theorem dX4_isFrom_7 : decode cX4_isFrom 7 = .ok (.if_icmp .gt 7, 3) := by decide +kernel
theorem dX4_isFrom_10 : decode cX4_isFrom 10 = .ok (.iconst 1, 1) := by decide +kernel
theorem dX4_isFrom_11 : decode cX4_isFrom 11 = .ok (.goto 4, 3) := by decide +kernel
theorem dX4_isFrom_14 : decode cX4_isFrom 14 = .ok (.iconst 0, 1) := by decide +kernel
theorem dX4_isFrom_15 : decode cX4_isFrom 15 = .ok (.ireturn, 1) := by decide +kernel
theorem dX4_isTime_0 : decode cX4_isTime 0 = .ok (.iload_n 0, 1) := by decide +kernel
theorem dX4_isTime_1 : decode cX4_isTime 1 = .ok (.sipush 240, 3) := by decide +kernel
theorem dX4_isTime_4 : decode cX4_isTime 4 = .ok (.invokestatic 84, 3) := by decide +kernel
theorem dX4_isTime_7 : decode cX4_isTime 7 = .ok (.ireturn, 1) := by decide +kernel
theorem dX4_isNumber_0 : decode cX4_isNumber 0 = .ok (.iload_n 0, 1) := by decide +kernel
theorem dX4_isNumber_1 : decode cX4_isNumber 1 = .ok (.iconst 1, 1) := by decide +kernel
theorem dX4_isNumber_2 : decode cX4_isNumber 2 = .ok (.sipush 400, 3) := by decide +kernel
theorem dX4_isNumber_5 : decode cX4_isNumber 5 = .ok (.invokestatic 109, 3) := by decide +kernel
theorem dX4_isNumber_8 : decode cX4_isNumber 8 = .ok (.ireturn, 1) := by decide +kernel
theorem dX4_mayBeTicket_0 : decode cX4_mayBeTicket 0 = .ok (.iload_n 0, 1) := by decide +kernel
theorem dX4_mayBeTicket_1 : decode cX4_mayBeTicket 1 = .ok (.bipush 8, 2) := by decide +kernel
theorem dX4_mayBeTicket_3 : decode cX4_mayBeTicket 3 = .ok (.invokestatic 84, 3) := by decide +kernel
theorem dX4_mayBeTicket_6 : decode cX4_mayBeTicket 6 = .ok (.ifCond .eq 14, 3) := by decide +kernel
theorem dX4_mayBeTicket_9 : decode cX4_mayBeTicket 9 = .ok (.iload_n 1, 1) := by decide +kernel
theorem dX4_mayBeTicket_10 : decode cX4_mayBeTicket 10 = .ok (.invokestatic 156, 3) := by decide +kernel
theorem dX4_mayBeTicket_13 : decode cX4_mayBeTicket 13 = .ok (.ifCond .eq 7, 3) := by decide +kernel
theorem dX4_mayBeTicket_16 : decode cX4_mayBeTicket 16 = .ok (.iconst 1, 1) := by decide +kernel
theorem dX4_mayBeTicket_17 : decode cX4_mayBeTicket 17 = .ok (.goto 4, 3) := by decide +kernel
theorem dX4_mayBeTicket_20 : decode cX4_mayBeTicket 20 = .ok (.iconst 0, 1) := by decide +kernel
theorem dX4_mayBeTicket_21 : decode cX4_mayBeTicket 21 = .ok (.ireturn, 1) := by decide +kernel
theorem dX4_textOf_0 : decode cX4_textOf 0 = .ok (.iload_n 1, 1) := by decide +kernel
theorem dX4_textOf_1 : decode cX4_textOf 1 = .ok (.ifCond .ne 10, 3) := by decide +kernel
theorem dX4_textOf_4 : decode cX4_textOf 4 = .ok (.aload_n 0, 1) := by decide +kernel
theorem dX4_textOf_5 : decode cX4_textOf 5 = .ok (.getfield 21, 3) := by decide +kernel
theorem dX4_textOf_8 : decode cX4_textOf 8 = .ok (.goto 7, 3) := by decide +kernel
theorem dX4_textOf_11 : decode cX4_textOf 11 = .ok (.aload_n 0, 1) := by decide +kernel
theorem dX4_textOf_12 : decode cX4_textOf 12 = .ok (.getfield 31, 3) := by decide +kernel
theorem dX4_textOf_15 : decode cX4_textOf 15 = .ok (.areturn, 1) := by decide +kernel
theorem dX4_partOf_0 : decode cX4_partOf 0 = .ok (.iload_n 1, 1) := by decide +kernel
theorem dX4_partOf_1 : decode cX4_partOf 1 = .ok (.aload_n 0, 1) := by decide +kernel
theorem dX4_partOf_2 : decode cX4_partOf 2 = .ok (.getfield 178, 3) := by decide +kernel
theorem dX4_partOf_5 : decode cX4_partOf 5 = .ok (.invokestatic 84, 3) := by decide +kernel
theorem dX4_partOf_8 : decode cX4_partOf 8 = .ok (.ifCond .eq 20, 3) := by decide +kernel
theorem dX4_partOf_11 : decode cX4_partOf 11 = .ok (.iload_n 2, 1) := by decide +kernel
theorem dX4_partOf_12 : decode cX4_partOf 12 = .ok (.iconst 3, 1) := by decide +kernel
theorem dX4_partOf_13 : decode cX4_partOf 13 = .ok (.invokestatic 84, 3) := by decide +kernel
theorem dX4_partOf_16 : decode cX4_partOf 16 = .ok (.ifCond .eq 12, 3) := by decide +kernel
theorem dX4_partOf_19 : decode cX4_partOf 19 = .ok (.aload_n 0, 1) := by decide +kernel
theorem dX4_partOf_20 : decode cX4_partOf 20 = .ok (.iload_n 1, 1) := by decide +kernel
theorem dX4_partOf_21 : decode cX4_partOf 21 = .ok (.iload_n 2, 1) := by decide +kernel
theorem dX4_partOf_22 : decode cX4_partOf 22 = .ok (.invokevirtual 181, 3) := by decide +kernel
theorem dX4_partOf_25 : decode cX4_partOf 25 = .ok (.goto 5, 3) := by decide +kernel
theorem dX4_partOf_28 : decode cX4_partOf 28 = .ok (.bipush (-2), 2) := by decide +kernel
theorem dX4_partOf_30 : decode cX4_partOf 30 = .ok (.ireturn, 1) := by decide +kernel
theorem dX4_tell_0 : decode cX4_tell 0 = .ok (.aload_n 1, 1) := by decide +kernel
theorem dX4_tell_1 : decode cX4_tell 1 = .ok (.iload_n 2, 1) := by decide +kernel
theorem dX4_tell_2 : decode cX4_tell 2 = .ok (.iload_n 3, 1) := by decide +kernel
theorem dX4_tell_3 : decode cX4_tell 3 = .ok (.invokevirtual 138, 3) := by decide +kernel
theorem dX4_tell_6 : decode cX4_tell 6 = .ok (.ifCond .ne 6, 3) := by decide +kernel
theorem dX4_tell_9 : decode cX4_tell 9 = .ok (.bipush (-4), 2) := by decide +kernel
theorem dX4_tell_11 : decode cX4_tell 11 = .ok (.ireturn, 1) := by decide +kernel
theorem dX4_tell_12 : decode cX4_tell 12 = .ok (.aload_n 0, 1) := by decide +kernel
theorem dX4_tell_13 : decode cX4_tell 13 = .ok (.iconst 0, 1) := by decide +kernel
theorem dX4_tell_14 : decode cX4_tell 14 = .ok (.putfield 80, 3) := by decide +kernel
theorem dX4_tell_17 : decode cX4_tell 17 = .ok (.aload_n 1, 1) := by decide +kernel
theorem dX4_tell_18 : decode cX4_tell 18 = .ok (.getfield 127, 3) := by decide +kernel
theorem dX4_tell_21 : decode cX4_tell 21 = .ok (.ireturn, 1) := by decide +kernel
theorem dX4_finding_0 : decode cX4_finding 0 = .ok (.aload_n 0, 1) := by decide +kernel
theorem dX4_finding_1 : decode cX4_finding 1 = .ok (.iload_n 1, 1) := by decide +kernel
theorem dX4_finding_2 : decode cX4_finding 2 = .ok (.putfield 77, 3) := by decide +kernel
theorem dX4_finding_5 : decode cX4_finding 5 = .ok (.bipush (-10), 2) := by decide +kernel
theorem dX4_finding_7 : decode cX4_finding 7 = .ok (.iload_n 1, 1) := by decide +kernel
theorem dX4_finding_8 : decode cX4_finding 8 = .ok (.isub, 1) := by decide +kernel
theorem dX4_finding_9 : decode cX4_finding 9 = .ok (.ireturn, 1) := by decide +kernel
theorem dX4_sheetRefusal_0 : decode cX4_sheetRefusal 0 = .ok (.iload_n 1, 1) := by decide +kernel
theorem dX4_sheetRefusal_1 : decode cX4_sheetRefusal 1 = .ok (.iconst 4, 1) := by decide +kernel
theorem dX4_sheetRefusal_2 : decode cX4_sheetRefusal 2 = .ok (.invokestatic 84, 3) := by decide +kernel
theorem dX4_sheetRefusal_5 : decode cX4_sheetRefusal 5 = .ok (.ifCond .ne 6, 3) := by decide +kernel
theorem dX4_sheetRefusal_8 : decode cX4_sheetRefusal 8 = .ok (.bipush (-2), 2) := by decide +kernel
theorem dX4_sheetRefusal_10 : decode cX4_sheetRefusal 10 = .ok (.ireturn, 1) := by decide +kernel
theorem dX4_sheetRefusal_11 : decode cX4_sheetRefusal 11 = .ok (.aload_n 0, 1) := by decide +kernel
theorem dX4_sheetRefusal_12 : decode cX4_sheetRefusal 12 = .ok (.getfield 61, 3) := by decide +kernel
theorem dX4_sheetRefusal_15 : decode cX4_sheetRefusal 15 = .ok (.iload_n 1, 1) := by decide +kernel
theorem dX4_sheetRefusal_16 : decode cX4_sheetRefusal 16 = .ok (.aaload, 1) := by decide +kernel
theorem dX4_sheetRefusal_17 : decode cX4_sheetRefusal 17 = .ok (.getfield 259, 3) := by decide +kernel
theorem dX4_sheetRefusal_20 : decode cX4_sheetRefusal 20 = .ok (.ifCond .eq 11, 3) := by decide +kernel
theorem dX4_sheetRefusal_23 : decode cX4_sheetRefusal 23 = .ok (.aload_n 0, 1) := by decide +kernel
theorem dX4_sheetRefusal_24 : decode cX4_sheetRefusal 24 = .ok (.iconst 1, 1) := by decide +kernel
theorem dX4_sheetRefusal_25 : decode cX4_sheetRefusal 25 = .ok (.invokevirtual 252, 3) := by decide +kernel
theorem dX4_sheetRefusal_28 : decode cX4_sheetRefusal 28 = .ok (.goto 4, 3) := by decide +kernel
theorem dX4_sheetRefusal_31 : decode cX4_sheetRefusal 31 = .ok (.iconst 0, 1) := by decide +kernel
theorem dX4_sheetRefusal_32 : decode cX4_sheetRefusal 32 = .ok (.ireturn, 1) := by decide +kernel
theorem dX4_itemRefusal_0 : decode cX4_itemRefusal 0 = .ok (.iload_n 2, 1) := by decide +kernel
theorem dX4_itemRefusal_1 : decode cX4_itemRefusal 1 = .ok (.iconst 3, 1) := by decide +kernel
theorem dX4_itemRefusal_2 : decode cX4_itemRefusal 2 = .ok (.invokestatic 84, 3) := by decide +kernel
theorem dX4_itemRefusal_5 : decode cX4_itemRefusal 5 = .ok (.ifCond .ne 6, 3) := by decide +kernel
theorem dX4_itemRefusal_8 : decode cX4_itemRefusal 8 = .ok (.bipush (-2), 2) := by decide +kernel
theorem dX4_itemRefusal_10 : decode cX4_itemRefusal 10 = .ok (.ireturn, 1) := by decide +kernel
theorem dX4_itemRefusal_11 : decode cX4_itemRefusal 11 = .ok (.aload_n 0, 1) := by decide +kernel
theorem dX4_itemRefusal_12 : decode cX4_itemRefusal 12 = .ok (.iload_n 1, 1) := by decide +kernel
theorem dX4_itemRefusal_13 : decode cX4_itemRefusal 13 = .ok (.invokevirtual 130, 3) := by decide +kernel
theorem dX4_itemRefusal_16 : decode cX4_itemRefusal 16 = .ok (.istore 4, 2) := by decide +kernel
theorem dX4_itemRefusal_18 : decode cX4_itemRefusal 18 = .ok (.iload 4, 2) := by decide +kernel
theorem dX4_itemRefusal_20 : decode cX4_itemRefusal 20 = .ok (.ifCond .eq 6, 3) := by decide +kernel
theorem dX4_itemRefusal_23 : decode cX4_itemRefusal 23 = .ok (.iload 4, 2) := by decide +kernel
theorem dX4_itemRefusal_25 : decode cX4_itemRefusal 25 = .ok (.ireturn, 1) := by decide +kernel
theorem dX4_itemRefusal_26 : decode cX4_itemRefusal 26 = .ok (.aload_n 0, 1) := by decide +kernel
theorem dX4_itemRefusal_27 : decode cX4_itemRefusal 27 = .ok (.getfield 61, 3) := by decide +kernel
theorem dX4_itemRefusal_30 : decode cX4_itemRefusal 30 = .ok (.iload_n 1, 1) := by decide +kernel
theorem dX4_itemRefusal_31 : decode cX4_itemRefusal 31 = .ok (.aaload, 1) := by decide +kernel
theorem dX4_itemRefusal_32 : decode cX4_itemRefusal 32 = .ok (.getfield 270, 3) := by decide +kernel
theorem dX4_itemRefusal_35 : decode cX4_itemRefusal 35 = .ok (.iload_n 2, 1) := by decide +kernel
theorem dX4_itemRefusal_36 : decode cX4_itemRefusal 36 = .ok (.if_icmp .eq 9, 3) := by decide +kernel
theorem dX4_itemRefusal_39 : decode cX4_itemRefusal 39 = .ok (.aload_n 0, 1) := by decide +kernel
theorem dX4_itemRefusal_40 : decode cX4_itemRefusal 40 = .ok (.iconst 3, 1) := by decide +kernel
theorem dX4_itemRefusal_41 : decode cX4_itemRefusal 41 = .ok (.invokevirtual 252, 3) := by decide +kernel
theorem dX4_itemRefusal_44 : decode cX4_itemRefusal 44 = .ok (.ireturn, 1) := by decide +kernel
theorem dX4_itemRefusal_45 : decode cX4_itemRefusal 45 = .ok (.iload_n 3, 1) := by decide +kernel
theorem dX4_itemRefusal_46 : decode cX4_itemRefusal 46 = .ok (.aload_n 0, 1) := by decide +kernel
theorem dX4_itemRefusal_47 : decode cX4_itemRefusal 47 = .ok (.getfield 61, 3) := by decide +kernel
theorem dX4_itemRefusal_50 : decode cX4_itemRefusal 50 = .ok (.iload_n 1, 1) := by decide +kernel
theorem dX4_itemRefusal_51 : decode cX4_itemRefusal 51 = .ok (.aaload, 1) := by decide +kernel
theorem dX4_itemRefusal_52 : decode cX4_itemRefusal 52 = .ok (.getfield 134, 3) := by decide +kernel
theorem dX4_itemRefusal_55 : decode cX4_itemRefusal 55 = .ok (.invokestatic 84, 3) := by decide +kernel
theorem dX4_itemRefusal_58 : decode cX4_itemRefusal 58 = .ok (.ifCond .eq 7, 3) := by decide +kernel
theorem dX4_itemRefusal_61 : decode cX4_itemRefusal 61 = .ok (.iconst 0, 1) := by decide +kernel
theorem dX4_itemRefusal_62 : decode cX4_itemRefusal 62 = .ok (.goto 8, 3) := by decide +kernel
theorem dX4_itemRefusal_65 : decode cX4_itemRefusal 65 = .ok (.aload_n 0, 1) := by decide +kernel
theorem dX4_itemRefusal_66 : decode cX4_itemRefusal 66 = .ok (.iconst 2, 1) := by decide +kernel
theorem dX4_itemRefusal_67 : decode cX4_itemRefusal 67 = .ok (.invokevirtual 252, 3) := by decide +kernel
theorem dX4_itemRefusal_70 : decode cX4_itemRefusal 70 = .ok (.ireturn, 1) := by decide +kernel
theorem dX4_waves_0 : decode cX4_waves 0 = .ok (.aload_n 0, 1) := by decide +kernel
theorem dX4_waves_1 : decode cX4_waves 1 = .ok (.getfield 80, 3) := by decide +kernel
theorem dX4_waves_4 : decode cX4_waves 4 = .ok (.ifCond .ne 31, 3) := by decide +kernel
theorem dX4_waves_7 : decode cX4_waves 7 = .ok (.aload_n 0, 1) := by decide +kernel
theorem dX4_waves_8 : decode cX4_waves 8 = .ok (.getfield 55, 3) := by decide +kernel
theorem dX4_waves_11 : decode cX4_waves 11 = .ok (.aload_n 0, 1) := by decide +kernel
theorem dX4_waves_12 : decode cX4_waves 12 = .ok (.getfield 21, 3) := by decide +kernel
theorem dX4_waves_15 : decode cX4_waves 15 = .ok (.aload_n 0, 1) := by decide +kernel
theorem dX4_waves_16 : decode cX4_waves 16 = .ok (.getfield 73, 3) := by decide +kernel
theorem dX4_waves_19 : decode cX4_waves 19 = .ok (.aload_n 0, 1) := by decide +kernel
theorem dX4_waves_20 : decode cX4_waves 20 = .ok (.getfield 43, 3) := by decide +kernel
theorem dX4_waves_23 : decode cX4_waves 23 = .ok (.aload_n 0, 1) := by decide +kernel
theorem dX4_waves_24 : decode cX4_waves 24 = .ok (.getfield 39, 3) := by decide +kernel
theorem dX4_waves_27 : decode cX4_waves 27 = .ok (.invokevirtual 373, 3) := by decide +kernel
theorem dX4_waves_30 : decode cX4_waves 30 = .ok (.aload_n 0, 1) := by decide +kernel
theorem dX4_waves_31 : decode cX4_waves 31 = .ok (.iconst 1, 1) := by decide +kernel
theorem dX4_waves_32 : decode cX4_waves 32 = .ok (.putfield 80, 3) := by decide +kernel
theorem dX4_waves_35 : decode cX4_waves 35 = .ok (.aload_n 0, 1) := by decide +kernel
theorem dX4_waves_36 : decode cX4_waves 36 = .ok (.getfield 55, 3) := by decide +kernel
theorem dX4_waves_39 : decode cX4_waves 39 = .ok (.areturn, 1) := by decide +kernel
theorem dX4_isCrest_0 : decode cX4_isCrest 0 = .ok (.iload_n 2, 1) := by decide +kernel
theorem dX4_isCrest_1 : decode cX4_isCrest 1 = .ok (.ifCond .le 20, 3) := by decide +kernel
theorem dX4_isCrest_4 : decode cX4_isCrest 4 = .ok (.iload_n 0, 1) := by decide +kernel
theorem dX4_isCrest_5 : decode cX4_isCrest 5 = .ok (.iload_n 1, 1) := by decide +kernel
theorem dX4_isCrest_6 : decode cX4_isCrest 6 = .ok (.if_icmp .lt 15, 3) := by decide +kernel
theorem dX4_isCrest_9 : decode cX4_isCrest 9 = .ok (.iload_n 0, 1) := by decide +kernel
theorem dX4_isCrest_10 : decode cX4_isCrest 10 = .ok (.iload_n 1, 1) := by decide +kernel
theorem dX4_isCrest_11 : decode cX4_isCrest 11 = .ok (.isub, 1) := by decide +kernel
theorem dX4_isCrest_12 : decode cX4_isCrest 12 = .ok (.iload_n 2, 1) := by decide +kernel
theorem dX4_isCrest_13 : decode cX4_isCrest 13 = .ok (.irem, 1) := by decide +kernel
theorem dX4_isCrest_14 : decode cX4_isCrest 14 = .ok (.ifCond .ne 7, 3) := by decide +kernel
theorem dX4_isCrest_17 : decode cX4_isCrest 17 = .ok (.iconst 1, 1) := by decide +kernel
theorem dX4_isCrest_18 : decode cX4_isCrest 18 = .ok (.goto 4, 3) := by decide +kernel
theorem dX4_isCrest_21 : decode cX4_isCrest 21 = .ok (.iconst 0, 1) := by decide +kernel
theorem dX4_isCrest_22 : decode cX4_isCrest 22 = .ok (.ireturn, 1) := by decide +kernel
theorem dX4_breaksAt_0 : decode cX4_breaksAt 0 = .ok (.iload_n 0, 1) := by decide +kernel
theorem dX4_breaksAt_1 : decode cX4_breaksAt 1 = .ok (.iconst 1, 1) := by decide +kernel
theorem dX4_breaksAt_2 : decode cX4_breaksAt 2 = .ok (.if_icmp .lt 12, 3) := by decide +kernel
theorem dX4_breaksAt_5 : decode cX4_breaksAt 5 = .ok (.iload_n 0, 1) := by decide +kernel
theorem dX4_breaksAt_6 : decode cX4_breaksAt 6 = .ok (.iload_n 1, 1) := by decide +kernel
theorem dX4_breaksAt_7 : decode cX4_breaksAt 7 = .ok (.if_icmp .lt 7, 3) := by decide +kernel
theorem dX4_breaksAt_10 : decode cX4_breaksAt 10 = .ok (.iconst 1, 1) := by decide +kernel
theorem dX4_breaksAt_11 : decode cX4_breaksAt 11 = .ok (.goto 4, 3) := by decide +kernel
theorem dX4_breaksAt_14 : decode cX4_breaksAt 14 = .ok (.iconst 0, 1) := by decide +kernel
theorem dX4_breaksAt_15 : decode cX4_breaksAt 15 = .ok (.ireturn, 1) := by decide +kernel
theorem dX4_valueOf_0 : decode cX4_valueOf 0 = .ok (.iconst 0, 1) := by decide +kernel
theorem dX4_valueOf_1 : decode cX4_valueOf 1 = .ok (.istore_n 2, 1) := by decide +kernel
theorem dX4_valueOf_2 : decode cX4_valueOf 2 = .ok (.iconst 0, 1) := by decide +kernel
theorem dX4_valueOf_3 : decode cX4_valueOf 3 = .ok (.istore_n 3, 1) := by decide +kernel
theorem dX4_valueOf_4 : decode cX4_valueOf 4 = .ok (.iload_n 3, 1) := by decide +kernel
theorem dX4_valueOf_5 : decode cX4_valueOf 5 = .ok (.aload_n 0, 1) := by decide +kernel
theorem dX4_valueOf_6 : decode cX4_valueOf 6 = .ok (.getfield 31, 3) := by decide +kernel
theorem dX4_valueOf_9 : decode cX4_valueOf 9 = .ok (.getfield 178, 3) := by decide +kernel
theorem dX4_valueOf_12 : decode cX4_valueOf 12 = .ok (.if_icmp .ge 53, 3) := by decide +kernel
theorem dX4_valueOf_15 : decode cX4_valueOf 15 = .ok (.aload_n 0, 1) := by decide +kernel
theorem dX4_valueOf_16 : decode cX4_valueOf 16 = .ok (.getfield 31, 3) := by decide +kernel
theorem dX4_valueOf_19 : decode cX4_valueOf 19 = .ok (.iload_n 3, 1) := by decide +kernel
theorem dX4_valueOf_20 : decode cX4_valueOf 20 = .ok (.iconst 0, 1) := by decide +kernel
theorem dX4_valueOf_21 : decode cX4_valueOf 21 = .ok (.invokevirtual 181, 3) := by decide +kernel
theorem dX4_valueOf_24 : decode cX4_valueOf 24 = .ok (.istore 4, 2) := by decide +kernel
theorem dX4_valueOf_26 : decode cX4_valueOf 26 = .ok (.iload 4, 2) := by decide +kernel
theorem dX4_valueOf_28 : decode cX4_valueOf 28 = .ok (.ifCond .le 31, 3) := by decide +kernel
theorem dX4_valueOf_31 : decode cX4_valueOf 31 = .ok (.iload_n 1, 1) := by decide +kernel
theorem dX4_valueOf_32 : decode cX4_valueOf 32 = .ok (.iload 4, 2) := by decide +kernel
theorem dX4_valueOf_34 : decode cX4_valueOf 34 = .ok (.irem, 1) := by decide +kernel
theorem dX4_valueOf_35 : decode cX4_valueOf 35 = .ok (.aload_n 0, 1) := by decide +kernel
theorem dX4_valueOf_36 : decode cX4_valueOf 36 = .ok (.getfield 31, 3) := by decide +kernel
theorem dX4_valueOf_39 : decode cX4_valueOf 39 = .ok (.iload_n 3, 1) := by decide +kernel
theorem dX4_valueOf_40 : decode cX4_valueOf 40 = .ok (.iconst 1, 1) := by decide +kernel
theorem dX4_valueOf_41 : decode cX4_valueOf 41 = .ok (.invokevirtual 181, 3) := by decide +kernel
theorem dX4_valueOf_44 : decode cX4_valueOf 44 = .ok (.if_icmp .ne 15, 3) := by decide +kernel
theorem dX4_valueOf_47 : decode cX4_valueOf 47 = .ok (.iload_n 2, 1) := by decide +kernel
theorem dX4_valueOf_48 : decode cX4_valueOf 48 = .ok (.aload_n 0, 1) := by decide +kernel
theorem dX4_valueOf_49 : decode cX4_valueOf 49 = .ok (.getfield 31, 3) := by decide +kernel
theorem dX4_valueOf_52 : decode cX4_valueOf 52 = .ok (.iload_n 3, 1) := by decide +kernel
theorem dX4_valueOf_53 : decode cX4_valueOf 53 = .ok (.iconst 2, 1) := by decide +kernel
theorem dX4_valueOf_54 : decode cX4_valueOf 54 = .ok (.invokevirtual 181, 3) := by decide +kernel
theorem dX4_valueOf_57 : decode cX4_valueOf 57 = .ok (.iadd, 1) := by decide +kernel
theorem dX4_valueOf_58 : decode cX4_valueOf 58 = .ok (.istore_n 2, 1) := by decide +kernel
theorem dX4_valueOf_59 : decode cX4_valueOf 59 = .ok (.iinc 3 1, 3) := by decide +kernel
theorem dX4_valueOf_62 : decode cX4_valueOf 62 = .ok (.goto (-58), 3) := by decide +kernel
theorem dX4_valueOf_65 : decode cX4_valueOf 65 = .ok (.iload_n 2, 1) := by decide +kernel
theorem dX4_valueOf_66 : decode cX4_valueOf 66 = .ok (.ireturn, 1) := by decide +kernel
theorem dX4_worthOf_0 : decode cX4_worthOf 0 = .ok (.iconst 0, 1) := by decide +kernel
theorem dX4_worthOf_1 : decode cX4_worthOf 1 = .ok (.istore_n 3, 1) := by decide +kernel
theorem dX4_worthOf_2 : decode cX4_worthOf 2 = .ok (.aload_n 1, 1) := by decide +kernel
theorem dX4_worthOf_3 : decode cX4_worthOf 3 = .ok (.getfield 159, 3) := by decide +kernel
theorem dX4_worthOf_6 : decode cX4_worthOf 6 = .ok (.iload_n 2, 1) := by decide +kernel
theorem dX4_worthOf_7 : decode cX4_worthOf 7 = .ok (.iaload, 1) := by decide +kernel
theorem dX4_worthOf_8 : decode cX4_worthOf 8 = .ok (.istore 4, 2) := by decide +kernel
theorem dX4_worthOf_10 : decode cX4_worthOf 10 = .ok (.iload 4, 2) := by decide +kernel
theorem dX4_worthOf_12 : decode cX4_worthOf 12 = .ok (.iconst (-1), 1) := by decide +kernel
theorem dX4_worthOf_13 : decode cX4_worthOf 13 = .ok (.if_icmp .eq 30, 3) := by decide +kernel
theorem dX4_worthOf_16 : decode cX4_worthOf 16 = .ok (.iload_n 3, 1) := by decide +kernel
theorem dX4_worthOf_17 : decode cX4_worthOf 17 = .ok (.aload_n 1, 1) := by decide +kernel
theorem dX4_worthOf_18 : decode cX4_worthOf 18 = .ok (.iload 4, 2) := by decide +kernel
theorem dX4_worthOf_20 : decode cX4_worthOf 20 = .ok (.invokevirtual 153, 3) := by decide +kernel
theorem dX4_worthOf_23 : decode cX4_worthOf 23 = .ok (.ifCond .eq 13, 3) := by decide +kernel
theorem dX4_worthOf_26 : decode cX4_worthOf 26 = .ok (.aload_n 0, 1) := by decide +kernel
theorem dX4_worthOf_27 : decode cX4_worthOf 27 = .ok (.iload_n 2, 1) := by decide +kernel
theorem dX4_worthOf_28 : decode cX4_worthOf 28 = .ok (.invokevirtual 165, 3) := by decide +kernel
theorem dX4_worthOf_31 : decode cX4_worthOf 31 = .ok (.iconst 2, 1) := by decide +kernel
theorem dX4_worthOf_32 : decode cX4_worthOf 32 = .ok (.idiv, 1) := by decide +kernel
theorem dX4_worthOf_33 : decode cX4_worthOf 33 = .ok (.goto 8, 3) := by decide +kernel
theorem dX4_worthOf_36 : decode cX4_worthOf 36 = .ok (.aload_n 0, 1) := by decide +kernel
theorem dX4_worthOf_37 : decode cX4_worthOf 37 = .ok (.iload_n 2, 1) := by decide +kernel
theorem dX4_worthOf_38 : decode cX4_worthOf 38 = .ok (.invokevirtual 165, 3) := by decide +kernel
theorem dX4_worthOf_41 : decode cX4_worthOf 41 = .ok (.iadd, 1) := by decide +kernel
theorem dX4_worthOf_42 : decode cX4_worthOf 42 = .ok (.istore_n 3, 1) := by decide +kernel
theorem dX4_worthOf_43 : decode cX4_worthOf 43 = .ok (.aload_n 1, 1) := by decide +kernel
theorem dX4_worthOf_44 : decode cX4_worthOf 44 = .ok (.getfield 159, 3) := by decide +kernel
theorem dX4_worthOf_47 : decode cX4_worthOf 47 = .ok (.iload_n 2, 1) := by decide +kernel
theorem dX4_worthOf_48 : decode cX4_worthOf 48 = .ok (.iconst 1, 1) := by decide +kernel
theorem dX4_worthOf_49 : decode cX4_worthOf 49 = .ok (.isub, 1) := by decide +kernel
theorem dX4_worthOf_50 : decode cX4_worthOf 50 = .ok (.iaload, 1) := by decide +kernel
theorem dX4_worthOf_51 : decode cX4_worthOf 51 = .ok (.istore 5, 2) := by decide +kernel
theorem dX4_worthOf_53 : decode cX4_worthOf 53 = .ok (.iload 5, 2) := by decide +kernel
theorem dX4_worthOf_55 : decode cX4_worthOf 55 = .ok (.iconst (-1), 1) := by decide +kernel
theorem dX4_worthOf_56 : decode cX4_worthOf 56 = .ok (.if_icmp .eq 24, 3) := by decide +kernel
theorem dX4_worthOf_59 : decode cX4_worthOf 59 = .ok (.aload_n 1, 1) := by decide +kernel
theorem dX4_worthOf_60 : decode cX4_worthOf 60 = .ok (.iload 5, 2) := by decide +kernel
theorem dX4_worthOf_62 : decode cX4_worthOf 62 = .ok (.invokevirtual 153, 3) := by decide +kernel
theorem dX4_worthOf_65 : decode cX4_worthOf 65 = .ok (.ifCond .eq 15, 3) := by decide +kernel
theorem dX4_worthOf_68 : decode cX4_worthOf 68 = .ok (.iload_n 3, 1) := by decide +kernel
theorem dX4_worthOf_69 : decode cX4_worthOf 69 = .ok (.aload_n 0, 1) := by decide +kernel
theorem dX4_worthOf_70 : decode cX4_worthOf 70 = .ok (.iload_n 2, 1) := by decide +kernel
theorem dX4_worthOf_71 : decode cX4_worthOf 71 = .ok (.iconst 1, 1) := by decide +kernel
theorem dX4_worthOf_72 : decode cX4_worthOf 72 = .ok (.isub, 1) := by decide +kernel
theorem dX4_worthOf_73 : decode cX4_worthOf 73 = .ok (.invokevirtual 165, 3) := by decide +kernel
theorem dX4_worthOf_76 : decode cX4_worthOf 76 = .ok (.iconst 2, 1) := by decide +kernel
theorem dX4_worthOf_77 : decode cX4_worthOf 77 = .ok (.idiv, 1) := by decide +kernel
theorem dX4_worthOf_78 : decode cX4_worthOf 78 = .ok (.iadd, 1) := by decide +kernel
theorem dX4_worthOf_79 : decode cX4_worthOf 79 = .ok (.istore_n 3, 1) := by decide +kernel
theorem dX4_worthOf_80 : decode cX4_worthOf 80 = .ok (.iload_n 3, 1) := by decide +kernel
theorem dX4_worthOf_81 : decode cX4_worthOf 81 = .ok (.ireturn, 1) := by decide +kernel
theorem dX4_claimsBy_0 : decode cX4_claimsBy 0 = .ok (.iconst 0, 1) := by decide +kernel
theorem dX4_claimsBy_1 : decode cX4_claimsBy 1 = .ok (.istore_n 3, 1) := by decide +kernel
theorem dX4_claimsBy_2 : decode cX4_claimsBy 2 = .ok (.iconst 0, 1) := by decide +kernel
theorem dX4_claimsBy_3 : decode cX4_claimsBy 3 = .ok (.istore 4, 2) := by decide +kernel
theorem dX4_claimsBy_5 : decode cX4_claimsBy 5 = .ok (.iload 4, 2) := by decide +kernel
theorem dX4_claimsBy_7 : decode cX4_claimsBy 7 = .ok (.aload_n 0, 1) := by decide +kernel
theorem dX4_claimsBy_8 : decode cX4_claimsBy 8 = .ok (.getfield 46, 3) := by decide +kernel
theorem dX4_claimsBy_11 : decode cX4_claimsBy 11 = .ok (.getfield 127, 3) := by decide +kernel
theorem dX4_claimsBy_14 : decode cX4_claimsBy 14 = .ok (.if_icmp .ge 59, 3) := by decide +kernel
theorem dX4_claimsBy_17 : decode cX4_claimsBy 17 = .ok (.aload_n 0, 1) := by decide +kernel
theorem dX4_claimsBy_18 : decode cX4_claimsBy 18 = .ok (.getfield 46, 3) := by decide +kernel
theorem dX4_claimsBy_21 : decode cX4_claimsBy 21 = .ok (.getfield 172, 3) := by decide +kernel
theorem dX4_claimsBy_24 : decode cX4_claimsBy 24 = .ok (.iload 4, 2) := by decide +kernel
theorem dX4_claimsBy_26 : decode cX4_claimsBy 26 = .ok (.iaload, 1) := by decide +kernel
theorem dX4_claimsBy_27 : decode cX4_claimsBy 27 = .ok (.istore 5, 2) := by decide +kernel
theorem dX4_claimsBy_29 : decode cX4_claimsBy 29 = .ok (.aload_n 0, 1) := by decide +kernel
theorem dX4_claimsBy_30 : decode cX4_claimsBy 30 = .ok (.getfield 46, 3) := by decide +kernel
theorem dX4_claimsBy_33 : decode cX4_claimsBy 33 = .ok (.getfield 377, 3) := by decide +kernel
theorem dX4_claimsBy_36 : decode cX4_claimsBy 36 = .ok (.iload 4, 2) := by decide +kernel
theorem dX4_claimsBy_38 : decode cX4_claimsBy 38 = .ok (.iaload, 1) := by decide +kernel
theorem dX4_claimsBy_39 : decode cX4_claimsBy 39 = .ok (.iload_n 2, 1) := by decide +kernel
theorem dX4_claimsBy_40 : decode cX4_claimsBy 40 = .ok (.if_icmp .ne 27, 3) := by decide +kernel
theorem dX4_claimsBy_43 : decode cX4_claimsBy 43 = .ok (.aload_n 0, 1) := by decide +kernel
theorem dX4_claimsBy_44 : decode cX4_claimsBy 44 = .ok (.getfield 46, 3) := by decide +kernel
theorem dX4_claimsBy_47 : decode cX4_claimsBy 47 = .ok (.iload 5, 2) := by decide +kernel
theorem dX4_claimsBy_49 : decode cX4_claimsBy 49 = .ok (.invokevirtual 175, 3) := by decide +kernel
theorem dX4_claimsBy_52 : decode cX4_claimsBy 52 = .ok (.iload 4, 2) := by decide +kernel
theorem dX4_claimsBy_54 : decode cX4_claimsBy 54 = .ok (.if_icmp .ne 13, 3) := by decide +kernel
theorem dX4_claimsBy_57 : decode cX4_claimsBy 57 = .ok (.iload_n 3, 1) := by decide +kernel
theorem dX4_claimsBy_58 : decode cX4_claimsBy 58 = .ok (.aload_n 0, 1) := by decide +kernel
theorem dX4_claimsBy_59 : decode cX4_claimsBy 59 = .ok (.aload_n 1, 1) := by decide +kernel
theorem dX4_claimsBy_60 : decode cX4_claimsBy 60 = .ok (.iload 5, 2) := by decide +kernel
theorem dX4_claimsBy_62 : decode cX4_claimsBy 62 = .ok (.invokevirtual 210, 3) := by decide +kernel
theorem dX4_claimsBy_65 : decode cX4_claimsBy 65 = .ok (.iadd, 1) := by decide +kernel
theorem dX4_claimsBy_66 : decode cX4_claimsBy 66 = .ok (.istore_n 3, 1) := by decide +kernel
theorem dX4_claimsBy_67 : decode cX4_claimsBy 67 = .ok (.iinc 4 1, 3) := by decide +kernel
theorem dX4_claimsBy_70 : decode cX4_claimsBy 70 = .ok (.goto (-65), 3) := by decide +kernel
theorem dX4_claimsBy_73 : decode cX4_claimsBy 73 = .ok (.iload_n 3, 1) := by decide +kernel
theorem dX4_claimsBy_74 : decode cX4_claimsBy 74 = .ok (.ireturn, 1) := by decide +kernel
theorem dX4_sumOfRun_0 : decode cX4_sumOfRun 0 = .ok (.iconst 0, 1) := by decide +kernel
theorem dX4_sumOfRun_1 : decode cX4_sumOfRun 1 = .ok (.istore 4, 2) := by decide +kernel
theorem dX4_sumOfRun_3 : decode cX4_sumOfRun 3 = .ok (.iload_n 2, 1) := by decide +kernel
theorem dX4_sumOfRun_4 : decode cX4_sumOfRun 4 = .ok (.istore 5, 2) := by decide +kernel
theorem dX4_sumOfRun_6 : decode cX4_sumOfRun 6 = .ok (.iload 5, 2) := by decide +kernel
theorem dX4_sumOfRun_8 : decode cX4_sumOfRun 8 = .ok (.iload_n 2, 1) := by decide +kernel
theorem dX4_sumOfRun_9 : decode cX4_sumOfRun 9 = .ok (.iload_n 3, 1) := by decide +kernel
theorem dX4_sumOfRun_10 : decode cX4_sumOfRun 10 = .ok (.iadd, 1) := by decide +kernel
theorem dX4_sumOfRun_11 : decode cX4_sumOfRun 11 = .ok (.if_icmp .ge 31, 3) := by decide +kernel
theorem dX4_sumOfRun_14 : decode cX4_sumOfRun 14 = .ok (.aload_n 1, 1) := by decide +kernel
theorem dX4_sumOfRun_15 : decode cX4_sumOfRun 15 = .ok (.getfield 159, 3) := by decide +kernel
theorem dX4_sumOfRun_18 : decode cX4_sumOfRun 18 = .ok (.iload 5, 2) := by decide +kernel
theorem dX4_sumOfRun_20 : decode cX4_sumOfRun 20 = .ok (.iaload, 1) := by decide +kernel
theorem dX4_sumOfRun_21 : decode cX4_sumOfRun 21 = .ok (.iconst (-1), 1) := by decide +kernel
theorem dX4_sumOfRun_22 : decode cX4_sumOfRun 22 = .ok (.if_icmp .eq 14, 3) := by decide +kernel
theorem dX4_sumOfRun_25 : decode cX4_sumOfRun 25 = .ok (.iload 4, 2) := by decide +kernel
theorem dX4_sumOfRun_27 : decode cX4_sumOfRun 27 = .ok (.aload_n 0, 1) := by decide +kernel
theorem dX4_sumOfRun_28 : decode cX4_sumOfRun 28 = .ok (.iload 5, 2) := by decide +kernel
theorem dX4_sumOfRun_30 : decode cX4_sumOfRun 30 = .ok (.invokevirtual 165, 3) := by decide +kernel
theorem dX4_sumOfRun_33 : decode cX4_sumOfRun 33 = .ok (.iadd, 1) := by decide +kernel
theorem dX4_sumOfRun_34 : decode cX4_sumOfRun 34 = .ok (.istore 4, 2) := by decide +kernel
theorem dX4_sumOfRun_36 : decode cX4_sumOfRun 36 = .ok (.iinc 5 1, 3) := by decide +kernel
theorem dX4_sumOfRun_39 : decode cX4_sumOfRun 39 = .ok (.goto (-33), 3) := by decide +kernel
theorem dX4_sumOfRun_42 : decode cX4_sumOfRun 42 = .ok (.iload 4, 2) := by decide +kernel
theorem dX4_sumOfRun_44 : decode cX4_sumOfRun 44 = .ok (.ireturn, 1) := by decide +kernel
theorem dX4_firstCrest_0 : decode cX4_firstCrest 0 = .ok (.aload_n 0, 1) := by decide +kernel
theorem dX4_firstCrest_1 : decode cX4_firstCrest 1 = .ok (.getfield 21, 3) := by decide +kernel
theorem dX4_firstCrest_4 : decode cX4_firstCrest 4 = .ok (.iload_n 1, 1) := by decide +kernel
theorem dX4_firstCrest_5 : decode cX4_firstCrest 5 = .ok (.iconst 1, 1) := by decide +kernel
theorem dX4_firstCrest_6 : decode cX4_firstCrest 6 = .ok (.invokevirtual 181, 3) := by decide +kernel
theorem dX4_firstCrest_9 : decode cX4_firstCrest 9 = .ok (.istore_n 3, 1) := by decide +kernel
theorem dX4_firstCrest_10 : decode cX4_firstCrest 10 = .ok (.aload_n 0, 1) := by decide +kernel
theorem dX4_firstCrest_11 : decode cX4_firstCrest 11 = .ok (.getfield 21, 3) := by decide +kernel
theorem dX4_firstCrest_14 : decode cX4_firstCrest 14 = .ok (.iload_n 1, 1) := by decide +kernel
theorem dX4_firstCrest_15 : decode cX4_firstCrest 15 = .ok (.iconst 2, 1) := by decide +kernel
theorem dX4_firstCrest_16 : decode cX4_firstCrest 16 = .ok (.invokevirtual 181, 3) := by decide +kernel
theorem dX4_firstCrest_19 : decode cX4_firstCrest 19 = .ok (.istore 4, 2) := by decide +kernel
theorem dX4_firstCrest_21 : decode cX4_firstCrest 21 = .ok (.iload_n 2, 1) := by decide +kernel
theorem dX4_firstCrest_22 : decode cX4_firstCrest 22 = .ok (.iload 4, 2) := by decide +kernel
theorem dX4_firstCrest_24 : decode cX4_firstCrest 24 = .ok (.if_icmp .le 7, 3) := by decide +kernel
theorem dX4_firstCrest_27 : decode cX4_firstCrest 27 = .ok (.iload_n 3, 1) := by decide +kernel
theorem dX4_firstCrest_28 : decode cX4_firstCrest 28 = .ok (.ifCond .gt 6, 3) := by decide +kernel
theorem dX4_firstCrest_31 : decode cX4_firstCrest 31 = .ok (.iload 4, 2) := by decide +kernel
theorem dX4_firstCrest_33 : decode cX4_firstCrest 33 = .ok (.ireturn, 1) := by decide +kernel
theorem dX4_firstCrest_34 : decode cX4_firstCrest 34 = .ok (.iload 4, 2) := by decide +kernel
theorem dX4_firstCrest_36 : decode cX4_firstCrest 36 = .ok (.iload_n 2, 1) := by decide +kernel
theorem dX4_firstCrest_37 : decode cX4_firstCrest 37 = .ok (.iload 4, 2) := by decide +kernel
theorem dX4_firstCrest_39 : decode cX4_firstCrest 39 = .ok (.isub, 1) := by decide +kernel
theorem dX4_firstCrest_40 : decode cX4_firstCrest 40 = .ok (.iload_n 3, 1) := by decide +kernel
theorem dX4_firstCrest_41 : decode cX4_firstCrest 41 = .ok (.iadd, 1) := by decide +kernel
theorem dX4_firstCrest_42 : decode cX4_firstCrest 42 = .ok (.iconst 1, 1) := by decide +kernel
theorem dX4_firstCrest_43 : decode cX4_firstCrest 43 = .ok (.isub, 1) := by decide +kernel
theorem dX4_firstCrest_44 : decode cX4_firstCrest 44 = .ok (.iload_n 3, 1) := by decide +kernel
theorem dX4_firstCrest_45 : decode cX4_firstCrest 45 = .ok (.idiv, 1) := by decide +kernel
theorem dX4_firstCrest_46 : decode cX4_firstCrest 46 = .ok (.iload_n 3, 1) := by decide +kernel
theorem dX4_firstCrest_47 : decode cX4_firstCrest 47 = .ok (.imul, 1) := by decide +kernel
theorem dX4_firstCrest_48 : decode cX4_firstCrest 48 = .ok (.iadd, 1) := by decide +kernel
theorem dX4_firstCrest_49 : decode cX4_firstCrest 49 = .ok (.ireturn, 1) := by decide +kernel
theorem dX4_leastCommonMultiple_0 : decode cX4_leastCommonMultiple 0 = .ok (.iload_n 0, 1) := by decide +kernel
theorem dX4_leastCommonMultiple_1 : decode cX4_leastCommonMultiple 1 = .ok (.istore_n 2, 1) := by decide +kernel
theorem dX4_leastCommonMultiple_2 : decode cX4_leastCommonMultiple 2 = .ok (.iload_n 1, 1) := by decide +kernel
theorem dX4_leastCommonMultiple_3 : decode cX4_leastCommonMultiple 3 = .ok (.istore_n 3, 1) := by decide +kernel
theorem dX4_leastCommonMultiple_4 : decode cX4_leastCommonMultiple 4 = .ok (.iconst 0, 1) := by decide +kernel
theorem dX4_leastCommonMultiple_5 : decode cX4_leastCommonMultiple 5 = .ok (.istore 4, 2) := by decide +kernel
theorem dX4_leastCommonMultiple_7 : decode cX4_leastCommonMultiple 7 = .ok (.iload 4, 2) := by decide +kernel
theorem dX4_leastCommonMultiple_9 : decode cX4_leastCommonMultiple 9 = .ok (.bipush 64, 2) := by decide +kernel
theorem dX4_leastCommonMultiple_11 : decode cX4_leastCommonMultiple 11 = .ok (.if_icmp .ge 23, 3) := by decide +kernel
theorem dX4_leastCommonMultiple_14 : decode cX4_leastCommonMultiple 14 = .ok (.iload_n 3, 1) := by decide +kernel
theorem dX4_leastCommonMultiple_15 : decode cX4_leastCommonMultiple 15 = .ok (.ifCond .eq 19, 3) := by decide +kernel
theorem dX4_leastCommonMultiple_18 : decode cX4_leastCommonMultiple 18 = .ok (.iload_n 2, 1) := by decide +kernel
theorem dX4_leastCommonMultiple_19 : decode cX4_leastCommonMultiple 19 = .ok (.iload_n 3, 1) := by decide +kernel
theorem dX4_leastCommonMultiple_20 : decode cX4_leastCommonMultiple 20 = .ok (.irem, 1) := by decide +kernel
theorem dX4_leastCommonMultiple_21 : decode cX4_leastCommonMultiple 21 = .ok (.istore 5, 2) := by decide +kernel
theorem dX4_leastCommonMultiple_23 : decode cX4_leastCommonMultiple 23 = .ok (.iload_n 3, 1) := by decide +kernel
theorem dX4_leastCommonMultiple_24 : decode cX4_leastCommonMultiple 24 = .ok (.istore_n 2, 1) := by decide +kernel
theorem dX4_leastCommonMultiple_25 : decode cX4_leastCommonMultiple 25 = .ok (.iload 5, 2) := by decide +kernel
theorem dX4_leastCommonMultiple_27 : decode cX4_leastCommonMultiple 27 = .ok (.istore_n 3, 1) := by decide +kernel
theorem dX4_leastCommonMultiple_28 : decode cX4_leastCommonMultiple 28 = .ok (.iinc 4 1, 3) := by decide +kernel
theorem dX4_leastCommonMultiple_31 : decode cX4_leastCommonMultiple 31 = .ok (.goto (-24), 3) := by decide +kernel
theorem dX4_leastCommonMultiple_34 : decode cX4_leastCommonMultiple 34 = .ok (.iload_n 2, 1) := by decide +kernel
theorem dX4_leastCommonMultiple_35 : decode cX4_leastCommonMultiple 35 = .ok (.ifCond .le 11, 3) := by decide +kernel
theorem dX4_leastCommonMultiple_38 : decode cX4_leastCommonMultiple 38 = .ok (.iload_n 0, 1) := by decide +kernel
theorem dX4_leastCommonMultiple_39 : decode cX4_leastCommonMultiple 39 = .ok (.iload_n 2, 1) := by decide +kernel
theorem dX4_leastCommonMultiple_40 : decode cX4_leastCommonMultiple 40 = .ok (.idiv, 1) := by decide +kernel
theorem dX4_leastCommonMultiple_41 : decode cX4_leastCommonMultiple 41 = .ok (.iload_n 1, 1) := by decide +kernel
theorem dX4_leastCommonMultiple_42 : decode cX4_leastCommonMultiple 42 = .ok (.imul, 1) := by decide +kernel
theorem dX4_leastCommonMultiple_43 : decode cX4_leastCommonMultiple 43 = .ok (.goto 4, 3) := by decide +kernel
theorem dX4_leastCommonMultiple_46 : decode cX4_leastCommonMultiple 46 = .ok (.iconst 0, 1) := by decide +kernel
theorem dX4_leastCommonMultiple_47 : decode cX4_leastCommonMultiple 47 = .ok (.ireturn, 1) := by decide +kernel
theorem dX4_fitsSlip_0 : decode cX4_fitsSlip 0 = .ok (.iconst 0, 1) := by decide +kernel
theorem dX4_fitsSlip_1 : decode cX4_fitsSlip 1 = .ok (.istore 4, 2) := by decide +kernel
theorem dX4_fitsSlip_3 : decode cX4_fitsSlip 3 = .ok (.iload 4, 2) := by decide +kernel
theorem dX4_fitsSlip_5 : decode cX4_fitsSlip 5 = .ok (.aload_n 0, 1) := by decide +kernel
theorem dX4_fitsSlip_6 : decode cX4_fitsSlip 6 = .ok (.getfield 49, 3) := by decide +kernel
theorem dX4_fitsSlip_9 : decode cX4_fitsSlip 9 = .ok (.getfield 127, 3) := by decide +kernel
theorem dX4_fitsSlip_12 : decode cX4_fitsSlip 12 = .ok (.if_icmp .ge 64, 3) := by decide +kernel
theorem dX4_fitsSlip_15 : decode cX4_fitsSlip 15 = .ok (.aload_n 1, 1) := by decide +kernel
theorem dX4_fitsSlip_16 : decode cX4_fitsSlip 16 = .ok (.getfield 162, 3) := by decide +kernel
theorem dX4_fitsSlip_19 : decode cX4_fitsSlip 19 = .ok (.aload_n 0, 1) := by decide +kernel
theorem dX4_fitsSlip_20 : decode cX4_fitsSlip 20 = .ok (.getfield 49, 3) := by decide +kernel
theorem dX4_fitsSlip_23 : decode cX4_fitsSlip 23 = .ok (.getfield 377, 3) := by decide +kernel
theorem dX4_fitsSlip_26 : decode cX4_fitsSlip 26 = .ok (.iload 4, 2) := by decide +kernel
theorem dX4_fitsSlip_28 : decode cX4_fitsSlip 28 = .ok (.iaload, 1) := by decide +kernel
theorem dX4_fitsSlip_29 : decode cX4_fitsSlip 29 = .ok (.iaload, 1) := by decide +kernel
theorem dX4_fitsSlip_30 : decode cX4_fitsSlip 30 = .ok (.istore 5, 2) := by decide +kernel
theorem dX4_fitsSlip_32 : decode cX4_fitsSlip 32 = .ok (.aload_n 1, 1) := by decide +kernel
theorem dX4_fitsSlip_33 : decode cX4_fitsSlip 33 = .ok (.getfield 380, 3) := by decide +kernel
theorem dX4_fitsSlip_36 : decode cX4_fitsSlip 36 = .ok (.iload 5, 2) := by decide +kernel
theorem dX4_fitsSlip_38 : decode cX4_fitsSlip 38 = .ok (.iaload, 1) := by decide +kernel
theorem dX4_fitsSlip_39 : decode cX4_fitsSlip 39 = .ok (.iload 5, 2) := by decide +kernel
theorem dX4_fitsSlip_41 : decode cX4_fitsSlip 41 = .ok (.iload_n 2, 1) := by decide +kernel
theorem dX4_fitsSlip_42 : decode cX4_fitsSlip 42 = .ok (.if_icmp .lt 7, 3) := by decide +kernel
theorem dX4_fitsSlip_45 : decode cX4_fitsSlip 45 = .ok (.iload_n 3, 1) := by decide +kernel
theorem dX4_fitsSlip_46 : decode cX4_fitsSlip 46 = .ok (.goto 4, 3) := by decide +kernel
theorem dX4_fitsSlip_49 : decode cX4_fitsSlip 49 = .ok (.iconst 0, 1) := by decide +kernel
theorem dX4_fitsSlip_50 : decode cX4_fitsSlip 50 = .ok (.iadd, 1) := by decide +kernel
theorem dX4_fitsSlip_51 : decode cX4_fitsSlip 51 = .ok (.istore 6, 2) := by decide +kernel
theorem dX4_fitsSlip_53 : decode cX4_fitsSlip 53 = .ok (.iload 6, 2) := by decide +kernel
theorem dX4_fitsSlip_55 : decode cX4_fitsSlip 55 = .ok (.aload_n 0, 1) := by decide +kernel
theorem dX4_fitsSlip_56 : decode cX4_fitsSlip 56 = .ok (.getfield 49, 3) := by decide +kernel
theorem dX4_fitsSlip_59 : decode cX4_fitsSlip 59 = .ok (.getfield 172, 3) := by decide +kernel
theorem dX4_fitsSlip_62 : decode cX4_fitsSlip 62 = .ok (.iload 4, 2) := by decide +kernel
theorem dX4_fitsSlip_64 : decode cX4_fitsSlip 64 = .ok (.iaload, 1) := by decide +kernel
theorem dX4_fitsSlip_65 : decode cX4_fitsSlip 65 = .ok (.if_icmp .eq 5, 3) := by decide +kernel
theorem dX4_fitsSlip_68 : decode cX4_fitsSlip 68 = .ok (.iconst 0, 1) := by decide +kernel
theorem dX4_fitsSlip_69 : decode cX4_fitsSlip 69 = .ok (.ireturn, 1) := by decide +kernel
theorem dX4_fitsSlip_70 : decode cX4_fitsSlip 70 = .ok (.iinc 4 1, 3) := by decide +kernel
theorem dX4_fitsSlip_73 : decode cX4_fitsSlip 73 = .ok (.goto (-70), 3) := by decide +kernel
theorem dX4_fitsSlip_76 : decode cX4_fitsSlip 76 = .ok (.iconst 1, 1) := by decide +kernel
theorem dX4_fitsSlip_77 : decode cX4_fitsSlip 77 = .ok (.ireturn, 1) := by decide +kernel
theorem dX4_fitsWake_0 : decode cX4_fitsWake 0 = .ok (.aload_n 1, 1) := by decide +kernel
theorem dX4_fitsWake_1 : decode cX4_fitsWake 1 = .ok (.getfield 162, 3) := by decide +kernel
theorem dX4_fitsWake_4 : decode cX4_fitsWake 4 = .ok (.iload_n 2, 1) := by decide +kernel
theorem dX4_fitsWake_5 : decode cX4_fitsWake 5 = .ok (.iaload, 1) := by decide +kernel
theorem dX4_fitsWake_6 : decode cX4_fitsWake 6 = .ok (.ifCond .le 7, 3) := by decide +kernel
theorem dX4_fitsWake_9 : decode cX4_fitsWake 9 = .ok (.iconst 1, 1) := by decide +kernel
theorem dX4_fitsWake_10 : decode cX4_fitsWake 10 = .ok (.goto 4, 3) := by decide +kernel
theorem dX4_fitsWake_13 : decode cX4_fitsWake 13 = .ok (.iconst 0, 1) := by decide +kernel
theorem dX4_fitsWake_14 : decode cX4_fitsWake 14 = .ok (.istore_n 3, 1) := by decide +kernel
theorem dX4_fitsWake_15 : decode cX4_fitsWake 15 = .ok (.iconst 0, 1) := by decide +kernel
theorem dX4_fitsWake_16 : decode cX4_fitsWake 16 = .ok (.istore 4, 2) := by decide +kernel
theorem dX4_fitsWake_18 : decode cX4_fitsWake 18 = .ok (.iload 4, 2) := by decide +kernel
theorem dX4_fitsWake_20 : decode cX4_fitsWake 20 = .ok (.aload_n 0, 1) := by decide +kernel
theorem dX4_fitsWake_21 : decode cX4_fitsWake 21 = .ok (.getfield 49, 3) := by decide +kernel
theorem dX4_fitsWake_24 : decode cX4_fitsWake 24 = .ok (.getfield 127, 3) := by decide +kernel
theorem dX4_fitsWake_27 : decode cX4_fitsWake 27 = .ok (.if_icmp .ge 83, 3) := by decide +kernel
theorem dX4_fitsWake_30 : decode cX4_fitsWake 30 = .ok (.aload_n 0, 1) := by decide +kernel
theorem dX4_fitsWake_31 : decode cX4_fitsWake 31 = .ok (.getfield 49, 3) := by decide +kernel
theorem dX4_fitsWake_34 : decode cX4_fitsWake 34 = .ok (.getfield 377, 3) := by decide +kernel
theorem dX4_fitsWake_37 : decode cX4_fitsWake 37 = .ok (.iload 4, 2) := by decide +kernel
theorem dX4_fitsWake_39 : decode cX4_fitsWake 39 = .ok (.iaload, 1) := by decide +kernel
theorem dX4_fitsWake_40 : decode cX4_fitsWake 40 = .ok (.istore 5, 2) := by decide +kernel
theorem dX4_fitsWake_42 : decode cX4_fitsWake 42 = .ok (.aload_n 1, 1) := by decide +kernel
theorem dX4_fitsWake_43 : decode cX4_fitsWake 43 = .ok (.getfield 162, 3) := by decide +kernel
theorem dX4_fitsWake_46 : decode cX4_fitsWake 46 = .ok (.iload 5, 2) := by decide +kernel
theorem dX4_fitsWake_48 : decode cX4_fitsWake 48 = .ok (.iaload, 1) := by decide +kernel
theorem dX4_fitsWake_49 : decode cX4_fitsWake 49 = .ok (.istore 6, 2) := by decide +kernel
theorem dX4_fitsWake_51 : decode cX4_fitsWake 51 = .ok (.iload_n 3, 1) := by decide +kernel
theorem dX4_fitsWake_52 : decode cX4_fitsWake 52 = .ok (.ifCond .eq 30, 3) := by decide +kernel
theorem dX4_fitsWake_55 : decode cX4_fitsWake 55 = .ok (.iload 6, 2) := by decide +kernel
theorem dX4_fitsWake_57 : decode cX4_fitsWake 57 = .ok (.ifCond .le 25, 3) := by decide +kernel
theorem dX4_fitsWake_60 : decode cX4_fitsWake 60 = .ok (.iload 5, 2) := by decide +kernel
theorem dX4_fitsWake_62 : decode cX4_fitsWake 62 = .ok (.iload_n 2, 1) := by decide +kernel
theorem dX4_fitsWake_63 : decode cX4_fitsWake 63 = .ok (.if_icmp .lt 19, 3) := by decide +kernel
theorem dX4_fitsWake_66 : decode cX4_fitsWake 66 = .ok (.iload 5, 2) := by decide +kernel
theorem dX4_fitsWake_68 : decode cX4_fitsWake 68 = .ok (.iload_n 2, 1) := by decide +kernel
theorem dX4_fitsWake_69 : decode cX4_fitsWake 69 = .ok (.if_icmp .ne 7, 3) := by decide +kernel
theorem dX4_fitsWake_72 : decode cX4_fitsWake 72 = .ok (.iconst 0, 1) := by decide +kernel
theorem dX4_fitsWake_73 : decode cX4_fitsWake 73 = .ok (.goto 7, 3) := by decide +kernel
theorem dX4_fitsWake_76 : decode cX4_fitsWake 76 = .ok (.iload 6, 2) := by decide +kernel
theorem dX4_fitsWake_78 : decode cX4_fitsWake 78 = .ok (.iconst 1, 1) := by decide +kernel
theorem dX4_fitsWake_79 : decode cX4_fitsWake 79 = .ok (.isub, 1) := by decide +kernel
theorem dX4_fitsWake_80 : decode cX4_fitsWake 80 = .ok (.istore 6, 2) := by decide +kernel
theorem dX4_fitsWake_82 : decode cX4_fitsWake 82 = .ok (.aload_n 1, 1) := by decide +kernel
theorem dX4_fitsWake_83 : decode cX4_fitsWake 83 = .ok (.getfield 380, 3) := by decide +kernel
theorem dX4_fitsWake_86 : decode cX4_fitsWake 86 = .ok (.iload 6, 2) := by decide +kernel
theorem dX4_fitsWake_88 : decode cX4_fitsWake 88 = .ok (.iaload, 1) := by decide +kernel
theorem dX4_fitsWake_89 : decode cX4_fitsWake 89 = .ok (.aload_n 0, 1) := by decide +kernel
theorem dX4_fitsWake_90 : decode cX4_fitsWake 90 = .ok (.getfield 49, 3) := by decide +kernel
theorem dX4_fitsWake_93 : decode cX4_fitsWake 93 = .ok (.getfield 172, 3) := by decide +kernel
theorem dX4_fitsWake_96 : decode cX4_fitsWake 96 = .ok (.iload 4, 2) := by decide +kernel
theorem dX4_fitsWake_98 : decode cX4_fitsWake 98 = .ok (.iaload, 1) := by decide +kernel
theorem dX4_fitsWake_99 : decode cX4_fitsWake 99 = .ok (.if_icmp .eq 5, 3) := by decide +kernel
theorem dX4_fitsWake_102 : decode cX4_fitsWake 102 = .ok (.iconst 0, 1) := by decide +kernel
theorem dX4_fitsWake_103 : decode cX4_fitsWake 103 = .ok (.ireturn, 1) := by decide +kernel
theorem dX4_fitsWake_104 : decode cX4_fitsWake 104 = .ok (.iinc 4 1, 3) := by decide +kernel
theorem dX4_fitsWake_107 : decode cX4_fitsWake 107 = .ok (.goto (-89), 3) := by decide +kernel
theorem dX4_fitsWake_110 : decode cX4_fitsWake 110 = .ok (.iconst 1, 1) := by decide +kernel
theorem dX4_fitsWake_111 : decode cX4_fitsWake 111 = .ok (.ireturn, 1) := by decide +kernel
theorem dX4_markDueNumbers_0 : decode cX4_markDueNumbers 0 = .ok (.aload_n 0, 1) := by decide +kernel
theorem dX4_markDueNumbers_1 : decode cX4_markDueNumbers 1 = .ok (.getfield 66, 3) := by decide +kernel
theorem dX4_markDueNumbers_4 : decode cX4_markDueNumbers 4 = .ok (.iconst (-1), 1) := by decide +kernel
theorem dX4_markDueNumbers_5 : decode cX4_markDueNumbers 5 = .ok (.invokestatic 383, 3) := by decide +kernel
theorem dX4_markDueNumbers_8 : decode cX4_markDueNumbers 8 = .ok (.iconst 0, 1) := by decide +kernel
theorem dX4_markDueNumbers_9 : decode cX4_markDueNumbers 9 = .ok (.istore_n 1, 1) := by decide +kernel
theorem dX4_markDueNumbers_10 : decode cX4_markDueNumbers 10 = .ok (.iconst 0, 1) := by decide +kernel
theorem dX4_markDueNumbers_11 : decode cX4_markDueNumbers 11 = .ok (.istore_n 2, 1) := by decide +kernel
theorem dX4_markDueNumbers_12 : decode cX4_markDueNumbers 12 = .ok (.iload_n 2, 1) := by decide +kernel
theorem dX4_markDueNumbers_13 : decode cX4_markDueNumbers 13 = .ok (.aload_n 0, 1) := by decide +kernel
theorem dX4_markDueNumbers_14 : decode cX4_markDueNumbers 14 = .ok (.getfield 49, 3) := by decide +kernel
theorem dX4_markDueNumbers_17 : decode cX4_markDueNumbers 17 = .ok (.getfield 127, 3) := by decide +kernel
theorem dX4_markDueNumbers_20 : decode cX4_markDueNumbers 20 = .ok (.if_icmp .ge 72, 3) := by decide +kernel
theorem dX4_markDueNumbers_23 : decode cX4_markDueNumbers 23 = .ok (.aload_n 0, 1) := by decide +kernel
theorem dX4_markDueNumbers_24 : decode cX4_markDueNumbers 24 = .ok (.getfield 49, 3) := by decide +kernel
theorem dX4_markDueNumbers_27 : decode cX4_markDueNumbers 27 = .ok (.getfield 377, 3) := by decide +kernel
theorem dX4_markDueNumbers_30 : decode cX4_markDueNumbers 30 = .ok (.iload_n 2, 1) := by decide +kernel
theorem dX4_markDueNumbers_31 : decode cX4_markDueNumbers 31 = .ok (.iaload, 1) := by decide +kernel
theorem dX4_markDueNumbers_32 : decode cX4_markDueNumbers 32 = .ok (.istore_n 3, 1) := by decide +kernel
theorem dX4_markDueNumbers_33 : decode cX4_markDueNumbers 33 = .ok (.aload_n 0, 1) := by decide +kernel
theorem dX4_markDueNumbers_34 : decode cX4_markDueNumbers 34 = .ok (.getfield 49, 3) := by decide +kernel
theorem dX4_markDueNumbers_37 : decode cX4_markDueNumbers 37 = .ok (.getfield 172, 3) := by decide +kernel
theorem dX4_markDueNumbers_40 : decode cX4_markDueNumbers 40 = .ok (.iload_n 2, 1) := by decide +kernel
theorem dX4_markDueNumbers_41 : decode cX4_markDueNumbers 41 = .ok (.iaload, 1) := by decide +kernel
theorem dX4_markDueNumbers_42 : decode cX4_markDueNumbers 42 = .ok (.istore 4, 2) := by decide +kernel
theorem dX4_markDueNumbers_44 : decode cX4_markDueNumbers 44 = .ok (.aload_n 0, 1) := by decide +kernel
theorem dX4_markDueNumbers_45 : decode cX4_markDueNumbers 45 = .ok (.getfield 66, 3) := by decide +kernel
theorem dX4_markDueNumbers_48 : decode cX4_markDueNumbers 48 = .ok (.iload_n 3, 1) := by decide +kernel
theorem dX4_markDueNumbers_49 : decode cX4_markDueNumbers 49 = .ok (.aload_n 0, 1) := by decide +kernel
theorem dX4_markDueNumbers_50 : decode cX4_markDueNumbers 50 = .ok (.getfield 66, 3) := by decide +kernel
theorem dX4_markDueNumbers_53 : decode cX4_markDueNumbers 53 = .ok (.iload_n 3, 1) := by decide +kernel
theorem dX4_markDueNumbers_54 : decode cX4_markDueNumbers 54 = .ok (.iaload, 1) := by decide +kernel
theorem dX4_markDueNumbers_55 : decode cX4_markDueNumbers 55 = .ok (.iconst (-1), 1) := by decide +kernel
theorem dX4_markDueNumbers_56 : decode cX4_markDueNumbers 56 = .ok (.if_icmp .eq 14, 3) := by decide +kernel
theorem dX4_markDueNumbers_59 : decode cX4_markDueNumbers 59 = .ok (.aload_n 0, 1) := by decide +kernel
theorem dX4_markDueNumbers_60 : decode cX4_markDueNumbers 60 = .ok (.getfield 66, 3) := by decide +kernel
theorem dX4_markDueNumbers_63 : decode cX4_markDueNumbers 63 = .ok (.iload_n 3, 1) := by decide +kernel
theorem dX4_markDueNumbers_64 : decode cX4_markDueNumbers 64 = .ok (.iaload, 1) := by decide +kernel
theorem dX4_markDueNumbers_65 : decode cX4_markDueNumbers 65 = .ok (.iload 4, 2) := by decide +kernel
theorem dX4_markDueNumbers_67 : decode cX4_markDueNumbers 67 = .ok (.if_icmp .ne 8, 3) := by decide +kernel
theorem dX4_markDueNumbers_70 : decode cX4_markDueNumbers 70 = .ok (.iload 4, 2) := by decide +kernel
theorem dX4_markDueNumbers_72 : decode cX4_markDueNumbers 72 = .ok (.goto 5, 3) := by decide +kernel
theorem dX4_markDueNumbers_75 : decode cX4_markDueNumbers 75 = .ok (.bipush (-2), 2) := by decide +kernel
theorem dX4_markDueNumbers_77 : decode cX4_markDueNumbers 77 = .ok (.iastore, 1) := by decide +kernel
theorem dX4_markDueNumbers_78 : decode cX4_markDueNumbers 78 = .ok (.iload_n 1, 1) := by decide +kernel
theorem dX4_markDueNumbers_79 : decode cX4_markDueNumbers 79 = .ok (.iload_n 3, 1) := by decide +kernel
theorem dX4_markDueNumbers_80 : decode cX4_markDueNumbers 80 = .ok (.iconst 1, 1) := by decide +kernel
theorem dX4_markDueNumbers_81 : decode cX4_markDueNumbers 81 = .ok (.iadd, 1) := by decide +kernel
theorem dX4_markDueNumbers_82 : decode cX4_markDueNumbers 82 = .ok (.invokestatic 185, 3) := by decide +kernel
theorem dX4_markDueNumbers_85 : decode cX4_markDueNumbers 85 = .ok (.istore_n 1, 1) := by decide +kernel
theorem dX4_markDueNumbers_86 : decode cX4_markDueNumbers 86 = .ok (.iinc 2 1, 3) := by decide +kernel
theorem dX4_markDueNumbers_89 : decode cX4_markDueNumbers 89 = .ok (.goto (-77), 3) := by decide +kernel
theorem dX4_markDueNumbers_92 : decode cX4_markDueNumbers 92 = .ok (.iload_n 1, 1) := by decide +kernel
theorem dX4_markDueNumbers_93 : decode cX4_markDueNumbers 93 = .ok (.ireturn, 1) := by decide +kernel
theorem dX4_fitsPeriod_0 : decode cX4_fitsPeriod 0 = .ok (.aload_n 0, 1) := by decide +kernel
theorem dX4_fitsPeriod_1 : decode cX4_fitsPeriod 1 = .ok (.getfield 21, 3) := by decide +kernel
theorem dX4_fitsPeriod_4 : decode cX4_fitsPeriod 4 = .ok (.iload_n 2, 1) := by decide +kernel
theorem dX4_fitsPeriod_5 : decode cX4_fitsPeriod 5 = .ok (.iconst 0, 1) := by decide +kernel
theorem dX4_fitsPeriod_6 : decode cX4_fitsPeriod 6 = .ok (.invokevirtual 181, 3) := by decide +kernel
theorem dX4_fitsPeriod_9 : decode cX4_fitsPeriod 9 = .ok (.istore 5, 2) := by decide +kernel
theorem dX4_fitsPeriod_11 : decode cX4_fitsPeriod 11 = .ok (.aload_n 0, 1) := by decide +kernel
theorem dX4_fitsPeriod_12 : decode cX4_fitsPeriod 12 = .ok (.getfield 21, 3) := by decide +kernel
theorem dX4_fitsPeriod_15 : decode cX4_fitsPeriod 15 = .ok (.iload_n 2, 1) := by decide +kernel
theorem dX4_fitsPeriod_16 : decode cX4_fitsPeriod 16 = .ok (.iconst 1, 1) := by decide +kernel
theorem dX4_fitsPeriod_17 : decode cX4_fitsPeriod 17 = .ok (.invokevirtual 181, 3) := by decide +kernel
theorem dX4_fitsPeriod_20 : decode cX4_fitsPeriod 20 = .ok (.istore 6, 2) := by decide +kernel
theorem dX4_fitsPeriod_22 : decode cX4_fitsPeriod 22 = .ok (.aload_n 0, 1) := by decide +kernel
theorem dX4_fitsPeriod_23 : decode cX4_fitsPeriod 23 = .ok (.getfield 21, 3) := by decide +kernel
theorem dX4_fitsPeriod_26 : decode cX4_fitsPeriod 26 = .ok (.iload_n 2, 1) := by decide +kernel
theorem dX4_fitsPeriod_27 : decode cX4_fitsPeriod 27 = .ok (.iconst 2, 1) := by decide +kernel
theorem dX4_fitsPeriod_28 : decode cX4_fitsPeriod 28 = .ok (.invokevirtual 181, 3) := by decide +kernel
theorem dX4_fitsPeriod_31 : decode cX4_fitsPeriod 31 = .ok (.istore 7, 2) := by decide +kernel
theorem dX4_fitsPeriod_33 : decode cX4_fitsPeriod 33 = .ok (.iconst 0, 1) := by decide +kernel
theorem dX4_fitsPeriod_34 : decode cX4_fitsPeriod 34 = .ok (.istore 8, 2) := by decide +kernel
theorem dX4_fitsPeriod_36 : decode cX4_fitsPeriod 36 = .ok (.iconst 0, 1) := by decide +kernel
theorem dX4_fitsPeriod_37 : decode cX4_fitsPeriod 37 = .ok (.istore 9, 2) := by decide +kernel
theorem dX4_fitsPeriod_39 : decode cX4_fitsPeriod 39 = .ok (.iload 9, 2) := by decide +kernel
theorem dX4_fitsPeriod_41 : decode cX4_fitsPeriod 41 = .ok (.iload 4, 2) := by decide +kernel
theorem dX4_fitsPeriod_43 : decode cX4_fitsPeriod 43 = .ok (.if_icmp .ge 125, 3) := by decide +kernel
theorem dX4_fitsPeriod_46 : decode cX4_fitsPeriod 46 = .ok (.aload_n 1, 1) := by decide +kernel
theorem dX4_fitsPeriod_47 : decode cX4_fitsPeriod 47 = .ok (.getfield 144, 3) := by decide +kernel
theorem dX4_fitsPeriod_50 : decode cX4_fitsPeriod 50 = .ok (.iload 9, 2) := by decide +kernel
theorem dX4_fitsPeriod_52 : decode cX4_fitsPeriod 52 = .ok (.iaload, 1) := by decide +kernel
theorem dX4_fitsPeriod_53 : decode cX4_fitsPeriod 53 = .ok (.istore 10, 2) := by decide +kernel
theorem dX4_fitsPeriod_55 : decode cX4_fitsPeriod 55 = .ok (.iload 10, 2) := by decide +kernel
theorem dX4_fitsPeriod_57 : decode cX4_fitsPeriod 57 = .ok (.iload 9, 2) := by decide +kernel
theorem dX4_fitsPeriod_59 : decode cX4_fitsPeriod 59 = .ok (.iload 7, 2) := by decide +kernel
theorem dX4_fitsPeriod_61 : decode cX4_fitsPeriod 61 = .ok (.iload 6, 2) := by decide +kernel
theorem dX4_fitsPeriod_63 : decode cX4_fitsPeriod 63 = .ok (.invokestatic 193, 3) := by decide +kernel
theorem dX4_fitsPeriod_66 : decode cX4_fitsPeriod 66 = .ok (.ifCond .eq 8, 3) := by decide +kernel
theorem dX4_fitsPeriod_69 : decode cX4_fitsPeriod 69 = .ok (.iload 5, 2) := by decide +kernel
theorem dX4_fitsPeriod_71 : decode cX4_fitsPeriod 71 = .ok (.goto 4, 3) := by decide +kernel
theorem dX4_fitsPeriod_74 : decode cX4_fitsPeriod 74 = .ok (.iconst 0, 1) := by decide +kernel
theorem dX4_fitsPeriod_75 : decode cX4_fitsPeriod 75 = .ok (.isub, 1) := by decide +kernel
theorem dX4_fitsPeriod_76 : decode cX4_fitsPeriod 76 = .ok (.istore 10, 2) := by decide +kernel
theorem dX4_fitsPeriod_78 : decode cX4_fitsPeriod 78 = .ok (.iload 10, 2) := by decide +kernel
theorem dX4_fitsPeriod_80 : decode cX4_fitsPeriod 80 = .ok (.iload 9, 2) := by decide +kernel
theorem dX4_fitsPeriod_82 : decode cX4_fitsPeriod 82 = .ok (.iload 7, 2) := by decide +kernel
theorem dX4_fitsPeriod_84 : decode cX4_fitsPeriod 84 = .ok (.iload_n 3, 1) := by decide +kernel
theorem dX4_fitsPeriod_85 : decode cX4_fitsPeriod 85 = .ok (.invokestatic 193, 3) := by decide +kernel
theorem dX4_fitsPeriod_88 : decode cX4_fitsPeriod 88 = .ok (.ifCond .eq 8, 3) := by decide +kernel
theorem dX4_fitsPeriod_91 : decode cX4_fitsPeriod 91 = .ok (.iload 5, 2) := by decide +kernel
theorem dX4_fitsPeriod_93 : decode cX4_fitsPeriod 93 = .ok (.goto 4, 3) := by decide +kernel
theorem dX4_fitsPeriod_96 : decode cX4_fitsPeriod 96 = .ok (.iconst 0, 1) := by decide +kernel
theorem dX4_fitsPeriod_97 : decode cX4_fitsPeriod 97 = .ok (.iadd, 1) := by decide +kernel
theorem dX4_fitsPeriod_98 : decode cX4_fitsPeriod 98 = .ok (.istore 10, 2) := by decide +kernel
theorem dX4_fitsPeriod_100 : decode cX4_fitsPeriod 100 = .ok (.iconst 0, 1) := by decide +kernel
theorem dX4_fitsPeriod_101 : decode cX4_fitsPeriod 101 = .ok (.istore 11, 2) := by decide +kernel
theorem dX4_fitsPeriod_103 : decode cX4_fitsPeriod 103 = .ok (.iload 10, 2) := by decide +kernel
theorem dX4_fitsPeriod_105 : decode cX4_fitsPeriod 105 = .ok (.aload_n 0, 1) := by decide +kernel
theorem dX4_fitsPeriod_106 : decode cX4_fitsPeriod 106 = .ok (.getfield 73, 3) := by decide +kernel
theorem dX4_fitsPeriod_109 : decode cX4_fitsPeriod 109 = .ok (.invokestatic 147, 3) := by decide +kernel
theorem dX4_fitsPeriod_112 : decode cX4_fitsPeriod 112 = .ok (.ifCond .eq 25, 3) := by decide +kernel
theorem dX4_fitsPeriod_115 : decode cX4_fitsPeriod 115 = .ok (.aload_n 1, 1) := by decide +kernel
theorem dX4_fitsPeriod_116 : decode cX4_fitsPeriod 116 = .ok (.getfield 386, 3) := by decide +kernel
theorem dX4_fitsPeriod_119 : decode cX4_fitsPeriod 119 = .ok (.iload 9, 2) := by decide +kernel
theorem dX4_fitsPeriod_121 : decode cX4_fitsPeriod 121 = .ok (.baload, 1) := by decide +kernel
theorem dX4_fitsPeriod_122 : decode cX4_fitsPeriod 122 = .ok (.ifCond .ne 15, 3) := by decide +kernel
theorem dX4_fitsPeriod_125 : decode cX4_fitsPeriod 125 = .ok (.iinc 8 1, 3) := by decide +kernel
theorem dX4_fitsPeriod_128 : decode cX4_fitsPeriod 128 = .ok (.aload_n 1, 1) := by decide +kernel
theorem dX4_fitsPeriod_129 : decode cX4_fitsPeriod 129 = .ok (.getfield 380, 3) := by decide +kernel
theorem dX4_fitsPeriod_132 : decode cX4_fitsPeriod 132 = .ok (.iload 8, 2) := by decide +kernel
theorem dX4_fitsPeriod_134 : decode cX4_fitsPeriod 134 = .ok (.iaload, 1) := by decide +kernel
theorem dX4_fitsPeriod_135 : decode cX4_fitsPeriod 135 = .ok (.istore 11, 2) := by decide +kernel
theorem dX4_fitsPeriod_137 : decode cX4_fitsPeriod 137 = .ok (.aload_n 0, 1) := by decide +kernel
theorem dX4_fitsPeriod_138 : decode cX4_fitsPeriod 138 = .ok (.getfield 66, 3) := by decide +kernel
theorem dX4_fitsPeriod_141 : decode cX4_fitsPeriod 141 = .ok (.iload 9, 2) := by decide +kernel
theorem dX4_fitsPeriod_143 : decode cX4_fitsPeriod 143 = .ok (.iaload, 1) := by decide +kernel
theorem dX4_fitsPeriod_144 : decode cX4_fitsPeriod 144 = .ok (.iconst (-1), 1) := by decide +kernel
theorem dX4_fitsPeriod_145 : decode cX4_fitsPeriod 145 = .ok (.if_icmp .eq 17, 3) := by decide +kernel
theorem dX4_fitsPeriod_148 : decode cX4_fitsPeriod 148 = .ok (.aload_n 0, 1) := by decide +kernel
theorem dX4_fitsPeriod_149 : decode cX4_fitsPeriod 149 = .ok (.getfield 66, 3) := by decide +kernel
theorem dX4_fitsPeriod_152 : decode cX4_fitsPeriod 152 = .ok (.iload 9, 2) := by decide +kernel
theorem dX4_fitsPeriod_154 : decode cX4_fitsPeriod 154 = .ok (.iaload, 1) := by decide +kernel
theorem dX4_fitsPeriod_155 : decode cX4_fitsPeriod 155 = .ok (.iload 11, 2) := by decide +kernel
theorem dX4_fitsPeriod_157 : decode cX4_fitsPeriod 157 = .ok (.if_icmp .eq 5, 3) := by decide +kernel
theorem dX4_fitsPeriod_160 : decode cX4_fitsPeriod 160 = .ok (.iconst 0, 1) := by decide +kernel
theorem dX4_fitsPeriod_161 : decode cX4_fitsPeriod 161 = .ok (.ireturn, 1) := by decide +kernel
theorem dX4_fitsPeriod_162 : decode cX4_fitsPeriod 162 = .ok (.iinc 9 1, 3) := by decide +kernel
theorem dX4_fitsPeriod_165 : decode cX4_fitsPeriod 165 = .ok (.goto (-126), 3) := by decide +kernel
theorem dX4_fitsPeriod_168 : decode cX4_fitsPeriod 168 = .ok (.iconst 1, 1) := by decide +kernel
theorem dX4_fitsPeriod_169 : decode cX4_fitsPeriod 169 = .ok (.ireturn, 1) := by decide +kernel
theorem dX4_stepWays_0 : decode cX4_stepWays 0 = .ok (.bipush 12, 2) := by decide +kernel
theorem dX4_stepWays_2 : decode cX4_stepWays 2 = .ok (.istore_n 2, 1) := by decide +kernel
theorem dX4_stepWays_3 : decode cX4_stepWays 3 = .ok (.iload_n 2, 1) := by decide +kernel
theorem dX4_stepWays_4 : decode cX4_stepWays 4 = .ok (.ifCond .lt 65, 3) := by decide +kernel
theorem dX4_stepWays_7 : decode cX4_stepWays 7 = .ok (.iload_n 2, 1) := by decide +kernel
theorem dX4_stepWays_8 : decode cX4_stepWays 8 = .ok (.iconst 1, 1) := by decide +kernel
theorem dX4_stepWays_9 : decode cX4_stepWays 9 = .ok (.if_icmp .lt 14, 3) := by decide +kernel
theorem dX4_stepWays_12 : decode cX4_stepWays 12 = .ok (.aload_n 0, 1) := by decide +kernel
theorem dX4_stepWays_13 : decode cX4_stepWays 13 = .ok (.getfield 69, 3) := by decide +kernel
theorem dX4_stepWays_16 : decode cX4_stepWays 16 = .ok (.iload_n 2, 1) := by decide +kernel
theorem dX4_stepWays_17 : decode cX4_stepWays 17 = .ok (.iconst 1, 1) := by decide +kernel
theorem dX4_stepWays_18 : decode cX4_stepWays 18 = .ok (.isub, 1) := by decide +kernel
theorem dX4_stepWays_19 : decode cX4_stepWays 19 = .ok (.laload, 1) := by decide +kernel
theorem dX4_stepWays_20 : decode cX4_stepWays 20 = .ok (.goto 4, 3) := by decide +kernel
theorem dX4_stepWays_23 : decode cX4_stepWays 23 = .ok (.lconst 0, 1) := by decide +kernel
theorem dX4_stepWays_24 : decode cX4_stepWays 24 = .ok (.lstore_n 3, 1) := by decide +kernel
theorem dX4_stepWays_25 : decode cX4_stepWays 25 = .ok (.iload_n 2, 1) := by decide +kernel
theorem dX4_stepWays_26 : decode cX4_stepWays 26 = .ok (.iconst 2, 1) := by decide +kernel
theorem dX4_stepWays_27 : decode cX4_stepWays 27 = .ok (.if_icmp .lt 14, 3) := by decide +kernel
theorem dX4_stepWays_30 : decode cX4_stepWays 30 = .ok (.aload_n 0, 1) := by decide +kernel
theorem dX4_stepWays_31 : decode cX4_stepWays 31 = .ok (.getfield 69, 3) := by decide +kernel
theorem dX4_stepWays_34 : decode cX4_stepWays 34 = .ok (.iload_n 2, 1) := by decide +kernel
theorem dX4_stepWays_35 : decode cX4_stepWays 35 = .ok (.iconst 2, 1) := by decide +kernel
theorem dX4_stepWays_36 : decode cX4_stepWays 36 = .ok (.isub, 1) := by decide +kernel
theorem dX4_stepWays_37 : decode cX4_stepWays 37 = .ok (.laload, 1) := by decide +kernel
theorem dX4_stepWays_38 : decode cX4_stepWays 38 = .ok (.goto 4, 3) := by decide +kernel
theorem dX4_stepWays_41 : decode cX4_stepWays 41 = .ok (.lconst 0, 1) := by decide +kernel
theorem dX4_stepWays_42 : decode cX4_stepWays 42 = .ok (.lstore 5, 2) := by decide +kernel
theorem dX4_stepWays_44 : decode cX4_stepWays 44 = .ok (.aload_n 0, 1) := by decide +kernel
theorem dX4_stepWays_45 : decode cX4_stepWays 45 = .ok (.getfield 69, 3) := by decide +kernel
theorem dX4_stepWays_48 : decode cX4_stepWays 48 = .ok (.iload_n 2, 1) := by decide +kernel
theorem dX4_stepWays_49 : decode cX4_stepWays 49 = .ok (.bipush 16, 2) := by decide +kernel
theorem dX4_stepWays_51 : decode cX4_stepWays 51 = .ok (.iload_n 1, 1) := by decide +kernel
theorem dX4_stepWays_52 : decode cX4_stepWays 52 = .ok (.isub, 1) := by decide +kernel
theorem dX4_stepWays_53 : decode cX4_stepWays 53 = .ok (.i2l, 1) := by decide +kernel
theorem dX4_stepWays_54 : decode cX4_stepWays 54 = .ok (.lload_n 3, 1) := by decide +kernel
theorem dX4_stepWays_55 : decode cX4_stepWays 55 = .ok (.lmul, 1) := by decide +kernel
theorem dX4_stepWays_56 : decode cX4_stepWays 56 = .ok (.iload_n 1, 1) := by decide +kernel
theorem dX4_stepWays_57 : decode cX4_stepWays 57 = .ok (.i2l, 1) := by decide +kernel
theorem dX4_stepWays_58 : decode cX4_stepWays 58 = .ok (.lload 5, 2) := by decide +kernel
theorem dX4_stepWays_60 : decode cX4_stepWays 60 = .ok (.lmul, 1) := by decide +kernel
theorem dX4_stepWays_61 : decode cX4_stepWays 61 = .ok (.ladd, 1) := by decide +kernel
theorem dX4_stepWays_62 : decode cX4_stepWays 62 = .ok (.lastore, 1) := by decide +kernel
theorem dX4_stepWays_63 : decode cX4_stepWays 63 = .ok (.iinc 2 (-1), 3) := by decide +kernel
theorem dX4_stepWays_66 : decode cX4_stepWays 66 = .ok (.goto (-63), 3) := by decide +kernel
theorem dX4_stepWays_69 : decode cX4_stepWays 69 = .ok (.return_, 1) := by decide +kernel
theorem dX4_sharedTwos_0 : decode cX4_sharedTwos 0 = .ok (.iconst 0, 1) := by decide +kernel
theorem dX4_sharedTwos_1 : decode cX4_sharedTwos 1 = .ok (.istore 4, 2) := by decide +kernel
theorem dX4_sharedTwos_3 : decode cX4_sharedTwos 3 = .ok (.iload 4, 2) := by decide +kernel
theorem dX4_sharedTwos_5 : decode cX4_sharedTwos 5 = .ok (.bipush 63, 2) := by decide +kernel
theorem dX4_sharedTwos_7 : decode cX4_sharedTwos 7 = .ok (.if_icmp .ge 22, 3) := by decide +kernel
theorem dX4_sharedTwos_10 : decode cX4_sharedTwos 10 = .ok (.lload_n 0, 1) := by decide +kernel
theorem dX4_sharedTwos_11 : decode cX4_sharedTwos 11 = .ok (.lload_n 2, 1) := by decide +kernel
theorem dX4_sharedTwos_12 : decode cX4_sharedTwos 12 = .ok (.lor, 1) := by decide +kernel
theorem dX4_sharedTwos_13 : decode cX4_sharedTwos 13 = .ok (.iload 4, 2) := by decide +kernel
theorem dX4_sharedTwos_15 : decode cX4_sharedTwos 15 = .ok (.lshr, 1) := by decide +kernel
theorem dX4_sharedTwos_16 : decode cX4_sharedTwos 16 = .ok (.lconst 1, 1) := by decide +kernel
theorem dX4_sharedTwos_17 : decode cX4_sharedTwos 17 = .ok (.land, 1) := by decide +kernel
theorem dX4_sharedTwos_18 : decode cX4_sharedTwos 18 = .ok (.lconst 0, 1) := by decide +kernel
theorem dX4_sharedTwos_19 : decode cX4_sharedTwos 19 = .ok (.lcmp, 1) := by decide +kernel
theorem dX4_sharedTwos_20 : decode cX4_sharedTwos 20 = .ok (.ifCond .ne 9, 3) := by decide +kernel
theorem dX4_sharedTwos_23 : decode cX4_sharedTwos 23 = .ok (.iinc 4 1, 3) := by decide +kernel
theorem dX4_sharedTwos_26 : decode cX4_sharedTwos 26 = .ok (.goto (-23), 3) := by decide +kernel
theorem dX4_sharedTwos_29 : decode cX4_sharedTwos 29 = .ok (.iload 4, 2) := by decide +kernel
theorem dX4_sharedTwos_31 : decode cX4_sharedTwos 31 = .ok (.ireturn, 1) := by decide +kernel
theorem dJ9_max_7cf53_0 : decode cJ9_max_7cf53 0 = .ok (.iload_n 0, 1) := by decide +kernel
theorem dJ9_max_7cf53_1 : decode cJ9_max_7cf53 1 = .ok (.iload_n 1, 1) := by decide +kernel
theorem dJ9_max_7cf53_2 : decode cJ9_max_7cf53 2 = .ok (.if_icmp .lt 7, 3) := by decide +kernel
theorem dJ9_max_7cf53_5 : decode cJ9_max_7cf53 5 = .ok (.iload_n 0, 1) := by decide +kernel
theorem dJ9_max_7cf53_6 : decode cJ9_max_7cf53 6 = .ok (.goto 4, 3) := by decide +kernel
theorem dJ9_max_7cf53_9 : decode cJ9_max_7cf53 9 = .ok (.iload_n 1, 1) := by decide +kernel
theorem dJ9_max_7cf53_10 : decode cJ9_max_7cf53 10 = .ok (.ireturn, 1) := by decide +kernel
theorem dJ9_min_7cf53_0 : decode cJ9_min_7cf53 0 = .ok (.iload_n 0, 1) := by decide +kernel
theorem dJ9_min_7cf53_1 : decode cJ9_min_7cf53 1 = .ok (.iload_n 1, 1) := by decide +kernel
theorem dJ9_min_7cf53_2 : decode cJ9_min_7cf53 2 = .ok (.if_icmp .gt 7, 3) := by decide +kernel
theorem dJ9_min_7cf53_5 : decode cJ9_min_7cf53 5 = .ok (.iload_n 0, 1) := by decide +kernel
theorem dJ9_min_7cf53_6 : decode cJ9_min_7cf53 6 = .ok (.goto 4, 3) := by decide +kernel
theorem dJ9_min_7cf53_9 : decode cJ9_min_7cf53 9 = .ok (.iload_n 1, 1) := by decide +kernel
theorem dJ9_min_7cf53_10 : decode cJ9_min_7cf53 10 = .ok (.ireturn, 1) := by decide +kernel
theorem dJ7_fill_d0a16_0 : decode cJ7_fill_d0a16 0 = .ok (.iconst 0, 1) := by decide +kernel
theorem dJ7_fill_d0a16_1 : decode cJ7_fill_d0a16 1 = .ok (.istore_n 3, 1) := by decide +kernel
theorem dJ7_fill_d0a16_2 : decode cJ7_fill_d0a16 2 = .ok (.aload_n 0, 1) := by decide +kernel
theorem dJ7_fill_d0a16_3 : decode cJ7_fill_d0a16 3 = .ok (.arraylength, 1) := by decide +kernel
theorem dJ7_fill_d0a16_4 : decode cJ7_fill_d0a16 4 = .ok (.istore 4, 2) := by decide +kernel
theorem dJ7_fill_d0a16_6 : decode cJ7_fill_d0a16 6 = .ok (.iload_n 3, 1) := by decide +kernel
theorem dJ7_fill_d0a16_7 : decode cJ7_fill_d0a16 7 = .ok (.iload 4, 2) := by decide +kernel
theorem dJ7_fill_d0a16_9 : decode cJ7_fill_d0a16 9 = .ok (.if_icmp .ge 13, 3) := by decide +kernel
theorem dJ7_fill_d0a16_12 : decode cJ7_fill_d0a16 12 = .ok (.aload_n 0, 1) := by decide +kernel
theorem dJ7_fill_d0a16_13 : decode cJ7_fill_d0a16 13 = .ok (.iload_n 3, 1) := by decide +kernel
theorem dJ7_fill_d0a16_14 : decode cJ7_fill_d0a16 14 = .ok (.lload_n 1, 1) := by decide +kernel
theorem dJ7_fill_d0a16_15 : decode cJ7_fill_d0a16 15 = .ok (.lastore, 1) := by decide +kernel
theorem dJ7_fill_d0a16_16 : decode cJ7_fill_d0a16 16 = .ok (.iinc 3 1, 3) := by decide +kernel
theorem dJ7_fill_d0a16_19 : decode cJ7_fill_d0a16 19 = .ok (.goto (-13), 3) := by decide +kernel
theorem dJ7_fill_d0a16_22 : decode cJ7_fill_d0a16 22 = .ok (.return_, 1) := by decide +kernel
theorem dJ7_fill_53178_0 : decode cJ7_fill_53178 0 = .ok (.iconst 0, 1) := by decide +kernel
theorem dJ7_fill_53178_1 : decode cJ7_fill_53178 1 = .ok (.istore_n 2, 1) := by decide +kernel
theorem dJ7_fill_53178_2 : decode cJ7_fill_53178 2 = .ok (.aload_n 0, 1) := by decide +kernel
theorem dJ7_fill_53178_3 : decode cJ7_fill_53178 3 = .ok (.arraylength, 1) := by decide +kernel
theorem dJ7_fill_53178_4 : decode cJ7_fill_53178 4 = .ok (.istore_n 3, 1) := by decide +kernel
theorem dJ7_fill_53178_5 : decode cJ7_fill_53178 5 = .ok (.iload_n 2, 1) := by decide +kernel
theorem dJ7_fill_53178_6 : decode cJ7_fill_53178 6 = .ok (.iload_n 3, 1) := by decide +kernel
theorem dJ7_fill_53178_7 : decode cJ7_fill_53178 7 = .ok (.if_icmp .ge 13, 3) := by decide +kernel
theorem dJ7_fill_53178_10 : decode cJ7_fill_53178 10 = .ok (.aload_n 0, 1) := by decide +kernel
theorem dJ7_fill_53178_11 : decode cJ7_fill_53178 11 = .ok (.iload_n 2, 1) := by decide +kernel
theorem dJ7_fill_53178_12 : decode cJ7_fill_53178 12 = .ok (.iload_n 1, 1) := by decide +kernel
theorem dJ7_fill_53178_13 : decode cJ7_fill_53178 13 = .ok (.iastore, 1) := by decide +kernel
theorem dJ7_fill_53178_14 : decode cJ7_fill_53178 14 = .ok (.iinc 2 1, 3) := by decide +kernel
theorem dJ7_fill_53178_17 : decode cJ7_fill_53178 17 = .ok (.goto (-12), 3) := by decide +kernel
theorem dJ7_fill_53178_20 : decode cJ7_fill_53178 20 = .ok (.return_, 1) := by decide +kernel
end
section
theorem dX5_init_0 : decode cX5_init 0 = .ok (.aload_n 0, 1) := by decide +kernel
theorem dX5_init_1 : decode cX5_init 1 = .ok (.invokespecial 1, 3) := by decide +kernel
theorem dX5_init_4 : decode cX5_init 4 = .ok (.aload_n 0, 1) := by decide +kernel
theorem dX5_init_5 : decode cX5_init 5 = .ok (.iconst 2, 1) := by decide +kernel
theorem dX5_init_6 : decode cX5_init 6 = .ok (.newarray .int, 2) := by decide +kernel
theorem dX5_init_8 : decode cX5_init 8 = .ok (.putfield 7, 3) := by decide +kernel
theorem dX5_init_11 : decode cX5_init 11 = .ok (.aload_n 0, 1) := by decide +kernel
theorem dX5_init_12 : decode cX5_init 12 = .ok (.bipush 94, 2) := by decide +kernel
theorem dX5_init_14 : decode cX5_init 14 = .ok (.newarray .int, 2) := by decide +kernel
theorem dX5_init_16 : decode cX5_init 16 = .ok (.putfield 13, 3) := by decide +kernel
theorem dX5_init_19 : decode cX5_init 19 = .ok (.aload_n 0, 1) := by decide +kernel
theorem dX5_init_20 : decode cX5_init 20 = .ok (.bipush 7, 2) := by decide +kernel
theorem dX5_init_22 : decode cX5_init 22 = .ok (.newarray .int, 2) := by decide +kernel
theorem dX5_init_24 : decode cX5_init 24 = .ok (.putfield 16, 3) := by decide +kernel
theorem dX5_init_27 : decode cX5_init 27 = .ok (.aload_n 0, 1) := by decide +kernel
theorem dX5_init_28 : decode cX5_init 28 = .ok (.bipush 7, 2) := by decide +kernel
theorem dX5_init_30 : decode cX5_init 30 = .ok (.newarray .int, 2) := by decide +kernel
theorem dX5_init_32 : decode cX5_init 32 = .ok (.putfield 19, 3) := by decide +kernel
theorem dX5_init_35 : decode cX5_init 35 = .ok (.aload_n 0, 1) := by decide +kernel
theorem dX5_init_36 : decode cX5_init 36 = .ok (.bipush 7, 2) := by decide +kernel
theorem dX5_init_38 : decode cX5_init 38 = .ok (.newarray .int, 2) := by decide +kernel
theorem dX5_init_40 : decode cX5_init 40 = .ok (.putfield 22, 3) := by decide +kernel
theorem dX5_init_43 : decode cX5_init 43 = .ok (.aload_n 0, 1) := by decide +kernel
theorem dX5_init_44 : decode cX5_init 44 = .ok (.bipush 9, 2) := by decide +kernel
theorem dX5_init_46 : decode cX5_init 46 = .ok (.newarray .int, 2) := by decide +kernel
theorem dX5_init_48 : decode cX5_init 48 = .ok (.putfield 25, 3) := by decide +kernel
theorem dX5_init_51 : decode cX5_init 51 = .ok (.aload_n 0, 1) := by decide +kernel
theorem dX5_init_52 : decode cX5_init 52 = .ok (.bipush 9, 2) := by decide +kernel
theorem dX5_init_54 : decode cX5_init 54 = .ok (.newarray .int, 2) := by decide +kernel
theorem dX5_init_56 : decode cX5_init 56 = .ok (.putfield 28, 3) := by decide +kernel
theorem dX5_init_59 : decode cX5_init 59 = .ok (.aload_n 0, 1) := by decide +kernel
theorem dX5_init_60 : decode cX5_init 60 = .ok (.bipush 9, 2) := by decide +kernel
theorem dX5_init_62 : decode cX5_init 62 = .ok (.newarray .int, 2) := by decide +kernel
theorem dX5_init_64 : decode cX5_init 64 = .ok (.putfield 31, 3) := by decide +kernel
theorem dX5_init_67 : decode cX5_init 67 = .ok (.aload_n 0, 1) := by decide +kernel
theorem dX5_init_68 : decode cX5_init 68 = .ok (.bipush 13, 2) := by decide +kernel
theorem dX5_init_70 : decode cX5_init 70 = .ok (.newarray .int, 2) := by decide +kernel
theorem dX5_init_72 : decode cX5_init 72 = .ok (.putfield 34, 3) := by decide +kernel
theorem dX5_init_75 : decode cX5_init 75 = .ok (.aload_n 0, 1) := by decide +kernel
theorem dX5_init_76 : decode cX5_init 76 = .ok (.bipush 13, 2) := by decide +kernel
theorem dX5_init_78 : decode cX5_init 78 = .ok (.newarray .int, 2) := by decide +kernel
theorem dX5_init_80 : decode cX5_init 80 = .ok (.putfield 37, 3) := by decide +kernel
theorem dX5_init_83 : decode cX5_init 83 = .ok (.aload_n 0, 1) := by decide +kernel
theorem dX5_init_84 : decode cX5_init 84 = .ok (.bipush 9, 2) := by decide +kernel
theorem dX5_init_86 : decode cX5_init 86 = .ok (.newarray .int, 2) := by decide +kernel
theorem dX5_init_88 : decode cX5_init 88 = .ok (.putfield 40, 3) := by decide +kernel
theorem dX5_init_91 : decode cX5_init 91 = .ok (.aload_n 0, 1) := by decide +kernel
theorem dX5_init_92 : decode cX5_init 92 = .ok (.bipush 13, 2) := by decide +kernel
theorem dX5_init_94 : decode cX5_init 94 = .ok (.newarray .int, 2) := by decide +kernel
theorem dX5_init_96 : decode cX5_init 96 = .ok (.putfield 43, 3) := by decide +kernel
theorem dX5_init_99 : decode cX5_init 99 = .ok (.aload_n 0, 1) := by decide +kernel
theorem dX5_init_100 : decode cX5_init 100 = .ok (.bipush 13, 2) := by decide +kernel
theorem dX5_init_102 : decode cX5_init 102 = .ok (.newarray .int, 2) := by decide +kernel
theorem dX5_init_104 : decode cX5_init 104 = .ok (.putfield 46, 3) := by decide +kernel
theorem dX5_init_107 : decode cX5_init 107 = .ok (.aload_n 0, 1) := by decide +kernel
theorem dX5_init_108 : decode cX5_init 108 = .ok (.sipush 240, 3) := by decide +kernel
theorem dX5_init_111 : decode cX5_init 111 = .ok (.newarray .int, 2) := by decide +kernel
theorem dX5_init_113 : decode cX5_init 113 = .ok (.putfield 49, 3) := by decide +kernel
theorem dX5_init_116 : decode cX5_init 116 = .ok (.aload_n 0, 1) := by decide +kernel
theorem dX5_init_117 : decode cX5_init 117 = .ok (.sipush 240, 3) := by decide +kernel
theorem dX5_init_120 : decode cX5_init 120 = .ok (.newarray .int, 2) := by decide +kernel
theorem dX5_init_122 : decode cX5_init 122 = .ok (.putfield 52, 3) := by decide +kernel
theorem dX5_init_125 : decode cX5_init 125 = .ok (.aload_n 0, 1) := by decide +kernel
theorem dX5_init_126 : decode cX5_init 126 = .ok (.sipush 240, 3) := by decide +kernel
theorem dX5_init_129 : decode cX5_init 129 = .ok (.newarray .int, 2) := by decide +kernel
theorem dX5_init_131 : decode cX5_init 131 = .ok (.putfield 55, 3) := by decide +kernel
theorem dX5_init_134 : decode cX5_init 134 = .ok (.aload_n 0, 1) := by decide +kernel
theorem dX5_init_135 : decode cX5_init 135 = .ok (.sipush 401, 3) := by decide +kernel
theorem dX5_init_138 : decode cX5_init 138 = .ok (.newarray .boolean, 2) := by decide +kernel
theorem dX5_init_140 : decode cX5_init 140 = .ok (.putfield 58, 3) := by decide +kernel
theorem dX5_init_143 : decode cX5_init 143 = .ok (.aload_n 0, 1) := by decide +kernel
theorem dX5_init_144 : decode cX5_init 144 = .ok (.bipush 8, 2) := by decide +kernel
theorem dX5_init_146 : decode cX5_init 146 = .ok (.newarray .int, 2) := by decide +kernel
theorem dX5_init_148 : decode cX5_init 148 = .ok (.putfield 62, 3) := by decide +kernel
theorem dX5_init_151 : decode cX5_init 151 = .ok (.aload_n 0, 1) := by decide +kernel
theorem dX5_init_152 : decode cX5_init 152 = .ok (.bipush 8, 2) := by decide +kernel
theorem dX5_init_154 : decode cX5_init 154 = .ok (.newarray .int, 2) := by decide +kernel
theorem dX5_init_156 : decode cX5_init 156 = .ok (.putfield 65, 3) := by decide +kernel
theorem dX5_init_159 : decode cX5_init 159 = .ok (.aload_n 0, 1) := by decide +kernel
theorem dX5_init_160 : decode cX5_init 160 = .ok (.bipush 15, 2) := by decide +kernel
theorem dX5_init_162 : decode cX5_init 162 = .ok (.newarray .long, 2) := by decide +kernel
theorem dX5_init_164 : decode cX5_init 164 = .ok (.putfield 68, 3) := by decide +kernel
theorem dX5_init_167 : decode cX5_init 167 = .ok (.aload_n 0, 1) := by decide +kernel
theorem dX5_init_168 : decode cX5_init 168 = .ok (.iconst 4, 1) := by decide +kernel
theorem dX5_init_169 : decode cX5_init 169 = .ok (.newarray .boolean, 2) := by decide +kernel
theorem dX5_init_171 : decode cX5_init 171 = .ok (.putfield 72, 3) := by decide +kernel
theorem dX5_init_174 : decode cX5_init 174 = .ok (.aload_n 0, 1) := by decide +kernel
theorem dX5_init_175 : decode cX5_init 175 = .ok (.iconst 4, 1) := by decide +kernel
theorem dX5_init_176 : decode cX5_init 176 = .ok (.newarray .int, 2) := by decide +kernel
theorem dX5_init_178 : decode cX5_init 178 = .ok (.putfield 75, 3) := by decide +kernel
theorem dX5_init_181 : decode cX5_init 181 = .ok (.aload_n 0, 1) := by decide +kernel
theorem dX5_init_182 : decode cX5_init 182 = .ok (.iconst 4, 1) := by decide +kernel
theorem dX5_init_183 : decode cX5_init 183 = .ok (.newarray .int, 2) := by decide +kernel
theorem dX5_init_185 : decode cX5_init 185 = .ok (.putfield 78, 3) := by decide +kernel
theorem dX5_init_188 : decode cX5_init 188 = .ok (.aload_n 0, 1) := by decide +kernel
theorem dX5_init_189 : decode cX5_init 189 = .ok (.sipush 192, 3) := by decide +kernel
theorem dX5_init_192 : decode cX5_init 192 = .ok (.newarray .int, 2) := by decide +kernel
theorem dX5_init_194 : decode cX5_init 194 = .ok (.putfield 81, 3) := by decide +kernel
theorem dX5_init_197 : decode cX5_init 197 = .ok (.aload_n 0, 1) := by decide +kernel
theorem dX5_init_198 : decode cX5_init 198 = .ok (.bipush 48, 2) := by decide +kernel
theorem dX5_init_200 : decode cX5_init 200 = .ok (.newarray .int, 2) := by decide +kernel
theorem dX5_init_202 : decode cX5_init 202 = .ok (.putfield 84, 3) := by decide +kernel
theorem dX5_init_205 : decode cX5_init 205 = .ok (.return_, 1) := by decide +kernel
theorem dX5_in_0 : decode cX5_in 0 = .ok (.iload_n 0, 1) := by decide +kernel
theorem dX5_in_1 : decode cX5_in 1 = .ok (.iload_n 1, 1) := by decide +kernel
theorem dX5_in_2 : decode cX5_in 2 = .ok (.if_icmp .lt 12, 3) := by decide +kernel
theorem dX5_in_5 : decode cX5_in 5 = .ok (.iload_n 0, 1) := by decide +kernel
theorem dX5_in_6 : decode cX5_in 6 = .ok (.iload_n 2, 1) := by decide +kernel
theorem dX5_in_7 : decode cX5_in 7 = .ok (.if_icmp .gt 7, 3) := by decide +kernel
theorem dX5_in_10 : decode cX5_in 10 = .ok (.iconst 1, 1) := by decide +kernel
theorem dX5_in_11 : decode cX5_in 11 = .ok (.goto 4, 3) := by decide +kernel
theorem dX5_in_14 : decode cX5_in 14 = .ok (.iconst 0, 1) := by decide +kernel
theorem dX5_in_15 : decode cX5_in 15 = .ok (.ireturn, 1) := by decide +kernel
theorem dX5_no_0 : decode cX5_no 0 = .ok (.ldc2_w 87, 3) := by decide +kernel
theorem dX5_no_3 : decode cX5_no 3 = .ok (.iload_n 0, 1) := by decide +kernel
theorem dX5_no_4 : decode cX5_no 4 = .ok (.i2l, 1) := by decide +kernel
theorem dX5_no_5 : decode cX5_no 5 = .ok (.lsub, 1) := by decide +kernel
theorem dX5_no_6 : decode cX5_no 6 = .ok (.lreturn, 1) := by decide +kernel
theorem dX5_lowest_0 : decode cX5_lowest 0 = .ok (.lload_n 0, 1) := by decide +kernel
theorem dX5_lowest_1 : decode cX5_lowest 1 = .ok (.lstore 5, 2) := by decide +kernel
theorem dX5_lowest_3 : decode cX5_lowest 3 = .ok (.lload_n 2, 1) := by decide +kernel
theorem dX5_lowest_4 : decode cX5_lowest 4 = .ok (.lstore 7, 2) := by decide +kernel
theorem dX5_lowest_6 : decode cX5_lowest 6 = .ok (.lload 7, 2) := by decide +kernel
theorem dX5_lowest_8 : decode cX5_lowest 8 = .ok (.lconst 0, 1) := by decide +kernel
theorem dX5_lowest_9 : decode cX5_lowest 9 = .ok (.lcmp, 1) := by decide +kernel
theorem dX5_lowest_10 : decode cX5_lowest 10 = .ok (.ifCond .eq 21, 3) := by decide +kernel
theorem dX5_lowest_13 : decode cX5_lowest 13 = .ok (.lload 5, 2) := by decide +kernel
theorem dX5_lowest_15 : decode cX5_lowest 15 = .ok (.lload 7, 2) := by decide +kernel
theorem dX5_lowest_17 : decode cX5_lowest 17 = .ok (.lrem, 1) := by decide +kernel
theorem dX5_lowest_18 : decode cX5_lowest 18 = .ok (.lstore 9, 2) := by decide +kernel
theorem dX5_lowest_20 : decode cX5_lowest 20 = .ok (.lload 7, 2) := by decide +kernel
theorem dX5_lowest_22 : decode cX5_lowest 22 = .ok (.lstore 5, 2) := by decide +kernel
theorem dX5_lowest_24 : decode cX5_lowest 24 = .ok (.lload 9, 2) := by decide +kernel
theorem dX5_lowest_26 : decode cX5_lowest 26 = .ok (.lstore 7, 2) := by decide +kernel
theorem dX5_lowest_28 : decode cX5_lowest 28 = .ok (.goto (-22), 3) := by decide +kernel
theorem dX5_lowest_31 : decode cX5_lowest 31 = .ok (.iload 4, 2) := by decide +kernel
theorem dX5_lowest_33 : decode cX5_lowest 33 = .ok (.ifCond .ne 10, 3) := by decide +kernel
theorem dX5_lowest_36 : decode cX5_lowest 36 = .ok (.lload_n 0, 1) := by decide +kernel
theorem dX5_lowest_37 : decode cX5_lowest 37 = .ok (.lload 5, 2) := by decide +kernel
theorem dX5_lowest_39 : decode cX5_lowest 39 = .ok (.ldiv, 1) := by decide +kernel
theorem dX5_lowest_40 : decode cX5_lowest 40 = .ok (.goto 7, 3) := by decide +kernel
theorem dX5_lowest_43 : decode cX5_lowest 43 = .ok (.lload_n 2, 1) := by decide +kernel
theorem dX5_lowest_44 : decode cX5_lowest 44 = .ok (.lload 5, 2) := by decide +kernel
theorem dX5_lowest_46 : decode cX5_lowest 46 = .ok (.ldiv, 1) := by decide +kernel
theorem dX5_lowest_47 : decode cX5_lowest 47 = .ok (.lreturn, 1) := by decide +kernel
theorem dX5_isText_0 : decode cX5_isText 0 = .ok (.iload_n 0, 1) := by decide +kernel
theorem dX5_isText_1 : decode cX5_isText 1 = .ok (.iconst 0, 1) := by decide +kernel
theorem dX5_isText_2 : decode cX5_isText 2 = .ok (.iconst 1, 1) := by decide +kernel
theorem dX5_isText_3 : decode cX5_isText 3 = .ok (.invokestatic 89, 3) := by decide +kernel
theorem dX5_isText_6 : decode cX5_isText 6 = .ok (.ireturn, 1) := by decide +kernel
theorem dX5_isTime_0 : decode cX5_isTime 0 = .ok (.iload_n 0, 1) := by decide +kernel
theorem dX5_isTime_1 : decode cX5_isTime 1 = .ok (.iconst 0, 1) := by decide +kernel
theorem dX5_isTime_2 : decode cX5_isTime 2 = .ok (.sipush 239, 3) := by decide +kernel
theorem dX5_isTime_5 : decode cX5_isTime 5 = .ok (.invokestatic 89, 3) := by decide +kernel
theorem dX5_isTime_8 : decode cX5_isTime 8 = .ok (.ireturn, 1) := by decide +kernel
theorem dX5_isNumber_0 : decode cX5_isNumber 0 = .ok (.iload_n 0, 1) := by decide +kernel
theorem dX5_isNumber_1 : decode cX5_isNumber 1 = .ok (.iconst 1, 1) := by decide +kernel
theorem dX5_isNumber_2 : decode cX5_isNumber 2 = .ok (.sipush 400, 3) := by decide +kernel
theorem dX5_isNumber_5 : decode cX5_isNumber 5 = .ok (.invokestatic 89, 3) := by decide +kernel
theorem dX5_isNumber_8 : decode cX5_isNumber 8 = .ok (.ireturn, 1) := by decide +kernel
theorem dX5_type_0 : decode cX5_type 0 = .ok (.iload_n 1, 1) := by decide +kernel
theorem dX5_type_1 : decode cX5_type 1 = .ok (.invokestatic 93, 3) := by decide +kernel
theorem dX5_type_4 : decode cX5_type 4 = .ok (.ifCond .eq 14, 3) := by decide +kernel
theorem dX5_type_7 : decode cX5_type 7 = .ok (.iload_n 2, 1) := by decide +kernel
theorem dX5_type_8 : decode cX5_type 8 = .ok (.iconst 0, 1) := by decide +kernel
theorem dX5_type_9 : decode cX5_type 9 = .ok (.sipush 255, 3) := by decide +kernel
theorem dX5_type_12 : decode cX5_type 12 = .ok (.invokestatic 89, 3) := by decide +kernel
theorem dX5_type_15 : decode cX5_type 15 = .ok (.ifCond .ne 6, 3) := by decide +kernel
theorem dX5_type_18 : decode cX5_type 18 = .ok (.bipush (-2), 2) := by decide +kernel
theorem dX5_type_20 : decode cX5_type 20 = .ok (.ireturn, 1) := by decide +kernel
theorem dX5_type_21 : decode cX5_type 21 = .ok (.aload_n 0, 1) := by decide +kernel
theorem dX5_type_22 : decode cX5_type 22 = .ok (.getfield 7, 3) := by decide +kernel
theorem dX5_type_25 : decode cX5_type 25 = .ok (.iload_n 1, 1) := by decide +kernel
theorem dX5_type_26 : decode cX5_type 26 = .ok (.iaload, 1) := by decide +kernel
theorem dX5_type_27 : decode cX5_type 27 = .ok (.iload_n 1, 1) := by decide +kernel
theorem dX5_type_28 : decode cX5_type 28 = .ok (.ifCond .ne 8, 3) := by decide +kernel
theorem dX5_type_31 : decode cX5_type 31 = .ok (.bipush 35, 2) := by decide +kernel
theorem dX5_type_33 : decode cX5_type 33 = .ok (.goto 5, 3) := by decide +kernel
theorem dX5_type_36 : decode cX5_type 36 = .ok (.bipush 47, 2) := by decide +kernel
theorem dX5_type_38 : decode cX5_type 38 = .ok (.if_icmp .ne 6, 3) := by decide +kernel
theorem dX5_type_41 : decode cX5_type 41 = .ok (.bipush (-4), 2) := by decide +kernel
theorem dX5_type_43 : decode cX5_type 43 = .ok (.ireturn, 1) := by decide +kernel
theorem dX5_type_44 : decode cX5_type 44 = .ok (.aload_n 0, 1) := by decide +kernel
theorem dX5_type_45 : decode cX5_type 45 = .ok (.getfield 13, 3) := by decide +kernel
theorem dX5_type_48 : decode cX5_type 48 = .ok (.bipush 47, 2) := by decide +kernel
theorem dX5_type_50 : decode cX5_type 50 = .ok (.iload_n 1, 1) := by decide +kernel
theorem dX5_type_51 : decode cX5_type 51 = .ok (.imul, 1) := by decide +kernel
theorem dX5_type_52 : decode cX5_type 52 = .ok (.aload_n 0, 1) := by decide +kernel
theorem dX5_type_53 : decode cX5_type 53 = .ok (.getfield 7, 3) := by decide +kernel
theorem dX5_type_56 : decode cX5_type 56 = .ok (.iload_n 1, 1) := by decide +kernel
theorem dX5_type_57 : decode cX5_type 57 = .ok (.iaload, 1) := by decide +kernel
theorem dX5_type_58 : decode cX5_type 58 = .ok (.iadd, 1) := by decide +kernel
theorem dX5_type_59 : decode cX5_type 59 = .ok (.iload_n 2, 1) := by decide +kernel
theorem dX5_type_60 : decode cX5_type 60 = .ok (.iastore, 1) := by decide +kernel
theorem dX5_type_61 : decode cX5_type 61 = .ok (.aload_n 0, 1) := by decide +kernel
theorem dX5_type_62 : decode cX5_type 62 = .ok (.getfield 7, 3) := by decide +kernel
theorem dX5_type_65 : decode cX5_type 65 = .ok (.iload_n 1, 1) := by decide +kernel
theorem dX5_type_66 : decode cX5_type 66 = .ok (.dup2, 1) := by decide +kernel
theorem dX5_type_67 : decode cX5_type 67 = .ok (.iaload, 1) := by decide +kernel
theorem dX5_type_68 : decode cX5_type 68 = .ok (.iconst 1, 1) := by decide +kernel
theorem dX5_type_69 : decode cX5_type 69 = .ok (.iadd, 1) := by decide +kernel
theorem dX5_type_70 : decode cX5_type 70 = .ok (.iastore, 1) := by decide +kernel
theorem dX5_type_71 : decode cX5_type 71 = .ok (.aload_n 0, 1) := by decide +kernel
theorem dX5_type_72 : decode cX5_type 72 = .ok (.getfield 7, 3) := by decide +kernel
theorem dX5_type_75 : decode cX5_type 75 = .ok (.iload_n 1, 1) := by decide +kernel
theorem dX5_type_76 : decode cX5_type 76 = .ok (.iaload, 1) := by decide +kernel
theorem dX5_type_77 : decode cX5_type 77 = .ok (.ireturn, 1) := by decide +kernel
theorem dX5_wipe_0 : decode cX5_wipe 0 = .ok (.iload_n 1, 1) := by decide +kernel
theorem dX5_wipe_1 : decode cX5_wipe 1 = .ok (.invokestatic 93, 3) := by decide +kernel
theorem dX5_wipe_4 : decode cX5_wipe 4 = .ok (.ifCond .ne 6, 3) := by decide +kernel
theorem dX5_wipe_7 : decode cX5_wipe 7 = .ok (.bipush (-2), 2) := by decide +kernel
theorem dX5_wipe_9 : decode cX5_wipe 9 = .ok (.ireturn, 1) := by decide +kernel
theorem dX5_wipe_10 : decode cX5_wipe 10 = .ok (.aload_n 0, 1) := by decide +kernel
theorem dX5_wipe_11 : decode cX5_wipe 11 = .ok (.getfield 7, 3) := by decide +kernel
theorem dX5_wipe_14 : decode cX5_wipe 14 = .ok (.iload_n 1, 1) := by decide +kernel
theorem dX5_wipe_15 : decode cX5_wipe 15 = .ok (.iaload, 1) := by decide +kernel
theorem dX5_wipe_16 : decode cX5_wipe 16 = .ok (.istore_n 2, 1) := by decide +kernel
theorem dX5_wipe_17 : decode cX5_wipe 17 = .ok (.aload_n 0, 1) := by decide +kernel
theorem dX5_wipe_18 : decode cX5_wipe 18 = .ok (.getfield 7, 3) := by decide +kernel
theorem dX5_wipe_21 : decode cX5_wipe 21 = .ok (.iload_n 1, 1) := by decide +kernel
theorem dX5_wipe_22 : decode cX5_wipe 22 = .ok (.iconst 0, 1) := by decide +kernel
theorem dX5_wipe_23 : decode cX5_wipe 23 = .ok (.iastore, 1) := by decide +kernel
theorem dX5_wipe_24 : decode cX5_wipe 24 = .ok (.iload_n 2, 1) := by decide +kernel
theorem dX5_wipe_25 : decode cX5_wipe 25 = .ok (.ireturn, 1) := by decide +kernel
theorem dX5_undo_0 : decode cX5_undo 0 = .ok (.iload_n 1, 1) := by decide +kernel
theorem dX5_undo_1 : decode cX5_undo 1 = .ok (.invokestatic 93, 3) := by decide +kernel
theorem dX5_undo_4 : decode cX5_undo 4 = .ok (.ifCond .ne 6, 3) := by decide +kernel
theorem dX5_undo_7 : decode cX5_undo 7 = .ok (.bipush (-2), 2) := by decide +kernel
theorem dX5_undo_9 : decode cX5_undo 9 = .ok (.ireturn, 1) := by decide +kernel
theorem dX5_undo_10 : decode cX5_undo 10 = .ok (.aload_n 0, 1) := by decide +kernel
theorem dX5_undo_11 : decode cX5_undo 11 = .ok (.getfield 7, 3) := by decide +kernel
theorem dX5_undo_14 : decode cX5_undo 14 = .ok (.iload_n 1, 1) := by decide +kernel
theorem dX5_undo_15 : decode cX5_undo 15 = .ok (.iaload, 1) := by decide +kernel
theorem dX5_undo_16 : decode cX5_undo 16 = .ok (.ifCond .ne 6, 3) := by decide +kernel
theorem dX5_undo_19 : decode cX5_undo 19 = .ok (.bipush (-3), 2) := by decide +kernel
theorem dX5_undo_21 : decode cX5_undo 21 = .ok (.ireturn, 1) := by decide +kernel
theorem dX5_undo_22 : decode cX5_undo 22 = .ok (.aload_n 0, 1) := by decide +kernel
theorem dX5_undo_23 : decode cX5_undo 23 = .ok (.getfield 7, 3) := by decide +kernel
theorem dX5_undo_26 : decode cX5_undo 26 = .ok (.iload_n 1, 1) := by decide +kernel
theorem dX5_undo_27 : decode cX5_undo 27 = .ok (.dup2, 1) := by decide +kernel
theorem dX5_undo_28 : decode cX5_undo 28 = .ok (.iaload, 1) := by decide +kernel
theorem dX5_undo_29 : decode cX5_undo 29 = .ok (.iconst 1, 1) := by decide +kernel
theorem dX5_undo_30 : decode cX5_undo 30 = .ok (.isub, 1) := by decide +kernel
theorem dX5_undo_31 : decode cX5_undo 31 = .ok (.iastore, 1) := by decide +kernel
theorem dX5_undo_32 : decode cX5_undo 32 = .ok (.aload_n 0, 1) := by decide +kernel
theorem dX5_undo_33 : decode cX5_undo 33 = .ok (.getfield 7, 3) := by decide +kernel
theorem dX5_undo_36 : decode cX5_undo 36 = .ok (.iload_n 1, 1) := by decide +kernel
theorem dX5_undo_37 : decode cX5_undo 37 = .ok (.iaload, 1) := by decide +kernel
theorem dX5_undo_38 : decode cX5_undo 38 = .ok (.ireturn, 1) := by decide +kernel
theorem dX5_figureAt_0 : decode cX5_figureAt 0 = .ok (.iload_n 2, 1) := by decide +kernel
theorem dX5_figureAt_1 : decode cX5_figureAt 1 = .ok (.aload_n 0, 1) := by decide +kernel
theorem dX5_figureAt_2 : decode cX5_figureAt 2 = .ok (.getfield 7, 3) := by decide +kernel
theorem dX5_figureAt_5 : decode cX5_figureAt 5 = .ok (.iload_n 1, 1) := by decide +kernel
theorem dX5_figureAt_6 : decode cX5_figureAt 6 = .ok (.iaload, 1) := by decide +kernel
theorem dX5_figureAt_7 : decode cX5_figureAt 7 = .ok (.if_icmp .ge 20, 3) := by decide +kernel
theorem dX5_figureAt_10 : decode cX5_figureAt 10 = .ok (.aload_n 0, 1) := by decide +kernel
theorem dX5_figureAt_11 : decode cX5_figureAt 11 = .ok (.getfield 13, 3) := by decide +kernel
theorem dX5_figureAt_14 : decode cX5_figureAt 14 = .ok (.bipush 47, 2) := by decide +kernel
theorem dX5_figureAt_16 : decode cX5_figureAt 16 = .ok (.iload_n 1, 1) := by decide +kernel
theorem dX5_figureAt_17 : decode cX5_figureAt 17 = .ok (.imul, 1) := by decide +kernel
theorem dX5_figureAt_18 : decode cX5_figureAt 18 = .ok (.iload_n 2, 1) := by decide +kernel
theorem dX5_figureAt_19 : decode cX5_figureAt 19 = .ok (.iadd, 1) := by decide +kernel
theorem dX5_figureAt_20 : decode cX5_figureAt 20 = .ok (.iaload, 1) := by decide +kernel
theorem dX5_figureAt_21 : decode cX5_figureAt 21 = .ok (.bipush 48, 2) := by decide +kernel
theorem dX5_figureAt_23 : decode cX5_figureAt 23 = .ok (.isub, 1) := by decide +kernel
theorem dX5_figureAt_24 : decode cX5_figureAt 24 = .ok (.goto 4, 3) := by decide +kernel
theorem dX5_figureAt_27 : decode cX5_figureAt 27 = .ok (.iconst (-1), 1) := by decide +kernel
theorem dX5_figureAt_28 : decode cX5_figureAt 28 = .ok (.istore_n 3, 1) := by decide +kernel
theorem dX5_figureAt_29 : decode cX5_figureAt 29 = .ok (.iload_n 3, 1) := by decide +kernel
theorem dX5_figureAt_30 : decode cX5_figureAt 30 = .ok (.iconst 0, 1) := by decide +kernel
theorem dX5_figureAt_31 : decode cX5_figureAt 31 = .ok (.bipush 9, 2) := by decide +kernel
theorem dX5_figureAt_33 : decode cX5_figureAt 33 = .ok (.invokestatic 89, 3) := by decide +kernel
theorem dX5_figureAt_36 : decode cX5_figureAt 36 = .ok (.ifCond .eq 7, 3) := by decide +kernel
theorem dX5_figureAt_39 : decode cX5_figureAt 39 = .ok (.iload_n 3, 1) := by decide +kernel
theorem dX5_figureAt_40 : decode cX5_figureAt 40 = .ok (.goto 4, 3) := by decide +kernel
theorem dX5_figureAt_43 : decode cX5_figureAt 43 = .ok (.iconst (-1), 1) := by decide +kernel
theorem dX5_figureAt_44 : decode cX5_figureAt 44 = .ok (.ireturn, 1) := by decide +kernel
theorem dX5_twoAt_0 : decode cX5_twoAt 0 = .ok (.bipush 10, 2) := by decide +kernel
theorem dX5_twoAt_2 : decode cX5_twoAt 2 = .ok (.aload_n 0, 1) := by decide +kernel
theorem dX5_twoAt_3 : decode cX5_twoAt 3 = .ok (.iload_n 1, 1) := by decide +kernel
theorem dX5_twoAt_4 : decode cX5_twoAt 4 = .ok (.iload_n 2, 1) := by decide +kernel
theorem dX5_twoAt_5 : decode cX5_twoAt 5 = .ok (.invokevirtual 97, 3) := by decide +kernel
theorem dX5_twoAt_8 : decode cX5_twoAt 8 = .ok (.imul, 1) := by decide +kernel
theorem dX5_twoAt_9 : decode cX5_twoAt 9 = .ok (.aload_n 0, 1) := by decide +kernel
theorem dX5_twoAt_10 : decode cX5_twoAt 10 = .ok (.iload_n 1, 1) := by decide +kernel
theorem dX5_twoAt_11 : decode cX5_twoAt 11 = .ok (.iload_n 2, 1) := by decide +kernel
theorem dX5_twoAt_12 : decode cX5_twoAt 12 = .ok (.iconst 1, 1) := by decide +kernel
theorem dX5_twoAt_13 : decode cX5_twoAt 13 = .ok (.iadd, 1) := by decide +kernel
theorem dX5_twoAt_14 : decode cX5_twoAt 14 = .ok (.invokevirtual 97, 3) := by decide +kernel
theorem dX5_twoAt_17 : decode cX5_twoAt 17 = .ok (.iadd, 1) := by decide +kernel
theorem dX5_twoAt_18 : decode cX5_twoAt 18 = .ok (.ireturn, 1) := by decide +kernel
theorem dX5_readsOne_0 : decode cX5_readsOne 0 = .ok (.iconst 0, 1) := by decide +kernel
theorem dX5_readsOne_1 : decode cX5_readsOne 1 = .ok (.istore 4, 2) := by decide +kernel
theorem dX5_readsOne_3 : decode cX5_readsOne 3 = .ok (.iload 4, 2) := by decide +kernel
theorem dX5_readsOne_5 : decode cX5_readsOne 5 = .ok (.iconst 5, 1) := by decide +kernel
theorem dX5_readsOne_6 : decode cX5_readsOne 6 = .ok (.if_icmp .ge 22, 3) := by decide +kernel
theorem dX5_readsOne_9 : decode cX5_readsOne 9 = .ok (.aload_n 0, 1) := by decide +kernel
theorem dX5_readsOne_10 : decode cX5_readsOne 10 = .ok (.iload_n 1, 1) := by decide +kernel
theorem dX5_readsOne_11 : decode cX5_readsOne 11 = .ok (.iload_n 3, 1) := by decide +kernel
theorem dX5_readsOne_12 : decode cX5_readsOne 12 = .ok (.iload 4, 2) := by decide +kernel
theorem dX5_readsOne_14 : decode cX5_readsOne 14 = .ok (.iadd, 1) := by decide +kernel
theorem dX5_readsOne_15 : decode cX5_readsOne 15 = .ok (.invokevirtual 97, 3) := by decide +kernel
theorem dX5_readsOne_18 : decode cX5_readsOne 18 = .ok (.iconst (-1), 1) := by decide +kernel
theorem dX5_readsOne_19 : decode cX5_readsOne 19 = .ok (.if_icmp .eq 9, 3) := by decide +kernel
theorem dX5_readsOne_22 : decode cX5_readsOne 22 = .ok (.iinc 4 1, 3) := by decide +kernel
theorem dX5_readsOne_25 : decode cX5_readsOne 25 = .ok (.goto (-22), 3) := by decide +kernel
theorem dX5_readsOne_28 : decode cX5_readsOne 28 = .ok (.iload_n 1, 1) := by decide +kernel
theorem dX5_readsOne_29 : decode cX5_readsOne 29 = .ok (.ifCond .ne 102, 3) := by decide +kernel
theorem dX5_readsOne_32 : decode cX5_readsOne 32 = .ok (.iload 4, 2) := by decide +kernel
theorem dX5_readsOne_34 : decode cX5_readsOne 34 = .ok (.ifCond .le 14, 3) := by decide +kernel
theorem dX5_readsOne_37 : decode cX5_readsOne 37 = .ok (.aload_n 0, 1) := by decide +kernel
theorem dX5_readsOne_38 : decode cX5_readsOne 38 = .ok (.iconst 0, 1) := by decide +kernel
theorem dX5_readsOne_39 : decode cX5_readsOne 39 = .ok (.iload_n 3, 1) := by decide +kernel
theorem dX5_readsOne_40 : decode cX5_readsOne 40 = .ok (.invokevirtual 97, 3) := by decide +kernel
theorem dX5_readsOne_43 : decode cX5_readsOne 43 = .ok (.ifCond .ne 5, 3) := by decide +kernel
theorem dX5_readsOne_46 : decode cX5_readsOne 46 = .ok (.iconst 0, 1) := by decide +kernel
theorem dX5_readsOne_47 : decode cX5_readsOne 47 = .ok (.ireturn, 1) := by decide +kernel
theorem dX5_readsOne_48 : decode cX5_readsOne 48 = .ok (.iload 4, 2) := by decide +kernel
theorem dX5_readsOne_50 : decode cX5_readsOne 50 = .ok (.iconst 2, 1) := by decide +kernel
theorem dX5_readsOne_51 : decode cX5_readsOne 51 = .ok (.if_icmp .le 17, 3) := by decide +kernel
theorem dX5_readsOne_54 : decode cX5_readsOne 54 = .ok (.aload_n 0, 1) := by decide +kernel
theorem dX5_readsOne_55 : decode cX5_readsOne 55 = .ok (.iconst 0, 1) := by decide +kernel
theorem dX5_readsOne_56 : decode cX5_readsOne 56 = .ok (.iload_n 3, 1) := by decide +kernel
theorem dX5_readsOne_57 : decode cX5_readsOne 57 = .ok (.iconst 1, 1) := by decide +kernel
theorem dX5_readsOne_58 : decode cX5_readsOne 58 = .ok (.iadd, 1) := by decide +kernel
theorem dX5_readsOne_59 : decode cX5_readsOne 59 = .ok (.invokevirtual 101, 3) := by decide +kernel
theorem dX5_readsOne_62 : decode cX5_readsOne 62 = .ok (.iconst 2, 1) := by decide +kernel
theorem dX5_readsOne_63 : decode cX5_readsOne 63 = .ok (.if_icmp .ge 5, 3) := by decide +kernel
theorem dX5_readsOne_66 : decode cX5_readsOne 66 = .ok (.iconst 2, 1) := by decide +kernel
theorem dX5_readsOne_67 : decode cX5_readsOne 67 = .ok (.ireturn, 1) := by decide +kernel
theorem dX5_readsOne_68 : decode cX5_readsOne 68 = .ok (.aload_n 0, 1) := by decide +kernel
theorem dX5_readsOne_69 : decode cX5_readsOne 69 = .ok (.getfield 16, 3) := by decide +kernel
theorem dX5_readsOne_72 : decode cX5_readsOne 72 = .ok (.iload_n 2, 1) := by decide +kernel
theorem dX5_readsOne_73 : decode cX5_readsOne 73 = .ok (.aload_n 0, 1) := by decide +kernel
theorem dX5_readsOne_74 : decode cX5_readsOne 74 = .ok (.iconst 0, 1) := by decide +kernel
theorem dX5_readsOne_75 : decode cX5_readsOne 75 = .ok (.iload_n 3, 1) := by decide +kernel
theorem dX5_readsOne_76 : decode cX5_readsOne 76 = .ok (.invokevirtual 97, 3) := by decide +kernel
theorem dX5_readsOne_79 : decode cX5_readsOne 79 = .ok (.iastore, 1) := by decide +kernel
theorem dX5_readsOne_80 : decode cX5_readsOne 80 = .ok (.aload_n 0, 1) := by decide +kernel
theorem dX5_readsOne_81 : decode cX5_readsOne 81 = .ok (.getfield 19, 3) := by decide +kernel
theorem dX5_readsOne_84 : decode cX5_readsOne 84 = .ok (.iload_n 2, 1) := by decide +kernel
theorem dX5_readsOne_85 : decode cX5_readsOne 85 = .ok (.iload 4, 2) := by decide +kernel
theorem dX5_readsOne_87 : decode cX5_readsOne 87 = .ok (.iconst 5, 1) := by decide +kernel
theorem dX5_readsOne_88 : decode cX5_readsOne 88 = .ok (.if_icmp .ne 14, 3) := by decide +kernel
theorem dX5_readsOne_91 : decode cX5_readsOne 91 = .ok (.aload_n 0, 1) := by decide +kernel
theorem dX5_readsOne_92 : decode cX5_readsOne 92 = .ok (.iconst 0, 1) := by decide +kernel
theorem dX5_readsOne_93 : decode cX5_readsOne 93 = .ok (.iload_n 3, 1) := by decide +kernel
theorem dX5_readsOne_94 : decode cX5_readsOne 94 = .ok (.iconst 1, 1) := by decide +kernel
theorem dX5_readsOne_95 : decode cX5_readsOne 95 = .ok (.iadd, 1) := by decide +kernel
theorem dX5_readsOne_96 : decode cX5_readsOne 96 = .ok (.invokevirtual 101, 3) := by decide +kernel
theorem dX5_readsOne_99 : decode cX5_readsOne 99 = .ok (.goto 4, 3) := by decide +kernel
theorem dX5_readsOne_102 : decode cX5_readsOne 102 = .ok (.iconst 2, 1) := by decide +kernel
theorem dX5_readsOne_103 : decode cX5_readsOne 103 = .ok (.iastore, 1) := by decide +kernel
theorem dX5_readsOne_104 : decode cX5_readsOne 104 = .ok (.aload_n 0, 1) := by decide +kernel
theorem dX5_readsOne_105 : decode cX5_readsOne 105 = .ok (.getfield 22, 3) := by decide +kernel
theorem dX5_readsOne_108 : decode cX5_readsOne 108 = .ok (.iload_n 2, 1) := by decide +kernel
theorem dX5_readsOne_109 : decode cX5_readsOne 109 = .ok (.iload 4, 2) := by decide +kernel
theorem dX5_readsOne_111 : decode cX5_readsOne 111 = .ok (.iconst 5, 1) := by decide +kernel
theorem dX5_readsOne_112 : decode cX5_readsOne 112 = .ok (.if_icmp .ne 14, 3) := by decide +kernel
theorem dX5_readsOne_115 : decode cX5_readsOne 115 = .ok (.aload_n 0, 1) := by decide +kernel
theorem dX5_readsOne_116 : decode cX5_readsOne 116 = .ok (.iconst 0, 1) := by decide +kernel
theorem dX5_readsOne_117 : decode cX5_readsOne 117 = .ok (.iload_n 3, 1) := by decide +kernel
theorem dX5_readsOne_118 : decode cX5_readsOne 118 = .ok (.iconst 3, 1) := by decide +kernel
theorem dX5_readsOne_119 : decode cX5_readsOne 119 = .ok (.iadd, 1) := by decide +kernel
theorem dX5_readsOne_120 : decode cX5_readsOne 120 = .ok (.invokevirtual 101, 3) := by decide +kernel
theorem dX5_readsOne_123 : decode cX5_readsOne 123 = .ok (.goto 4, 3) := by decide +kernel
theorem dX5_readsOne_126 : decode cX5_readsOne 126 = .ok (.iconst 0, 1) := by decide +kernel
theorem dX5_readsOne_127 : decode cX5_readsOne 127 = .ok (.iastore, 1) := by decide +kernel
theorem dX5_readsOne_128 : decode cX5_readsOne 128 = .ok (.iload 4, 2) := by decide +kernel
theorem dX5_readsOne_130 : decode cX5_readsOne 130 = .ok (.ireturn, 1) := by decide +kernel
theorem dX5_readsOne_131 : decode cX5_readsOne 131 = .ok (.iload 4, 2) := by decide +kernel
theorem dX5_readsOne_133 : decode cX5_readsOne 133 = .ok (.iconst 1, 1) := by decide +kernel
theorem dX5_readsOne_134 : decode cX5_readsOne 134 = .ok (.if_icmp .le 14, 3) := by decide +kernel
theorem dX5_readsOne_137 : decode cX5_readsOne 137 = .ok (.aload_n 0, 1) := by decide +kernel
theorem dX5_readsOne_138 : decode cX5_readsOne 138 = .ok (.iconst 1, 1) := by decide +kernel
theorem dX5_readsOne_139 : decode cX5_readsOne 139 = .ok (.iload_n 3, 1) := by decide +kernel
theorem dX5_readsOne_140 : decode cX5_readsOne 140 = .ok (.invokevirtual 101, 3) := by decide +kernel
theorem dX5_readsOne_143 : decode cX5_readsOne 143 = .ok (.ifCond .ne 5, 3) := by decide +kernel
theorem dX5_readsOne_146 : decode cX5_readsOne 146 = .ok (.iconst 1, 1) := by decide +kernel
theorem dX5_readsOne_147 : decode cX5_readsOne 147 = .ok (.ireturn, 1) := by decide +kernel
theorem dX5_readsOne_148 : decode cX5_readsOne 148 = .ok (.aload_n 0, 1) := by decide +kernel
theorem dX5_readsOne_149 : decode cX5_readsOne 149 = .ok (.getfield 25, 3) := by decide +kernel
theorem dX5_readsOne_152 : decode cX5_readsOne 152 = .ok (.iload_n 2, 1) := by decide +kernel
theorem dX5_readsOne_153 : decode cX5_readsOne 153 = .ok (.iload 4, 2) := by decide +kernel
theorem dX5_readsOne_155 : decode cX5_readsOne 155 = .ok (.iconst 5, 1) := by decide +kernel
theorem dX5_readsOne_156 : decode cX5_readsOne 156 = .ok (.if_icmp .ne 12, 3) := by decide +kernel
theorem dX5_readsOne_159 : decode cX5_readsOne 159 = .ok (.aload_n 0, 1) := by decide +kernel
theorem dX5_readsOne_160 : decode cX5_readsOne 160 = .ok (.iconst 1, 1) := by decide +kernel
theorem dX5_readsOne_161 : decode cX5_readsOne 161 = .ok (.iload_n 3, 1) := by decide +kernel
theorem dX5_readsOne_162 : decode cX5_readsOne 162 = .ok (.invokevirtual 101, 3) := by decide +kernel
theorem dX5_readsOne_165 : decode cX5_readsOne 165 = .ok (.goto 4, 3) := by decide +kernel
theorem dX5_readsOne_168 : decode cX5_readsOne 168 = .ok (.iconst 1, 1) := by decide +kernel
theorem dX5_readsOne_169 : decode cX5_readsOne 169 = .ok (.iastore, 1) := by decide +kernel
theorem dX5_readsOne_170 : decode cX5_readsOne 170 = .ok (.aload_n 0, 1) := by decide +kernel
theorem dX5_readsOne_171 : decode cX5_readsOne 171 = .ok (.getfield 28, 3) := by decide +kernel
theorem dX5_readsOne_174 : decode cX5_readsOne 174 = .ok (.iload_n 2, 1) := by decide +kernel
theorem dX5_readsOne_175 : decode cX5_readsOne 175 = .ok (.iload 4, 2) := by decide +kernel
theorem dX5_readsOne_177 : decode cX5_readsOne 177 = .ok (.iconst 5, 1) := by decide +kernel
theorem dX5_readsOne_178 : decode cX5_readsOne 178 = .ok (.if_icmp .ne 14, 3) := by decide +kernel
theorem dX5_readsOne_181 : decode cX5_readsOne 181 = .ok (.aload_n 0, 1) := by decide +kernel
theorem dX5_readsOne_182 : decode cX5_readsOne 182 = .ok (.iconst 1, 1) := by decide +kernel
theorem dX5_readsOne_183 : decode cX5_readsOne 183 = .ok (.iload_n 3, 1) := by decide +kernel
theorem dX5_readsOne_184 : decode cX5_readsOne 184 = .ok (.iconst 2, 1) := by decide +kernel
theorem dX5_readsOne_185 : decode cX5_readsOne 185 = .ok (.iadd, 1) := by decide +kernel
theorem dX5_readsOne_186 : decode cX5_readsOne 186 = .ok (.invokevirtual 101, 3) := by decide +kernel
theorem dX5_readsOne_189 : decode cX5_readsOne 189 = .ok (.goto 4, 3) := by decide +kernel
theorem dX5_readsOne_192 : decode cX5_readsOne 192 = .ok (.iconst 0, 1) := by decide +kernel
theorem dX5_readsOne_193 : decode cX5_readsOne 193 = .ok (.iastore, 1) := by decide +kernel
theorem dX5_readsOne_194 : decode cX5_readsOne 194 = .ok (.aload_n 0, 1) := by decide +kernel
theorem dX5_readsOne_195 : decode cX5_readsOne 195 = .ok (.getfield 31, 3) := by decide +kernel
theorem dX5_readsOne_198 : decode cX5_readsOne 198 = .ok (.iload_n 2, 1) := by decide +kernel
theorem dX5_readsOne_199 : decode cX5_readsOne 199 = .ok (.iload 4, 2) := by decide +kernel
theorem dX5_readsOne_201 : decode cX5_readsOne 201 = .ok (.iconst 5, 1) := by decide +kernel
theorem dX5_readsOne_202 : decode cX5_readsOne 202 = .ok (.if_icmp .ne 14, 3) := by decide +kernel
theorem dX5_readsOne_205 : decode cX5_readsOne 205 = .ok (.aload_n 0, 1) := by decide +kernel
theorem dX5_readsOne_206 : decode cX5_readsOne 206 = .ok (.iconst 1, 1) := by decide +kernel
theorem dX5_readsOne_207 : decode cX5_readsOne 207 = .ok (.iload_n 3, 1) := by decide +kernel
theorem dX5_readsOne_208 : decode cX5_readsOne 208 = .ok (.iconst 4, 1) := by decide +kernel
theorem dX5_readsOne_209 : decode cX5_readsOne 209 = .ok (.iadd, 1) := by decide +kernel
theorem dX5_readsOne_210 : decode cX5_readsOne 210 = .ok (.invokevirtual 97, 3) := by decide +kernel
theorem dX5_readsOne_213 : decode cX5_readsOne 213 = .ok (.goto 4, 3) := by decide +kernel
theorem dX5_readsOne_216 : decode cX5_readsOne 216 = .ok (.iconst 0, 1) := by decide +kernel
theorem dX5_readsOne_217 : decode cX5_readsOne 217 = .ok (.iastore, 1) := by decide +kernel
theorem dX5_readsOne_218 : decode cX5_readsOne 218 = .ok (.iload 4, 2) := by decide +kernel
theorem dX5_readsOne_220 : decode cX5_readsOne 220 = .ok (.ireturn, 1) := by decide +kernel
theorem dX5_readsText_0 : decode cX5_readsText 0 = .ok (.iload_n 1, 1) := by decide +kernel
theorem dX5_readsText_1 : decode cX5_readsText 1 = .ok (.ifCond .ne 8, 3) := by decide +kernel
theorem dX5_readsText_4 : decode cX5_readsText 4 = .ok (.bipush 6, 2) := by decide +kernel
theorem dX5_readsText_6 : decode cX5_readsText 6 = .ok (.goto 5, 3) := by decide +kernel
theorem dX5_readsText_9 : decode cX5_readsText 9 = .ok (.bipush 8, 2) := by decide +kernel
theorem dX5_readsText_11 : decode cX5_readsText 11 = .ok (.istore_n 2, 1) := by decide +kernel
theorem dX5_readsText_12 : decode cX5_readsText 12 = .ok (.iconst 0, 1) := by decide +kernel
theorem dX5_readsText_13 : decode cX5_readsText 13 = .ok (.istore_n 3, 1) := by decide +kernel
theorem dX5_readsText_14 : decode cX5_readsText 14 = .ok (.iconst 0, 1) := by decide +kernel
theorem dX5_readsText_15 : decode cX5_readsText 15 = .ok (.istore 4, 2) := by decide +kernel
theorem dX5_readsText_17 : decode cX5_readsText 17 = .ok (.aload_n 0, 1) := by decide +kernel
theorem dX5_readsText_18 : decode cX5_readsText 18 = .ok (.iload_n 1, 1) := by decide +kernel
theorem dX5_readsText_19 : decode cX5_readsText 19 = .ok (.ifCond .ne 7, 3) := by decide +kernel
theorem dX5_readsText_22 : decode cX5_readsText 22 = .ok (.iconst 0, 1) := by decide +kernel
theorem dX5_readsText_23 : decode cX5_readsText 23 = .ok (.goto 7, 3) := by decide +kernel
theorem dX5_readsText_26 : decode cX5_readsText 26 = .ok (.aload_n 0, 1) := by decide +kernel
theorem dX5_readsText_27 : decode cX5_readsText 27 = .ok (.getfield 104, 3) := by decide +kernel
theorem dX5_readsText_30 : decode cX5_readsText 30 = .ok (.putfield 104, 3) := by decide +kernel
theorem dX5_readsText_33 : decode cX5_readsText 33 = .ok (.aload_n 0, 1) := by decide +kernel
theorem dX5_readsText_34 : decode cX5_readsText 34 = .ok (.iload_n 1, 1) := by decide +kernel
theorem dX5_readsText_35 : decode cX5_readsText 35 = .ok (.iconst 1, 1) := by decide +kernel
theorem dX5_readsText_36 : decode cX5_readsText 36 = .ok (.if_icmp .ne 7, 3) := by decide +kernel
theorem dX5_readsText_39 : decode cX5_readsText 39 = .ok (.iconst 0, 1) := by decide +kernel
theorem dX5_readsText_40 : decode cX5_readsText 40 = .ok (.goto 7, 3) := by decide +kernel
theorem dX5_readsText_43 : decode cX5_readsText 43 = .ok (.aload_n 0, 1) := by decide +kernel
theorem dX5_readsText_44 : decode cX5_readsText 44 = .ok (.getfield 108, 3) := by decide +kernel
theorem dX5_readsText_47 : decode cX5_readsText 47 = .ok (.putfield 108, 3) := by decide +kernel
theorem dX5_readsText_50 : decode cX5_readsText 50 = .ok (.iload 4, 2) := by decide +kernel
theorem dX5_readsText_52 : decode cX5_readsText 52 = .ok (.aload_n 0, 1) := by decide +kernel
theorem dX5_readsText_53 : decode cX5_readsText 53 = .ok (.getfield 7, 3) := by decide +kernel
theorem dX5_readsText_56 : decode cX5_readsText 56 = .ok (.iload_n 1, 1) := by decide +kernel
theorem dX5_readsText_57 : decode cX5_readsText 57 = .ok (.iaload, 1) := by decide +kernel
theorem dX5_readsText_58 : decode cX5_readsText 58 = .ok (.if_icmp .lt 8, 3) := by decide +kernel
theorem dX5_readsText_61 : decode cX5_readsText 61 = .ok (.iload 4, 2) := by decide +kernel
theorem dX5_readsText_63 : decode cX5_readsText 63 = .ok (.ifCond .le 112, 3) := by decide +kernel
theorem dX5_readsText_66 : decode cX5_readsText 66 = .ok (.iload_n 3, 1) := by decide +kernel
theorem dX5_readsText_67 : decode cX5_readsText 67 = .ok (.iload_n 2, 1) := by decide +kernel
theorem dX5_readsText_68 : decode cX5_readsText 68 = .ok (.if_icmp .ne 7, 3) := by decide +kernel
theorem dX5_readsText_71 : decode cX5_readsText 71 = .ok (.iconst 0, 1) := by decide +kernel
theorem dX5_readsText_72 : decode cX5_readsText 72 = .ok (.goto 11, 3) := by decide +kernel
theorem dX5_readsText_75 : decode cX5_readsText 75 = .ok (.aload_n 0, 1) := by decide +kernel
theorem dX5_readsText_76 : decode cX5_readsText 76 = .ok (.iload_n 1, 1) := by decide +kernel
theorem dX5_readsText_77 : decode cX5_readsText 77 = .ok (.iload_n 3, 1) := by decide +kernel
theorem dX5_readsText_78 : decode cX5_readsText 78 = .ok (.iload 4, 2) := by decide +kernel
theorem dX5_readsText_80 : decode cX5_readsText 80 = .ok (.invokevirtual 111, 3) := by decide +kernel
theorem dX5_readsText_83 : decode cX5_readsText 83 = .ok (.istore 5, 2) := by decide +kernel
theorem dX5_readsText_85 : decode cX5_readsText 85 = .ok (.iload 5, 2) := by decide +kernel
theorem dX5_readsText_87 : decode cX5_readsText 87 = .ok (.iconst 5, 1) := by decide +kernel
theorem dX5_readsText_88 : decode cX5_readsText 88 = .ok (.if_icmp .ge 9, 3) := by decide +kernel
theorem dX5_readsText_91 : decode cX5_readsText 91 = .ok (.iload 4, 2) := by decide +kernel
theorem dX5_readsText_93 : decode cX5_readsText 93 = .ok (.iload 5, 2) := by decide +kernel
theorem dX5_readsText_95 : decode cX5_readsText 95 = .ok (.iadd, 1) := by decide +kernel
theorem dX5_readsText_96 : decode cX5_readsText 96 = .ok (.ireturn, 1) := by decide +kernel
theorem dX5_readsText_97 : decode cX5_readsText 97 = .ok (.iinc 3 1, 3) := by decide +kernel
theorem dX5_readsText_100 : decode cX5_readsText 100 = .ok (.iinc 4 5, 3) := by decide +kernel
theorem dX5_readsText_103 : decode cX5_readsText 103 = .ok (.iload 4, 2) := by decide +kernel
theorem dX5_readsText_105 : decode cX5_readsText 105 = .ok (.aload_n 0, 1) := by decide +kernel
theorem dX5_readsText_106 : decode cX5_readsText 106 = .ok (.getfield 7, 3) := by decide +kernel
theorem dX5_readsText_109 : decode cX5_readsText 109 = .ok (.iload_n 1, 1) := by decide +kernel
theorem dX5_readsText_110 : decode cX5_readsText 110 = .ok (.iaload, 1) := by decide +kernel
theorem dX5_readsText_111 : decode cX5_readsText 111 = .ok (.if_icmp .ne 38, 3) := by decide +kernel
theorem dX5_readsText_114 : decode cX5_readsText 114 = .ok (.aload_n 0, 1) := by decide +kernel
theorem dX5_readsText_115 : decode cX5_readsText 115 = .ok (.iload_n 1, 1) := by decide +kernel
theorem dX5_readsText_116 : decode cX5_readsText 116 = .ok (.ifCond .ne 7, 3) := by decide +kernel
theorem dX5_readsText_119 : decode cX5_readsText 119 = .ok (.iload_n 3, 1) := by decide +kernel
theorem dX5_readsText_120 : decode cX5_readsText 120 = .ok (.goto 7, 3) := by decide +kernel
theorem dX5_readsText_123 : decode cX5_readsText 123 = .ok (.aload_n 0, 1) := by decide +kernel
theorem dX5_readsText_124 : decode cX5_readsText 124 = .ok (.getfield 104, 3) := by decide +kernel
theorem dX5_readsText_127 : decode cX5_readsText 127 = .ok (.putfield 104, 3) := by decide +kernel
theorem dX5_readsText_130 : decode cX5_readsText 130 = .ok (.aload_n 0, 1) := by decide +kernel
theorem dX5_readsText_131 : decode cX5_readsText 131 = .ok (.iload_n 1, 1) := by decide +kernel
theorem dX5_readsText_132 : decode cX5_readsText 132 = .ok (.iconst 1, 1) := by decide +kernel
theorem dX5_readsText_133 : decode cX5_readsText 133 = .ok (.if_icmp .ne 7, 3) := by decide +kernel
theorem dX5_readsText_136 : decode cX5_readsText 136 = .ok (.iload_n 3, 1) := by decide +kernel
theorem dX5_readsText_137 : decode cX5_readsText 137 = .ok (.goto 7, 3) := by decide +kernel
theorem dX5_readsText_140 : decode cX5_readsText 140 = .ok (.aload_n 0, 1) := by decide +kernel
theorem dX5_readsText_141 : decode cX5_readsText 141 = .ok (.getfield 108, 3) := by decide +kernel
theorem dX5_readsText_144 : decode cX5_readsText 144 = .ok (.putfield 108, 3) := by decide +kernel
theorem dX5_readsText_147 : decode cX5_readsText 147 = .ok (.iconst (-1), 1) := by decide +kernel
theorem dX5_readsText_148 : decode cX5_readsText 148 = .ok (.ireturn, 1) := by decide +kernel
theorem dX5_readsText_149 : decode cX5_readsText 149 = .ok (.aload_n 0, 1) := by decide +kernel
theorem dX5_readsText_150 : decode cX5_readsText 150 = .ok (.getfield 13, 3) := by decide +kernel
theorem dX5_readsText_153 : decode cX5_readsText 153 = .ok (.bipush 47, 2) := by decide +kernel
theorem dX5_readsText_155 : decode cX5_readsText 155 = .ok (.iload_n 1, 1) := by decide +kernel
theorem dX5_readsText_156 : decode cX5_readsText 156 = .ok (.imul, 1) := by decide +kernel
theorem dX5_readsText_157 : decode cX5_readsText 157 = .ok (.iload 4, 2) := by decide +kernel
theorem dX5_readsText_159 : decode cX5_readsText 159 = .ok (.iadd, 1) := by decide +kernel
theorem dX5_readsText_160 : decode cX5_readsText 160 = .ok (.iaload, 1) := by decide +kernel
theorem dX5_readsText_161 : decode cX5_readsText 161 = .ok (.bipush 59, 2) := by decide +kernel
theorem dX5_readsText_163 : decode cX5_readsText 163 = .ok (.if_icmp .eq 6, 3) := by decide +kernel
theorem dX5_readsText_166 : decode cX5_readsText 166 = .ok (.iload 4, 2) := by decide +kernel
theorem dX5_readsText_168 : decode cX5_readsText 168 = .ok (.ireturn, 1) := by decide +kernel
theorem dX5_readsText_169 : decode cX5_readsText 169 = .ok (.iinc 4 1, 3) := by decide +kernel
theorem dX5_readsText_172 : decode cX5_readsText 172 = .ok (.goto (-122), 3) := by decide +kernel
theorem dX5_readsText_175 : decode cX5_readsText 175 = .ok (.iconst (-1), 1) := by decide +kernel
theorem dX5_readsText_176 : decode cX5_readsText 176 = .ok (.ireturn, 1) := by decide +kernel
theorem dX5_faultOf_0 : decode cX5_faultOf 0 = .ok (.aload_n 0, 1) := by decide +kernel
theorem dX5_faultOf_1 : decode cX5_faultOf 1 = .ok (.iconst 0, 1) := by decide +kernel
theorem dX5_faultOf_2 : decode cX5_faultOf 2 = .ok (.invokevirtual 115, 3) := by decide +kernel
theorem dX5_faultOf_5 : decode cX5_faultOf 5 = .ok (.istore_n 2, 1) := by decide +kernel
theorem dX5_faultOf_6 : decode cX5_faultOf 6 = .ok (.aload_n 0, 1) := by decide +kernel
theorem dX5_faultOf_7 : decode cX5_faultOf 7 = .ok (.iconst 1, 1) := by decide +kernel
theorem dX5_faultOf_8 : decode cX5_faultOf 8 = .ok (.invokevirtual 115, 3) := by decide +kernel
theorem dX5_faultOf_11 : decode cX5_faultOf 11 = .ok (.istore_n 3, 1) := by decide +kernel
theorem dX5_faultOf_12 : decode cX5_faultOf 12 = .ok (.iload_n 1, 1) := by decide +kernel
theorem dX5_faultOf_13 : decode cX5_faultOf 13 = .ok (.ifCond .ne 7, 3) := by decide +kernel
theorem dX5_faultOf_16 : decode cX5_faultOf 16 = .ok (.iload_n 2, 1) := by decide +kernel
theorem dX5_faultOf_17 : decode cX5_faultOf 17 = .ok (.goto 4, 3) := by decide +kernel
theorem dX5_faultOf_20 : decode cX5_faultOf 20 = .ok (.iload_n 3, 1) := by decide +kernel
theorem dX5_faultOf_21 : decode cX5_faultOf 21 = .ok (.ireturn, 1) := by decide +kernel
theorem dX5_reads_0 : decode cX5_reads 0 = .ok (.aload_n 0, 1) := by decide +kernel
theorem dX5_reads_1 : decode cX5_reads 1 = .ok (.iconst 0, 1) := by decide +kernel
theorem dX5_reads_2 : decode cX5_reads 2 = .ok (.invokevirtual 119, 3) := by decide +kernel
theorem dX5_reads_5 : decode cX5_reads 5 = .ok (.istore_n 1, 1) := by decide +kernel
theorem dX5_reads_6 : decode cX5_reads 6 = .ok (.return_, 1) := by decide +kernel
theorem dX5_fault_0 : decode cX5_fault 0 = .ok (.iload_n 1, 1) := by decide +kernel
theorem dX5_fault_1 : decode cX5_fault 1 = .ok (.invokestatic 93, 3) := by decide +kernel
theorem dX5_fault_4 : decode cX5_fault 4 = .ok (.ifCond .eq 11, 3) := by decide +kernel
theorem dX5_fault_7 : decode cX5_fault 7 = .ok (.aload_n 0, 1) := by decide +kernel
theorem dX5_fault_8 : decode cX5_fault 8 = .ok (.iload_n 1, 1) := by decide +kernel
theorem dX5_fault_9 : decode cX5_fault 9 = .ok (.invokevirtual 119, 3) := by decide +kernel
theorem dX5_fault_12 : decode cX5_fault 12 = .ok (.goto 5, 3) := by decide +kernel
theorem dX5_fault_15 : decode cX5_fault 15 = .ok (.bipush (-2), 2) := by decide +kernel
theorem dX5_fault_17 : decode cX5_fault 17 = .ok (.ireturn, 1) := by decide +kernel
theorem dX5_isSwell_0 : decode cX5_isSwell 0 = .ok (.aload_n 0, 1) := by decide +kernel
theorem dX5_isSwell_1 : decode cX5_isSwell 1 = .ok (.invokevirtual 122, 3) := by decide +kernel
theorem dX5_isSwell_4 : decode cX5_isSwell 4 = .ok (.iload_n 1, 1) := by decide +kernel
theorem dX5_isSwell_5 : decode cX5_isSwell 5 = .ok (.iconst 0, 1) := by decide +kernel
theorem dX5_isSwell_6 : decode cX5_isSwell 6 = .ok (.aload_n 0, 1) := by decide +kernel
theorem dX5_isSwell_7 : decode cX5_isSwell 7 = .ok (.getfield 104, 3) := by decide +kernel
theorem dX5_isSwell_10 : decode cX5_isSwell 10 = .ok (.iconst 1, 1) := by decide +kernel
theorem dX5_isSwell_11 : decode cX5_isSwell 11 = .ok (.isub, 1) := by decide +kernel
theorem dX5_isSwell_12 : decode cX5_isSwell 12 = .ok (.invokestatic 89, 3) := by decide +kernel
theorem dX5_isSwell_15 : decode cX5_isSwell 15 = .ok (.ireturn, 1) := by decide +kernel
theorem dX5_isFind_0 : decode cX5_isFind 0 = .ok (.aload_n 0, 1) := by decide +kernel
theorem dX5_isFind_1 : decode cX5_isFind 1 = .ok (.invokevirtual 122, 3) := by decide +kernel
theorem dX5_isFind_4 : decode cX5_isFind 4 = .ok (.iload_n 1, 1) := by decide +kernel
theorem dX5_isFind_5 : decode cX5_isFind 5 = .ok (.iconst 0, 1) := by decide +kernel
theorem dX5_isFind_6 : decode cX5_isFind 6 = .ok (.aload_n 0, 1) := by decide +kernel
theorem dX5_isFind_7 : decode cX5_isFind 7 = .ok (.getfield 108, 3) := by decide +kernel
theorem dX5_isFind_10 : decode cX5_isFind 10 = .ok (.iconst 1, 1) := by decide +kernel
theorem dX5_isFind_11 : decode cX5_isFind 11 = .ok (.isub, 1) := by decide +kernel
theorem dX5_isFind_12 : decode cX5_isFind 12 = .ok (.invokestatic 89, 3) := by decide +kernel
theorem dX5_isFind_15 : decode cX5_isFind 15 = .ok (.ireturn, 1) := by decide +kernel
theorem dX5_swellOf_0 : decode cX5_swellOf 0 = .ok (.iload_n 2, 1) := by decide +kernel
theorem dX5_swellOf_1 : decode cX5_swellOf 1 = .ok (.ifCond .ne 12, 3) := by decide +kernel
theorem dX5_swellOf_4 : decode cX5_swellOf 4 = .ok (.aload_n 0, 1) := by decide +kernel
theorem dX5_swellOf_5 : decode cX5_swellOf 5 = .ok (.getfield 16, 3) := by decide +kernel
theorem dX5_swellOf_8 : decode cX5_swellOf 8 = .ok (.iload_n 1, 1) := by decide +kernel
theorem dX5_swellOf_9 : decode cX5_swellOf 9 = .ok (.iaload, 1) := by decide +kernel
theorem dX5_swellOf_10 : decode cX5_swellOf 10 = .ok (.goto 23, 3) := by decide +kernel
theorem dX5_swellOf_13 : decode cX5_swellOf 13 = .ok (.iload_n 2, 1) := by decide +kernel
theorem dX5_swellOf_14 : decode cX5_swellOf 14 = .ok (.iconst 1, 1) := by decide +kernel
theorem dX5_swellOf_15 : decode cX5_swellOf 15 = .ok (.if_icmp .ne 12, 3) := by decide +kernel
theorem dX5_swellOf_18 : decode cX5_swellOf 18 = .ok (.aload_n 0, 1) := by decide +kernel
theorem dX5_swellOf_19 : decode cX5_swellOf 19 = .ok (.getfield 19, 3) := by decide +kernel
theorem dX5_swellOf_22 : decode cX5_swellOf 22 = .ok (.iload_n 1, 1) := by decide +kernel
theorem dX5_swellOf_23 : decode cX5_swellOf 23 = .ok (.iaload, 1) := by decide +kernel
theorem dX5_swellOf_24 : decode cX5_swellOf 24 = .ok (.goto 9, 3) := by decide +kernel
theorem dX5_swellOf_27 : decode cX5_swellOf 27 = .ok (.aload_n 0, 1) := by decide +kernel
theorem dX5_swellOf_28 : decode cX5_swellOf 28 = .ok (.getfield 22, 3) := by decide +kernel
theorem dX5_swellOf_31 : decode cX5_swellOf 31 = .ok (.iload_n 1, 1) := by decide +kernel
theorem dX5_swellOf_32 : decode cX5_swellOf 32 = .ok (.iaload, 1) := by decide +kernel
theorem dX5_swellOf_33 : decode cX5_swellOf 33 = .ok (.ireturn, 1) := by decide +kernel
theorem dX5_swell_0 : decode cX5_swell 0 = .ok (.aload_n 0, 1) := by decide +kernel
theorem dX5_swell_1 : decode cX5_swell 1 = .ok (.iload_n 1, 1) := by decide +kernel
theorem dX5_swell_2 : decode cX5_swell 2 = .ok (.invokevirtual 125, 3) := by decide +kernel
theorem dX5_swell_5 : decode cX5_swell 5 = .ok (.ifCond .eq 21, 3) := by decide +kernel
theorem dX5_swell_8 : decode cX5_swell 8 = .ok (.iload_n 2, 1) := by decide +kernel
theorem dX5_swell_9 : decode cX5_swell 9 = .ok (.iconst 0, 1) := by decide +kernel
theorem dX5_swell_10 : decode cX5_swell 10 = .ok (.iconst 2, 1) := by decide +kernel
theorem dX5_swell_11 : decode cX5_swell 11 = .ok (.invokestatic 89, 3) := by decide +kernel
theorem dX5_swell_14 : decode cX5_swell 14 = .ok (.ifCond .eq 12, 3) := by decide +kernel
theorem dX5_swell_17 : decode cX5_swell 17 = .ok (.aload_n 0, 1) := by decide +kernel
theorem dX5_swell_18 : decode cX5_swell 18 = .ok (.iload_n 1, 1) := by decide +kernel
theorem dX5_swell_19 : decode cX5_swell 19 = .ok (.iload_n 2, 1) := by decide +kernel
theorem dX5_swell_20 : decode cX5_swell 20 = .ok (.invokevirtual 128, 3) := by decide +kernel
theorem dX5_swell_23 : decode cX5_swell 23 = .ok (.goto 5, 3) := by decide +kernel
theorem dX5_swell_26 : decode cX5_swell 26 = .ok (.bipush (-2), 2) := by decide +kernel
theorem dX5_swell_28 : decode cX5_swell 28 = .ok (.ireturn, 1) := by decide +kernel
theorem dX5_findOf_0 : decode cX5_findOf 0 = .ok (.iload_n 2, 1) := by decide +kernel
theorem dX5_findOf_1 : decode cX5_findOf 1 = .ok (.ifCond .ne 12, 3) := by decide +kernel
theorem dX5_findOf_4 : decode cX5_findOf 4 = .ok (.aload_n 0, 1) := by decide +kernel
theorem dX5_findOf_5 : decode cX5_findOf 5 = .ok (.getfield 25, 3) := by decide +kernel
theorem dX5_findOf_8 : decode cX5_findOf 8 = .ok (.iload_n 1, 1) := by decide +kernel
theorem dX5_findOf_9 : decode cX5_findOf 9 = .ok (.iaload, 1) := by decide +kernel
theorem dX5_findOf_10 : decode cX5_findOf 10 = .ok (.goto 23, 3) := by decide +kernel
theorem dX5_findOf_13 : decode cX5_findOf 13 = .ok (.iload_n 2, 1) := by decide +kernel
theorem dX5_findOf_14 : decode cX5_findOf 14 = .ok (.iconst 1, 1) := by decide +kernel
theorem dX5_findOf_15 : decode cX5_findOf 15 = .ok (.if_icmp .ne 12, 3) := by decide +kernel
theorem dX5_findOf_18 : decode cX5_findOf 18 = .ok (.aload_n 0, 1) := by decide +kernel
theorem dX5_findOf_19 : decode cX5_findOf 19 = .ok (.getfield 28, 3) := by decide +kernel
theorem dX5_findOf_22 : decode cX5_findOf 22 = .ok (.iload_n 1, 1) := by decide +kernel
theorem dX5_findOf_23 : decode cX5_findOf 23 = .ok (.iaload, 1) := by decide +kernel
theorem dX5_findOf_24 : decode cX5_findOf 24 = .ok (.goto 9, 3) := by decide +kernel
theorem dX5_findOf_27 : decode cX5_findOf 27 = .ok (.aload_n 0, 1) := by decide +kernel
theorem dX5_findOf_28 : decode cX5_findOf 28 = .ok (.getfield 31, 3) := by decide +kernel
theorem dX5_findOf_31 : decode cX5_findOf 31 = .ok (.iload_n 1, 1) := by decide +kernel
theorem dX5_findOf_32 : decode cX5_findOf 32 = .ok (.iaload, 1) := by decide +kernel
theorem dX5_findOf_33 : decode cX5_findOf 33 = .ok (.ireturn, 1) := by decide +kernel
theorem dX5_find_0 : decode cX5_find 0 = .ok (.aload_n 0, 1) := by decide +kernel
theorem dX5_find_1 : decode cX5_find 1 = .ok (.iload_n 1, 1) := by decide +kernel
theorem dX5_find_2 : decode cX5_find 2 = .ok (.invokevirtual 131, 3) := by decide +kernel
theorem dX5_find_5 : decode cX5_find 5 = .ok (.ifCond .eq 21, 3) := by decide +kernel
theorem dX5_find_8 : decode cX5_find 8 = .ok (.iload_n 2, 1) := by decide +kernel
theorem dX5_find_9 : decode cX5_find 9 = .ok (.iconst 0, 1) := by decide +kernel
theorem dX5_find_10 : decode cX5_find 10 = .ok (.iconst 2, 1) := by decide +kernel
theorem dX5_find_11 : decode cX5_find 11 = .ok (.invokestatic 89, 3) := by decide +kernel
theorem dX5_find_14 : decode cX5_find 14 = .ok (.ifCond .eq 12, 3) := by decide +kernel
theorem dX5_find_17 : decode cX5_find 17 = .ok (.aload_n 0, 1) := by decide +kernel
theorem dX5_find_18 : decode cX5_find 18 = .ok (.iload_n 1, 1) := by decide +kernel
theorem dX5_find_19 : decode cX5_find 19 = .ok (.iload_n 2, 1) := by decide +kernel
theorem dX5_find_20 : decode cX5_find 20 = .ok (.invokevirtual 134, 3) := by decide +kernel
theorem dX5_find_23 : decode cX5_find 23 = .ok (.goto 5, 3) := by decide +kernel
theorem dX5_find_26 : decode cX5_find 26 = .ok (.bipush (-2), 2) := by decide +kernel
theorem dX5_find_28 : decode cX5_find 28 = .ok (.ireturn, 1) := by decide +kernel
theorem dX5_depth_0 : decode cX5_depth 0 = .ok (.iload_n 1, 1) := by decide +kernel
theorem dX5_depth_1 : decode cX5_depth 1 = .ok (.iconst 0, 1) := by decide +kernel
theorem dX5_depth_2 : decode cX5_depth 2 = .ok (.bipush 55, 2) := by decide +kernel
theorem dX5_depth_4 : decode cX5_depth 4 = .ok (.invokestatic 89, 3) := by decide +kernel
theorem dX5_depth_7 : decode cX5_depth 7 = .ok (.ifCond .ne 6, 3) := by decide +kernel
theorem dX5_depth_10 : decode cX5_depth 10 = .ok (.bipush (-2), 2) := by decide +kernel
theorem dX5_depth_12 : decode cX5_depth 12 = .ok (.ireturn, 1) := by decide +kernel
theorem dX5_depth_13 : decode cX5_depth 13 = .ok (.aload_n 0, 1) := by decide +kernel
theorem dX5_depth_14 : decode cX5_depth 14 = .ok (.getfield 137, 3) := by decide +kernel
theorem dX5_depth_17 : decode cX5_depth 17 = .ok (.istore_n 2, 1) := by decide +kernel
theorem dX5_depth_18 : decode cX5_depth 18 = .ok (.aload_n 0, 1) := by decide +kernel
theorem dX5_depth_19 : decode cX5_depth 19 = .ok (.iload_n 1, 1) := by decide +kernel
theorem dX5_depth_20 : decode cX5_depth 20 = .ok (.putfield 137, 3) := by decide +kernel
theorem dX5_depth_23 : decode cX5_depth 23 = .ok (.iload_n 2, 1) := by decide +kernel
theorem dX5_depth_24 : decode cX5_depth 24 = .ok (.ireturn, 1) := by decide +kernel
theorem dX5_slip_0 : decode cX5_slip 0 = .ok (.iload_n 1, 1) := by decide +kernel
theorem dX5_slip_1 : decode cX5_slip 1 = .ok (.iconst 1, 1) := by decide +kernel
theorem dX5_slip_2 : decode cX5_slip 2 = .ok (.sipush 240, 3) := by decide +kernel
theorem dX5_slip_5 : decode cX5_slip 5 = .ok (.invokestatic 89, 3) := by decide +kernel
theorem dX5_slip_8 : decode cX5_slip 8 = .ok (.ifCond .eq 13, 3) := by decide +kernel
theorem dX5_slip_11 : decode cX5_slip 11 = .ok (.iload_n 2, 1) := by decide +kernel
theorem dX5_slip_12 : decode cX5_slip 12 = .ok (.iconst 1, 1) := by decide +kernel
theorem dX5_slip_13 : decode cX5_slip 13 = .ok (.bipush 11, 2) := by decide +kernel
theorem dX5_slip_15 : decode cX5_slip 15 = .ok (.invokestatic 89, 3) := by decide +kernel
theorem dX5_slip_18 : decode cX5_slip 18 = .ok (.ifCond .ne 6, 3) := by decide +kernel
theorem dX5_slip_21 : decode cX5_slip 21 = .ok (.bipush (-2), 2) := by decide +kernel
theorem dX5_slip_23 : decode cX5_slip 23 = .ok (.ireturn, 1) := by decide +kernel
theorem dX5_slip_24 : decode cX5_slip 24 = .ok (.aload_n 0, 1) := by decide +kernel
theorem dX5_slip_25 : decode cX5_slip 25 = .ok (.getfield 140, 3) := by decide +kernel
theorem dX5_slip_28 : decode cX5_slip 28 = .ok (.bipush 12, 2) := by decide +kernel
theorem dX5_slip_30 : decode cX5_slip 30 = .ok (.if_icmp .ne 6, 3) := by decide +kernel
theorem dX5_slip_33 : decode cX5_slip 33 = .ok (.bipush (-4), 2) := by decide +kernel
theorem dX5_slip_35 : decode cX5_slip 35 = .ok (.ireturn, 1) := by decide +kernel
theorem dX5_slip_36 : decode cX5_slip 36 = .ok (.aload_n 0, 1) := by decide +kernel
theorem dX5_slip_37 : decode cX5_slip 37 = .ok (.getfield 34, 3) := by decide +kernel
theorem dX5_slip_40 : decode cX5_slip 40 = .ok (.aload_n 0, 1) := by decide +kernel
theorem dX5_slip_41 : decode cX5_slip 41 = .ok (.getfield 140, 3) := by decide +kernel
theorem dX5_slip_44 : decode cX5_slip 44 = .ok (.iload_n 1, 1) := by decide +kernel
theorem dX5_slip_45 : decode cX5_slip 45 = .ok (.iastore, 1) := by decide +kernel
theorem dX5_slip_46 : decode cX5_slip 46 = .ok (.aload_n 0, 1) := by decide +kernel
theorem dX5_slip_47 : decode cX5_slip 47 = .ok (.getfield 37, 3) := by decide +kernel
theorem dX5_slip_50 : decode cX5_slip 50 = .ok (.aload_n 0, 1) := by decide +kernel
theorem dX5_slip_51 : decode cX5_slip 51 = .ok (.getfield 140, 3) := by decide +kernel
theorem dX5_slip_54 : decode cX5_slip 54 = .ok (.iload_n 2, 1) := by decide +kernel
theorem dX5_slip_55 : decode cX5_slip 55 = .ok (.iastore, 1) := by decide +kernel
theorem dX5_slip_56 : decode cX5_slip 56 = .ok (.aload_n 0, 1) := by decide +kernel
theorem dX5_slip_57 : decode cX5_slip 57 = .ok (.dup, 1) := by decide +kernel
theorem dX5_slip_58 : decode cX5_slip 58 = .ok (.getfield 140, 3) := by decide +kernel
theorem dX5_slip_61 : decode cX5_slip 61 = .ok (.iconst 1, 1) := by decide +kernel
theorem dX5_slip_62 : decode cX5_slip 62 = .ok (.iadd, 1) := by decide +kernel
theorem dX5_slip_63 : decode cX5_slip 63 = .ok (.putfield 140, 3) := by decide +kernel
theorem dX5_slip_66 : decode cX5_slip 66 = .ok (.aload_n 0, 1) := by decide +kernel
theorem dX5_slip_67 : decode cX5_slip 67 = .ok (.getfield 140, 3) := by decide +kernel
theorem dX5_slip_70 : decode cX5_slip 70 = .ok (.ireturn, 1) := by decide +kernel
theorem dX5_wake_0 : decode cX5_wake 0 = .ok (.iload_n 1, 1) := by decide +kernel
theorem dX5_wake_1 : decode cX5_wake 1 = .ok (.invokestatic 143, 3) := by decide +kernel
theorem dX5_wake_4 : decode cX5_wake 4 = .ok (.ifCond .ne 6, 3) := by decide +kernel
theorem dX5_wake_7 : decode cX5_wake 7 = .ok (.bipush (-2), 2) := by decide +kernel
theorem dX5_wake_9 : decode cX5_wake 9 = .ok (.ireturn, 1) := by decide +kernel
theorem dX5_wake_10 : decode cX5_wake 10 = .ok (.aload_n 0, 1) := by decide +kernel
theorem dX5_wake_11 : decode cX5_wake 11 = .ok (.getfield 146, 3) := by decide +kernel
theorem dX5_wake_14 : decode cX5_wake 14 = .ok (.bipush 8, 2) := by decide +kernel
theorem dX5_wake_16 : decode cX5_wake 16 = .ok (.if_icmp .ne 6, 3) := by decide +kernel
theorem dX5_wake_19 : decode cX5_wake 19 = .ok (.bipush (-4), 2) := by decide +kernel
theorem dX5_wake_21 : decode cX5_wake 21 = .ok (.ireturn, 1) := by decide +kernel
theorem dX5_wake_22 : decode cX5_wake 22 = .ok (.aload_n 0, 1) := by decide +kernel
theorem dX5_wake_23 : decode cX5_wake 23 = .ok (.getfield 40, 3) := by decide +kernel
theorem dX5_wake_26 : decode cX5_wake 26 = .ok (.aload_n 0, 1) := by decide +kernel
theorem dX5_wake_27 : decode cX5_wake 27 = .ok (.getfield 146, 3) := by decide +kernel
theorem dX5_wake_30 : decode cX5_wake 30 = .ok (.iload_n 1, 1) := by decide +kernel
theorem dX5_wake_31 : decode cX5_wake 31 = .ok (.iastore, 1) := by decide +kernel
theorem dX5_wake_32 : decode cX5_wake 32 = .ok (.aload_n 0, 1) := by decide +kernel
theorem dX5_wake_33 : decode cX5_wake 33 = .ok (.dup, 1) := by decide +kernel
theorem dX5_wake_34 : decode cX5_wake 34 = .ok (.getfield 146, 3) := by decide +kernel
theorem dX5_wake_37 : decode cX5_wake 37 = .ok (.iconst 1, 1) := by decide +kernel
theorem dX5_wake_38 : decode cX5_wake 38 = .ok (.iadd, 1) := by decide +kernel
theorem dX5_wake_39 : decode cX5_wake 39 = .ok (.putfield 146, 3) := by decide +kernel
theorem dX5_wake_42 : decode cX5_wake 42 = .ok (.aload_n 0, 1) := by decide +kernel
theorem dX5_wake_43 : decode cX5_wake 43 = .ok (.getfield 146, 3) := by decide +kernel
theorem dX5_wake_46 : decode cX5_wake 46 = .ok (.ireturn, 1) := by decide +kernel
theorem dX5_ticket_0 : decode cX5_ticket 0 = .ok (.iload_n 1, 1) := by decide +kernel
theorem dX5_ticket_1 : decode cX5_ticket 1 = .ok (.iconst 0, 1) := by decide +kernel
theorem dX5_ticket_2 : decode cX5_ticket 2 = .ok (.bipush 7, 2) := by decide +kernel
theorem dX5_ticket_4 : decode cX5_ticket 4 = .ok (.invokestatic 89, 3) := by decide +kernel
theorem dX5_ticket_7 : decode cX5_ticket 7 = .ok (.ifCond .eq 10, 3) := by decide +kernel
theorem dX5_ticket_10 : decode cX5_ticket 10 = .ok (.iload_n 2, 1) := by decide +kernel
theorem dX5_ticket_11 : decode cX5_ticket 11 = .ok (.invokestatic 149, 3) := by decide +kernel
theorem dX5_ticket_14 : decode cX5_ticket 14 = .ok (.ifCond .ne 6, 3) := by decide +kernel
theorem dX5_ticket_17 : decode cX5_ticket 17 = .ok (.bipush (-2), 2) := by decide +kernel
theorem dX5_ticket_19 : decode cX5_ticket 19 = .ok (.ireturn, 1) := by decide +kernel
theorem dX5_ticket_20 : decode cX5_ticket 20 = .ok (.aload_n 0, 1) := by decide +kernel
theorem dX5_ticket_21 : decode cX5_ticket 21 = .ok (.getfield 152, 3) := by decide +kernel
theorem dX5_ticket_24 : decode cX5_ticket 24 = .ok (.bipush 12, 2) := by decide +kernel
theorem dX5_ticket_26 : decode cX5_ticket 26 = .ok (.if_icmp .ne 6, 3) := by decide +kernel
theorem dX5_ticket_29 : decode cX5_ticket 29 = .ok (.bipush (-4), 2) := by decide +kernel
theorem dX5_ticket_31 : decode cX5_ticket 31 = .ok (.ireturn, 1) := by decide +kernel
theorem dX5_ticket_32 : decode cX5_ticket 32 = .ok (.aload_n 0, 1) := by decide +kernel
theorem dX5_ticket_33 : decode cX5_ticket 33 = .ok (.getfield 43, 3) := by decide +kernel
theorem dX5_ticket_36 : decode cX5_ticket 36 = .ok (.aload_n 0, 1) := by decide +kernel
theorem dX5_ticket_37 : decode cX5_ticket 37 = .ok (.getfield 152, 3) := by decide +kernel
theorem dX5_ticket_40 : decode cX5_ticket 40 = .ok (.iload_n 1, 1) := by decide +kernel
theorem dX5_ticket_41 : decode cX5_ticket 41 = .ok (.iastore, 1) := by decide +kernel
theorem dX5_ticket_42 : decode cX5_ticket 42 = .ok (.aload_n 0, 1) := by decide +kernel
theorem dX5_ticket_43 : decode cX5_ticket 43 = .ok (.getfield 46, 3) := by decide +kernel
theorem dX5_ticket_46 : decode cX5_ticket 46 = .ok (.aload_n 0, 1) := by decide +kernel
theorem dX5_ticket_47 : decode cX5_ticket 47 = .ok (.getfield 152, 3) := by decide +kernel
theorem dX5_ticket_50 : decode cX5_ticket 50 = .ok (.iload_n 2, 1) := by decide +kernel
theorem dX5_ticket_51 : decode cX5_ticket 51 = .ok (.iastore, 1) := by decide +kernel
theorem dX5_ticket_52 : decode cX5_ticket 52 = .ok (.aload_n 0, 1) := by decide +kernel
theorem dX5_ticket_53 : decode cX5_ticket 53 = .ok (.dup, 1) := by decide +kernel
theorem dX5_ticket_54 : decode cX5_ticket 54 = .ok (.getfield 152, 3) := by decide +kernel
theorem dX5_ticket_57 : decode cX5_ticket 57 = .ok (.iconst 1, 1) := by decide +kernel
theorem dX5_ticket_58 : decode cX5_ticket 58 = .ok (.iadd, 1) := by decide +kernel
theorem dX5_ticket_59 : decode cX5_ticket 59 = .ok (.putfield 152, 3) := by decide +kernel
theorem dX5_ticket_62 : decode cX5_ticket 62 = .ok (.aload_n 0, 1) := by decide +kernel
theorem dX5_ticket_63 : decode cX5_ticket 63 = .ok (.getfield 152, 3) := by decide +kernel
theorem dX5_ticket_66 : decode cX5_ticket 66 = .ok (.ireturn, 1) := by decide +kernel
theorem dX5_back_0 : decode cX5_back 0 = .ok (.iload_n 1, 1) := by decide +kernel
theorem dX5_back_1 : decode cX5_back 1 = .ok (.iconst 0, 1) := by decide +kernel
theorem dX5_back_2 : decode cX5_back 2 = .ok (.iconst 2, 1) := by decide +kernel
theorem dX5_back_3 : decode cX5_back 3 = .ok (.invokestatic 89, 3) := by decide +kernel
theorem dX5_back_6 : decode cX5_back 6 = .ok (.ifCond .ne 6, 3) := by decide +kernel
theorem dX5_back_9 : decode cX5_back 9 = .ok (.bipush (-2), 2) := by decide +kernel
theorem dX5_back_11 : decode cX5_back 11 = .ok (.ireturn, 1) := by decide +kernel
theorem dX5_back_12 : decode cX5_back 12 = .ok (.iload_n 1, 1) := by decide +kernel
theorem dX5_back_13 : decode cX5_back 13 = .ok (.ifCond .ne 10, 3) := by decide +kernel
theorem dX5_back_16 : decode cX5_back 16 = .ok (.aload_n 0, 1) := by decide +kernel
theorem dX5_back_17 : decode cX5_back 17 = .ok (.getfield 140, 3) := by decide +kernel
theorem dX5_back_20 : decode cX5_back 20 = .ok (.goto 19, 3) := by decide +kernel
theorem dX5_back_23 : decode cX5_back 23 = .ok (.iload_n 1, 1) := by decide +kernel
theorem dX5_back_24 : decode cX5_back 24 = .ok (.iconst 1, 1) := by decide +kernel
theorem dX5_back_25 : decode cX5_back 25 = .ok (.if_icmp .ne 10, 3) := by decide +kernel
theorem dX5_back_28 : decode cX5_back 28 = .ok (.aload_n 0, 1) := by decide +kernel
theorem dX5_back_29 : decode cX5_back 29 = .ok (.getfield 146, 3) := by decide +kernel
theorem dX5_back_32 : decode cX5_back 32 = .ok (.goto 7, 3) := by decide +kernel
theorem dX5_back_35 : decode cX5_back 35 = .ok (.aload_n 0, 1) := by decide +kernel
theorem dX5_back_36 : decode cX5_back 36 = .ok (.getfield 152, 3) := by decide +kernel
theorem dX5_back_39 : decode cX5_back 39 = .ok (.istore_n 2, 1) := by decide +kernel
theorem dX5_back_40 : decode cX5_back 40 = .ok (.iload_n 2, 1) := by decide +kernel
theorem dX5_back_41 : decode cX5_back 41 = .ok (.ifCond .ne 6, 3) := by decide +kernel
theorem dX5_back_44 : decode cX5_back 44 = .ok (.bipush (-3), 2) := by decide +kernel
theorem dX5_back_46 : decode cX5_back 46 = .ok (.ireturn, 1) := by decide +kernel
theorem dX5_back_47 : decode cX5_back 47 = .ok (.aload_n 0, 1) := by decide +kernel
theorem dX5_back_48 : decode cX5_back 48 = .ok (.dup, 1) := by decide +kernel
theorem dX5_back_49 : decode cX5_back 49 = .ok (.getfield 140, 3) := by decide +kernel
theorem dX5_back_52 : decode cX5_back 52 = .ok (.iload_n 1, 1) := by decide +kernel
theorem dX5_back_53 : decode cX5_back 53 = .ok (.ifCond .ne 7, 3) := by decide +kernel
theorem dX5_back_56 : decode cX5_back 56 = .ok (.iconst 1, 1) := by decide +kernel
theorem dX5_back_57 : decode cX5_back 57 = .ok (.goto 4, 3) := by decide +kernel
theorem dX5_back_60 : decode cX5_back 60 = .ok (.iconst 0, 1) := by decide +kernel
theorem dX5_back_61 : decode cX5_back 61 = .ok (.isub, 1) := by decide +kernel
theorem dX5_back_62 : decode cX5_back 62 = .ok (.putfield 140, 3) := by decide +kernel
theorem dX5_back_65 : decode cX5_back 65 = .ok (.aload_n 0, 1) := by decide +kernel
theorem dX5_back_66 : decode cX5_back 66 = .ok (.dup, 1) := by decide +kernel
theorem dX5_back_67 : decode cX5_back 67 = .ok (.getfield 146, 3) := by decide +kernel
theorem dX5_back_70 : decode cX5_back 70 = .ok (.iload_n 1, 1) := by decide +kernel
theorem dX5_back_71 : decode cX5_back 71 = .ok (.iconst 1, 1) := by decide +kernel
theorem dX5_back_72 : decode cX5_back 72 = .ok (.if_icmp .ne 7, 3) := by decide +kernel
theorem dX5_back_75 : decode cX5_back 75 = .ok (.iconst 1, 1) := by decide +kernel
theorem dX5_back_76 : decode cX5_back 76 = .ok (.goto 4, 3) := by decide +kernel
theorem dX5_back_79 : decode cX5_back 79 = .ok (.iconst 0, 1) := by decide +kernel
theorem dX5_back_80 : decode cX5_back 80 = .ok (.isub, 1) := by decide +kernel
theorem dX5_back_81 : decode cX5_back 81 = .ok (.putfield 146, 3) := by decide +kernel
theorem dX5_back_84 : decode cX5_back 84 = .ok (.aload_n 0, 1) := by decide +kernel
theorem dX5_back_85 : decode cX5_back 85 = .ok (.dup, 1) := by decide +kernel
theorem dX5_back_86 : decode cX5_back 86 = .ok (.getfield 152, 3) := by decide +kernel
theorem dX5_back_89 : decode cX5_back 89 = .ok (.iload_n 1, 1) := by decide +kernel
theorem dX5_back_90 : decode cX5_back 90 = .ok (.iconst 2, 1) := by decide +kernel
theorem dX5_back_91 : decode cX5_back 91 = .ok (.if_icmp .ne 7, 3) := by decide +kernel
theorem dX5_back_94 : decode cX5_back 94 = .ok (.iconst 1, 1) := by decide +kernel
theorem dX5_back_95 : decode cX5_back 95 = .ok (.goto 4, 3) := by decide +kernel
theorem dX5_back_98 : decode cX5_back 98 = .ok (.iconst 0, 1) := by decide +kernel
theorem dX5_back_99 : decode cX5_back 99 = .ok (.isub, 1) := by decide +kernel
theorem dX5_back_100 : decode cX5_back 100 = .ok (.putfield 152, 3) := by decide +kernel
theorem dX5_back_103 : decode cX5_back 103 = .ok (.iload_n 2, 1) := by decide +kernel
theorem dX5_back_104 : decode cX5_back 104 = .ok (.iconst 1, 1) := by decide +kernel
theorem dX5_back_105 : decode cX5_back 105 = .ok (.isub, 1) := by decide +kernel
theorem dX5_back_106 : decode cX5_back 106 = .ok (.ireturn, 1) := by decide +kernel
theorem dX5_read_0 : decode cX5_read 0 = .ok (.iload_n 1, 1) := by decide +kernel
theorem dX5_read_1 : decode cX5_read 1 = .ok (.invokestatic 155, 3) := by decide +kernel
theorem dX5_read_4 : decode cX5_read 4 = .ok (.ifCond .ne 6, 3) := by decide +kernel
theorem dX5_read_7 : decode cX5_read 7 = .ok (.bipush (-2), 2) := by decide +kernel
theorem dX5_read_9 : decode cX5_read 9 = .ok (.ireturn, 1) := by decide +kernel
theorem dX5_read_10 : decode cX5_read 10 = .ok (.aload_n 0, 1) := by decide +kernel
theorem dX5_read_11 : decode cX5_read 11 = .ok (.getfield 72, 3) := by decide +kernel
theorem dX5_read_14 : decode cX5_read 14 = .ok (.iload_n 1, 1) := by decide +kernel
theorem dX5_read_15 : decode cX5_read 15 = .ok (.baload, 1) := by decide +kernel
theorem dX5_read_16 : decode cX5_read 16 = .ok (.ifCond .ne 9, 3) := by decide +kernel
theorem dX5_read_19 : decode cX5_read 19 = .ok (.aload_n 0, 1) := by decide +kernel
theorem dX5_read_20 : decode cX5_read 20 = .ok (.iconst 1, 1) := by decide +kernel
theorem dX5_read_21 : decode cX5_read 21 = .ok (.invokevirtual 158, 3) := by decide +kernel
theorem dX5_read_24 : decode cX5_read 24 = .ok (.ireturn, 1) := by decide +kernel
theorem dX5_read_25 : decode cX5_read 25 = .ok (.iconst 0, 1) := by decide +kernel
theorem dX5_read_26 : decode cX5_read 26 = .ok (.istore_n 2, 1) := by decide +kernel
theorem dX5_read_27 : decode cX5_read 27 = .ok (.iconst 2, 1) := by decide +kernel
theorem dX5_read_28 : decode cX5_read 28 = .ok (.iload_n 2, 1) := by decide +kernel
theorem dX5_read_29 : decode cX5_read 29 = .ok (.imul, 1) := by decide +kernel
theorem dX5_read_30 : decode cX5_read 30 = .ok (.iconst 1, 1) := by decide +kernel
theorem dX5_read_31 : decode cX5_read 31 = .ok (.iadd, 1) := by decide +kernel
theorem dX5_read_32 : decode cX5_read 32 = .ok (.aload_n 0, 1) := by decide +kernel
theorem dX5_read_33 : decode cX5_read 33 = .ok (.getfield 78, 3) := by decide +kernel
theorem dX5_read_36 : decode cX5_read 36 = .ok (.iload_n 1, 1) := by decide +kernel
theorem dX5_read_37 : decode cX5_read 37 = .ok (.iaload, 1) := by decide +kernel
theorem dX5_read_38 : decode cX5_read 38 = .ok (.if_icmp .ge 44, 3) := by decide +kernel
theorem dX5_read_41 : decode cX5_read 41 = .ok (.aload_n 0, 1) := by decide +kernel
theorem dX5_read_42 : decode cX5_read 42 = .ok (.aload_n 0, 1) := by decide +kernel
theorem dX5_read_43 : decode cX5_read 43 = .ok (.getfield 81, 3) := by decide +kernel
theorem dX5_read_46 : decode cX5_read 46 = .ok (.bipush 48, 2) := by decide +kernel
theorem dX5_read_48 : decode cX5_read 48 = .ok (.iload_n 1, 1) := by decide +kernel
theorem dX5_read_49 : decode cX5_read 49 = .ok (.imul, 1) := by decide +kernel
theorem dX5_read_50 : decode cX5_read 50 = .ok (.iconst 2, 1) := by decide +kernel
theorem dX5_read_51 : decode cX5_read 51 = .ok (.iload_n 2, 1) := by decide +kernel
theorem dX5_read_52 : decode cX5_read 52 = .ok (.imul, 1) := by decide +kernel
theorem dX5_read_53 : decode cX5_read 53 = .ok (.iadd, 1) := by decide +kernel
theorem dX5_read_54 : decode cX5_read 54 = .ok (.iaload, 1) := by decide +kernel
theorem dX5_read_55 : decode cX5_read 55 = .ok (.aload_n 0, 1) := by decide +kernel
theorem dX5_read_56 : decode cX5_read 56 = .ok (.getfield 81, 3) := by decide +kernel
theorem dX5_read_59 : decode cX5_read 59 = .ok (.bipush 48, 2) := by decide +kernel
theorem dX5_read_61 : decode cX5_read 61 = .ok (.iload_n 1, 1) := by decide +kernel
theorem dX5_read_62 : decode cX5_read 62 = .ok (.imul, 1) := by decide +kernel
theorem dX5_read_63 : decode cX5_read 63 = .ok (.iconst 2, 1) := by decide +kernel
theorem dX5_read_64 : decode cX5_read 64 = .ok (.iload_n 2, 1) := by decide +kernel
theorem dX5_read_65 : decode cX5_read 65 = .ok (.imul, 1) := by decide +kernel
theorem dX5_read_66 : decode cX5_read 66 = .ok (.iadd, 1) := by decide +kernel
theorem dX5_read_67 : decode cX5_read 67 = .ok (.iconst 1, 1) := by decide +kernel
theorem dX5_read_68 : decode cX5_read 68 = .ok (.iadd, 1) := by decide +kernel
theorem dX5_read_69 : decode cX5_read 69 = .ok (.iaload, 1) := by decide +kernel
theorem dX5_read_70 : decode cX5_read 70 = .ok (.invokevirtual 161, 3) := by decide +kernel
theorem dX5_read_73 : decode cX5_read 73 = .ok (.ifCond .le 9, 3) := by decide +kernel
theorem dX5_read_76 : decode cX5_read 76 = .ok (.iinc 2 1, 3) := by decide +kernel
theorem dX5_read_79 : decode cX5_read 79 = .ok (.goto (-52), 3) := by decide +kernel
theorem dX5_read_82 : decode cX5_read 82 = .ok (.iload_n 2, 1) := by decide +kernel
theorem dX5_read_83 : decode cX5_read 83 = .ok (.ireturn, 1) := by decide +kernel
theorem dX5_asTold_0 : decode cX5_asTold 0 = .ok (.aload_n 0, 1) := by decide +kernel
theorem dX5_asTold_1 : decode cX5_asTold 1 = .ok (.aload_n 0, 1) := by decide +kernel
theorem dX5_asTold_2 : decode cX5_asTold 2 = .ok (.getfield 140, 3) := by decide +kernel
theorem dX5_asTold_5 : decode cX5_asTold 5 = .ok (.putfield 164, 3) := by decide +kernel
theorem dX5_asTold_8 : decode cX5_asTold 8 = .ok (.aload_n 0, 1) := by decide +kernel
theorem dX5_asTold_9 : decode cX5_asTold 9 = .ok (.aload_n 0, 1) := by decide +kernel
theorem dX5_asTold_10 : decode cX5_asTold 10 = .ok (.getfield 146, 3) := by decide +kernel
theorem dX5_asTold_13 : decode cX5_asTold 13 = .ok (.putfield 167, 3) := by decide +kernel
theorem dX5_asTold_16 : decode cX5_asTold 16 = .ok (.aload_n 0, 1) := by decide +kernel
theorem dX5_asTold_17 : decode cX5_asTold 17 = .ok (.aload_n 0, 1) := by decide +kernel
theorem dX5_asTold_18 : decode cX5_asTold 18 = .ok (.getfield 152, 3) := by decide +kernel
theorem dX5_asTold_21 : decode cX5_asTold 21 = .ok (.putfield 170, 3) := by decide +kernel
theorem dX5_asTold_24 : decode cX5_asTold 24 = .ok (.return_, 1) := by decide +kernel
theorem dX5_isWake_0 : decode cX5_isWake 0 = .ok (.iconst 0, 1) := by decide +kernel
theorem dX5_isWake_1 : decode cX5_isWake 1 = .ok (.istore_n 2, 1) := by decide +kernel
theorem dX5_isWake_2 : decode cX5_isWake 2 = .ok (.iconst 0, 1) := by decide +kernel
theorem dX5_isWake_3 : decode cX5_isWake 3 = .ok (.istore_n 3, 1) := by decide +kernel
theorem dX5_isWake_4 : decode cX5_isWake 4 = .ok (.iload_n 3, 1) := by decide +kernel
theorem dX5_isWake_5 : decode cX5_isWake 5 = .ok (.aload_n 0, 1) := by decide +kernel
theorem dX5_isWake_6 : decode cX5_isWake 6 = .ok (.getfield 167, 3) := by decide +kernel
theorem dX5_isWake_9 : decode cX5_isWake 9 = .ok (.if_icmp .ge 29, 3) := by decide +kernel
theorem dX5_isWake_12 : decode cX5_isWake 12 = .ok (.iload_n 2, 1) := by decide +kernel
theorem dX5_isWake_13 : decode cX5_isWake 13 = .ok (.ifCond .ne 13, 3) := by decide +kernel
theorem dX5_isWake_16 : decode cX5_isWake 16 = .ok (.aload_n 0, 1) := by decide +kernel
theorem dX5_isWake_17 : decode cX5_isWake 17 = .ok (.getfield 40, 3) := by decide +kernel
theorem dX5_isWake_20 : decode cX5_isWake 20 = .ok (.iload_n 3, 1) := by decide +kernel
theorem dX5_isWake_21 : decode cX5_isWake 21 = .ok (.iaload, 1) := by decide +kernel
theorem dX5_isWake_22 : decode cX5_isWake 22 = .ok (.iload_n 1, 1) := by decide +kernel
theorem dX5_isWake_23 : decode cX5_isWake 23 = .ok (.if_icmp .ne 7, 3) := by decide +kernel
theorem dX5_isWake_26 : decode cX5_isWake 26 = .ok (.iconst 1, 1) := by decide +kernel
theorem dX5_isWake_27 : decode cX5_isWake 27 = .ok (.goto 4, 3) := by decide +kernel
theorem dX5_isWake_30 : decode cX5_isWake 30 = .ok (.iconst 0, 1) := by decide +kernel
theorem dX5_isWake_31 : decode cX5_isWake 31 = .ok (.istore_n 2, 1) := by decide +kernel
theorem dX5_isWake_32 : decode cX5_isWake 32 = .ok (.iinc 3 1, 3) := by decide +kernel
theorem dX5_isWake_35 : decode cX5_isWake 35 = .ok (.goto (-31), 3) := by decide +kernel
theorem dX5_isWake_38 : decode cX5_isWake 38 = .ok (.iload_n 2, 1) := by decide +kernel
theorem dX5_isWake_39 : decode cX5_isWake 39 = .ok (.ireturn, 1) := by decide +kernel
theorem dX5_skips_0 : decode cX5_skips 0 = .ok (.iconst 0, 1) := by decide +kernel
theorem dX5_skips_1 : decode cX5_skips 1 = .ok (.istore_n 2, 1) := by decide +kernel
theorem dX5_skips_2 : decode cX5_skips 2 = .ok (.iconst 0, 1) := by decide +kernel
theorem dX5_skips_3 : decode cX5_skips 3 = .ok (.istore_n 3, 1) := by decide +kernel
theorem dX5_skips_4 : decode cX5_skips 4 = .ok (.iload_n 3, 1) := by decide +kernel
theorem dX5_skips_5 : decode cX5_skips 5 = .ok (.aload_n 0, 1) := by decide +kernel
theorem dX5_skips_6 : decode cX5_skips 6 = .ok (.getfield 164, 3) := by decide +kernel
theorem dX5_skips_9 : decode cX5_skips 9 = .ok (.if_icmp .ge 32, 3) := by decide +kernel
theorem dX5_skips_12 : decode cX5_skips 12 = .ok (.iload_n 2, 1) := by decide +kernel
theorem dX5_skips_13 : decode cX5_skips 13 = .ok (.aload_n 0, 1) := by decide +kernel
theorem dX5_skips_14 : decode cX5_skips 14 = .ok (.getfield 34, 3) := by decide +kernel
theorem dX5_skips_17 : decode cX5_skips 17 = .ok (.iload_n 3, 1) := by decide +kernel
theorem dX5_skips_18 : decode cX5_skips 18 = .ok (.iaload, 1) := by decide +kernel
theorem dX5_skips_19 : decode cX5_skips 19 = .ok (.iload_n 1, 1) := by decide +kernel
theorem dX5_skips_20 : decode cX5_skips 20 = .ok (.if_icmp .ne 12, 3) := by decide +kernel
theorem dX5_skips_23 : decode cX5_skips 23 = .ok (.aload_n 0, 1) := by decide +kernel
theorem dX5_skips_24 : decode cX5_skips 24 = .ok (.getfield 37, 3) := by decide +kernel
theorem dX5_skips_27 : decode cX5_skips 27 = .ok (.iload_n 3, 1) := by decide +kernel
theorem dX5_skips_28 : decode cX5_skips 28 = .ok (.iaload, 1) := by decide +kernel
theorem dX5_skips_29 : decode cX5_skips 29 = .ok (.goto 4, 3) := by decide +kernel
theorem dX5_skips_32 : decode cX5_skips 32 = .ok (.iconst 0, 1) := by decide +kernel
theorem dX5_skips_33 : decode cX5_skips 33 = .ok (.iadd, 1) := by decide +kernel
theorem dX5_skips_34 : decode cX5_skips 34 = .ok (.istore_n 2, 1) := by decide +kernel
theorem dX5_skips_35 : decode cX5_skips 35 = .ok (.iinc 3 1, 3) := by decide +kernel
theorem dX5_skips_38 : decode cX5_skips 38 = .ok (.goto (-34), 3) := by decide +kernel
theorem dX5_skips_41 : decode cX5_skips 41 = .ok (.iload_n 2, 1) := by decide +kernel
theorem dX5_skips_42 : decode cX5_skips 42 = .ok (.ireturn, 1) := by decide +kernel
theorem dX5_isCrest_0 : decode cX5_isCrest 0 = .ok (.iload_n 2, 1) := by decide +kernel
theorem dX5_isCrest_1 : decode cX5_isCrest 1 = .ok (.aload_n 0, 1) := by decide +kernel
theorem dX5_isCrest_2 : decode cX5_isCrest 2 = .ok (.getfield 22, 3) := by decide +kernel
theorem dX5_isCrest_5 : decode cX5_isCrest 5 = .ok (.iload_n 1, 1) := by decide +kernel
theorem dX5_isCrest_6 : decode cX5_isCrest 6 = .ok (.iaload, 1) := by decide +kernel
theorem dX5_isCrest_7 : decode cX5_isCrest 7 = .ok (.if_icmp .lt 25, 3) := by decide +kernel
theorem dX5_isCrest_10 : decode cX5_isCrest 10 = .ok (.iload_n 2, 1) := by decide +kernel
theorem dX5_isCrest_11 : decode cX5_isCrest 11 = .ok (.aload_n 0, 1) := by decide +kernel
theorem dX5_isCrest_12 : decode cX5_isCrest 12 = .ok (.getfield 22, 3) := by decide +kernel
theorem dX5_isCrest_15 : decode cX5_isCrest 15 = .ok (.iload_n 1, 1) := by decide +kernel
theorem dX5_isCrest_16 : decode cX5_isCrest 16 = .ok (.iaload, 1) := by decide +kernel
theorem dX5_isCrest_17 : decode cX5_isCrest 17 = .ok (.isub, 1) := by decide +kernel
theorem dX5_isCrest_18 : decode cX5_isCrest 18 = .ok (.aload_n 0, 1) := by decide +kernel
theorem dX5_isCrest_19 : decode cX5_isCrest 19 = .ok (.getfield 19, 3) := by decide +kernel
theorem dX5_isCrest_22 : decode cX5_isCrest 22 = .ok (.iload_n 1, 1) := by decide +kernel
theorem dX5_isCrest_23 : decode cX5_isCrest 23 = .ok (.iaload, 1) := by decide +kernel
theorem dX5_isCrest_24 : decode cX5_isCrest 24 = .ok (.irem, 1) := by decide +kernel
theorem dX5_isCrest_25 : decode cX5_isCrest 25 = .ok (.ifCond .ne 7, 3) := by decide +kernel
theorem dX5_isCrest_28 : decode cX5_isCrest 28 = .ok (.iconst 1, 1) := by decide +kernel
theorem dX5_isCrest_29 : decode cX5_isCrest 29 = .ok (.goto 4, 3) := by decide +kernel
theorem dX5_isCrest_32 : decode cX5_isCrest 32 = .ok (.iconst 0, 1) := by decide +kernel
theorem dX5_isCrest_33 : decode cX5_isCrest 33 = .ok (.ireturn, 1) := by decide +kernel
theorem dX5_breaks_0 : decode cX5_breaks 0 = .ok (.aload_n 0, 1) := by decide +kernel
theorem dX5_breaks_1 : decode cX5_breaks 1 = .ok (.getfield 49, 3) := by decide +kernel
theorem dX5_breaks_4 : decode cX5_breaks 4 = .ok (.iload_n 1, 1) := by decide +kernel
theorem dX5_breaks_5 : decode cX5_breaks 5 = .ok (.iaload, 1) := by decide +kernel
theorem dX5_breaks_6 : decode cX5_breaks 6 = .ok (.ifCond .le 20, 3) := by decide +kernel
theorem dX5_breaks_9 : decode cX5_breaks 9 = .ok (.aload_n 0, 1) := by decide +kernel
theorem dX5_breaks_10 : decode cX5_breaks 10 = .ok (.getfield 49, 3) := by decide +kernel
theorem dX5_breaks_13 : decode cX5_breaks 13 = .ok (.iload_n 1, 1) := by decide +kernel
theorem dX5_breaks_14 : decode cX5_breaks 14 = .ok (.iaload, 1) := by decide +kernel
theorem dX5_breaks_15 : decode cX5_breaks 15 = .ok (.aload_n 0, 1) := by decide +kernel
theorem dX5_breaks_16 : decode cX5_breaks 16 = .ok (.getfield 137, 3) := by decide +kernel
theorem dX5_breaks_19 : decode cX5_breaks 19 = .ok (.if_icmp .lt 7, 3) := by decide +kernel
theorem dX5_breaks_22 : decode cX5_breaks 22 = .ok (.iconst 1, 1) := by decide +kernel
theorem dX5_breaks_23 : decode cX5_breaks 23 = .ok (.goto 4, 3) := by decide +kernel
theorem dX5_breaks_26 : decode cX5_breaks 26 = .ok (.iconst 0, 1) := by decide +kernel
theorem dX5_breaks_27 : decode cX5_breaks 27 = .ok (.ireturn, 1) := by decide +kernel
theorem dX5_lays_0 : decode cX5_lays 0 = .ok (.aload_n 0, 1) := by decide +kernel
theorem dX5_lays_1 : decode cX5_lays 1 = .ok (.iconst 0, 1) := by decide +kernel
theorem dX5_lays_2 : decode cX5_lays 2 = .ok (.putfield 173, 3) := by decide +kernel
theorem dX5_lays_5 : decode cX5_lays 5 = .ok (.aload_n 0, 1) := by decide +kernel
theorem dX5_lays_6 : decode cX5_lays 6 = .ok (.iconst 0, 1) := by decide +kernel
theorem dX5_lays_7 : decode cX5_lays 7 = .ok (.putfield 176, 3) := by decide +kernel
theorem dX5_lays_10 : decode cX5_lays 10 = .ok (.iconst 0, 1) := by decide +kernel
theorem dX5_lays_11 : decode cX5_lays 11 = .ok (.istore_n 1, 1) := by decide +kernel
theorem dX5_lays_12 : decode cX5_lays 12 = .ok (.iload_n 1, 1) := by decide +kernel
theorem dX5_lays_13 : decode cX5_lays 13 = .ok (.sipush 240, 3) := by decide +kernel
theorem dX5_lays_16 : decode cX5_lays 16 = .ok (.if_icmp .ge 152, 3) := by decide +kernel
theorem dX5_lays_19 : decode cX5_lays 19 = .ok (.aload_n 0, 1) := by decide +kernel
theorem dX5_lays_20 : decode cX5_lays 20 = .ok (.getfield 49, 3) := by decide +kernel
theorem dX5_lays_23 : decode cX5_lays 23 = .ok (.iload_n 1, 1) := by decide +kernel
theorem dX5_lays_24 : decode cX5_lays 24 = .ok (.iconst 0, 1) := by decide +kernel
theorem dX5_lays_25 : decode cX5_lays 25 = .ok (.iastore, 1) := by decide +kernel
theorem dX5_lays_26 : decode cX5_lays 26 = .ok (.aload_n 0, 1) := by decide +kernel
theorem dX5_lays_27 : decode cX5_lays 27 = .ok (.getfield 52, 3) := by decide +kernel
theorem dX5_lays_30 : decode cX5_lays 30 = .ok (.iload_n 1, 1) := by decide +kernel
theorem dX5_lays_31 : decode cX5_lays 31 = .ok (.iconst 0, 1) := by decide +kernel
theorem dX5_lays_32 : decode cX5_lays 32 = .ok (.iastore, 1) := by decide +kernel
theorem dX5_lays_33 : decode cX5_lays 33 = .ok (.aload_n 0, 1) := by decide +kernel
theorem dX5_lays_34 : decode cX5_lays 34 = .ok (.getfield 55, 3) := by decide +kernel
theorem dX5_lays_37 : decode cX5_lays 37 = .ok (.iload_n 1, 1) := by decide +kernel
theorem dX5_lays_38 : decode cX5_lays 38 = .ok (.iconst 0, 1) := by decide +kernel
theorem dX5_lays_39 : decode cX5_lays 39 = .ok (.iastore, 1) := by decide +kernel
theorem dX5_lays_40 : decode cX5_lays 40 = .ok (.iconst 0, 1) := by decide +kernel
theorem dX5_lays_41 : decode cX5_lays 41 = .ok (.istore_n 2, 1) := by decide +kernel
theorem dX5_lays_42 : decode cX5_lays 42 = .ok (.iload_n 2, 1) := by decide +kernel
theorem dX5_lays_43 : decode cX5_lays 43 = .ok (.aload_n 0, 1) := by decide +kernel
theorem dX5_lays_44 : decode cX5_lays 44 = .ok (.getfield 104, 3) := by decide +kernel
theorem dX5_lays_47 : decode cX5_lays 47 = .ok (.if_icmp .ge 60, 3) := by decide +kernel
theorem dX5_lays_50 : decode cX5_lays 50 = .ok (.aload_n 0, 1) := by decide +kernel
theorem dX5_lays_51 : decode cX5_lays 51 = .ok (.getfield 49, 3) := by decide +kernel
theorem dX5_lays_54 : decode cX5_lays 54 = .ok (.iload_n 1, 1) := by decide +kernel
theorem dX5_lays_55 : decode cX5_lays 55 = .ok (.dup2, 1) := by decide +kernel
theorem dX5_lays_56 : decode cX5_lays 56 = .ok (.iaload, 1) := by decide +kernel
theorem dX5_lays_57 : decode cX5_lays 57 = .ok (.aload_n 0, 1) := by decide +kernel
theorem dX5_lays_58 : decode cX5_lays 58 = .ok (.iload_n 2, 1) := by decide +kernel
theorem dX5_lays_59 : decode cX5_lays 59 = .ok (.iload_n 1, 1) := by decide +kernel
theorem dX5_lays_60 : decode cX5_lays 60 = .ok (.invokevirtual 179, 3) := by decide +kernel
theorem dX5_lays_63 : decode cX5_lays 63 = .ok (.ifCond .eq 12, 3) := by decide +kernel
theorem dX5_lays_66 : decode cX5_lays 66 = .ok (.aload_n 0, 1) := by decide +kernel
theorem dX5_lays_67 : decode cX5_lays 67 = .ok (.getfield 16, 3) := by decide +kernel
theorem dX5_lays_70 : decode cX5_lays 70 = .ok (.iload_n 2, 1) := by decide +kernel
theorem dX5_lays_71 : decode cX5_lays 71 = .ok (.iaload, 1) := by decide +kernel
theorem dX5_lays_72 : decode cX5_lays 72 = .ok (.goto 4, 3) := by decide +kernel
theorem dX5_lays_75 : decode cX5_lays 75 = .ok (.iconst 0, 1) := by decide +kernel
theorem dX5_lays_76 : decode cX5_lays 76 = .ok (.iadd, 1) := by decide +kernel
theorem dX5_lays_77 : decode cX5_lays 77 = .ok (.iastore, 1) := by decide +kernel
theorem dX5_lays_78 : decode cX5_lays 78 = .ok (.aload_n 0, 1) := by decide +kernel
theorem dX5_lays_79 : decode cX5_lays 79 = .ok (.getfield 52, 3) := by decide +kernel
theorem dX5_lays_82 : decode cX5_lays 82 = .ok (.iload_n 1, 1) := by decide +kernel
theorem dX5_lays_83 : decode cX5_lays 83 = .ok (.dup2, 1) := by decide +kernel
theorem dX5_lays_84 : decode cX5_lays 84 = .ok (.iaload, 1) := by decide +kernel
theorem dX5_lays_85 : decode cX5_lays 85 = .ok (.aload_n 0, 1) := by decide +kernel
theorem dX5_lays_86 : decode cX5_lays 86 = .ok (.iload_n 2, 1) := by decide +kernel
theorem dX5_lays_87 : decode cX5_lays 87 = .ok (.iload_n 1, 1) := by decide +kernel
theorem dX5_lays_88 : decode cX5_lays 88 = .ok (.invokevirtual 179, 3) := by decide +kernel
theorem dX5_lays_91 : decode cX5_lays 91 = .ok (.ifCond .eq 7, 3) := by decide +kernel
theorem dX5_lays_94 : decode cX5_lays 94 = .ok (.iconst 1, 1) := by decide +kernel
theorem dX5_lays_95 : decode cX5_lays 95 = .ok (.goto 4, 3) := by decide +kernel
theorem dX5_lays_98 : decode cX5_lays 98 = .ok (.iconst 0, 1) := by decide +kernel
theorem dX5_lays_99 : decode cX5_lays 99 = .ok (.iadd, 1) := by decide +kernel
theorem dX5_lays_100 : decode cX5_lays 100 = .ok (.iastore, 1) := by decide +kernel
theorem dX5_lays_101 : decode cX5_lays 101 = .ok (.iinc 2 1, 3) := by decide +kernel
theorem dX5_lays_104 : decode cX5_lays 104 = .ok (.goto (-62), 3) := by decide +kernel
theorem dX5_lays_107 : decode cX5_lays 107 = .ok (.aload_n 0, 1) := by decide +kernel
theorem dX5_lays_108 : decode cX5_lays 108 = .ok (.iload_n 1, 1) := by decide +kernel
theorem dX5_lays_109 : decode cX5_lays 109 = .ok (.invokevirtual 183, 3) := by decide +kernel
theorem dX5_lays_112 : decode cX5_lays 112 = .ok (.ifCond .eq 50, 3) := by decide +kernel
theorem dX5_lays_115 : decode cX5_lays 115 = .ok (.aload_n 0, 1) := by decide +kernel
theorem dX5_lays_116 : decode cX5_lays 116 = .ok (.iload_n 1, 1) := by decide +kernel
theorem dX5_lays_117 : decode cX5_lays 117 = .ok (.invokevirtual 186, 3) := by decide +kernel
theorem dX5_lays_120 : decode cX5_lays 120 = .ok (.ifCond .ne 42, 3) := by decide +kernel
theorem dX5_lays_123 : decode cX5_lays 123 = .ok (.aload_n 0, 1) := by decide +kernel
theorem dX5_lays_124 : decode cX5_lays 124 = .ok (.dup, 1) := by decide +kernel
theorem dX5_lays_125 : decode cX5_lays 125 = .ok (.getfield 173, 3) := by decide +kernel
theorem dX5_lays_128 : decode cX5_lays 128 = .ok (.iconst 1, 1) := by decide +kernel
theorem dX5_lays_129 : decode cX5_lays 129 = .ok (.iadd, 1) := by decide +kernel
theorem dX5_lays_130 : decode cX5_lays 130 = .ok (.putfield 173, 3) := by decide +kernel
theorem dX5_lays_133 : decode cX5_lays 133 = .ok (.aload_n 0, 1) := by decide +kernel
theorem dX5_lays_134 : decode cX5_lays 134 = .ok (.dup, 1) := by decide +kernel
theorem dX5_lays_135 : decode cX5_lays 135 = .ok (.getfield 176, 3) := by decide +kernel
theorem dX5_lays_138 : decode cX5_lays 138 = .ok (.iconst 1, 1) := by decide +kernel
theorem dX5_lays_139 : decode cX5_lays 139 = .ok (.aload_n 0, 1) := by decide +kernel
theorem dX5_lays_140 : decode cX5_lays 140 = .ok (.aload_n 0, 1) := by decide +kernel
theorem dX5_lays_141 : decode cX5_lays 141 = .ok (.getfield 173, 3) := by decide +kernel
theorem dX5_lays_144 : decode cX5_lays 144 = .ok (.invokevirtual 189, 3) := by decide +kernel
theorem dX5_lays_147 : decode cX5_lays 147 = .ok (.iadd, 1) := by decide +kernel
theorem dX5_lays_148 : decode cX5_lays 148 = .ok (.iadd, 1) := by decide +kernel
theorem dX5_lays_149 : decode cX5_lays 149 = .ok (.putfield 176, 3) := by decide +kernel
theorem dX5_lays_152 : decode cX5_lays 152 = .ok (.aload_n 0, 1) := by decide +kernel
theorem dX5_lays_153 : decode cX5_lays 153 = .ok (.getfield 55, 3) := by decide +kernel
theorem dX5_lays_156 : decode cX5_lays 156 = .ok (.iload_n 1, 1) := by decide +kernel
theorem dX5_lays_157 : decode cX5_lays 157 = .ok (.aload_n 0, 1) := by decide +kernel
theorem dX5_lays_158 : decode cX5_lays 158 = .ok (.getfield 176, 3) := by decide +kernel
theorem dX5_lays_161 : decode cX5_lays 161 = .ok (.iastore, 1) := by decide +kernel
theorem dX5_lays_162 : decode cX5_lays 162 = .ok (.iinc 1 1, 3) := by decide +kernel
theorem dX5_lays_165 : decode cX5_lays 165 = .ok (.goto (-153), 3) := by decide +kernel
theorem dX5_lays_168 : decode cX5_lays 168 = .ok (.return_, 1) := by decide +kernel
theorem dX5_laysTold_0 : decode cX5_laysTold 0 = .ok (.aload_n 0, 1) := by decide +kernel
theorem dX5_laysTold_1 : decode cX5_laysTold 1 = .ok (.invokevirtual 122, 3) := by decide +kernel
theorem dX5_laysTold_4 : decode cX5_laysTold 4 = .ok (.aload_n 0, 1) := by decide +kernel
theorem dX5_laysTold_5 : decode cX5_laysTold 5 = .ok (.invokevirtual 192, 3) := by decide +kernel
theorem dX5_laysTold_8 : decode cX5_laysTold 8 = .ok (.aload_n 0, 1) := by decide +kernel
theorem dX5_laysTold_9 : decode cX5_laysTold 9 = .ok (.invokevirtual 195, 3) := by decide +kernel
theorem dX5_laysTold_12 : decode cX5_laysTold 12 = .ok (.return_, 1) := by decide +kernel
theorem dX5_highOf_0 : decode cX5_highOf 0 = .ok (.aload_n 0, 1) := by decide +kernel
theorem dX5_highOf_1 : decode cX5_highOf 1 = .ok (.invokevirtual 198, 3) := by decide +kernel
theorem dX5_highOf_4 : decode cX5_highOf 4 = .ok (.aload_n 0, 1) := by decide +kernel
theorem dX5_highOf_5 : decode cX5_highOf 5 = .ok (.getfield 49, 3) := by decide +kernel
theorem dX5_highOf_8 : decode cX5_highOf 8 = .ok (.iload_n 1, 1) := by decide +kernel
theorem dX5_highOf_9 : decode cX5_highOf 9 = .ok (.iaload, 1) := by decide +kernel
theorem dX5_highOf_10 : decode cX5_highOf 10 = .ok (.ireturn, 1) := by decide +kernel
theorem dX5_high_0 : decode cX5_high 0 = .ok (.iload_n 1, 1) := by decide +kernel
theorem dX5_high_1 : decode cX5_high 1 = .ok (.invokestatic 143, 3) := by decide +kernel
theorem dX5_high_4 : decode cX5_high 4 = .ok (.ifCond .eq 11, 3) := by decide +kernel
theorem dX5_high_7 : decode cX5_high 7 = .ok (.aload_n 0, 1) := by decide +kernel
theorem dX5_high_8 : decode cX5_high 8 = .ok (.iload_n 1, 1) := by decide +kernel
theorem dX5_high_9 : decode cX5_high 9 = .ok (.invokevirtual 201, 3) := by decide +kernel
theorem dX5_high_12 : decode cX5_high 12 = .ok (.goto 5, 3) := by decide +kernel
theorem dX5_high_15 : decode cX5_high 15 = .ok (.bipush (-2), 2) := by decide +kernel
theorem dX5_high_17 : decode cX5_high 17 = .ok (.ireturn, 1) := by decide +kernel
theorem dX5_waveOf_0 : decode cX5_waveOf 0 = .ok (.aload_n 0, 1) := by decide +kernel
theorem dX5_waveOf_1 : decode cX5_waveOf 1 = .ok (.invokevirtual 198, 3) := by decide +kernel
theorem dX5_waveOf_4 : decode cX5_waveOf 4 = .ok (.iload_n 2, 1) := by decide +kernel
theorem dX5_waveOf_5 : decode cX5_waveOf 5 = .ok (.ifCond .ne 19, 3) := by decide +kernel
theorem dX5_waveOf_8 : decode cX5_waveOf 8 = .ok (.aload_n 0, 1) := by decide +kernel
theorem dX5_waveOf_9 : decode cX5_waveOf 9 = .ok (.iload_n 1, 1) := by decide +kernel
theorem dX5_waveOf_10 : decode cX5_waveOf 10 = .ok (.invokevirtual 183, 3) := by decide +kernel
theorem dX5_waveOf_13 : decode cX5_waveOf 13 = .ok (.ifCond .eq 7, 3) := by decide +kernel
theorem dX5_waveOf_16 : decode cX5_waveOf 16 = .ok (.iconst 1, 1) := by decide +kernel
theorem dX5_waveOf_17 : decode cX5_waveOf 17 = .ok (.goto 36, 3) := by decide +kernel
theorem dX5_waveOf_20 : decode cX5_waveOf 20 = .ok (.iconst 0, 1) := by decide +kernel
theorem dX5_waveOf_21 : decode cX5_waveOf 21 = .ok (.goto 32, 3) := by decide +kernel
theorem dX5_waveOf_24 : decode cX5_waveOf 24 = .ok (.iload_n 2, 1) := by decide +kernel
theorem dX5_waveOf_25 : decode cX5_waveOf 25 = .ok (.iconst 1, 1) := by decide +kernel
theorem dX5_waveOf_26 : decode cX5_waveOf 26 = .ok (.if_icmp .ne 12, 3) := by decide +kernel
theorem dX5_waveOf_29 : decode cX5_waveOf 29 = .ok (.aload_n 0, 1) := by decide +kernel
theorem dX5_waveOf_30 : decode cX5_waveOf 30 = .ok (.getfield 55, 3) := by decide +kernel
theorem dX5_waveOf_33 : decode cX5_waveOf 33 = .ok (.iload_n 1, 1) := by decide +kernel
theorem dX5_waveOf_34 : decode cX5_waveOf 34 = .ok (.iaload, 1) := by decide +kernel
theorem dX5_waveOf_35 : decode cX5_waveOf 35 = .ok (.goto 18, 3) := by decide +kernel
theorem dX5_waveOf_38 : decode cX5_waveOf 38 = .ok (.aload_n 0, 1) := by decide +kernel
theorem dX5_waveOf_39 : decode cX5_waveOf 39 = .ok (.getfield 52, 3) := by decide +kernel
theorem dX5_waveOf_42 : decode cX5_waveOf 42 = .ok (.iload_n 1, 1) := by decide +kernel
theorem dX5_waveOf_43 : decode cX5_waveOf 43 = .ok (.iaload, 1) := by decide +kernel
theorem dX5_waveOf_44 : decode cX5_waveOf 44 = .ok (.iconst 1, 1) := by decide +kernel
theorem dX5_waveOf_45 : decode cX5_waveOf 45 = .ok (.if_icmp .le 7, 3) := by decide +kernel
theorem dX5_waveOf_48 : decode cX5_waveOf 48 = .ok (.iconst 1, 1) := by decide +kernel
theorem dX5_waveOf_49 : decode cX5_waveOf 49 = .ok (.goto 4, 3) := by decide +kernel
theorem dX5_waveOf_52 : decode cX5_waveOf 52 = .ok (.iconst 0, 1) := by decide +kernel
theorem dX5_waveOf_53 : decode cX5_waveOf 53 = .ok (.ireturn, 1) := by decide +kernel
theorem dX5_wave_0 : decode cX5_wave 0 = .ok (.iload_n 1, 1) := by decide +kernel
theorem dX5_wave_1 : decode cX5_wave 1 = .ok (.invokestatic 143, 3) := by decide +kernel
theorem dX5_wave_4 : decode cX5_wave 4 = .ok (.ifCond .eq 21, 3) := by decide +kernel
theorem dX5_wave_7 : decode cX5_wave 7 = .ok (.iload_n 2, 1) := by decide +kernel
theorem dX5_wave_8 : decode cX5_wave 8 = .ok (.iconst 0, 1) := by decide +kernel
theorem dX5_wave_9 : decode cX5_wave 9 = .ok (.iconst 2, 1) := by decide +kernel
theorem dX5_wave_10 : decode cX5_wave 10 = .ok (.invokestatic 89, 3) := by decide +kernel
theorem dX5_wave_13 : decode cX5_wave 13 = .ok (.ifCond .eq 12, 3) := by decide +kernel
theorem dX5_wave_16 : decode cX5_wave 16 = .ok (.aload_n 0, 1) := by decide +kernel
theorem dX5_wave_17 : decode cX5_wave 17 = .ok (.iload_n 1, 1) := by decide +kernel
theorem dX5_wave_18 : decode cX5_wave 18 = .ok (.iload_n 2, 1) := by decide +kernel
theorem dX5_wave_19 : decode cX5_wave 19 = .ok (.invokevirtual 204, 3) := by decide +kernel
theorem dX5_wave_22 : decode cX5_wave 22 = .ok (.goto 5, 3) := by decide +kernel
theorem dX5_wave_25 : decode cX5_wave 25 = .ok (.bipush (-2), 2) := by decide +kernel
theorem dX5_wave_27 : decode cX5_wave 27 = .ok (.ireturn, 1) := by decide +kernel
theorem dX5_timeOf_0 : decode cX5_timeOf 0 = .ok (.iconst 0, 1) := by decide +kernel
theorem dX5_timeOf_1 : decode cX5_timeOf 1 = .ok (.istore_n 2, 1) := by decide +kernel
theorem dX5_timeOf_2 : decode cX5_timeOf 2 = .ok (.iload_n 2, 1) := by decide +kernel
theorem dX5_timeOf_3 : decode cX5_timeOf 3 = .ok (.sipush 240, 3) := by decide +kernel
theorem dX5_timeOf_6 : decode cX5_timeOf 6 = .ok (.if_icmp .ge 21, 3) := by decide +kernel
theorem dX5_timeOf_9 : decode cX5_timeOf 9 = .ok (.aload_n 0, 1) := by decide +kernel
theorem dX5_timeOf_10 : decode cX5_timeOf 10 = .ok (.getfield 55, 3) := by decide +kernel
theorem dX5_timeOf_13 : decode cX5_timeOf 13 = .ok (.iload_n 2, 1) := by decide +kernel
theorem dX5_timeOf_14 : decode cX5_timeOf 14 = .ok (.iaload, 1) := by decide +kernel
theorem dX5_timeOf_15 : decode cX5_timeOf 15 = .ok (.iload_n 1, 1) := by decide +kernel
theorem dX5_timeOf_16 : decode cX5_timeOf 16 = .ok (.if_icmp .ne 5, 3) := by decide +kernel
theorem dX5_timeOf_19 : decode cX5_timeOf 19 = .ok (.iload_n 2, 1) := by decide +kernel
theorem dX5_timeOf_20 : decode cX5_timeOf 20 = .ok (.ireturn, 1) := by decide +kernel
theorem dX5_timeOf_21 : decode cX5_timeOf 21 = .ok (.iinc 2 1, 3) := by decide +kernel
theorem dX5_timeOf_24 : decode cX5_timeOf 24 = .ok (.goto (-22), 3) := by decide +kernel
theorem dX5_timeOf_27 : decode cX5_timeOf 27 = .ok (.iconst (-1), 1) := by decide +kernel
theorem dX5_timeOf_28 : decode cX5_timeOf 28 = .ok (.ireturn, 1) := by decide +kernel
theorem dX5_whenOf_0 : decode cX5_whenOf 0 = .ok (.aload_n 0, 1) := by decide +kernel
theorem dX5_whenOf_1 : decode cX5_whenOf 1 = .ok (.invokevirtual 198, 3) := by decide +kernel
theorem dX5_whenOf_4 : decode cX5_whenOf 4 = .ok (.aload_n 0, 1) := by decide +kernel
theorem dX5_whenOf_5 : decode cX5_whenOf 5 = .ok (.iload_n 1, 1) := by decide +kernel
theorem dX5_whenOf_6 : decode cX5_whenOf 6 = .ok (.invokevirtual 207, 3) := by decide +kernel
theorem dX5_whenOf_9 : decode cX5_whenOf 9 = .ok (.ireturn, 1) := by decide +kernel
theorem dX5_when_0 : decode cX5_when 0 = .ok (.iload_n 1, 1) := by decide +kernel
theorem dX5_when_1 : decode cX5_when 1 = .ok (.invokestatic 149, 3) := by decide +kernel
theorem dX5_when_4 : decode cX5_when 4 = .ok (.ifCond .eq 11, 3) := by decide +kernel
theorem dX5_when_7 : decode cX5_when 7 = .ok (.aload_n 0, 1) := by decide +kernel
theorem dX5_when_8 : decode cX5_when 8 = .ok (.iload_n 1, 1) := by decide +kernel
theorem dX5_when_9 : decode cX5_when 9 = .ok (.invokevirtual 210, 3) := by decide +kernel
theorem dX5_when_12 : decode cX5_when 12 = .ok (.goto 5, 3) := by decide +kernel
theorem dX5_when_15 : decode cX5_when 15 = .ok (.bipush (-2), 2) := by decide +kernel
theorem dX5_when_17 : decode cX5_when 17 = .ok (.ireturn, 1) := by decide +kernel
theorem dX5_calledOf_0 : decode cX5_calledOf 0 = .ok (.aload_n 0, 1) := by decide +kernel
theorem dX5_calledOf_1 : decode cX5_calledOf 1 = .ok (.invokevirtual 198, 3) := by decide +kernel
theorem dX5_calledOf_4 : decode cX5_calledOf 4 = .ok (.iconst 0, 1) := by decide +kernel
theorem dX5_calledOf_5 : decode cX5_calledOf 5 = .ok (.istore_n 3, 1) := by decide +kernel
theorem dX5_calledOf_6 : decode cX5_calledOf 6 = .ok (.iload_n 1, 1) := by decide +kernel
theorem dX5_calledOf_7 : decode cX5_calledOf 7 = .ok (.istore 4, 2) := by decide +kernel
theorem dX5_calledOf_9 : decode cX5_calledOf 9 = .ok (.iload 4, 2) := by decide +kernel
theorem dX5_calledOf_11 : decode cX5_calledOf 11 = .ok (.iload_n 2, 1) := by decide +kernel
theorem dX5_calledOf_12 : decode cX5_calledOf 12 = .ok (.if_icmp .gt 27, 3) := by decide +kernel
theorem dX5_calledOf_15 : decode cX5_calledOf 15 = .ok (.iload_n 3, 1) := by decide +kernel
theorem dX5_calledOf_16 : decode cX5_calledOf 16 = .ok (.aload_n 0, 1) := by decide +kernel
theorem dX5_calledOf_17 : decode cX5_calledOf 17 = .ok (.getfield 55, 3) := by decide +kernel
theorem dX5_calledOf_20 : decode cX5_calledOf 20 = .ok (.iload 4, 2) := by decide +kernel
theorem dX5_calledOf_22 : decode cX5_calledOf 22 = .ok (.iaload, 1) := by decide +kernel
theorem dX5_calledOf_23 : decode cX5_calledOf 23 = .ok (.ifCond .le 7, 3) := by decide +kernel
theorem dX5_calledOf_26 : decode cX5_calledOf 26 = .ok (.iconst 1, 1) := by decide +kernel
theorem dX5_calledOf_27 : decode cX5_calledOf 27 = .ok (.goto 4, 3) := by decide +kernel
theorem dX5_calledOf_30 : decode cX5_calledOf 30 = .ok (.iconst 0, 1) := by decide +kernel
theorem dX5_calledOf_31 : decode cX5_calledOf 31 = .ok (.iadd, 1) := by decide +kernel
theorem dX5_calledOf_32 : decode cX5_calledOf 32 = .ok (.istore_n 3, 1) := by decide +kernel
theorem dX5_calledOf_33 : decode cX5_calledOf 33 = .ok (.iinc 4 1, 3) := by decide +kernel
theorem dX5_calledOf_36 : decode cX5_calledOf 36 = .ok (.goto (-27), 3) := by decide +kernel
theorem dX5_calledOf_39 : decode cX5_calledOf 39 = .ok (.iload_n 3, 1) := by decide +kernel
theorem dX5_calledOf_40 : decode cX5_calledOf 40 = .ok (.ireturn, 1) := by decide +kernel
theorem dX5_called_0 : decode cX5_called 0 = .ok (.iload_n 1, 1) := by decide +kernel
theorem dX5_called_1 : decode cX5_called 1 = .ok (.invokestatic 143, 3) := by decide +kernel
theorem dX5_called_4 : decode cX5_called 4 = .ok (.ifCond .eq 19, 3) := by decide +kernel
theorem dX5_called_7 : decode cX5_called 7 = .ok (.iload_n 2, 1) := by decide +kernel
theorem dX5_called_8 : decode cX5_called 8 = .ok (.invokestatic 143, 3) := by decide +kernel
theorem dX5_called_11 : decode cX5_called 11 = .ok (.ifCond .eq 12, 3) := by decide +kernel
theorem dX5_called_14 : decode cX5_called 14 = .ok (.aload_n 0, 1) := by decide +kernel
theorem dX5_called_15 : decode cX5_called 15 = .ok (.iload_n 1, 1) := by decide +kernel
theorem dX5_called_16 : decode cX5_called 16 = .ok (.iload_n 2, 1) := by decide +kernel
theorem dX5_called_17 : decode cX5_called 17 = .ok (.invokevirtual 213, 3) := by decide +kernel
theorem dX5_called_20 : decode cX5_called 20 = .ok (.goto 5, 3) := by decide +kernel
theorem dX5_called_23 : decode cX5_called 23 = .ok (.bipush (-2), 2) := by decide +kernel
theorem dX5_called_25 : decode cX5_called 25 = .ok (.ireturn, 1) := by decide +kernel
theorem dX5_bringsNow_0 : decode cX5_bringsNow 0 = .ok (.iconst 0, 1) := by decide +kernel
theorem dX5_bringsNow_1 : decode cX5_bringsNow 1 = .ok (.istore_n 2, 1) := by decide +kernel
theorem dX5_bringsNow_2 : decode cX5_bringsNow 2 = .ok (.iconst 0, 1) := by decide +kernel
theorem dX5_bringsNow_3 : decode cX5_bringsNow 3 = .ok (.istore_n 3, 1) := by decide +kernel
theorem dX5_bringsNow_4 : decode cX5_bringsNow 4 = .ok (.iload_n 3, 1) := by decide +kernel
theorem dX5_bringsNow_5 : decode cX5_bringsNow 5 = .ok (.aload_n 0, 1) := by decide +kernel
theorem dX5_bringsNow_6 : decode cX5_bringsNow 6 = .ok (.getfield 108, 3) := by decide +kernel
theorem dX5_bringsNow_9 : decode cX5_bringsNow 9 = .ok (.if_icmp .ge 39, 3) := by decide +kernel
theorem dX5_bringsNow_12 : decode cX5_bringsNow 12 = .ok (.iload_n 2, 1) := by decide +kernel
theorem dX5_bringsNow_13 : decode cX5_bringsNow 13 = .ok (.iload_n 1, 1) := by decide +kernel
theorem dX5_bringsNow_14 : decode cX5_bringsNow 14 = .ok (.aload_n 0, 1) := by decide +kernel
theorem dX5_bringsNow_15 : decode cX5_bringsNow 15 = .ok (.getfield 25, 3) := by decide +kernel
theorem dX5_bringsNow_18 : decode cX5_bringsNow 18 = .ok (.iload_n 3, 1) := by decide +kernel
theorem dX5_bringsNow_19 : decode cX5_bringsNow 19 = .ok (.iaload, 1) := by decide +kernel
theorem dX5_bringsNow_20 : decode cX5_bringsNow 20 = .ok (.irem, 1) := by decide +kernel
theorem dX5_bringsNow_21 : decode cX5_bringsNow 21 = .ok (.aload_n 0, 1) := by decide +kernel
theorem dX5_bringsNow_22 : decode cX5_bringsNow 22 = .ok (.getfield 28, 3) := by decide +kernel
theorem dX5_bringsNow_25 : decode cX5_bringsNow 25 = .ok (.iload_n 3, 1) := by decide +kernel
theorem dX5_bringsNow_26 : decode cX5_bringsNow 26 = .ok (.iaload, 1) := by decide +kernel
theorem dX5_bringsNow_27 : decode cX5_bringsNow 27 = .ok (.if_icmp .ne 12, 3) := by decide +kernel
theorem dX5_bringsNow_30 : decode cX5_bringsNow 30 = .ok (.aload_n 0, 1) := by decide +kernel
theorem dX5_bringsNow_31 : decode cX5_bringsNow 31 = .ok (.getfield 31, 3) := by decide +kernel
theorem dX5_bringsNow_34 : decode cX5_bringsNow 34 = .ok (.iload_n 3, 1) := by decide +kernel
theorem dX5_bringsNow_35 : decode cX5_bringsNow 35 = .ok (.iaload, 1) := by decide +kernel
theorem dX5_bringsNow_36 : decode cX5_bringsNow 36 = .ok (.goto 4, 3) := by decide +kernel
theorem dX5_bringsNow_39 : decode cX5_bringsNow 39 = .ok (.iconst 0, 1) := by decide +kernel
theorem dX5_bringsNow_40 : decode cX5_bringsNow 40 = .ok (.iadd, 1) := by decide +kernel
theorem dX5_bringsNow_41 : decode cX5_bringsNow 41 = .ok (.istore_n 2, 1) := by decide +kernel
theorem dX5_bringsNow_42 : decode cX5_bringsNow 42 = .ok (.iinc 3 1, 3) := by decide +kernel
theorem dX5_bringsNow_45 : decode cX5_bringsNow 45 = .ok (.goto (-41), 3) := by decide +kernel
theorem dX5_bringsNow_48 : decode cX5_bringsNow 48 = .ok (.iload_n 2, 1) := by decide +kernel
theorem dX5_bringsNow_49 : decode cX5_bringsNow 49 = .ok (.ireturn, 1) := by decide +kernel
theorem dX5_bringsOf_0 : decode cX5_bringsOf 0 = .ok (.aload_n 0, 1) := by decide +kernel
theorem dX5_bringsOf_1 : decode cX5_bringsOf 1 = .ok (.invokevirtual 122, 3) := by decide +kernel
theorem dX5_bringsOf_4 : decode cX5_bringsOf 4 = .ok (.aload_n 0, 1) := by decide +kernel
theorem dX5_bringsOf_5 : decode cX5_bringsOf 5 = .ok (.iload_n 1, 1) := by decide +kernel
theorem dX5_bringsOf_6 : decode cX5_bringsOf 6 = .ok (.invokevirtual 216, 3) := by decide +kernel
theorem dX5_bringsOf_9 : decode cX5_bringsOf 9 = .ok (.ireturn, 1) := by decide +kernel
theorem dX5_brings_0 : decode cX5_brings 0 = .ok (.iload_n 1, 1) := by decide +kernel
theorem dX5_brings_1 : decode cX5_brings 1 = .ok (.invokestatic 149, 3) := by decide +kernel
theorem dX5_brings_4 : decode cX5_brings 4 = .ok (.ifCond .eq 11, 3) := by decide +kernel
theorem dX5_brings_7 : decode cX5_brings 7 = .ok (.aload_n 0, 1) := by decide +kernel
theorem dX5_brings_8 : decode cX5_brings 8 = .ok (.iload_n 1, 1) := by decide +kernel
theorem dX5_brings_9 : decode cX5_brings 9 = .ok (.invokevirtual 219, 3) := by decide +kernel
theorem dX5_brings_12 : decode cX5_brings 12 = .ok (.goto 5, 3) := by decide +kernel
theorem dX5_brings_15 : decode cX5_brings 15 = .ok (.bipush (-2), 2) := by decide +kernel
theorem dX5_brings_17 : decode cX5_brings 17 = .ok (.ireturn, 1) := by decide +kernel
theorem dX5_holderOf_0 : decode cX5_holderOf 0 = .ok (.iconst 0, 1) := by decide +kernel
theorem dX5_holderOf_1 : decode cX5_holderOf 1 = .ok (.istore_n 2, 1) := by decide +kernel
theorem dX5_holderOf_2 : decode cX5_holderOf 2 = .ok (.iload_n 2, 1) := by decide +kernel
theorem dX5_holderOf_3 : decode cX5_holderOf 3 = .ok (.aload_n 0, 1) := by decide +kernel
theorem dX5_holderOf_4 : decode cX5_holderOf 4 = .ok (.getfield 170, 3) := by decide +kernel
theorem dX5_holderOf_7 : decode cX5_holderOf 7 = .ok (.if_icmp .ge 26, 3) := by decide +kernel
theorem dX5_holderOf_10 : decode cX5_holderOf 10 = .ok (.aload_n 0, 1) := by decide +kernel
theorem dX5_holderOf_11 : decode cX5_holderOf 11 = .ok (.getfield 46, 3) := by decide +kernel
theorem dX5_holderOf_14 : decode cX5_holderOf 14 = .ok (.iload_n 2, 1) := by decide +kernel
theorem dX5_holderOf_15 : decode cX5_holderOf 15 = .ok (.iaload, 1) := by decide +kernel
theorem dX5_holderOf_16 : decode cX5_holderOf 16 = .ok (.iload_n 1, 1) := by decide +kernel
theorem dX5_holderOf_17 : decode cX5_holderOf 17 = .ok (.if_icmp .ne 10, 3) := by decide +kernel
theorem dX5_holderOf_20 : decode cX5_holderOf 20 = .ok (.aload_n 0, 1) := by decide +kernel
theorem dX5_holderOf_21 : decode cX5_holderOf 21 = .ok (.getfield 43, 3) := by decide +kernel
theorem dX5_holderOf_24 : decode cX5_holderOf 24 = .ok (.iload_n 2, 1) := by decide +kernel
theorem dX5_holderOf_25 : decode cX5_holderOf 25 = .ok (.iaload, 1) := by decide +kernel
theorem dX5_holderOf_26 : decode cX5_holderOf 26 = .ok (.ireturn, 1) := by decide +kernel
theorem dX5_holderOf_27 : decode cX5_holderOf 27 = .ok (.iinc 2 1, 3) := by decide +kernel
theorem dX5_holderOf_30 : decode cX5_holderOf 30 = .ok (.goto (-28), 3) := by decide +kernel
theorem dX5_holderOf_33 : decode cX5_holderOf 33 = .ok (.iconst (-1), 1) := by decide +kernel
theorem dX5_holderOf_34 : decode cX5_holderOf 34 = .ok (.ireturn, 1) := by decide +kernel
theorem dX5_claimsNow_0 : decode cX5_claimsNow 0 = .ok (.iconst 0, 1) := by decide +kernel
theorem dX5_claimsNow_1 : decode cX5_claimsNow 1 = .ok (.istore_n 2, 1) := by decide +kernel
theorem dX5_claimsNow_2 : decode cX5_claimsNow 2 = .ok (.iconst 0, 1) := by decide +kernel
theorem dX5_claimsNow_3 : decode cX5_claimsNow 3 = .ok (.istore_n 3, 1) := by decide +kernel
theorem dX5_claimsNow_4 : decode cX5_claimsNow 4 = .ok (.iload_n 3, 1) := by decide +kernel
theorem dX5_claimsNow_5 : decode cX5_claimsNow 5 = .ok (.sipush 240, 3) := by decide +kernel
theorem dX5_claimsNow_8 : decode cX5_claimsNow 8 = .ok (.if_icmp .ge 101, 3) := by decide +kernel
theorem dX5_claimsNow_11 : decode cX5_claimsNow 11 = .ok (.aload_n 0, 1) := by decide +kernel
theorem dX5_claimsNow_12 : decode cX5_claimsNow 12 = .ok (.getfield 55, 3) := by decide +kernel
theorem dX5_claimsNow_15 : decode cX5_claimsNow 15 = .ok (.iload_n 3, 1) := by decide +kernel
theorem dX5_claimsNow_16 : decode cX5_claimsNow 16 = .ok (.iaload, 1) := by decide +kernel
theorem dX5_claimsNow_17 : decode cX5_claimsNow 17 = .ok (.istore 4, 2) := by decide +kernel
theorem dX5_claimsNow_19 : decode cX5_claimsNow 19 = .ok (.iload 4, 2) := by decide +kernel
theorem dX5_claimsNow_21 : decode cX5_claimsNow 21 = .ok (.ifCond .le 82, 3) := by decide +kernel
theorem dX5_claimsNow_24 : decode cX5_claimsNow 24 = .ok (.aload_n 0, 1) := by decide +kernel
theorem dX5_claimsNow_25 : decode cX5_claimsNow 25 = .ok (.iload 4, 2) := by decide +kernel
theorem dX5_claimsNow_27 : decode cX5_claimsNow 27 = .ok (.invokevirtual 216, 3) := by decide +kernel
theorem dX5_claimsNow_30 : decode cX5_claimsNow 30 = .ok (.istore 5, 2) := by decide +kernel
theorem dX5_claimsNow_32 : decode cX5_claimsNow 32 = .ok (.aload_n 0, 1) := by decide +kernel
theorem dX5_claimsNow_33 : decode cX5_claimsNow 33 = .ok (.getfield 52, 3) := by decide +kernel
theorem dX5_claimsNow_36 : decode cX5_claimsNow 36 = .ok (.iload_n 3, 1) := by decide +kernel
theorem dX5_claimsNow_37 : decode cX5_claimsNow 37 = .ok (.iaload, 1) := by decide +kernel
theorem dX5_claimsNow_38 : decode cX5_claimsNow 38 = .ok (.iconst 1, 1) := by decide +kernel
theorem dX5_claimsNow_39 : decode cX5_claimsNow 39 = .ok (.if_icmp .le 10, 3) := by decide +kernel
theorem dX5_claimsNow_42 : decode cX5_claimsNow 42 = .ok (.iload 5, 2) := by decide +kernel
theorem dX5_claimsNow_44 : decode cX5_claimsNow 44 = .ok (.iconst 2, 1) := by decide +kernel
theorem dX5_claimsNow_45 : decode cX5_claimsNow 45 = .ok (.idiv, 1) := by decide +kernel
theorem dX5_claimsNow_46 : decode cX5_claimsNow 46 = .ok (.goto 5, 3) := by decide +kernel
theorem dX5_claimsNow_49 : decode cX5_claimsNow 49 = .ok (.iload 5, 2) := by decide +kernel
theorem dX5_claimsNow_51 : decode cX5_claimsNow 51 = .ok (.istore 5, 2) := by decide +kernel
theorem dX5_claimsNow_53 : decode cX5_claimsNow 53 = .ok (.iload_n 2, 1) := by decide +kernel
theorem dX5_claimsNow_54 : decode cX5_claimsNow 54 = .ok (.aload_n 0, 1) := by decide +kernel
theorem dX5_claimsNow_55 : decode cX5_claimsNow 55 = .ok (.iload 4, 2) := by decide +kernel
theorem dX5_claimsNow_57 : decode cX5_claimsNow 57 = .ok (.invokevirtual 222, 3) := by decide +kernel
theorem dX5_claimsNow_60 : decode cX5_claimsNow 60 = .ok (.iload_n 1, 1) := by decide +kernel
theorem dX5_claimsNow_61 : decode cX5_claimsNow 61 = .ok (.if_icmp .ne 8, 3) := by decide +kernel
theorem dX5_claimsNow_64 : decode cX5_claimsNow 64 = .ok (.iload 5, 2) := by decide +kernel
theorem dX5_claimsNow_66 : decode cX5_claimsNow 66 = .ok (.goto 4, 3) := by decide +kernel
theorem dX5_claimsNow_69 : decode cX5_claimsNow 69 = .ok (.iconst 0, 1) := by decide +kernel
theorem dX5_claimsNow_70 : decode cX5_claimsNow 70 = .ok (.iadd, 1) := by decide +kernel
theorem dX5_claimsNow_71 : decode cX5_claimsNow 71 = .ok (.istore_n 2, 1) := by decide +kernel
theorem dX5_claimsNow_72 : decode cX5_claimsNow 72 = .ok (.iload_n 2, 1) := by decide +kernel
theorem dX5_claimsNow_73 : decode cX5_claimsNow 73 = .ok (.aload_n 0, 1) := by decide +kernel
theorem dX5_claimsNow_74 : decode cX5_claimsNow 74 = .ok (.getfield 52, 3) := by decide +kernel
theorem dX5_claimsNow_77 : decode cX5_claimsNow 77 = .ok (.iload_n 3, 1) := by decide +kernel
theorem dX5_claimsNow_78 : decode cX5_claimsNow 78 = .ok (.iaload, 1) := by decide +kernel
theorem dX5_claimsNow_79 : decode cX5_claimsNow 79 = .ok (.iconst 1, 1) := by decide +kernel
theorem dX5_claimsNow_80 : decode cX5_claimsNow 80 = .ok (.if_icmp .le 20, 3) := by decide +kernel
theorem dX5_claimsNow_83 : decode cX5_claimsNow 83 = .ok (.aload_n 0, 1) := by decide +kernel
theorem dX5_claimsNow_84 : decode cX5_claimsNow 84 = .ok (.iload 4, 2) := by decide +kernel
theorem dX5_claimsNow_86 : decode cX5_claimsNow 86 = .ok (.iconst 1, 1) := by decide +kernel
theorem dX5_claimsNow_87 : decode cX5_claimsNow 87 = .ok (.iadd, 1) := by decide +kernel
theorem dX5_claimsNow_88 : decode cX5_claimsNow 88 = .ok (.invokevirtual 222, 3) := by decide +kernel
theorem dX5_claimsNow_91 : decode cX5_claimsNow 91 = .ok (.iload_n 1, 1) := by decide +kernel
theorem dX5_claimsNow_92 : decode cX5_claimsNow 92 = .ok (.if_icmp .ne 8, 3) := by decide +kernel
theorem dX5_claimsNow_95 : decode cX5_claimsNow 95 = .ok (.iload 5, 2) := by decide +kernel
theorem dX5_claimsNow_97 : decode cX5_claimsNow 97 = .ok (.goto 4, 3) := by decide +kernel
theorem dX5_claimsNow_100 : decode cX5_claimsNow 100 = .ok (.iconst 0, 1) := by decide +kernel
theorem dX5_claimsNow_101 : decode cX5_claimsNow 101 = .ok (.iadd, 1) := by decide +kernel
theorem dX5_claimsNow_102 : decode cX5_claimsNow 102 = .ok (.istore_n 2, 1) := by decide +kernel
theorem dX5_claimsNow_103 : decode cX5_claimsNow 103 = .ok (.iinc 3 1, 3) := by decide +kernel
theorem dX5_claimsNow_106 : decode cX5_claimsNow 106 = .ok (.goto (-102), 3) := by decide +kernel
theorem dX5_claimsNow_109 : decode cX5_claimsNow 109 = .ok (.iload_n 2, 1) := by decide +kernel
theorem dX5_claimsNow_110 : decode cX5_claimsNow 110 = .ok (.ireturn, 1) := by decide +kernel
theorem dX5_claimsOf_0 : decode cX5_claimsOf 0 = .ok (.aload_n 0, 1) := by decide +kernel
theorem dX5_claimsOf_1 : decode cX5_claimsOf 1 = .ok (.invokevirtual 198, 3) := by decide +kernel
theorem dX5_claimsOf_4 : decode cX5_claimsOf 4 = .ok (.aload_n 0, 1) := by decide +kernel
theorem dX5_claimsOf_5 : decode cX5_claimsOf 5 = .ok (.iload_n 1, 1) := by decide +kernel
theorem dX5_claimsOf_6 : decode cX5_claimsOf 6 = .ok (.invokevirtual 225, 3) := by decide +kernel
theorem dX5_claimsOf_9 : decode cX5_claimsOf 9 = .ok (.ireturn, 1) := by decide +kernel
theorem dX5_claims_0 : decode cX5_claims 0 = .ok (.iload_n 1, 1) := by decide +kernel
theorem dX5_claims_1 : decode cX5_claims 1 = .ok (.iconst 0, 1) := by decide +kernel
theorem dX5_claims_2 : decode cX5_claims 2 = .ok (.bipush 7, 2) := by decide +kernel
theorem dX5_claims_4 : decode cX5_claims 4 = .ok (.invokestatic 89, 3) := by decide +kernel
theorem dX5_claims_7 : decode cX5_claims 7 = .ok (.ifCond .eq 11, 3) := by decide +kernel
theorem dX5_claims_10 : decode cX5_claims 10 = .ok (.aload_n 0, 1) := by decide +kernel
theorem dX5_claims_11 : decode cX5_claims 11 = .ok (.iload_n 1, 1) := by decide +kernel
theorem dX5_claims_12 : decode cX5_claims 12 = .ok (.invokevirtual 228, 3) := by decide +kernel
theorem dX5_claims_15 : decode cX5_claims 15 = .ok (.goto 5, 3) := by decide +kernel
theorem dX5_claims_18 : decode cX5_claims 18 = .ok (.bipush (-2), 2) := by decide +kernel
theorem dX5_claims_20 : decode cX5_claims 20 = .ok (.ireturn, 1) := by decide +kernel
theorem dX5_goodOf_0 : decode cX5_goodOf 0 = .ok (.aload_n 0, 1) := by decide +kernel
theorem dX5_goodOf_1 : decode cX5_goodOf 1 = .ok (.invokevirtual 198, 3) := by decide +kernel
theorem dX5_goodOf_4 : decode cX5_goodOf 4 = .ok (.aload_n 0, 1) := by decide +kernel
theorem dX5_goodOf_5 : decode cX5_goodOf 5 = .ok (.aload_n 0, 1) := by decide +kernel
theorem dX5_goodOf_6 : decode cX5_goodOf 6 = .ok (.getfield 46, 3) := by decide +kernel
theorem dX5_goodOf_9 : decode cX5_goodOf 9 = .ok (.iload_n 1, 1) := by decide +kernel
theorem dX5_goodOf_10 : decode cX5_goodOf 10 = .ok (.iaload, 1) := by decide +kernel
theorem dX5_goodOf_11 : decode cX5_goodOf 11 = .ok (.invokevirtual 207, 3) := by decide +kernel
theorem dX5_goodOf_14 : decode cX5_goodOf 14 = .ok (.iconst (-1), 1) := by decide +kernel
theorem dX5_goodOf_15 : decode cX5_goodOf 15 = .ok (.if_icmp .eq 7, 3) := by decide +kernel
theorem dX5_goodOf_18 : decode cX5_goodOf 18 = .ok (.iconst 1, 1) := by decide +kernel
theorem dX5_goodOf_19 : decode cX5_goodOf 19 = .ok (.goto 4, 3) := by decide +kernel
theorem dX5_goodOf_22 : decode cX5_goodOf 22 = .ok (.iconst 0, 1) := by decide +kernel
theorem dX5_goodOf_23 : decode cX5_goodOf 23 = .ok (.istore_n 2, 1) := by decide +kernel
theorem dX5_goodOf_24 : decode cX5_goodOf 24 = .ok (.iconst 0, 1) := by decide +kernel
theorem dX5_goodOf_25 : decode cX5_goodOf 25 = .ok (.istore_n 3, 1) := by decide +kernel
theorem dX5_goodOf_26 : decode cX5_goodOf 26 = .ok (.iload_n 3, 1) := by decide +kernel
theorem dX5_goodOf_27 : decode cX5_goodOf 27 = .ok (.iload_n 1, 1) := by decide +kernel
theorem dX5_goodOf_28 : decode cX5_goodOf 28 = .ok (.if_icmp .ge 34, 3) := by decide +kernel
theorem dX5_goodOf_31 : decode cX5_goodOf 31 = .ok (.iload_n 2, 1) := by decide +kernel
theorem dX5_goodOf_32 : decode cX5_goodOf 32 = .ok (.ifCond .eq 22, 3) := by decide +kernel
theorem dX5_goodOf_35 : decode cX5_goodOf 35 = .ok (.aload_n 0, 1) := by decide +kernel
theorem dX5_goodOf_36 : decode cX5_goodOf 36 = .ok (.getfield 46, 3) := by decide +kernel
theorem dX5_goodOf_39 : decode cX5_goodOf 39 = .ok (.iload_n 3, 1) := by decide +kernel
theorem dX5_goodOf_40 : decode cX5_goodOf 40 = .ok (.iaload, 1) := by decide +kernel
theorem dX5_goodOf_41 : decode cX5_goodOf 41 = .ok (.aload_n 0, 1) := by decide +kernel
theorem dX5_goodOf_42 : decode cX5_goodOf 42 = .ok (.getfield 46, 3) := by decide +kernel
theorem dX5_goodOf_45 : decode cX5_goodOf 45 = .ok (.iload_n 1, 1) := by decide +kernel
theorem dX5_goodOf_46 : decode cX5_goodOf 46 = .ok (.iaload, 1) := by decide +kernel
theorem dX5_goodOf_47 : decode cX5_goodOf 47 = .ok (.if_icmp .eq 7, 3) := by decide +kernel
theorem dX5_goodOf_50 : decode cX5_goodOf 50 = .ok (.iconst 1, 1) := by decide +kernel
theorem dX5_goodOf_51 : decode cX5_goodOf 51 = .ok (.goto 4, 3) := by decide +kernel
theorem dX5_goodOf_54 : decode cX5_goodOf 54 = .ok (.iconst 0, 1) := by decide +kernel
theorem dX5_goodOf_55 : decode cX5_goodOf 55 = .ok (.istore_n 2, 1) := by decide +kernel
theorem dX5_goodOf_56 : decode cX5_goodOf 56 = .ok (.iinc 3 1, 3) := by decide +kernel
theorem dX5_goodOf_59 : decode cX5_goodOf 59 = .ok (.goto (-33), 3) := by decide +kernel
theorem dX5_goodOf_62 : decode cX5_goodOf 62 = .ok (.iload_n 2, 1) := by decide +kernel
theorem dX5_goodOf_63 : decode cX5_goodOf 63 = .ok (.ifCond .eq 7, 3) := by decide +kernel
theorem dX5_goodOf_66 : decode cX5_goodOf 66 = .ok (.iconst 1, 1) := by decide +kernel
theorem dX5_goodOf_67 : decode cX5_goodOf 67 = .ok (.goto 4, 3) := by decide +kernel
theorem dX5_goodOf_70 : decode cX5_goodOf 70 = .ok (.iconst 0, 1) := by decide +kernel
theorem dX5_goodOf_71 : decode cX5_goodOf 71 = .ok (.ireturn, 1) := by decide +kernel
theorem dX5_good_0 : decode cX5_good 0 = .ok (.iload_n 1, 1) := by decide +kernel
theorem dX5_good_1 : decode cX5_good 1 = .ok (.iconst 0, 1) := by decide +kernel
theorem dX5_good_2 : decode cX5_good 2 = .ok (.aload_n 0, 1) := by decide +kernel
theorem dX5_good_3 : decode cX5_good 3 = .ok (.getfield 152, 3) := by decide +kernel
theorem dX5_good_6 : decode cX5_good 6 = .ok (.iconst 1, 1) := by decide +kernel
theorem dX5_good_7 : decode cX5_good 7 = .ok (.isub, 1) := by decide +kernel
theorem dX5_good_8 : decode cX5_good 8 = .ok (.invokestatic 89, 3) := by decide +kernel
theorem dX5_good_11 : decode cX5_good 11 = .ok (.ifCond .eq 11, 3) := by decide +kernel
theorem dX5_good_14 : decode cX5_good 14 = .ok (.aload_n 0, 1) := by decide +kernel
theorem dX5_good_15 : decode cX5_good 15 = .ok (.iload_n 1, 1) := by decide +kernel
theorem dX5_good_16 : decode cX5_good 16 = .ok (.invokevirtual 231, 3) := by decide +kernel
theorem dX5_good_19 : decode cX5_good 19 = .ok (.goto 5, 3) := by decide +kernel
theorem dX5_good_22 : decode cX5_good 22 = .ok (.bipush (-2), 2) := by decide +kernel
theorem dX5_good_24 : decode cX5_good 24 = .ok (.ireturn, 1) := by decide +kernel
theorem dX5_agreeOf_0 : decode cX5_agreeOf 0 = .ok (.aload_n 0, 1) := by decide +kernel
theorem dX5_agreeOf_1 : decode cX5_agreeOf 1 = .ok (.getfield 19, 3) := by decide +kernel
theorem dX5_agreeOf_4 : decode cX5_agreeOf 4 = .ok (.iload_n 1, 1) := by decide +kernel
theorem dX5_agreeOf_5 : decode cX5_agreeOf 5 = .ok (.iaload, 1) := by decide +kernel
theorem dX5_agreeOf_6 : decode cX5_agreeOf 6 = .ok (.i2l, 1) := by decide +kernel
theorem dX5_agreeOf_7 : decode cX5_agreeOf 7 = .ok (.aload_n 0, 1) := by decide +kernel
theorem dX5_agreeOf_8 : decode cX5_agreeOf 8 = .ok (.getfield 19, 3) := by decide +kernel
theorem dX5_agreeOf_11 : decode cX5_agreeOf 11 = .ok (.iload_n 2, 1) := by decide +kernel
theorem dX5_agreeOf_12 : decode cX5_agreeOf 12 = .ok (.iaload, 1) := by decide +kernel
theorem dX5_agreeOf_13 : decode cX5_agreeOf 13 = .ok (.i2l, 1) := by decide +kernel
theorem dX5_agreeOf_14 : decode cX5_agreeOf 14 = .ok (.lmul, 1) := by decide +kernel
theorem dX5_agreeOf_15 : decode cX5_agreeOf 15 = .ok (.aload_n 0, 1) := by decide +kernel
theorem dX5_agreeOf_16 : decode cX5_agreeOf 16 = .ok (.getfield 19, 3) := by decide +kernel
theorem dX5_agreeOf_19 : decode cX5_agreeOf 19 = .ok (.iload_n 1, 1) := by decide +kernel
theorem dX5_agreeOf_20 : decode cX5_agreeOf 20 = .ok (.iaload, 1) := by decide +kernel
theorem dX5_agreeOf_21 : decode cX5_agreeOf 21 = .ok (.aload_n 0, 1) := by decide +kernel
theorem dX5_agreeOf_22 : decode cX5_agreeOf 22 = .ok (.getfield 19, 3) := by decide +kernel
theorem dX5_agreeOf_25 : decode cX5_agreeOf 25 = .ok (.iload_n 2, 1) := by decide +kernel
theorem dX5_agreeOf_26 : decode cX5_agreeOf 26 = .ok (.iaload, 1) := by decide +kernel
theorem dX5_agreeOf_27 : decode cX5_agreeOf 27 = .ok (.invokestatic 234, 3) := by decide +kernel
theorem dX5_agreeOf_30 : decode cX5_agreeOf 30 = .ok (.i2l, 1) := by decide +kernel
theorem dX5_agreeOf_31 : decode cX5_agreeOf 31 = .ok (.ldiv, 1) := by decide +kernel
theorem dX5_agreeOf_32 : decode cX5_agreeOf 32 = .ok (.l2i, 1) := by decide +kernel
theorem dX5_agreeOf_33 : decode cX5_agreeOf 33 = .ok (.istore 5, 2) := by decide +kernel
theorem dX5_agreeOf_35 : decode cX5_agreeOf 35 = .ok (.aload_n 0, 1) := by decide +kernel
theorem dX5_agreeOf_36 : decode cX5_agreeOf 36 = .ok (.getfield 22, 3) := by decide +kernel
theorem dX5_agreeOf_39 : decode cX5_agreeOf 39 = .ok (.iload_n 1, 1) := by decide +kernel
theorem dX5_agreeOf_40 : decode cX5_agreeOf 40 = .ok (.iaload, 1) := by decide +kernel
theorem dX5_agreeOf_41 : decode cX5_agreeOf 41 = .ok (.aload_n 0, 1) := by decide +kernel
theorem dX5_agreeOf_42 : decode cX5_agreeOf 42 = .ok (.getfield 22, 3) := by decide +kernel
theorem dX5_agreeOf_45 : decode cX5_agreeOf 45 = .ok (.iload_n 2, 1) := by decide +kernel
theorem dX5_agreeOf_46 : decode cX5_agreeOf 46 = .ok (.iaload, 1) := by decide +kernel
theorem dX5_agreeOf_47 : decode cX5_agreeOf 47 = .ok (.if_icmp .le 12, 3) := by decide +kernel
theorem dX5_agreeOf_50 : decode cX5_agreeOf 50 = .ok (.aload_n 0, 1) := by decide +kernel
theorem dX5_agreeOf_51 : decode cX5_agreeOf 51 = .ok (.getfield 22, 3) := by decide +kernel
theorem dX5_agreeOf_54 : decode cX5_agreeOf 54 = .ok (.iload_n 1, 1) := by decide +kernel
theorem dX5_agreeOf_55 : decode cX5_agreeOf 55 = .ok (.iaload, 1) := by decide +kernel
theorem dX5_agreeOf_56 : decode cX5_agreeOf 56 = .ok (.goto 9, 3) := by decide +kernel
theorem dX5_agreeOf_59 : decode cX5_agreeOf 59 = .ok (.aload_n 0, 1) := by decide +kernel
theorem dX5_agreeOf_60 : decode cX5_agreeOf 60 = .ok (.getfield 22, 3) := by decide +kernel
theorem dX5_agreeOf_63 : decode cX5_agreeOf 63 = .ok (.iload_n 2, 1) := by decide +kernel
theorem dX5_agreeOf_64 : decode cX5_agreeOf 64 = .ok (.iaload, 1) := by decide +kernel
theorem dX5_agreeOf_65 : decode cX5_agreeOf 65 = .ok (.istore 6, 2) := by decide +kernel
theorem dX5_agreeOf_67 : decode cX5_agreeOf 67 = .ok (.iload_n 3, 1) := by decide +kernel
theorem dX5_agreeOf_68 : decode cX5_agreeOf 68 = .ok (.iload 6, 2) := by decide +kernel
theorem dX5_agreeOf_70 : decode cX5_agreeOf 70 = .ok (.if_icmp .le 7, 3) := by decide +kernel
theorem dX5_agreeOf_73 : decode cX5_agreeOf 73 = .ok (.iload_n 3, 1) := by decide +kernel
theorem dX5_agreeOf_74 : decode cX5_agreeOf 74 = .ok (.goto 5, 3) := by decide +kernel
theorem dX5_agreeOf_77 : decode cX5_agreeOf 77 = .ok (.iload 6, 2) := by decide +kernel
theorem dX5_agreeOf_79 : decode cX5_agreeOf 79 = .ok (.istore 6, 2) := by decide +kernel
theorem dX5_agreeOf_81 : decode cX5_agreeOf 81 = .ok (.iload 6, 2) := by decide +kernel
theorem dX5_agreeOf_83 : decode cX5_agreeOf 83 = .ok (.istore 7, 2) := by decide +kernel
theorem dX5_agreeOf_85 : decode cX5_agreeOf 85 = .ok (.iload 7, 2) := by decide +kernel
theorem dX5_agreeOf_87 : decode cX5_agreeOf 87 = .ok (.iload 6, 2) := by decide +kernel
theorem dX5_agreeOf_89 : decode cX5_agreeOf 89 = .ok (.iload 5, 2) := by decide +kernel
theorem dX5_agreeOf_91 : decode cX5_agreeOf 91 = .ok (.iadd, 1) := by decide +kernel
theorem dX5_agreeOf_92 : decode cX5_agreeOf 92 = .ok (.if_icmp .ge 42, 3) := by decide +kernel
theorem dX5_agreeOf_95 : decode cX5_agreeOf 95 = .ok (.aload_n 0, 1) := by decide +kernel
theorem dX5_agreeOf_96 : decode cX5_agreeOf 96 = .ok (.iload_n 1, 1) := by decide +kernel
theorem dX5_agreeOf_97 : decode cX5_agreeOf 97 = .ok (.iload 7, 2) := by decide +kernel
theorem dX5_agreeOf_99 : decode cX5_agreeOf 99 = .ok (.invokevirtual 179, 3) := by decide +kernel
theorem dX5_agreeOf_102 : decode cX5_agreeOf 102 = .ok (.ifCond .eq 26, 3) := by decide +kernel
theorem dX5_agreeOf_105 : decode cX5_agreeOf 105 = .ok (.aload_n 0, 1) := by decide +kernel
theorem dX5_agreeOf_106 : decode cX5_agreeOf 106 = .ok (.iload_n 2, 1) := by decide +kernel
theorem dX5_agreeOf_107 : decode cX5_agreeOf 107 = .ok (.iload 7, 2) := by decide +kernel
theorem dX5_agreeOf_109 : decode cX5_agreeOf 109 = .ok (.invokevirtual 179, 3) := by decide +kernel
theorem dX5_agreeOf_112 : decode cX5_agreeOf 112 = .ok (.ifCond .eq 16, 3) := by decide +kernel
theorem dX5_agreeOf_115 : decode cX5_agreeOf 115 = .ok (.iload 4, 2) := by decide +kernel
theorem dX5_agreeOf_117 : decode cX5_agreeOf 117 = .ok (.ifCond .ne 8, 3) := by decide +kernel
theorem dX5_agreeOf_120 : decode cX5_agreeOf 120 = .ok (.iload 7, 2) := by decide +kernel
theorem dX5_agreeOf_122 : decode cX5_agreeOf 122 = .ok (.goto 5, 3) := by decide +kernel
theorem dX5_agreeOf_125 : decode cX5_agreeOf 125 = .ok (.iload 5, 2) := by decide +kernel
theorem dX5_agreeOf_127 : decode cX5_agreeOf 127 = .ok (.ireturn, 1) := by decide +kernel
theorem dX5_agreeOf_128 : decode cX5_agreeOf 128 = .ok (.iinc 7 1, 3) := by decide +kernel
theorem dX5_agreeOf_131 : decode cX5_agreeOf 131 = .ok (.goto (-46), 3) := by decide +kernel
theorem dX5_agreeOf_134 : decode cX5_agreeOf 134 = .ok (.iconst (-1), 1) := by decide +kernel
theorem dX5_agreeOf_135 : decode cX5_agreeOf 135 = .ok (.ireturn, 1) := by decide +kernel
theorem dX5_lowestBy_0 : decode cX5_lowestBy 0 = .ok (.iload_n 0, 1) := by decide +kernel
theorem dX5_lowestBy_1 : decode cX5_lowestBy 1 = .ok (.istore_n 2, 1) := by decide +kernel
theorem dX5_lowestBy_2 : decode cX5_lowestBy 2 = .ok (.iload_n 1, 1) := by decide +kernel
theorem dX5_lowestBy_3 : decode cX5_lowestBy 3 = .ok (.istore_n 3, 1) := by decide +kernel
theorem dX5_lowestBy_4 : decode cX5_lowestBy 4 = .ok (.iload_n 3, 1) := by decide +kernel
theorem dX5_lowestBy_5 : decode cX5_lowestBy 5 = .ok (.ifCond .eq 16, 3) := by decide +kernel
theorem dX5_lowestBy_8 : decode cX5_lowestBy 8 = .ok (.iload_n 2, 1) := by decide +kernel
theorem dX5_lowestBy_9 : decode cX5_lowestBy 9 = .ok (.iload_n 3, 1) := by decide +kernel
theorem dX5_lowestBy_10 : decode cX5_lowestBy 10 = .ok (.irem, 1) := by decide +kernel
theorem dX5_lowestBy_11 : decode cX5_lowestBy 11 = .ok (.istore 4, 2) := by decide +kernel
theorem dX5_lowestBy_13 : decode cX5_lowestBy 13 = .ok (.iload_n 3, 1) := by decide +kernel
theorem dX5_lowestBy_14 : decode cX5_lowestBy 14 = .ok (.istore_n 2, 1) := by decide +kernel
theorem dX5_lowestBy_15 : decode cX5_lowestBy 15 = .ok (.iload 4, 2) := by decide +kernel
theorem dX5_lowestBy_17 : decode cX5_lowestBy 17 = .ok (.istore_n 3, 1) := by decide +kernel
theorem dX5_lowestBy_18 : decode cX5_lowestBy 18 = .ok (.goto (-14), 3) := by decide +kernel
theorem dX5_lowestBy_21 : decode cX5_lowestBy 21 = .ok (.iload_n 2, 1) := by decide +kernel
theorem dX5_lowestBy_22 : decode cX5_lowestBy 22 = .ok (.ireturn, 1) := by decide +kernel
theorem dX5_agree_0 : decode cX5_agree 0 = .ok (.aload_n 0, 1) := by decide +kernel
theorem dX5_agree_1 : decode cX5_agree 1 = .ok (.iload_n 1, 1) := by decide +kernel
theorem dX5_agree_2 : decode cX5_agree 2 = .ok (.invokevirtual 125, 3) := by decide +kernel
theorem dX5_agree_5 : decode cX5_agree 5 = .ok (.ifCond .eq 45, 3) := by decide +kernel
theorem dX5_agree_8 : decode cX5_agree 8 = .ok (.aload_n 0, 1) := by decide +kernel
theorem dX5_agree_9 : decode cX5_agree 9 = .ok (.iload_n 2, 1) := by decide +kernel
theorem dX5_agree_10 : decode cX5_agree 10 = .ok (.invokevirtual 125, 3) := by decide +kernel
theorem dX5_agree_13 : decode cX5_agree 13 = .ok (.ifCond .eq 37, 3) := by decide +kernel
theorem dX5_agree_16 : decode cX5_agree 16 = .ok (.iload_n 1, 1) := by decide +kernel
theorem dX5_agree_17 : decode cX5_agree 17 = .ok (.iload_n 2, 1) := by decide +kernel
theorem dX5_agree_18 : decode cX5_agree 18 = .ok (.if_icmp .eq 32, 3) := by decide +kernel
theorem dX5_agree_21 : decode cX5_agree 21 = .ok (.iload_n 3, 1) := by decide +kernel
theorem dX5_agree_22 : decode cX5_agree 22 = .ok (.invokestatic 143, 3) := by decide +kernel
theorem dX5_agree_25 : decode cX5_agree 25 = .ok (.ifCond .eq 25, 3) := by decide +kernel
theorem dX5_agree_28 : decode cX5_agree 28 = .ok (.iload 4, 2) := by decide +kernel
theorem dX5_agree_30 : decode cX5_agree 30 = .ok (.iconst 0, 1) := by decide +kernel
theorem dX5_agree_31 : decode cX5_agree 31 = .ok (.iconst 1, 1) := by decide +kernel
theorem dX5_agree_32 : decode cX5_agree 32 = .ok (.invokestatic 89, 3) := by decide +kernel
theorem dX5_agree_35 : decode cX5_agree 35 = .ok (.ifCond .eq 15, 3) := by decide +kernel
theorem dX5_agree_38 : decode cX5_agree 38 = .ok (.aload_n 0, 1) := by decide +kernel
theorem dX5_agree_39 : decode cX5_agree 39 = .ok (.iload_n 1, 1) := by decide +kernel
theorem dX5_agree_40 : decode cX5_agree 40 = .ok (.iload_n 2, 1) := by decide +kernel
theorem dX5_agree_41 : decode cX5_agree 41 = .ok (.iload_n 3, 1) := by decide +kernel
theorem dX5_agree_42 : decode cX5_agree 42 = .ok (.iload 4, 2) := by decide +kernel
theorem dX5_agree_44 : decode cX5_agree 44 = .ok (.invokevirtual 237, 3) := by decide +kernel
theorem dX5_agree_47 : decode cX5_agree 47 = .ok (.goto 5, 3) := by decide +kernel
theorem dX5_agree_50 : decode cX5_agree 50 = .ok (.bipush (-2), 2) := by decide +kernel
theorem dX5_agree_52 : decode cX5_agree 52 = .ok (.ireturn, 1) := by decide +kernel
theorem dX5_runOf_0 : decode cX5_runOf 0 = .ok (.aload_n 0, 1) := by decide +kernel
theorem dX5_runOf_1 : decode cX5_runOf 1 = .ok (.invokevirtual 198, 3) := by decide +kernel
theorem dX5_runOf_4 : decode cX5_runOf 4 = .ok (.iconst 0, 1) := by decide +kernel
theorem dX5_runOf_5 : decode cX5_runOf 5 = .ok (.istore_n 3, 1) := by decide +kernel
theorem dX5_runOf_6 : decode cX5_runOf 6 = .ok (.iload_n 3, 1) := by decide +kernel
theorem dX5_runOf_7 : decode cX5_runOf 7 = .ok (.sipush 401, 3) := by decide +kernel
theorem dX5_runOf_10 : decode cX5_runOf 10 = .ok (.if_icmp .ge 16, 3) := by decide +kernel
theorem dX5_runOf_13 : decode cX5_runOf 13 = .ok (.aload_n 0, 1) := by decide +kernel
theorem dX5_runOf_14 : decode cX5_runOf 14 = .ok (.getfield 58, 3) := by decide +kernel
theorem dX5_runOf_17 : decode cX5_runOf 17 = .ok (.iload_n 3, 1) := by decide +kernel
theorem dX5_runOf_18 : decode cX5_runOf 18 = .ok (.iconst 0, 1) := by decide +kernel
theorem dX5_runOf_19 : decode cX5_runOf 19 = .ok (.bastore, 1) := by decide +kernel
theorem dX5_runOf_20 : decode cX5_runOf 20 = .ok (.iinc 3 1, 3) := by decide +kernel
theorem dX5_runOf_23 : decode cX5_runOf 23 = .ok (.goto (-17), 3) := by decide +kernel
theorem dX5_runOf_26 : decode cX5_runOf 26 = .ok (.iconst 0, 1) := by decide +kernel
theorem dX5_runOf_27 : decode cX5_runOf 27 = .ok (.istore_n 3, 1) := by decide +kernel
theorem dX5_runOf_28 : decode cX5_runOf 28 = .ok (.iload_n 3, 1) := by decide +kernel
theorem dX5_runOf_29 : decode cX5_runOf 29 = .ok (.sipush 240, 3) := by decide +kernel
theorem dX5_runOf_32 : decode cX5_runOf 32 = .ok (.if_icmp .ge 21, 3) := by decide +kernel
theorem dX5_runOf_35 : decode cX5_runOf 35 = .ok (.aload_n 0, 1) := by decide +kernel
theorem dX5_runOf_36 : decode cX5_runOf 36 = .ok (.getfield 58, 3) := by decide +kernel
theorem dX5_runOf_39 : decode cX5_runOf 39 = .ok (.aload_n 0, 1) := by decide +kernel
theorem dX5_runOf_40 : decode cX5_runOf 40 = .ok (.getfield 55, 3) := by decide +kernel
theorem dX5_runOf_43 : decode cX5_runOf 43 = .ok (.iload_n 3, 1) := by decide +kernel
theorem dX5_runOf_44 : decode cX5_runOf 44 = .ok (.iaload, 1) := by decide +kernel
theorem dX5_runOf_45 : decode cX5_runOf 45 = .ok (.iconst 1, 1) := by decide +kernel
theorem dX5_runOf_46 : decode cX5_runOf 46 = .ok (.bastore, 1) := by decide +kernel
theorem dX5_runOf_47 : decode cX5_runOf 47 = .ok (.iinc 3 1, 3) := by decide +kernel
theorem dX5_runOf_50 : decode cX5_runOf 50 = .ok (.goto (-22), 3) := by decide +kernel
theorem dX5_runOf_53 : decode cX5_runOf 53 = .ok (.iconst (-1), 1) := by decide +kernel
theorem dX5_runOf_54 : decode cX5_runOf 54 = .ok (.istore_n 3, 1) := by decide +kernel
theorem dX5_runOf_55 : decode cX5_runOf 55 = .ok (.iconst (-1), 1) := by decide +kernel
theorem dX5_runOf_56 : decode cX5_runOf 56 = .ok (.istore 4, 2) := by decide +kernel
theorem dX5_runOf_58 : decode cX5_runOf 58 = .ok (.iconst 1, 1) := by decide +kernel
theorem dX5_runOf_59 : decode cX5_runOf 59 = .ok (.istore 5, 2) := by decide +kernel
theorem dX5_runOf_61 : decode cX5_runOf 61 = .ok (.iload 5, 2) := by decide +kernel
theorem dX5_runOf_63 : decode cX5_runOf 63 = .ok (.iload_n 1, 1) := by decide +kernel
theorem dX5_runOf_64 : decode cX5_runOf 64 = .ok (.iadd, 1) := by decide +kernel
theorem dX5_runOf_65 : decode cX5_runOf 65 = .ok (.iconst 1, 1) := by decide +kernel
theorem dX5_runOf_66 : decode cX5_runOf 66 = .ok (.isub, 1) := by decide +kernel
theorem dX5_runOf_67 : decode cX5_runOf 67 = .ok (.aload_n 0, 1) := by decide +kernel
theorem dX5_runOf_68 : decode cX5_runOf 68 = .ok (.getfield 176, 3) := by decide +kernel
theorem dX5_runOf_71 : decode cX5_runOf 71 = .ok (.if_icmp .gt 86, 3) := by decide +kernel
theorem dX5_runOf_74 : decode cX5_runOf 74 = .ok (.iconst 0, 1) := by decide +kernel
theorem dX5_runOf_75 : decode cX5_runOf 75 = .ok (.istore 6, 2) := by decide +kernel
theorem dX5_runOf_77 : decode cX5_runOf 77 = .ok (.iload 5, 2) := by decide +kernel
theorem dX5_runOf_79 : decode cX5_runOf 79 = .ok (.istore 7, 2) := by decide +kernel
theorem dX5_runOf_81 : decode cX5_runOf 81 = .ok (.iload 7, 2) := by decide +kernel
theorem dX5_runOf_83 : decode cX5_runOf 83 = .ok (.iload 5, 2) := by decide +kernel
theorem dX5_runOf_85 : decode cX5_runOf 85 = .ok (.iload_n 1, 1) := by decide +kernel
theorem dX5_runOf_86 : decode cX5_runOf 86 = .ok (.iadd, 1) := by decide +kernel
theorem dX5_runOf_87 : decode cX5_runOf 87 = .ok (.if_icmp .ge 34, 3) := by decide +kernel
theorem dX5_runOf_90 : decode cX5_runOf 90 = .ok (.iload 6, 2) := by decide +kernel
theorem dX5_runOf_92 : decode cX5_runOf 92 = .ok (.aload_n 0, 1) := by decide +kernel
theorem dX5_runOf_93 : decode cX5_runOf 93 = .ok (.getfield 58, 3) := by decide +kernel
theorem dX5_runOf_96 : decode cX5_runOf 96 = .ok (.iload 7, 2) := by decide +kernel
theorem dX5_runOf_98 : decode cX5_runOf 98 = .ok (.baload, 1) := by decide +kernel
theorem dX5_runOf_99 : decode cX5_runOf 99 = .ok (.ifCond .eq 12, 3) := by decide +kernel
theorem dX5_runOf_102 : decode cX5_runOf 102 = .ok (.aload_n 0, 1) := by decide +kernel
theorem dX5_runOf_103 : decode cX5_runOf 103 = .ok (.iload 7, 2) := by decide +kernel
theorem dX5_runOf_105 : decode cX5_runOf 105 = .ok (.invokevirtual 216, 3) := by decide +kernel
theorem dX5_runOf_108 : decode cX5_runOf 108 = .ok (.goto 4, 3) := by decide +kernel
theorem dX5_runOf_111 : decode cX5_runOf 111 = .ok (.iconst 0, 1) := by decide +kernel
theorem dX5_runOf_112 : decode cX5_runOf 112 = .ok (.iadd, 1) := by decide +kernel
theorem dX5_runOf_113 : decode cX5_runOf 113 = .ok (.istore 6, 2) := by decide +kernel
theorem dX5_runOf_115 : decode cX5_runOf 115 = .ok (.iinc 7 1, 3) := by decide +kernel
theorem dX5_runOf_118 : decode cX5_runOf 118 = .ok (.goto (-37), 3) := by decide +kernel
theorem dX5_runOf_121 : decode cX5_runOf 121 = .ok (.iload 6, 2) := by decide +kernel
theorem dX5_runOf_123 : decode cX5_runOf 123 = .ok (.iload 4, 2) := by decide +kernel
theorem dX5_runOf_125 : decode cX5_runOf 125 = .ok (.if_icmp .le 8, 3) := by decide +kernel
theorem dX5_runOf_128 : decode cX5_runOf 128 = .ok (.iload 5, 2) := by decide +kernel
theorem dX5_runOf_130 : decode cX5_runOf 130 = .ok (.goto 4, 3) := by decide +kernel
theorem dX5_runOf_133 : decode cX5_runOf 133 = .ok (.iload_n 3, 1) := by decide +kernel
theorem dX5_runOf_134 : decode cX5_runOf 134 = .ok (.istore_n 3, 1) := by decide +kernel
theorem dX5_runOf_135 : decode cX5_runOf 135 = .ok (.iload 6, 2) := by decide +kernel
theorem dX5_runOf_137 : decode cX5_runOf 137 = .ok (.iload 4, 2) := by decide +kernel
theorem dX5_runOf_139 : decode cX5_runOf 139 = .ok (.if_icmp .le 8, 3) := by decide +kernel
theorem dX5_runOf_142 : decode cX5_runOf 142 = .ok (.iload 6, 2) := by decide +kernel
theorem dX5_runOf_144 : decode cX5_runOf 144 = .ok (.goto 5, 3) := by decide +kernel
theorem dX5_runOf_147 : decode cX5_runOf 147 = .ok (.iload 4, 2) := by decide +kernel
theorem dX5_runOf_149 : decode cX5_runOf 149 = .ok (.istore 4, 2) := by decide +kernel
theorem dX5_runOf_151 : decode cX5_runOf 151 = .ok (.iinc 5 1, 3) := by decide +kernel
theorem dX5_runOf_154 : decode cX5_runOf 154 = .ok (.goto (-93), 3) := by decide +kernel
theorem dX5_runOf_157 : decode cX5_runOf 157 = .ok (.iload_n 2, 1) := by decide +kernel
theorem dX5_runOf_158 : decode cX5_runOf 158 = .ok (.ifCond .ne 7, 3) := by decide +kernel
theorem dX5_runOf_161 : decode cX5_runOf 161 = .ok (.iload_n 3, 1) := by decide +kernel
theorem dX5_runOf_162 : decode cX5_runOf 162 = .ok (.goto 5, 3) := by decide +kernel
theorem dX5_runOf_165 : decode cX5_runOf 165 = .ok (.iload 4, 2) := by decide +kernel
theorem dX5_runOf_167 : decode cX5_runOf 167 = .ok (.ireturn, 1) := by decide +kernel
theorem dX5_run_0 : decode cX5_run 0 = .ok (.iload_n 1, 1) := by decide +kernel
theorem dX5_run_1 : decode cX5_run 1 = .ok (.iconst 1, 1) := by decide +kernel
theorem dX5_run_2 : decode cX5_run 2 = .ok (.bipush 9, 2) := by decide +kernel
theorem dX5_run_4 : decode cX5_run 4 = .ok (.invokestatic 89, 3) := by decide +kernel
theorem dX5_run_7 : decode cX5_run 7 = .ok (.ifCond .eq 21, 3) := by decide +kernel
theorem dX5_run_10 : decode cX5_run 10 = .ok (.iload_n 2, 1) := by decide +kernel
theorem dX5_run_11 : decode cX5_run 11 = .ok (.iconst 0, 1) := by decide +kernel
theorem dX5_run_12 : decode cX5_run 12 = .ok (.iconst 1, 1) := by decide +kernel
theorem dX5_run_13 : decode cX5_run 13 = .ok (.invokestatic 89, 3) := by decide +kernel
theorem dX5_run_16 : decode cX5_run 16 = .ok (.ifCond .eq 12, 3) := by decide +kernel
theorem dX5_run_19 : decode cX5_run 19 = .ok (.aload_n 0, 1) := by decide +kernel
theorem dX5_run_20 : decode cX5_run 20 = .ok (.iload_n 1, 1) := by decide +kernel
theorem dX5_run_21 : decode cX5_run 21 = .ok (.iload_n 2, 1) := by decide +kernel
theorem dX5_run_22 : decode cX5_run 22 = .ok (.invokevirtual 241, 3) := by decide +kernel
theorem dX5_run_25 : decode cX5_run 25 = .ok (.goto 5, 3) := by decide +kernel
theorem dX5_run_28 : decode cX5_run 28 = .ok (.bipush (-2), 2) := by decide +kernel
theorem dX5_run_30 : decode cX5_run 30 = .ok (.ireturn, 1) := by decide +kernel
theorem dX5_barOf_0 : decode cX5_barOf 0 = .ok (.aload_n 0, 1) := by decide +kernel
theorem dX5_barOf_1 : decode cX5_barOf 1 = .ok (.invokevirtual 198, 3) := by decide +kernel
theorem dX5_barOf_4 : decode cX5_barOf 4 = .ok (.iconst 0, 1) := by decide +kernel
theorem dX5_barOf_5 : decode cX5_barOf 5 = .ok (.istore_n 2, 1) := by decide +kernel
theorem dX5_barOf_6 : decode cX5_barOf 6 = .ok (.iload_n 2, 1) := by decide +kernel
theorem dX5_barOf_7 : decode cX5_barOf 7 = .ok (.bipush 55, 2) := by decide +kernel
theorem dX5_barOf_9 : decode cX5_barOf 9 = .ok (.if_icmp .ge 64, 3) := by decide +kernel
theorem dX5_barOf_12 : decode cX5_barOf 12 = .ok (.iconst 0, 1) := by decide +kernel
theorem dX5_barOf_13 : decode cX5_barOf 13 = .ok (.istore_n 3, 1) := by decide +kernel
theorem dX5_barOf_14 : decode cX5_barOf 14 = .ok (.iconst 0, 1) := by decide +kernel
theorem dX5_barOf_15 : decode cX5_barOf 15 = .ok (.istore 4, 2) := by decide +kernel
theorem dX5_barOf_17 : decode cX5_barOf 17 = .ok (.iload 4, 2) := by decide +kernel
theorem dX5_barOf_19 : decode cX5_barOf 19 = .ok (.sipush 240, 3) := by decide +kernel
theorem dX5_barOf_22 : decode cX5_barOf 22 = .ok (.if_icmp .ge 38, 3) := by decide +kernel
theorem dX5_barOf_25 : decode cX5_barOf 25 = .ok (.iload_n 3, 1) := by decide +kernel
theorem dX5_barOf_26 : decode cX5_barOf 26 = .ok (.aload_n 0, 1) := by decide +kernel
theorem dX5_barOf_27 : decode cX5_barOf 27 = .ok (.getfield 49, 3) := by decide +kernel
theorem dX5_barOf_30 : decode cX5_barOf 30 = .ok (.iload 4, 2) := by decide +kernel
theorem dX5_barOf_32 : decode cX5_barOf 32 = .ok (.iaload, 1) := by decide +kernel
theorem dX5_barOf_33 : decode cX5_barOf 33 = .ok (.ifCond .le 18, 3) := by decide +kernel
theorem dX5_barOf_36 : decode cX5_barOf 36 = .ok (.aload_n 0, 1) := by decide +kernel
theorem dX5_barOf_37 : decode cX5_barOf 37 = .ok (.getfield 49, 3) := by decide +kernel
theorem dX5_barOf_40 : decode cX5_barOf 40 = .ok (.iload 4, 2) := by decide +kernel
theorem dX5_barOf_42 : decode cX5_barOf 42 = .ok (.iaload, 1) := by decide +kernel
theorem dX5_barOf_43 : decode cX5_barOf 43 = .ok (.iload_n 2, 1) := by decide +kernel
theorem dX5_barOf_44 : decode cX5_barOf 44 = .ok (.if_icmp .lt 7, 3) := by decide +kernel
theorem dX5_barOf_47 : decode cX5_barOf 47 = .ok (.iconst 1, 1) := by decide +kernel
theorem dX5_barOf_48 : decode cX5_barOf 48 = .ok (.goto 4, 3) := by decide +kernel
theorem dX5_barOf_51 : decode cX5_barOf 51 = .ok (.iconst 0, 1) := by decide +kernel
theorem dX5_barOf_52 : decode cX5_barOf 52 = .ok (.iadd, 1) := by decide +kernel
theorem dX5_barOf_53 : decode cX5_barOf 53 = .ok (.istore_n 3, 1) := by decide +kernel
theorem dX5_barOf_54 : decode cX5_barOf 54 = .ok (.iinc 4 1, 3) := by decide +kernel
theorem dX5_barOf_57 : decode cX5_barOf 57 = .ok (.goto (-40), 3) := by decide +kernel
theorem dX5_barOf_60 : decode cX5_barOf 60 = .ok (.iload_n 3, 1) := by decide +kernel
theorem dX5_barOf_61 : decode cX5_barOf 61 = .ok (.iload_n 1, 1) := by decide +kernel
theorem dX5_barOf_62 : decode cX5_barOf 62 = .ok (.if_icmp .gt 5, 3) := by decide +kernel
theorem dX5_barOf_65 : decode cX5_barOf 65 = .ok (.iload_n 2, 1) := by decide +kernel
theorem dX5_barOf_66 : decode cX5_barOf 66 = .ok (.ireturn, 1) := by decide +kernel
theorem dX5_barOf_67 : decode cX5_barOf 67 = .ok (.iinc 2 1, 3) := by decide +kernel
theorem dX5_barOf_70 : decode cX5_barOf 70 = .ok (.goto (-64), 3) := by decide +kernel
theorem dX5_barOf_73 : decode cX5_barOf 73 = .ok (.bipush 55, 2) := by decide +kernel
theorem dX5_barOf_75 : decode cX5_barOf 75 = .ok (.ireturn, 1) := by decide +kernel
theorem dX5_bar_0 : decode cX5_bar 0 = .ok (.iload_n 1, 1) := by decide +kernel
theorem dX5_bar_1 : decode cX5_bar 1 = .ok (.iconst 0, 1) := by decide +kernel
theorem dX5_bar_2 : decode cX5_bar 2 = .ok (.sipush 240, 3) := by decide +kernel
theorem dX5_bar_5 : decode cX5_bar 5 = .ok (.invokestatic 89, 3) := by decide +kernel
theorem dX5_bar_8 : decode cX5_bar 8 = .ok (.ifCond .eq 11, 3) := by decide +kernel
theorem dX5_bar_11 : decode cX5_bar 11 = .ok (.aload_n 0, 1) := by decide +kernel
theorem dX5_bar_12 : decode cX5_bar 12 = .ok (.iload_n 1, 1) := by decide +kernel
theorem dX5_bar_13 : decode cX5_bar 13 = .ok (.invokevirtual 244, 3) := by decide +kernel
theorem dX5_bar_16 : decode cX5_bar 16 = .ok (.goto 5, 3) := by decide +kernel
theorem dX5_bar_19 : decode cX5_bar 19 = .ok (.bipush (-2), 2) := by decide +kernel
theorem dX5_bar_21 : decode cX5_bar 21 = .ok (.ireturn, 1) := by decide +kernel
theorem dX5_earnOf_0 : decode cX5_earnOf 0 = .ok (.aload_n 0, 1) := by decide +kernel
theorem dX5_earnOf_1 : decode cX5_earnOf 1 = .ok (.invokevirtual 198, 3) := by decide +kernel
theorem dX5_earnOf_4 : decode cX5_earnOf 4 = .ok (.iconst (-1), 1) := by decide +kernel
theorem dX5_earnOf_5 : decode cX5_earnOf 5 = .ok (.istore_n 3, 1) := by decide +kernel
theorem dX5_earnOf_6 : decode cX5_earnOf 6 = .ok (.aload_n 0, 1) := by decide +kernel
theorem dX5_earnOf_7 : decode cX5_earnOf 7 = .ok (.iload_n 1, 1) := by decide +kernel
theorem dX5_earnOf_8 : decode cX5_earnOf 8 = .ok (.invokevirtual 225, 3) := by decide +kernel
theorem dX5_earnOf_11 : decode cX5_earnOf 11 = .ok (.istore 4, 2) := by decide +kernel
theorem dX5_earnOf_13 : decode cX5_earnOf 13 = .ok (.aload_n 0, 1) := by decide +kernel
theorem dX5_earnOf_14 : decode cX5_earnOf 14 = .ok (.getfield 43, 3) := by decide +kernel
theorem dX5_earnOf_17 : decode cX5_earnOf 17 = .ok (.aload_n 0, 1) := by decide +kernel
theorem dX5_earnOf_18 : decode cX5_earnOf 18 = .ok (.getfield 152, 3) := by decide +kernel
theorem dX5_earnOf_21 : decode cX5_earnOf 21 = .ok (.iload_n 1, 1) := by decide +kernel
theorem dX5_earnOf_22 : decode cX5_earnOf 22 = .ok (.iastore, 1) := by decide +kernel
theorem dX5_earnOf_23 : decode cX5_earnOf 23 = .ok (.aload_n 0, 1) := by decide +kernel
theorem dX5_earnOf_24 : decode cX5_earnOf 24 = .ok (.aload_n 0, 1) := by decide +kernel
theorem dX5_earnOf_25 : decode cX5_earnOf 25 = .ok (.getfield 152, 3) := by decide +kernel
theorem dX5_earnOf_28 : decode cX5_earnOf 28 = .ok (.iconst 1, 1) := by decide +kernel
theorem dX5_earnOf_29 : decode cX5_earnOf 29 = .ok (.iadd, 1) := by decide +kernel
theorem dX5_earnOf_30 : decode cX5_earnOf 30 = .ok (.putfield 170, 3) := by decide +kernel
theorem dX5_earnOf_33 : decode cX5_earnOf 33 = .ok (.iconst 1, 1) := by decide +kernel
theorem dX5_earnOf_34 : decode cX5_earnOf 34 = .ok (.istore 5, 2) := by decide +kernel
theorem dX5_earnOf_36 : decode cX5_earnOf 36 = .ok (.iload 5, 2) := by decide +kernel
theorem dX5_earnOf_38 : decode cX5_earnOf 38 = .ok (.sipush 401, 3) := by decide +kernel
theorem dX5_earnOf_41 : decode cX5_earnOf 41 = .ok (.if_icmp .ge 57, 3) := by decide +kernel
theorem dX5_earnOf_44 : decode cX5_earnOf 44 = .ok (.aload_n 0, 1) := by decide +kernel
theorem dX5_earnOf_45 : decode cX5_earnOf 45 = .ok (.getfield 46, 3) := by decide +kernel
theorem dX5_earnOf_48 : decode cX5_earnOf 48 = .ok (.aload_n 0, 1) := by decide +kernel
theorem dX5_earnOf_49 : decode cX5_earnOf 49 = .ok (.getfield 152, 3) := by decide +kernel
theorem dX5_earnOf_52 : decode cX5_earnOf 52 = .ok (.iload 5, 2) := by decide +kernel
theorem dX5_earnOf_54 : decode cX5_earnOf 54 = .ok (.iastore, 1) := by decide +kernel
theorem dX5_earnOf_55 : decode cX5_earnOf 55 = .ok (.aload_n 0, 1) := by decide +kernel
theorem dX5_earnOf_56 : decode cX5_earnOf 56 = .ok (.iload_n 1, 1) := by decide +kernel
theorem dX5_earnOf_57 : decode cX5_earnOf 57 = .ok (.invokevirtual 225, 3) := by decide +kernel
theorem dX5_earnOf_60 : decode cX5_earnOf 60 = .ok (.istore 6, 2) := by decide +kernel
theorem dX5_earnOf_62 : decode cX5_earnOf 62 = .ok (.iload 6, 2) := by decide +kernel
theorem dX5_earnOf_64 : decode cX5_earnOf 64 = .ok (.iload 4, 2) := by decide +kernel
theorem dX5_earnOf_66 : decode cX5_earnOf 66 = .ok (.if_icmp .le 8, 3) := by decide +kernel
theorem dX5_earnOf_69 : decode cX5_earnOf 69 = .ok (.iload 5, 2) := by decide +kernel
theorem dX5_earnOf_71 : decode cX5_earnOf 71 = .ok (.goto 4, 3) := by decide +kernel
theorem dX5_earnOf_74 : decode cX5_earnOf 74 = .ok (.iload_n 3, 1) := by decide +kernel
theorem dX5_earnOf_75 : decode cX5_earnOf 75 = .ok (.istore_n 3, 1) := by decide +kernel
theorem dX5_earnOf_76 : decode cX5_earnOf 76 = .ok (.iload 6, 2) := by decide +kernel
theorem dX5_earnOf_78 : decode cX5_earnOf 78 = .ok (.iload 4, 2) := by decide +kernel
theorem dX5_earnOf_80 : decode cX5_earnOf 80 = .ok (.if_icmp .le 8, 3) := by decide +kernel
theorem dX5_earnOf_83 : decode cX5_earnOf 83 = .ok (.iload 6, 2) := by decide +kernel
theorem dX5_earnOf_85 : decode cX5_earnOf 85 = .ok (.goto 5, 3) := by decide +kernel
theorem dX5_earnOf_88 : decode cX5_earnOf 88 = .ok (.iload 4, 2) := by decide +kernel
theorem dX5_earnOf_90 : decode cX5_earnOf 90 = .ok (.istore 4, 2) := by decide +kernel
theorem dX5_earnOf_92 : decode cX5_earnOf 92 = .ok (.iinc 5 1, 3) := by decide +kernel
theorem dX5_earnOf_95 : decode cX5_earnOf 95 = .ok (.goto (-59), 3) := by decide +kernel
theorem dX5_earnOf_98 : decode cX5_earnOf 98 = .ok (.iload_n 3, 1) := by decide +kernel
theorem dX5_earnOf_99 : decode cX5_earnOf 99 = .ok (.iconst (-1), 1) := by decide +kernel
theorem dX5_earnOf_100 : decode cX5_earnOf 100 = .ok (.if_icmp .eq 7, 3) := by decide +kernel
theorem dX5_earnOf_103 : decode cX5_earnOf 103 = .ok (.iload_n 2, 1) := by decide +kernel
theorem dX5_earnOf_104 : decode cX5_earnOf 104 = .ok (.ifCond .ne 7, 3) := by decide +kernel
theorem dX5_earnOf_107 : decode cX5_earnOf 107 = .ok (.iload_n 3, 1) := by decide +kernel
theorem dX5_earnOf_108 : decode cX5_earnOf 108 = .ok (.goto 5, 3) := by decide +kernel
theorem dX5_earnOf_111 : decode cX5_earnOf 111 = .ok (.iload 4, 2) := by decide +kernel
theorem dX5_earnOf_113 : decode cX5_earnOf 113 = .ok (.ireturn, 1) := by decide +kernel
theorem dX5_earn_0 : decode cX5_earn 0 = .ok (.iload_n 1, 1) := by decide +kernel
theorem dX5_earn_1 : decode cX5_earn 1 = .ok (.iconst 0, 1) := by decide +kernel
theorem dX5_earn_2 : decode cX5_earn 2 = .ok (.bipush 7, 2) := by decide +kernel
theorem dX5_earn_4 : decode cX5_earn 4 = .ok (.invokestatic 89, 3) := by decide +kernel
theorem dX5_earn_7 : decode cX5_earn 7 = .ok (.ifCond .eq 21, 3) := by decide +kernel
theorem dX5_earn_10 : decode cX5_earn 10 = .ok (.iload_n 2, 1) := by decide +kernel
theorem dX5_earn_11 : decode cX5_earn 11 = .ok (.iconst 0, 1) := by decide +kernel
theorem dX5_earn_12 : decode cX5_earn 12 = .ok (.iconst 1, 1) := by decide +kernel
theorem dX5_earn_13 : decode cX5_earn 13 = .ok (.invokestatic 89, 3) := by decide +kernel
theorem dX5_earn_16 : decode cX5_earn 16 = .ok (.ifCond .eq 12, 3) := by decide +kernel
theorem dX5_earn_19 : decode cX5_earn 19 = .ok (.aload_n 0, 1) := by decide +kernel
theorem dX5_earn_20 : decode cX5_earn 20 = .ok (.iload_n 1, 1) := by decide +kernel
theorem dX5_earn_21 : decode cX5_earn 21 = .ok (.iload_n 2, 1) := by decide +kernel
theorem dX5_earn_22 : decode cX5_earn 22 = .ok (.invokevirtual 247, 3) := by decide +kernel
theorem dX5_earn_25 : decode cX5_earn 25 = .ok (.goto 5, 3) := by decide +kernel
theorem dX5_earn_28 : decode cX5_earn 28 = .ok (.bipush (-2), 2) := by decide +kernel
theorem dX5_earn_30 : decode cX5_earn 30 = .ok (.ireturn, 1) := by decide +kernel
theorem dX5_heard_0 : decode cX5_heard 0 = .ok (.iload_n 1, 1) := by decide +kernel
theorem dX5_heard_1 : decode cX5_heard 1 = .ok (.invokestatic 143, 3) := by decide +kernel
theorem dX5_heard_4 : decode cX5_heard 4 = .ok (.ifCond .eq 14, 3) := by decide +kernel
theorem dX5_heard_7 : decode cX5_heard 7 = .ok (.iload_n 2, 1) := by decide +kernel
theorem dX5_heard_8 : decode cX5_heard 8 = .ok (.iconst 0, 1) := by decide +kernel
theorem dX5_heard_9 : decode cX5_heard 9 = .ok (.sipush 400, 3) := by decide +kernel
theorem dX5_heard_12 : decode cX5_heard 12 = .ok (.invokestatic 89, 3) := by decide +kernel
theorem dX5_heard_15 : decode cX5_heard 15 = .ok (.ifCond .ne 6, 3) := by decide +kernel
theorem dX5_heard_18 : decode cX5_heard 18 = .ok (.bipush (-2), 2) := by decide +kernel
theorem dX5_heard_20 : decode cX5_heard 20 = .ok (.ireturn, 1) := by decide +kernel
theorem dX5_heard_21 : decode cX5_heard 21 = .ok (.aload_n 0, 1) := by decide +kernel
theorem dX5_heard_22 : decode cX5_heard 22 = .ok (.getfield 250, 3) := by decide +kernel
theorem dX5_heard_25 : decode cX5_heard 25 = .ok (.bipush 8, 2) := by decide +kernel
theorem dX5_heard_27 : decode cX5_heard 27 = .ok (.if_icmp .ne 6, 3) := by decide +kernel
theorem dX5_heard_30 : decode cX5_heard 30 = .ok (.bipush (-4), 2) := by decide +kernel
theorem dX5_heard_32 : decode cX5_heard 32 = .ok (.ireturn, 1) := by decide +kernel
theorem dX5_heard_33 : decode cX5_heard 33 = .ok (.aload_n 0, 1) := by decide +kernel
theorem dX5_heard_34 : decode cX5_heard 34 = .ok (.getfield 62, 3) := by decide +kernel
theorem dX5_heard_37 : decode cX5_heard 37 = .ok (.aload_n 0, 1) := by decide +kernel
theorem dX5_heard_38 : decode cX5_heard 38 = .ok (.getfield 250, 3) := by decide +kernel
theorem dX5_heard_41 : decode cX5_heard 41 = .ok (.iload_n 1, 1) := by decide +kernel
theorem dX5_heard_42 : decode cX5_heard 42 = .ok (.iastore, 1) := by decide +kernel
theorem dX5_heard_43 : decode cX5_heard 43 = .ok (.aload_n 0, 1) := by decide +kernel
theorem dX5_heard_44 : decode cX5_heard 44 = .ok (.getfield 65, 3) := by decide +kernel
theorem dX5_heard_47 : decode cX5_heard 47 = .ok (.aload_n 0, 1) := by decide +kernel
theorem dX5_heard_48 : decode cX5_heard 48 = .ok (.getfield 250, 3) := by decide +kernel
theorem dX5_heard_51 : decode cX5_heard 51 = .ok (.iload_n 2, 1) := by decide +kernel
theorem dX5_heard_52 : decode cX5_heard 52 = .ok (.iastore, 1) := by decide +kernel
theorem dX5_heard_53 : decode cX5_heard 53 = .ok (.aload_n 0, 1) := by decide +kernel
theorem dX5_heard_54 : decode cX5_heard 54 = .ok (.dup, 1) := by decide +kernel
theorem dX5_heard_55 : decode cX5_heard 55 = .ok (.getfield 250, 3) := by decide +kernel
theorem dX5_heard_58 : decode cX5_heard 58 = .ok (.iconst 1, 1) := by decide +kernel
theorem dX5_heard_59 : decode cX5_heard 59 = .ok (.iadd, 1) := by decide +kernel
theorem dX5_heard_60 : decode cX5_heard 60 = .ok (.putfield 250, 3) := by decide +kernel
theorem dX5_heard_63 : decode cX5_heard 63 = .ok (.aload_n 0, 1) := by decide +kernel
theorem dX5_heard_64 : decode cX5_heard 64 = .ok (.getfield 250, 3) := by decide +kernel
theorem dX5_heard_67 : decode cX5_heard 67 = .ok (.ireturn, 1) := by decide +kernel
theorem dX5_forget_0 : decode cX5_forget 0 = .ok (.aload_n 0, 1) := by decide +kernel
theorem dX5_forget_1 : decode cX5_forget 1 = .ok (.getfield 250, 3) := by decide +kernel
theorem dX5_forget_4 : decode cX5_forget 4 = .ok (.istore_n 1, 1) := by decide +kernel
theorem dX5_forget_5 : decode cX5_forget 5 = .ok (.aload_n 0, 1) := by decide +kernel
theorem dX5_forget_6 : decode cX5_forget 6 = .ok (.iconst 0, 1) := by decide +kernel
theorem dX5_forget_7 : decode cX5_forget 7 = .ok (.putfield 250, 3) := by decide +kernel
theorem dX5_forget_10 : decode cX5_forget 10 = .ok (.iload_n 1, 1) := by decide +kernel
theorem dX5_forget_11 : decode cX5_forget 11 = .ok (.ireturn, 1) := by decide +kernel
theorem dX5_isHeard_0 : decode cX5_isHeard 0 = .ok (.aload_n 0, 1) := by decide +kernel
theorem dX5_isHeard_1 : decode cX5_isHeard 1 = .ok (.invokevirtual 195, 3) := by decide +kernel
theorem dX5_isHeard_4 : decode cX5_isHeard 4 = .ok (.iconst 1, 1) := by decide +kernel
theorem dX5_isHeard_5 : decode cX5_isHeard 5 = .ok (.istore_n 1, 1) := by decide +kernel
theorem dX5_isHeard_6 : decode cX5_isHeard 6 = .ok (.iconst 0, 1) := by decide +kernel
theorem dX5_isHeard_7 : decode cX5_isHeard 7 = .ok (.istore_n 2, 1) := by decide +kernel
theorem dX5_isHeard_8 : decode cX5_isHeard 8 = .ok (.iload_n 2, 1) := by decide +kernel
theorem dX5_isHeard_9 : decode cX5_isHeard 9 = .ok (.aload_n 0, 1) := by decide +kernel
theorem dX5_isHeard_10 : decode cX5_isHeard 10 = .ok (.getfield 250, 3) := by decide +kernel
theorem dX5_isHeard_13 : decode cX5_isHeard 13 = .ok (.if_icmp .ge 39, 3) := by decide +kernel
theorem dX5_isHeard_16 : decode cX5_isHeard 16 = .ok (.iload_n 1, 1) := by decide +kernel
theorem dX5_isHeard_17 : decode cX5_isHeard 17 = .ok (.ifCond .eq 27, 3) := by decide +kernel
theorem dX5_isHeard_20 : decode cX5_isHeard 20 = .ok (.aload_n 0, 1) := by decide +kernel
theorem dX5_isHeard_21 : decode cX5_isHeard 21 = .ok (.getfield 55, 3) := by decide +kernel
theorem dX5_isHeard_24 : decode cX5_isHeard 24 = .ok (.aload_n 0, 1) := by decide +kernel
theorem dX5_isHeard_25 : decode cX5_isHeard 25 = .ok (.getfield 62, 3) := by decide +kernel
theorem dX5_isHeard_28 : decode cX5_isHeard 28 = .ok (.iload_n 2, 1) := by decide +kernel
theorem dX5_isHeard_29 : decode cX5_isHeard 29 = .ok (.iaload, 1) := by decide +kernel
theorem dX5_isHeard_30 : decode cX5_isHeard 30 = .ok (.iaload, 1) := by decide +kernel
theorem dX5_isHeard_31 : decode cX5_isHeard 31 = .ok (.aload_n 0, 1) := by decide +kernel
theorem dX5_isHeard_32 : decode cX5_isHeard 32 = .ok (.getfield 65, 3) := by decide +kernel
theorem dX5_isHeard_35 : decode cX5_isHeard 35 = .ok (.iload_n 2, 1) := by decide +kernel
theorem dX5_isHeard_36 : decode cX5_isHeard 36 = .ok (.iaload, 1) := by decide +kernel
theorem dX5_isHeard_37 : decode cX5_isHeard 37 = .ok (.if_icmp .ne 7, 3) := by decide +kernel
theorem dX5_isHeard_40 : decode cX5_isHeard 40 = .ok (.iconst 1, 1) := by decide +kernel
theorem dX5_isHeard_41 : decode cX5_isHeard 41 = .ok (.goto 4, 3) := by decide +kernel
theorem dX5_isHeard_44 : decode cX5_isHeard 44 = .ok (.iconst 0, 1) := by decide +kernel
theorem dX5_isHeard_45 : decode cX5_isHeard 45 = .ok (.istore_n 1, 1) := by decide +kernel
theorem dX5_isHeard_46 : decode cX5_isHeard 46 = .ok (.iinc 2 1, 3) := by decide +kernel
theorem dX5_isHeard_49 : decode cX5_isHeard 49 = .ok (.goto (-41), 3) := by decide +kernel
theorem dX5_isHeard_52 : decode cX5_isHeard 52 = .ok (.iload_n 1, 1) := by decide +kernel
theorem dX5_isHeard_53 : decode cX5_isHeard 53 = .ok (.ireturn, 1) := by decide +kernel
theorem dX5_skippedOf_0 : decode cX5_skippedOf 0 = .ok (.aload_n 0, 1) := by decide +kernel
theorem dX5_skippedOf_1 : decode cX5_skippedOf 1 = .ok (.invokevirtual 122, 3) := by decide +kernel
theorem dX5_skippedOf_4 : decode cX5_skippedOf 4 = .ok (.aload_n 0, 1) := by decide +kernel
theorem dX5_skippedOf_5 : decode cX5_skippedOf 5 = .ok (.invokevirtual 192, 3) := by decide +kernel
theorem dX5_skippedOf_8 : decode cX5_skippedOf 8 = .ok (.aload_n 0, 1) := by decide +kernel
theorem dX5_skippedOf_9 : decode cX5_skippedOf 9 = .ok (.aload_n 0, 1) := by decide +kernel
theorem dX5_skippedOf_10 : decode cX5_skippedOf 10 = .ok (.getfield 140, 3) := by decide +kernel
theorem dX5_skippedOf_13 : decode cX5_skippedOf 13 = .ok (.iconst 1, 1) := by decide +kernel
theorem dX5_skippedOf_14 : decode cX5_skippedOf 14 = .ok (.iadd, 1) := by decide +kernel
theorem dX5_skippedOf_15 : decode cX5_skippedOf 15 = .ok (.putfield 164, 3) := by decide +kernel
theorem dX5_skippedOf_18 : decode cX5_skippedOf 18 = .ok (.aload_n 0, 1) := by decide +kernel
theorem dX5_skippedOf_19 : decode cX5_skippedOf 19 = .ok (.getfield 37, 3) := by decide +kernel
theorem dX5_skippedOf_22 : decode cX5_skippedOf 22 = .ok (.aload_n 0, 1) := by decide +kernel
theorem dX5_skippedOf_23 : decode cX5_skippedOf 23 = .ok (.getfield 140, 3) := by decide +kernel
theorem dX5_skippedOf_26 : decode cX5_skippedOf 26 = .ok (.iload_n 1, 1) := by decide +kernel
theorem dX5_skippedOf_27 : decode cX5_skippedOf 27 = .ok (.iastore, 1) := by decide +kernel
theorem dX5_skippedOf_28 : decode cX5_skippedOf 28 = .ok (.iconst 0, 1) := by decide +kernel
theorem dX5_skippedOf_29 : decode cX5_skippedOf 29 = .ok (.istore_n 2, 1) := by decide +kernel
theorem dX5_skippedOf_30 : decode cX5_skippedOf 30 = .ok (.iconst 1, 1) := by decide +kernel
theorem dX5_skippedOf_31 : decode cX5_skippedOf 31 = .ok (.istore_n 3, 1) := by decide +kernel
theorem dX5_skippedOf_32 : decode cX5_skippedOf 32 = .ok (.iload_n 3, 1) := by decide +kernel
theorem dX5_skippedOf_33 : decode cX5_skippedOf 33 = .ok (.bipush 32, 2) := by decide +kernel
theorem dX5_skippedOf_35 : decode cX5_skippedOf 35 = .ok (.if_icmp .ge 38, 3) := by decide +kernel
theorem dX5_skippedOf_38 : decode cX5_skippedOf 38 = .ok (.aload_n 0, 1) := by decide +kernel
theorem dX5_skippedOf_39 : decode cX5_skippedOf 39 = .ok (.getfield 34, 3) := by decide +kernel
theorem dX5_skippedOf_42 : decode cX5_skippedOf 42 = .ok (.aload_n 0, 1) := by decide +kernel
theorem dX5_skippedOf_43 : decode cX5_skippedOf 43 = .ok (.getfield 140, 3) := by decide +kernel
theorem dX5_skippedOf_46 : decode cX5_skippedOf 46 = .ok (.iload_n 3, 1) := by decide +kernel
theorem dX5_skippedOf_47 : decode cX5_skippedOf 47 = .ok (.iastore, 1) := by decide +kernel
theorem dX5_skippedOf_48 : decode cX5_skippedOf 48 = .ok (.iload_n 2, 1) := by decide +kernel
theorem dX5_skippedOf_49 : decode cX5_skippedOf 49 = .ok (.aload_n 0, 1) := by decide +kernel
theorem dX5_skippedOf_50 : decode cX5_skippedOf 50 = .ok (.invokevirtual 253, 3) := by decide +kernel
theorem dX5_skippedOf_53 : decode cX5_skippedOf 53 = .ok (.ifCond .eq 11, 3) := by decide +kernel
theorem dX5_skippedOf_56 : decode cX5_skippedOf 56 = .ok (.iconst 1, 1) := by decide +kernel
theorem dX5_skippedOf_57 : decode cX5_skippedOf 57 = .ok (.iload_n 3, 1) := by decide +kernel
theorem dX5_skippedOf_58 : decode cX5_skippedOf 58 = .ok (.iconst 1, 1) := by decide +kernel
theorem dX5_skippedOf_59 : decode cX5_skippedOf 59 = .ok (.isub, 1) := by decide +kernel
theorem dX5_skippedOf_60 : decode cX5_skippedOf 60 = .ok (.ishl, 1) := by decide +kernel
theorem dX5_skippedOf_61 : decode cX5_skippedOf 61 = .ok (.goto 4, 3) := by decide +kernel
theorem dX5_skippedOf_64 : decode cX5_skippedOf 64 = .ok (.iconst 0, 1) := by decide +kernel
theorem dX5_skippedOf_65 : decode cX5_skippedOf 65 = .ok (.ior, 1) := by decide +kernel
theorem dX5_skippedOf_66 : decode cX5_skippedOf 66 = .ok (.istore_n 2, 1) := by decide +kernel
theorem dX5_skippedOf_67 : decode cX5_skippedOf 67 = .ok (.iinc 3 1, 3) := by decide +kernel
theorem dX5_skippedOf_70 : decode cX5_skippedOf 70 = .ok (.goto (-38), 3) := by decide +kernel
theorem dX5_skippedOf_73 : decode cX5_skippedOf 73 = .ok (.iload_n 2, 1) := by decide +kernel
theorem dX5_skippedOf_74 : decode cX5_skippedOf 74 = .ok (.ireturn, 1) := by decide +kernel
theorem dX5_skipped_0 : decode cX5_skipped 0 = .ok (.iload_n 1, 1) := by decide +kernel
theorem dX5_skipped_1 : decode cX5_skipped 1 = .ok (.iconst 1, 1) := by decide +kernel
theorem dX5_skipped_2 : decode cX5_skipped 2 = .ok (.bipush 11, 2) := by decide +kernel
theorem dX5_skipped_4 : decode cX5_skipped 4 = .ok (.invokestatic 89, 3) := by decide +kernel
theorem dX5_skipped_7 : decode cX5_skipped 7 = .ok (.ifCond .eq 11, 3) := by decide +kernel
theorem dX5_skipped_10 : decode cX5_skipped 10 = .ok (.aload_n 0, 1) := by decide +kernel
theorem dX5_skipped_11 : decode cX5_skipped 11 = .ok (.iload_n 1, 1) := by decide +kernel
theorem dX5_skipped_12 : decode cX5_skipped 12 = .ok (.invokevirtual 257, 3) := by decide +kernel
theorem dX5_skipped_15 : decode cX5_skipped 15 = .ok (.goto 5, 3) := by decide +kernel
theorem dX5_skipped_18 : decode cX5_skipped 18 = .ok (.bipush (-2), 2) := by decide +kernel
theorem dX5_skipped_20 : decode cX5_skipped 20 = .ok (.ireturn, 1) := by decide +kernel
theorem dX5_voidsOf_0 : decode cX5_voidsOf 0 = .ok (.aload_n 0, 1) := by decide +kernel
theorem dX5_voidsOf_1 : decode cX5_voidsOf 1 = .ok (.invokevirtual 122, 3) := by decide +kernel
theorem dX5_voidsOf_4 : decode cX5_voidsOf 4 = .ok (.aload_n 0, 1) := by decide +kernel
theorem dX5_voidsOf_5 : decode cX5_voidsOf 5 = .ok (.invokevirtual 192, 3) := by decide +kernel
theorem dX5_voidsOf_8 : decode cX5_voidsOf 8 = .ok (.aload_n 0, 1) := by decide +kernel
theorem dX5_voidsOf_9 : decode cX5_voidsOf 9 = .ok (.aload_n 0, 1) := by decide +kernel
theorem dX5_voidsOf_10 : decode cX5_voidsOf 10 = .ok (.getfield 146, 3) := by decide +kernel
theorem dX5_voidsOf_13 : decode cX5_voidsOf 13 = .ok (.iconst 1, 1) := by decide +kernel
theorem dX5_voidsOf_14 : decode cX5_voidsOf 14 = .ok (.iadd, 1) := by decide +kernel
theorem dX5_voidsOf_15 : decode cX5_voidsOf 15 = .ok (.putfield 167, 3) := by decide +kernel
theorem dX5_voidsOf_18 : decode cX5_voidsOf 18 = .ok (.iconst 0, 1) := by decide +kernel
theorem dX5_voidsOf_19 : decode cX5_voidsOf 19 = .ok (.istore_n 2, 1) := by decide +kernel
theorem dX5_voidsOf_20 : decode cX5_voidsOf 20 = .ok (.iconst (-1), 1) := by decide +kernel
theorem dX5_voidsOf_21 : decode cX5_voidsOf 21 = .ok (.istore_n 3, 1) := by decide +kernel
theorem dX5_voidsOf_22 : decode cX5_voidsOf 22 = .ok (.iconst 0, 1) := by decide +kernel
theorem dX5_voidsOf_23 : decode cX5_voidsOf 23 = .ok (.istore 4, 2) := by decide +kernel
theorem dX5_voidsOf_25 : decode cX5_voidsOf 25 = .ok (.iload 4, 2) := by decide +kernel
theorem dX5_voidsOf_27 : decode cX5_voidsOf 27 = .ok (.sipush 240, 3) := by decide +kernel
theorem dX5_voidsOf_30 : decode cX5_voidsOf 30 = .ok (.if_icmp .ge 56, 3) := by decide +kernel
theorem dX5_voidsOf_33 : decode cX5_voidsOf 33 = .ok (.aload_n 0, 1) := by decide +kernel
theorem dX5_voidsOf_34 : decode cX5_voidsOf 34 = .ok (.getfield 40, 3) := by decide +kernel
theorem dX5_voidsOf_37 : decode cX5_voidsOf 37 = .ok (.aload_n 0, 1) := by decide +kernel
theorem dX5_voidsOf_38 : decode cX5_voidsOf 38 = .ok (.getfield 146, 3) := by decide +kernel
theorem dX5_voidsOf_41 : decode cX5_voidsOf 41 = .ok (.iload 4, 2) := by decide +kernel
theorem dX5_voidsOf_43 : decode cX5_voidsOf 43 = .ok (.iastore, 1) := by decide +kernel
theorem dX5_voidsOf_44 : decode cX5_voidsOf 44 = .ok (.aload_n 0, 1) := by decide +kernel
theorem dX5_voidsOf_45 : decode cX5_voidsOf 45 = .ok (.invokevirtual 253, 3) := by decide +kernel
theorem dX5_voidsOf_48 : decode cX5_voidsOf 48 = .ok (.istore 5, 2) := by decide +kernel
theorem dX5_voidsOf_50 : decode cX5_voidsOf 50 = .ok (.iload 5, 2) := by decide +kernel
theorem dX5_voidsOf_52 : decode cX5_voidsOf 52 = .ok (.ifCond .eq 13, 3) := by decide +kernel
theorem dX5_voidsOf_55 : decode cX5_voidsOf 55 = .ok (.iload_n 2, 1) := by decide +kernel
theorem dX5_voidsOf_56 : decode cX5_voidsOf 56 = .ok (.iload_n 1, 1) := by decide +kernel
theorem dX5_voidsOf_57 : decode cX5_voidsOf 57 = .ok (.if_icmp .ne 8, 3) := by decide +kernel
theorem dX5_voidsOf_60 : decode cX5_voidsOf 60 = .ok (.iload 4, 2) := by decide +kernel
theorem dX5_voidsOf_62 : decode cX5_voidsOf 62 = .ok (.goto 4, 3) := by decide +kernel
theorem dX5_voidsOf_65 : decode cX5_voidsOf 65 = .ok (.iload_n 3, 1) := by decide +kernel
theorem dX5_voidsOf_66 : decode cX5_voidsOf 66 = .ok (.istore_n 3, 1) := by decide +kernel
theorem dX5_voidsOf_67 : decode cX5_voidsOf 67 = .ok (.iload_n 2, 1) := by decide +kernel
theorem dX5_voidsOf_68 : decode cX5_voidsOf 68 = .ok (.iload 5, 2) := by decide +kernel
theorem dX5_voidsOf_70 : decode cX5_voidsOf 70 = .ok (.ifCond .eq 7, 3) := by decide +kernel
theorem dX5_voidsOf_73 : decode cX5_voidsOf 73 = .ok (.iconst 1, 1) := by decide +kernel
theorem dX5_voidsOf_74 : decode cX5_voidsOf 74 = .ok (.goto 4, 3) := by decide +kernel
theorem dX5_voidsOf_77 : decode cX5_voidsOf 77 = .ok (.iconst 0, 1) := by decide +kernel
theorem dX5_voidsOf_78 : decode cX5_voidsOf 78 = .ok (.iadd, 1) := by decide +kernel
theorem dX5_voidsOf_79 : decode cX5_voidsOf 79 = .ok (.istore_n 2, 1) := by decide +kernel
theorem dX5_voidsOf_80 : decode cX5_voidsOf 80 = .ok (.iinc 4 1, 3) := by decide +kernel
theorem dX5_voidsOf_83 : decode cX5_voidsOf 83 = .ok (.goto (-58), 3) := by decide +kernel
theorem dX5_voidsOf_86 : decode cX5_voidsOf 86 = .ok (.iload_n 1, 1) := by decide +kernel
theorem dX5_voidsOf_87 : decode cX5_voidsOf 87 = .ok (.iconst (-1), 1) := by decide +kernel
theorem dX5_voidsOf_88 : decode cX5_voidsOf 88 = .ok (.if_icmp .ne 7, 3) := by decide +kernel
theorem dX5_voidsOf_91 : decode cX5_voidsOf 91 = .ok (.iload_n 2, 1) := by decide +kernel
theorem dX5_voidsOf_92 : decode cX5_voidsOf 92 = .ok (.goto 4, 3) := by decide +kernel
theorem dX5_voidsOf_95 : decode cX5_voidsOf 95 = .ok (.iload_n 3, 1) := by decide +kernel
theorem dX5_voidsOf_96 : decode cX5_voidsOf 96 = .ok (.ireturn, 1) := by decide +kernel
theorem dX5_voids_0 : decode cX5_voids 0 = .ok (.iload_n 1, 1) := by decide +kernel
theorem dX5_voids_1 : decode cX5_voids 1 = .ok (.iconst (-1), 1) := by decide +kernel
theorem dX5_voids_2 : decode cX5_voids 2 = .ok (.sipush 239, 3) := by decide +kernel
theorem dX5_voids_5 : decode cX5_voids 5 = .ok (.invokestatic 89, 3) := by decide +kernel
theorem dX5_voids_8 : decode cX5_voids 8 = .ok (.ifCond .eq 11, 3) := by decide +kernel
theorem dX5_voids_11 : decode cX5_voids 11 = .ok (.aload_n 0, 1) := by decide +kernel
theorem dX5_voids_12 : decode cX5_voids 12 = .ok (.iload_n 1, 1) := by decide +kernel
theorem dX5_voids_13 : decode cX5_voids 13 = .ok (.invokevirtual 260, 3) := by decide +kernel
theorem dX5_voids_16 : decode cX5_voids 16 = .ok (.goto 5, 3) := by decide +kernel
theorem dX5_voids_19 : decode cX5_voids 19 = .ok (.bipush (-2), 2) := by decide +kernel
theorem dX5_voids_21 : decode cX5_voids 21 = .ok (.ireturn, 1) := by decide +kernel
theorem dX5_oftenOf_0 : decode cX5_oftenOf 0 = .ok (.aload_n 0, 1) := by decide +kernel
theorem dX5_oftenOf_1 : decode cX5_oftenOf 1 = .ok (.invokevirtual 122, 3) := by decide +kernel
theorem dX5_oftenOf_4 : decode cX5_oftenOf 4 = .ok (.aload_n 0, 1) := by decide +kernel
theorem dX5_oftenOf_5 : decode cX5_oftenOf 5 = .ok (.invokevirtual 192, 3) := by decide +kernel
theorem dX5_oftenOf_8 : decode cX5_oftenOf 8 = .ok (.aload_n 0, 1) := by decide +kernel
theorem dX5_oftenOf_9 : decode cX5_oftenOf 9 = .ok (.getfield 19, 3) := by decide +kernel
theorem dX5_oftenOf_12 : decode cX5_oftenOf 12 = .ok (.iload_n 1, 1) := by decide +kernel
theorem dX5_oftenOf_13 : decode cX5_oftenOf 13 = .ok (.iaload, 1) := by decide +kernel
theorem dX5_oftenOf_14 : decode cX5_oftenOf 14 = .ok (.istore_n 3, 1) := by decide +kernel
theorem dX5_oftenOf_15 : decode cX5_oftenOf 15 = .ok (.iconst 0, 1) := by decide +kernel
theorem dX5_oftenOf_16 : decode cX5_oftenOf 16 = .ok (.istore 4, 2) := by decide +kernel
theorem dX5_oftenOf_18 : decode cX5_oftenOf 18 = .ok (.iconst (-1), 1) := by decide +kernel
theorem dX5_oftenOf_19 : decode cX5_oftenOf 19 = .ok (.istore 5, 2) := by decide +kernel
theorem dX5_oftenOf_21 : decode cX5_oftenOf 21 = .ok (.iconst 2, 1) := by decide +kernel
theorem dX5_oftenOf_22 : decode cX5_oftenOf 22 = .ok (.istore 6, 2) := by decide +kernel
theorem dX5_oftenOf_24 : decode cX5_oftenOf 24 = .ok (.iload 6, 2) := by decide +kernel
theorem dX5_oftenOf_26 : decode cX5_oftenOf 26 = .ok (.bipush 100, 2) := by decide +kernel
theorem dX5_oftenOf_28 : decode cX5_oftenOf 28 = .ok (.if_icmp .ge 58, 3) := by decide +kernel
theorem dX5_oftenOf_31 : decode cX5_oftenOf 31 = .ok (.aload_n 0, 1) := by decide +kernel
theorem dX5_oftenOf_32 : decode cX5_oftenOf 32 = .ok (.getfield 19, 3) := by decide +kernel
theorem dX5_oftenOf_35 : decode cX5_oftenOf 35 = .ok (.iload_n 1, 1) := by decide +kernel
theorem dX5_oftenOf_36 : decode cX5_oftenOf 36 = .ok (.iload 6, 2) := by decide +kernel
theorem dX5_oftenOf_38 : decode cX5_oftenOf 38 = .ok (.iastore, 1) := by decide +kernel
theorem dX5_oftenOf_39 : decode cX5_oftenOf 39 = .ok (.aload_n 0, 1) := by decide +kernel
theorem dX5_oftenOf_40 : decode cX5_oftenOf 40 = .ok (.invokevirtual 253, 3) := by decide +kernel
theorem dX5_oftenOf_43 : decode cX5_oftenOf 43 = .ok (.istore 7, 2) := by decide +kernel
theorem dX5_oftenOf_45 : decode cX5_oftenOf 45 = .ok (.iload 7, 2) := by decide +kernel
theorem dX5_oftenOf_47 : decode cX5_oftenOf 47 = .ok (.ifCond .eq 14, 3) := by decide +kernel
theorem dX5_oftenOf_50 : decode cX5_oftenOf 50 = .ok (.iload 4, 2) := by decide +kernel
theorem dX5_oftenOf_52 : decode cX5_oftenOf 52 = .ok (.iload_n 2, 1) := by decide +kernel
theorem dX5_oftenOf_53 : decode cX5_oftenOf 53 = .ok (.if_icmp .ne 8, 3) := by decide +kernel
theorem dX5_oftenOf_56 : decode cX5_oftenOf 56 = .ok (.iload 6, 2) := by decide +kernel
theorem dX5_oftenOf_58 : decode cX5_oftenOf 58 = .ok (.goto 5, 3) := by decide +kernel
theorem dX5_oftenOf_61 : decode cX5_oftenOf 61 = .ok (.iload 5, 2) := by decide +kernel
theorem dX5_oftenOf_63 : decode cX5_oftenOf 63 = .ok (.istore 5, 2) := by decide +kernel
theorem dX5_oftenOf_65 : decode cX5_oftenOf 65 = .ok (.iload 4, 2) := by decide +kernel
theorem dX5_oftenOf_67 : decode cX5_oftenOf 67 = .ok (.iload 7, 2) := by decide +kernel
theorem dX5_oftenOf_69 : decode cX5_oftenOf 69 = .ok (.ifCond .eq 7, 3) := by decide +kernel
theorem dX5_oftenOf_72 : decode cX5_oftenOf 72 = .ok (.iconst 1, 1) := by decide +kernel
theorem dX5_oftenOf_73 : decode cX5_oftenOf 73 = .ok (.goto 4, 3) := by decide +kernel
theorem dX5_oftenOf_76 : decode cX5_oftenOf 76 = .ok (.iconst 0, 1) := by decide +kernel
theorem dX5_oftenOf_77 : decode cX5_oftenOf 77 = .ok (.iadd, 1) := by decide +kernel
theorem dX5_oftenOf_78 : decode cX5_oftenOf 78 = .ok (.istore 4, 2) := by decide +kernel
theorem dX5_oftenOf_80 : decode cX5_oftenOf 80 = .ok (.iinc 6 1, 3) := by decide +kernel
theorem dX5_oftenOf_83 : decode cX5_oftenOf 83 = .ok (.goto (-59), 3) := by decide +kernel
theorem dX5_oftenOf_86 : decode cX5_oftenOf 86 = .ok (.aload_n 0, 1) := by decide +kernel
theorem dX5_oftenOf_87 : decode cX5_oftenOf 87 = .ok (.getfield 19, 3) := by decide +kernel
theorem dX5_oftenOf_90 : decode cX5_oftenOf 90 = .ok (.iload_n 1, 1) := by decide +kernel
theorem dX5_oftenOf_91 : decode cX5_oftenOf 91 = .ok (.iload_n 3, 1) := by decide +kernel
theorem dX5_oftenOf_92 : decode cX5_oftenOf 92 = .ok (.iastore, 1) := by decide +kernel
theorem dX5_oftenOf_93 : decode cX5_oftenOf 93 = .ok (.iload_n 2, 1) := by decide +kernel
theorem dX5_oftenOf_94 : decode cX5_oftenOf 94 = .ok (.iconst (-1), 1) := by decide +kernel
theorem dX5_oftenOf_95 : decode cX5_oftenOf 95 = .ok (.if_icmp .ne 8, 3) := by decide +kernel
theorem dX5_oftenOf_98 : decode cX5_oftenOf 98 = .ok (.iload 4, 2) := by decide +kernel
theorem dX5_oftenOf_100 : decode cX5_oftenOf 100 = .ok (.goto 5, 3) := by decide +kernel
theorem dX5_oftenOf_103 : decode cX5_oftenOf 103 = .ok (.iload 5, 2) := by decide +kernel
theorem dX5_oftenOf_105 : decode cX5_oftenOf 105 = .ok (.ireturn, 1) := by decide +kernel
theorem dX5_often_0 : decode cX5_often 0 = .ok (.aload_n 0, 1) := by decide +kernel
theorem dX5_often_1 : decode cX5_often 1 = .ok (.iload_n 1, 1) := by decide +kernel
theorem dX5_often_2 : decode cX5_often 2 = .ok (.invokevirtual 125, 3) := by decide +kernel
theorem dX5_often_5 : decode cX5_often 5 = .ok (.ifCond .eq 22, 3) := by decide +kernel
theorem dX5_often_8 : decode cX5_often 8 = .ok (.iload_n 2, 1) := by decide +kernel
theorem dX5_often_9 : decode cX5_often 9 = .ok (.iconst (-1), 1) := by decide +kernel
theorem dX5_often_10 : decode cX5_often 10 = .ok (.bipush 97, 2) := by decide +kernel
theorem dX5_often_12 : decode cX5_often 12 = .ok (.invokestatic 89, 3) := by decide +kernel
theorem dX5_often_15 : decode cX5_often 15 = .ok (.ifCond .eq 12, 3) := by decide +kernel
theorem dX5_often_18 : decode cX5_often 18 = .ok (.aload_n 0, 1) := by decide +kernel
theorem dX5_often_19 : decode cX5_often 19 = .ok (.iload_n 1, 1) := by decide +kernel
theorem dX5_often_20 : decode cX5_often 20 = .ok (.iload_n 2, 1) := by decide +kernel
theorem dX5_often_21 : decode cX5_often 21 = .ok (.invokevirtual 263, 3) := by decide +kernel
theorem dX5_often_24 : decode cX5_often 24 = .ok (.goto 5, 3) := by decide +kernel
theorem dX5_often_27 : decode cX5_often 27 = .ok (.bipush (-2), 2) := by decide +kernel
theorem dX5_often_29 : decode cX5_often 29 = .ok (.ireturn, 1) := by decide +kernel
theorem dX5_hoarseOf_0 : decode cX5_hoarseOf 0 = .ok (.aload_n 0, 1) := by decide +kernel
theorem dX5_hoarseOf_1 : decode cX5_hoarseOf 1 = .ok (.invokevirtual 198, 3) := by decide +kernel
theorem dX5_hoarseOf_4 : decode cX5_hoarseOf 4 = .ok (.lconst 0, 1) := by decide +kernel
theorem dX5_hoarseOf_5 : decode cX5_hoarseOf 5 = .ok (.lstore 4, 2) := by decide +kernel
theorem dX5_hoarseOf_7 : decode cX5_hoarseOf 7 = .ok (.ldc2_w 266, 3) := by decide +kernel
theorem dX5_hoarseOf_10 : decode cX5_hoarseOf 10 = .ok (.lstore 6, 2) := by decide +kernel
theorem dX5_hoarseOf_12 : decode cX5_hoarseOf 12 = .ok (.iconst 0, 1) := by decide +kernel
theorem dX5_hoarseOf_13 : decode cX5_hoarseOf 13 = .ok (.istore 8, 2) := by decide +kernel
theorem dX5_hoarseOf_15 : decode cX5_hoarseOf 15 = .ok (.iload 8, 2) := by decide +kernel
theorem dX5_hoarseOf_17 : decode cX5_hoarseOf 17 = .ok (.bipush 15, 2) := by decide +kernel
theorem dX5_hoarseOf_19 : decode cX5_hoarseOf 19 = .ok (.if_icmp .ge 26, 3) := by decide +kernel
theorem dX5_hoarseOf_22 : decode cX5_hoarseOf 22 = .ok (.aload_n 0, 1) := by decide +kernel
theorem dX5_hoarseOf_23 : decode cX5_hoarseOf 23 = .ok (.getfield 68, 3) := by decide +kernel
theorem dX5_hoarseOf_26 : decode cX5_hoarseOf 26 = .ok (.iload 8, 2) := by decide +kernel
theorem dX5_hoarseOf_28 : decode cX5_hoarseOf 28 = .ok (.iload 8, 2) := by decide +kernel
theorem dX5_hoarseOf_30 : decode cX5_hoarseOf 30 = .ok (.ifCond .ne 7, 3) := by decide +kernel
theorem dX5_hoarseOf_33 : decode cX5_hoarseOf 33 = .ok (.lconst 1, 1) := by decide +kernel
theorem dX5_hoarseOf_34 : decode cX5_hoarseOf 34 = .ok (.goto 4, 3) := by decide +kernel
theorem dX5_hoarseOf_37 : decode cX5_hoarseOf 37 = .ok (.lconst 0, 1) := by decide +kernel
theorem dX5_hoarseOf_38 : decode cX5_hoarseOf 38 = .ok (.lastore, 1) := by decide +kernel
theorem dX5_hoarseOf_39 : decode cX5_hoarseOf 39 = .ok (.iinc 8 1, 3) := by decide +kernel
theorem dX5_hoarseOf_42 : decode cX5_hoarseOf 42 = .ok (.goto (-27), 3) := by decide +kernel
theorem dX5_hoarseOf_45 : decode cX5_hoarseOf 45 = .ok (.iconst 0, 1) := by decide +kernel
theorem dX5_hoarseOf_46 : decode cX5_hoarseOf 46 = .ok (.istore 8, 2) := by decide +kernel
theorem dX5_hoarseOf_48 : decode cX5_hoarseOf 48 = .ok (.iload 8, 2) := by decide +kernel
theorem dX5_hoarseOf_50 : decode cX5_hoarseOf 50 = .ok (.aload_n 0, 1) := by decide +kernel
theorem dX5_hoarseOf_51 : decode cX5_hoarseOf 51 = .ok (.getfield 173, 3) := by decide +kernel
theorem dX5_hoarseOf_54 : decode cX5_hoarseOf 54 = .ok (.if_icmp .ge 107, 3) := by decide +kernel
theorem dX5_hoarseOf_57 : decode cX5_hoarseOf 57 = .ok (.iload 8, 2) := by decide +kernel
theorem dX5_hoarseOf_59 : decode cX5_hoarseOf 59 = .ok (.bipush 12, 2) := by decide +kernel
theorem dX5_hoarseOf_61 : decode cX5_hoarseOf 61 = .ok (.if_icmp .ge 100, 3) := by decide +kernel
theorem dX5_hoarseOf_64 : decode cX5_hoarseOf 64 = .ok (.lload 6, 2) := by decide +kernel
theorem dX5_hoarseOf_66 : decode cX5_hoarseOf 66 = .ok (.ldc2_w 268, 3) := by decide +kernel
theorem dX5_hoarseOf_69 : decode cX5_hoarseOf 69 = .ok (.ldiv, 1) := by decide +kernel
theorem dX5_hoarseOf_70 : decode cX5_hoarseOf 70 = .ok (.lstore 6, 2) := by decide +kernel
theorem dX5_hoarseOf_72 : decode cX5_hoarseOf 72 = .ok (.bipush 14, 2) := by decide +kernel
theorem dX5_hoarseOf_74 : decode cX5_hoarseOf 74 = .ok (.istore 9, 2) := by decide +kernel
theorem dX5_hoarseOf_76 : decode cX5_hoarseOf 76 = .ok (.iload 9, 2) := by decide +kernel
theorem dX5_hoarseOf_78 : decode cX5_hoarseOf 78 = .ok (.ifCond .lt 63, 3) := by decide +kernel
theorem dX5_hoarseOf_81 : decode cX5_hoarseOf 81 = .ok (.aload_n 0, 1) := by decide +kernel
theorem dX5_hoarseOf_82 : decode cX5_hoarseOf 82 = .ok (.getfield 68, 3) := by decide +kernel
theorem dX5_hoarseOf_85 : decode cX5_hoarseOf 85 = .ok (.iload 9, 2) := by decide +kernel
theorem dX5_hoarseOf_87 : decode cX5_hoarseOf 87 = .ok (.iload 9, 2) := by decide +kernel
theorem dX5_hoarseOf_89 : decode cX5_hoarseOf 89 = .ok (.ifCond .le 21, 3) := by decide +kernel
theorem dX5_hoarseOf_92 : decode cX5_hoarseOf 92 = .ok (.bipush 16, 2) := by decide +kernel
theorem dX5_hoarseOf_94 : decode cX5_hoarseOf 94 = .ok (.iload_n 1, 1) := by decide +kernel
theorem dX5_hoarseOf_95 : decode cX5_hoarseOf 95 = .ok (.isub, 1) := by decide +kernel
theorem dX5_hoarseOf_96 : decode cX5_hoarseOf 96 = .ok (.i2l, 1) := by decide +kernel
theorem dX5_hoarseOf_97 : decode cX5_hoarseOf 97 = .ok (.aload_n 0, 1) := by decide +kernel
theorem dX5_hoarseOf_98 : decode cX5_hoarseOf 98 = .ok (.getfield 68, 3) := by decide +kernel
theorem dX5_hoarseOf_101 : decode cX5_hoarseOf 101 = .ok (.iload 9, 2) := by decide +kernel
theorem dX5_hoarseOf_103 : decode cX5_hoarseOf 103 = .ok (.iconst 1, 1) := by decide +kernel
theorem dX5_hoarseOf_104 : decode cX5_hoarseOf 104 = .ok (.isub, 1) := by decide +kernel
theorem dX5_hoarseOf_105 : decode cX5_hoarseOf 105 = .ok (.laload, 1) := by decide +kernel
theorem dX5_hoarseOf_106 : decode cX5_hoarseOf 106 = .ok (.lmul, 1) := by decide +kernel
theorem dX5_hoarseOf_107 : decode cX5_hoarseOf 107 = .ok (.goto 4, 3) := by decide +kernel
theorem dX5_hoarseOf_110 : decode cX5_hoarseOf 110 = .ok (.lconst 0, 1) := by decide +kernel
theorem dX5_hoarseOf_111 : decode cX5_hoarseOf 111 = .ok (.iload 9, 2) := by decide +kernel
theorem dX5_hoarseOf_113 : decode cX5_hoarseOf 113 = .ok (.iconst 1, 1) := by decide +kernel
theorem dX5_hoarseOf_114 : decode cX5_hoarseOf 114 = .ok (.if_icmp .le 18, 3) := by decide +kernel
theorem dX5_hoarseOf_117 : decode cX5_hoarseOf 117 = .ok (.iload_n 1, 1) := by decide +kernel
theorem dX5_hoarseOf_118 : decode cX5_hoarseOf 118 = .ok (.i2l, 1) := by decide +kernel
theorem dX5_hoarseOf_119 : decode cX5_hoarseOf 119 = .ok (.aload_n 0, 1) := by decide +kernel
theorem dX5_hoarseOf_120 : decode cX5_hoarseOf 120 = .ok (.getfield 68, 3) := by decide +kernel
theorem dX5_hoarseOf_123 : decode cX5_hoarseOf 123 = .ok (.iload 9, 2) := by decide +kernel
theorem dX5_hoarseOf_125 : decode cX5_hoarseOf 125 = .ok (.iconst 2, 1) := by decide +kernel
theorem dX5_hoarseOf_126 : decode cX5_hoarseOf 126 = .ok (.isub, 1) := by decide +kernel
theorem dX5_hoarseOf_127 : decode cX5_hoarseOf 127 = .ok (.laload, 1) := by decide +kernel
theorem dX5_hoarseOf_128 : decode cX5_hoarseOf 128 = .ok (.lmul, 1) := by decide +kernel
theorem dX5_hoarseOf_129 : decode cX5_hoarseOf 129 = .ok (.goto 4, 3) := by decide +kernel
theorem dX5_hoarseOf_132 : decode cX5_hoarseOf 132 = .ok (.lconst 0, 1) := by decide +kernel
theorem dX5_hoarseOf_133 : decode cX5_hoarseOf 133 = .ok (.ladd, 1) := by decide +kernel
theorem dX5_hoarseOf_134 : decode cX5_hoarseOf 134 = .ok (.lastore, 1) := by decide +kernel
theorem dX5_hoarseOf_135 : decode cX5_hoarseOf 135 = .ok (.iinc 9 (-1), 3) := by decide +kernel
theorem dX5_hoarseOf_138 : decode cX5_hoarseOf 138 = .ok (.goto (-62), 3) := by decide +kernel
theorem dX5_hoarseOf_141 : decode cX5_hoarseOf 141 = .ok (.lload 4, 2) := by decide +kernel
theorem dX5_hoarseOf_143 : decode cX5_hoarseOf 143 = .ok (.aload_n 0, 1) := by decide +kernel
theorem dX5_hoarseOf_144 : decode cX5_hoarseOf 144 = .ok (.getfield 68, 3) := by decide +kernel
theorem dX5_hoarseOf_147 : decode cX5_hoarseOf 147 = .ok (.iload_n 2, 1) := by decide +kernel
theorem dX5_hoarseOf_148 : decode cX5_hoarseOf 148 = .ok (.laload, 1) := by decide +kernel
theorem dX5_hoarseOf_149 : decode cX5_hoarseOf 149 = .ok (.lload 6, 2) := by decide +kernel
theorem dX5_hoarseOf_151 : decode cX5_hoarseOf 151 = .ok (.lmul, 1) := by decide +kernel
theorem dX5_hoarseOf_152 : decode cX5_hoarseOf 152 = .ok (.ladd, 1) := by decide +kernel
theorem dX5_hoarseOf_153 : decode cX5_hoarseOf 153 = .ok (.lstore 4, 2) := by decide +kernel
theorem dX5_hoarseOf_155 : decode cX5_hoarseOf 155 = .ok (.iinc 8 1, 3) := by decide +kernel
theorem dX5_hoarseOf_158 : decode cX5_hoarseOf 158 = .ok (.goto (-110), 3) := by decide +kernel
theorem dX5_hoarseOf_161 : decode cX5_hoarseOf 161 = .ok (.lload 4, 2) := by decide +kernel
theorem dX5_hoarseOf_163 : decode cX5_hoarseOf 163 = .ok (.ldc2_w 266, 3) := by decide +kernel
theorem dX5_hoarseOf_166 : decode cX5_hoarseOf 166 = .ok (.iload_n 3, 1) := by decide +kernel
theorem dX5_hoarseOf_167 : decode cX5_hoarseOf 167 = .ok (.invokestatic 270, 3) := by decide +kernel
theorem dX5_hoarseOf_170 : decode cX5_hoarseOf 170 = .ok (.lreturn, 1) := by decide +kernel
theorem dX5_hoarse_0 : decode cX5_hoarse 0 = .ok (.iload_n 1, 1) := by decide +kernel
theorem dX5_hoarse_1 : decode cX5_hoarse 1 = .ok (.iconst 0, 1) := by decide +kernel
theorem dX5_hoarse_2 : decode cX5_hoarse 2 = .ok (.bipush 16, 2) := by decide +kernel
theorem dX5_hoarse_4 : decode cX5_hoarse 4 = .ok (.invokestatic 89, 3) := by decide +kernel
theorem dX5_hoarse_7 : decode cX5_hoarse 7 = .ok (.ifCond .eq 32, 3) := by decide +kernel
theorem dX5_hoarse_10 : decode cX5_hoarse 10 = .ok (.iload_n 2, 1) := by decide +kernel
theorem dX5_hoarse_11 : decode cX5_hoarse 11 = .ok (.iconst 1, 1) := by decide +kernel
theorem dX5_hoarse_12 : decode cX5_hoarse 12 = .ok (.bipush 12, 2) := by decide +kernel
theorem dX5_hoarse_14 : decode cX5_hoarse 14 = .ok (.invokestatic 89, 3) := by decide +kernel
theorem dX5_hoarse_17 : decode cX5_hoarse 17 = .ok (.ifCond .eq 22, 3) := by decide +kernel
theorem dX5_hoarse_20 : decode cX5_hoarse 20 = .ok (.iload_n 3, 1) := by decide +kernel
theorem dX5_hoarse_21 : decode cX5_hoarse 21 = .ok (.iconst 0, 1) := by decide +kernel
theorem dX5_hoarse_22 : decode cX5_hoarse 22 = .ok (.iconst 1, 1) := by decide +kernel
theorem dX5_hoarse_23 : decode cX5_hoarse 23 = .ok (.invokestatic 89, 3) := by decide +kernel
theorem dX5_hoarse_26 : decode cX5_hoarse 26 = .ok (.ifCond .eq 13, 3) := by decide +kernel
theorem dX5_hoarse_29 : decode cX5_hoarse 29 = .ok (.aload_n 0, 1) := by decide +kernel
theorem dX5_hoarse_30 : decode cX5_hoarse 30 = .ok (.iload_n 1, 1) := by decide +kernel
theorem dX5_hoarse_31 : decode cX5_hoarse 31 = .ok (.iload_n 2, 1) := by decide +kernel
theorem dX5_hoarse_32 : decode cX5_hoarse 32 = .ok (.iload_n 3, 1) := by decide +kernel
theorem dX5_hoarse_33 : decode cX5_hoarse 33 = .ok (.invokevirtual 274, 3) := by decide +kernel
theorem dX5_hoarse_36 : decode cX5_hoarse 36 = .ok (.goto 8, 3) := by decide +kernel
theorem dX5_hoarse_39 : decode cX5_hoarse 39 = .ok (.bipush (-2), 2) := by decide +kernel
theorem dX5_hoarse_41 : decode cX5_hoarse 41 = .ok (.invokestatic 278, 3) := by decide +kernel
theorem dX5_hoarse_44 : decode cX5_hoarse 44 = .ok (.lreturn, 1) := by decide +kernel
theorem dX5_stormOf_0 : decode cX5_stormOf 0 = .ok (.aload_n 0, 1) := by decide +kernel
theorem dX5_stormOf_1 : decode cX5_stormOf 1 = .ok (.invokevirtual 198, 3) := by decide +kernel
theorem dX5_stormOf_4 : decode cX5_stormOf 4 = .ok (.iload_n 1, 1) := by decide +kernel
theorem dX5_stormOf_5 : decode cX5_stormOf 5 = .ok (.istore 4, 2) := by decide +kernel
theorem dX5_stormOf_7 : decode cX5_stormOf 7 = .ok (.iconst 0, 1) := by decide +kernel
theorem dX5_stormOf_8 : decode cX5_stormOf 8 = .ok (.istore 5, 2) := by decide +kernel
theorem dX5_stormOf_10 : decode cX5_stormOf 10 = .ok (.iconst 0, 1) := by decide +kernel
theorem dX5_stormOf_11 : decode cX5_stormOf 11 = .ok (.istore 6, 2) := by decide +kernel
theorem dX5_stormOf_13 : decode cX5_stormOf 13 = .ok (.iconst 0, 1) := by decide +kernel
theorem dX5_stormOf_14 : decode cX5_stormOf 14 = .ok (.istore 7, 2) := by decide +kernel
theorem dX5_stormOf_16 : decode cX5_stormOf 16 = .ok (.iload 7, 2) := by decide +kernel
theorem dX5_stormOf_18 : decode cX5_stormOf 18 = .ok (.iload_n 2, 1) := by decide +kernel
theorem dX5_stormOf_19 : decode cX5_stormOf 19 = .ok (.if_icmp .ge 72, 3) := by decide +kernel
theorem dX5_stormOf_22 : decode cX5_stormOf 22 = .ok (.ldc_w 282, 3) := by decide +kernel
theorem dX5_stormOf_25 : decode cX5_stormOf 25 = .ok (.iload 4, 2) := by decide +kernel
theorem dX5_stormOf_27 : decode cX5_stormOf 27 = .ok (.imul, 1) := by decide +kernel
theorem dX5_stormOf_28 : decode cX5_stormOf 28 = .ok (.sipush 12345, 3) := by decide +kernel
theorem dX5_stormOf_31 : decode cX5_stormOf 31 = .ok (.iadd, 1) := by decide +kernel
theorem dX5_stormOf_32 : decode cX5_stormOf 32 = .ok (.istore 4, 2) := by decide +kernel
theorem dX5_stormOf_34 : decode cX5_stormOf 34 = .ok (.aload_n 0, 1) := by decide +kernel
theorem dX5_stormOf_35 : decode cX5_stormOf 35 = .ok (.getfield 55, 3) := by decide +kernel
theorem dX5_stormOf_38 : decode cX5_stormOf 38 = .ok (.iload 4, 2) := by decide +kernel
theorem dX5_stormOf_40 : decode cX5_stormOf 40 = .ok (.bipush 16, 2) := by decide +kernel
theorem dX5_stormOf_42 : decode cX5_stormOf 42 = .ok (.iushr, 1) := by decide +kernel
theorem dX5_stormOf_43 : decode cX5_stormOf 43 = .ok (.sipush 240, 3) := by decide +kernel
theorem dX5_stormOf_46 : decode cX5_stormOf 46 = .ok (.irem, 1) := by decide +kernel
theorem dX5_stormOf_47 : decode cX5_stormOf 47 = .ok (.iaload, 1) := by decide +kernel
theorem dX5_stormOf_48 : decode cX5_stormOf 48 = .ok (.istore 8, 2) := by decide +kernel
theorem dX5_stormOf_50 : decode cX5_stormOf 50 = .ok (.iload 5, 2) := by decide +kernel
theorem dX5_stormOf_52 : decode cX5_stormOf 52 = .ok (.iload 8, 2) := by decide +kernel
theorem dX5_stormOf_54 : decode cX5_stormOf 54 = .ok (.ifCond .le 12, 3) := by decide +kernel
theorem dX5_stormOf_57 : decode cX5_stormOf 57 = .ok (.aload_n 0, 1) := by decide +kernel
theorem dX5_stormOf_58 : decode cX5_stormOf 58 = .ok (.iload 8, 2) := by decide +kernel
theorem dX5_stormOf_60 : decode cX5_stormOf 60 = .ok (.invokevirtual 216, 3) := by decide +kernel
theorem dX5_stormOf_63 : decode cX5_stormOf 63 = .ok (.goto 4, 3) := by decide +kernel
theorem dX5_stormOf_66 : decode cX5_stormOf 66 = .ok (.iconst 0, 1) := by decide +kernel
theorem dX5_stormOf_67 : decode cX5_stormOf 67 = .ok (.iadd, 1) := by decide +kernel
theorem dX5_stormOf_68 : decode cX5_stormOf 68 = .ok (.istore 5, 2) := by decide +kernel
theorem dX5_stormOf_70 : decode cX5_stormOf 70 = .ok (.iload 6, 2) := by decide +kernel
theorem dX5_stormOf_72 : decode cX5_stormOf 72 = .ok (.iload 8, 2) := by decide +kernel
theorem dX5_stormOf_74 : decode cX5_stormOf 74 = .ok (.ifCond .le 7, 3) := by decide +kernel
theorem dX5_stormOf_77 : decode cX5_stormOf 77 = .ok (.iconst 1, 1) := by decide +kernel
theorem dX5_stormOf_78 : decode cX5_stormOf 78 = .ok (.goto 4, 3) := by decide +kernel
theorem dX5_stormOf_81 : decode cX5_stormOf 81 = .ok (.iconst 0, 1) := by decide +kernel
theorem dX5_stormOf_82 : decode cX5_stormOf 82 = .ok (.iadd, 1) := by decide +kernel
theorem dX5_stormOf_83 : decode cX5_stormOf 83 = .ok (.istore 6, 2) := by decide +kernel
theorem dX5_stormOf_85 : decode cX5_stormOf 85 = .ok (.iinc 7 1, 3) := by decide +kernel
theorem dX5_stormOf_88 : decode cX5_stormOf 88 = .ok (.goto (-72), 3) := by decide +kernel
theorem dX5_stormOf_91 : decode cX5_stormOf 91 = .ok (.iload_n 3, 1) := by decide +kernel
theorem dX5_stormOf_92 : decode cX5_stormOf 92 = .ok (.ifCond .ne 8, 3) := by decide +kernel
theorem dX5_stormOf_95 : decode cX5_stormOf 95 = .ok (.iload 5, 2) := by decide +kernel
theorem dX5_stormOf_97 : decode cX5_stormOf 97 = .ok (.goto 5, 3) := by decide +kernel
theorem dX5_stormOf_100 : decode cX5_stormOf 100 = .ok (.iload 6, 2) := by decide +kernel
theorem dX5_stormOf_102 : decode cX5_stormOf 102 = .ok (.ireturn, 1) := by decide +kernel
theorem dX5_storm_0 : decode cX5_storm 0 = .ok (.iload_n 2, 1) := by decide +kernel
theorem dX5_storm_1 : decode cX5_storm 1 = .ok (.iconst 1, 1) := by decide +kernel
theorem dX5_storm_2 : decode cX5_storm 2 = .ok (.bipush 99, 2) := by decide +kernel
theorem dX5_storm_4 : decode cX5_storm 4 = .ok (.invokestatic 89, 3) := by decide +kernel
theorem dX5_storm_7 : decode cX5_storm 7 = .ok (.ifCond .eq 22, 3) := by decide +kernel
theorem dX5_storm_10 : decode cX5_storm 10 = .ok (.iload_n 3, 1) := by decide +kernel
theorem dX5_storm_11 : decode cX5_storm 11 = .ok (.iconst 0, 1) := by decide +kernel
theorem dX5_storm_12 : decode cX5_storm 12 = .ok (.iconst 1, 1) := by decide +kernel
theorem dX5_storm_13 : decode cX5_storm 13 = .ok (.invokestatic 89, 3) := by decide +kernel
theorem dX5_storm_16 : decode cX5_storm 16 = .ok (.ifCond .eq 13, 3) := by decide +kernel
theorem dX5_storm_19 : decode cX5_storm 19 = .ok (.aload_n 0, 1) := by decide +kernel
theorem dX5_storm_20 : decode cX5_storm 20 = .ok (.iload_n 1, 1) := by decide +kernel
theorem dX5_storm_21 : decode cX5_storm 21 = .ok (.iload_n 2, 1) := by decide +kernel
theorem dX5_storm_22 : decode cX5_storm 22 = .ok (.iload_n 3, 1) := by decide +kernel
theorem dX5_storm_23 : decode cX5_storm 23 = .ok (.invokevirtual 283, 3) := by decide +kernel
theorem dX5_storm_26 : decode cX5_storm 26 = .ok (.goto 5, 3) := by decide +kernel
theorem dX5_storm_29 : decode cX5_storm 29 = .ok (.bipush (-2), 2) := by decide +kernel
theorem dX5_storm_31 : decode cX5_storm 31 = .ok (.ireturn, 1) := by decide +kernel
theorem dX5_meets_0 : decode cX5_meets 0 = .ok (.aload_n 0, 1) := by decide +kernel
theorem dX5_meets_1 : decode cX5_meets 1 = .ok (.iload_n 1, 1) := by decide +kernel
theorem dX5_meets_2 : decode cX5_meets 2 = .ok (.putfield 286, 3) := by decide +kernel
theorem dX5_meets_5 : decode cX5_meets 5 = .ok (.bipush (-10), 2) := by decide +kernel
theorem dX5_meets_7 : decode cX5_meets 7 = .ok (.iload_n 1, 1) := by decide +kernel
theorem dX5_meets_8 : decode cX5_meets 8 = .ok (.isub, 1) := by decide +kernel
theorem dX5_meets_9 : decode cX5_meets 9 = .ok (.ireturn, 1) := by decide +kernel
theorem dX5_isSheet_0 : decode cX5_isSheet 0 = .ok (.iload_n 0, 1) := by decide +kernel
theorem dX5_isSheet_1 : decode cX5_isSheet 1 = .ok (.iconst 0, 1) := by decide +kernel
theorem dX5_isSheet_2 : decode cX5_isSheet 2 = .ok (.iconst 3, 1) := by decide +kernel
theorem dX5_isSheet_3 : decode cX5_isSheet 3 = .ok (.invokestatic 89, 3) := by decide +kernel
theorem dX5_isSheet_6 : decode cX5_isSheet 6 = .ok (.ireturn, 1) := by decide +kernel
theorem dX5_sheet_0 : decode cX5_sheet 0 = .ok (.iload_n 1, 1) := by decide +kernel
theorem dX5_sheet_1 : decode cX5_sheet 1 = .ok (.invokestatic 155, 3) := by decide +kernel
theorem dX5_sheet_4 : decode cX5_sheet 4 = .ok (.ifCond .eq 18, 3) := by decide +kernel
theorem dX5_sheet_7 : decode cX5_sheet 7 = .ok (.iload_n 2, 1) := by decide +kernel
theorem dX5_sheet_8 : decode cX5_sheet 8 = .ok (.iconst 0, 1) := by decide +kernel
theorem dX5_sheet_9 : decode cX5_sheet 9 = .ok (.iconst 2, 1) := by decide +kernel
theorem dX5_sheet_10 : decode cX5_sheet 10 = .ok (.invokestatic 89, 3) := by decide +kernel
theorem dX5_sheet_13 : decode cX5_sheet 13 = .ok (.ifCond .eq 9, 3) := by decide +kernel
theorem dX5_sheet_16 : decode cX5_sheet 16 = .ok (.iload_n 3, 1) := by decide +kernel
theorem dX5_sheet_17 : decode cX5_sheet 17 = .ok (.bipush 48, 2) := by decide +kernel
theorem dX5_sheet_19 : decode cX5_sheet 19 = .ok (.if_icmp .le 6, 3) := by decide +kernel
theorem dX5_sheet_22 : decode cX5_sheet 22 = .ok (.bipush (-2), 2) := by decide +kernel
theorem dX5_sheet_24 : decode cX5_sheet 24 = .ok (.ireturn, 1) := by decide +kernel
theorem dX5_sheet_25 : decode cX5_sheet 25 = .ok (.iload_n 3, 1) := by decide +kernel
theorem dX5_sheet_26 : decode cX5_sheet 26 = .ok (.ifCond .ge 9, 3) := by decide +kernel
theorem dX5_sheet_29 : decode cX5_sheet 29 = .ok (.aload_n 0, 1) := by decide +kernel
theorem dX5_sheet_30 : decode cX5_sheet 30 = .ok (.iconst 5, 1) := by decide +kernel
theorem dX5_sheet_31 : decode cX5_sheet 31 = .ok (.invokevirtual 158, 3) := by decide +kernel
theorem dX5_sheet_34 : decode cX5_sheet 34 = .ok (.ireturn, 1) := by decide +kernel
theorem dX5_sheet_35 : decode cX5_sheet 35 = .ok (.aload_n 0, 1) := by decide +kernel
theorem dX5_sheet_36 : decode cX5_sheet 36 = .ok (.getfield 72, 3) := by decide +kernel
theorem dX5_sheet_39 : decode cX5_sheet 39 = .ok (.iload_n 1, 1) := by decide +kernel
theorem dX5_sheet_40 : decode cX5_sheet 40 = .ok (.iconst 1, 1) := by decide +kernel
theorem dX5_sheet_41 : decode cX5_sheet 41 = .ok (.bastore, 1) := by decide +kernel
theorem dX5_sheet_42 : decode cX5_sheet 42 = .ok (.aload_n 0, 1) := by decide +kernel
theorem dX5_sheet_43 : decode cX5_sheet 43 = .ok (.getfield 75, 3) := by decide +kernel
theorem dX5_sheet_46 : decode cX5_sheet 46 = .ok (.iload_n 1, 1) := by decide +kernel
theorem dX5_sheet_47 : decode cX5_sheet 47 = .ok (.iload_n 2, 1) := by decide +kernel
theorem dX5_sheet_48 : decode cX5_sheet 48 = .ok (.iastore, 1) := by decide +kernel
theorem dX5_sheet_49 : decode cX5_sheet 49 = .ok (.aload_n 0, 1) := by decide +kernel
theorem dX5_sheet_50 : decode cX5_sheet 50 = .ok (.getfield 78, 3) := by decide +kernel
theorem dX5_sheet_53 : decode cX5_sheet 53 = .ok (.iload_n 1, 1) := by decide +kernel
theorem dX5_sheet_54 : decode cX5_sheet 54 = .ok (.iload_n 3, 1) := by decide +kernel
theorem dX5_sheet_55 : decode cX5_sheet 55 = .ok (.iastore, 1) := by decide +kernel
theorem dX5_sheet_56 : decode cX5_sheet 56 = .ok (.iconst 0, 1) := by decide +kernel
theorem dX5_sheet_57 : decode cX5_sheet 57 = .ok (.istore 4, 2) := by decide +kernel
theorem dX5_sheet_59 : decode cX5_sheet 59 = .ok (.iload 4, 2) := by decide +kernel
theorem dX5_sheet_61 : decode cX5_sheet 61 = .ok (.bipush 48, 2) := by decide +kernel
theorem dX5_sheet_63 : decode cX5_sheet 63 = .ok (.if_icmp .ge 22, 3) := by decide +kernel
theorem dX5_sheet_66 : decode cX5_sheet 66 = .ok (.aload_n 0, 1) := by decide +kernel
theorem dX5_sheet_67 : decode cX5_sheet 67 = .ok (.getfield 81, 3) := by decide +kernel
theorem dX5_sheet_70 : decode cX5_sheet 70 = .ok (.bipush 48, 2) := by decide +kernel
theorem dX5_sheet_72 : decode cX5_sheet 72 = .ok (.iload_n 1, 1) := by decide +kernel
theorem dX5_sheet_73 : decode cX5_sheet 73 = .ok (.imul, 1) := by decide +kernel
theorem dX5_sheet_74 : decode cX5_sheet 74 = .ok (.iload 4, 2) := by decide +kernel
theorem dX5_sheet_76 : decode cX5_sheet 76 = .ok (.iadd, 1) := by decide +kernel
theorem dX5_sheet_77 : decode cX5_sheet 77 = .ok (.iconst 0, 1) := by decide +kernel
theorem dX5_sheet_78 : decode cX5_sheet 78 = .ok (.iastore, 1) := by decide +kernel
theorem dX5_sheet_79 : decode cX5_sheet 79 = .ok (.iinc 4 1, 3) := by decide +kernel
theorem dX5_sheet_82 : decode cX5_sheet 82 = .ok (.goto (-23), 3) := by decide +kernel
theorem dX5_sheet_85 : decode cX5_sheet 85 = .ok (.iload_n 3, 1) := by decide +kernel
theorem dX5_sheet_86 : decode cX5_sheet 86 = .ok (.ireturn, 1) := by decide +kernel
theorem dX5_lose_0 : decode cX5_lose 0 = .ok (.iload_n 1, 1) := by decide +kernel
theorem dX5_lose_1 : decode cX5_lose 1 = .ok (.invokestatic 155, 3) := by decide +kernel
theorem dX5_lose_4 : decode cX5_lose 4 = .ok (.ifCond .ne 6, 3) := by decide +kernel
theorem dX5_lose_7 : decode cX5_lose 7 = .ok (.bipush (-2), 2) := by decide +kernel
theorem dX5_lose_9 : decode cX5_lose 9 = .ok (.ireturn, 1) := by decide +kernel
theorem dX5_lose_10 : decode cX5_lose 10 = .ok (.aload_n 0, 1) := by decide +kernel
theorem dX5_lose_11 : decode cX5_lose 11 = .ok (.getfield 72, 3) := by decide +kernel
theorem dX5_lose_14 : decode cX5_lose 14 = .ok (.iload_n 1, 1) := by decide +kernel
theorem dX5_lose_15 : decode cX5_lose 15 = .ok (.baload, 1) := by decide +kernel
theorem dX5_lose_16 : decode cX5_lose 16 = .ok (.ifCond .ne 9, 3) := by decide +kernel
theorem dX5_lose_19 : decode cX5_lose 19 = .ok (.aload_n 0, 1) := by decide +kernel
theorem dX5_lose_20 : decode cX5_lose 20 = .ok (.iconst 1, 1) := by decide +kernel
theorem dX5_lose_21 : decode cX5_lose 21 = .ok (.invokevirtual 158, 3) := by decide +kernel
theorem dX5_lose_24 : decode cX5_lose 24 = .ok (.ireturn, 1) := by decide +kernel
theorem dX5_lose_25 : decode cX5_lose 25 = .ok (.aload_n 0, 1) := by decide +kernel
theorem dX5_lose_26 : decode cX5_lose 26 = .ok (.getfield 72, 3) := by decide +kernel
theorem dX5_lose_29 : decode cX5_lose 29 = .ok (.iload_n 1, 1) := by decide +kernel
theorem dX5_lose_30 : decode cX5_lose 30 = .ok (.iconst 0, 1) := by decide +kernel
theorem dX5_lose_31 : decode cX5_lose 31 = .ok (.bastore, 1) := by decide +kernel
theorem dX5_lose_32 : decode cX5_lose 32 = .ok (.aload_n 0, 1) := by decide +kernel
theorem dX5_lose_33 : decode cX5_lose 33 = .ok (.getfield 78, 3) := by decide +kernel
theorem dX5_lose_36 : decode cX5_lose 36 = .ok (.iload_n 1, 1) := by decide +kernel
theorem dX5_lose_37 : decode cX5_lose 37 = .ok (.iaload, 1) := by decide +kernel
theorem dX5_lose_38 : decode cX5_lose 38 = .ok (.ireturn, 1) := by decide +kernel
theorem dX5_lacks_0 : decode cX5_lacks 0 = .ok (.aload_n 0, 1) := by decide +kernel
theorem dX5_lacks_1 : decode cX5_lacks 1 = .ok (.getfield 72, 3) := by decide +kernel
theorem dX5_lacks_4 : decode cX5_lacks 4 = .ok (.iload_n 1, 1) := by decide +kernel
theorem dX5_lacks_5 : decode cX5_lacks 5 = .ok (.baload, 1) := by decide +kernel
theorem dX5_lacks_6 : decode cX5_lacks 6 = .ok (.ifCond .ne 7, 3) := by decide +kernel
theorem dX5_lacks_9 : decode cX5_lacks 9 = .ok (.iconst 1, 1) := by decide +kernel
theorem dX5_lacks_10 : decode cX5_lacks 10 = .ok (.goto 38, 3) := by decide +kernel
theorem dX5_lacks_13 : decode cX5_lacks 13 = .ok (.aload_n 0, 1) := by decide +kernel
theorem dX5_lacks_14 : decode cX5_lacks 14 = .ok (.getfield 75, 3) := by decide +kernel
theorem dX5_lacks_17 : decode cX5_lacks 17 = .ok (.iload_n 1, 1) := by decide +kernel
theorem dX5_lacks_18 : decode cX5_lacks 18 = .ok (.iaload, 1) := by decide +kernel
theorem dX5_lacks_19 : decode cX5_lacks 19 = .ok (.iload_n 2, 1) := by decide +kernel
theorem dX5_lacks_20 : decode cX5_lacks 20 = .ok (.if_icmp .eq 7, 3) := by decide +kernel
theorem dX5_lacks_23 : decode cX5_lacks 23 = .ok (.iconst 3, 1) := by decide +kernel
theorem dX5_lacks_24 : decode cX5_lacks 24 = .ok (.goto 24, 3) := by decide +kernel
theorem dX5_lacks_27 : decode cX5_lacks 27 = .ok (.iload_n 3, 1) := by decide +kernel
theorem dX5_lacks_28 : decode cX5_lacks 28 = .ok (.iconst 0, 1) := by decide +kernel
theorem dX5_lacks_29 : decode cX5_lacks 29 = .ok (.aload_n 0, 1) := by decide +kernel
theorem dX5_lacks_30 : decode cX5_lacks 30 = .ok (.getfield 78, 3) := by decide +kernel
theorem dX5_lacks_33 : decode cX5_lacks 33 = .ok (.iload_n 1, 1) := by decide +kernel
theorem dX5_lacks_34 : decode cX5_lacks 34 = .ok (.iaload, 1) := by decide +kernel
theorem dX5_lacks_35 : decode cX5_lacks 35 = .ok (.iconst 1, 1) := by decide +kernel
theorem dX5_lacks_36 : decode cX5_lacks 36 = .ok (.isub, 1) := by decide +kernel
theorem dX5_lacks_37 : decode cX5_lacks 37 = .ok (.invokestatic 89, 3) := by decide +kernel
theorem dX5_lacks_40 : decode cX5_lacks 40 = .ok (.ifCond .eq 7, 3) := by decide +kernel
theorem dX5_lacks_43 : decode cX5_lacks 43 = .ok (.iconst 0, 1) := by decide +kernel
theorem dX5_lacks_44 : decode cX5_lacks 44 = .ok (.goto 4, 3) := by decide +kernel
theorem dX5_lacks_47 : decode cX5_lacks 47 = .ok (.iconst 2, 1) := by decide +kernel
theorem dX5_lacks_48 : decode cX5_lacks 48 = .ok (.ireturn, 1) := by decide +kernel
theorem dX5_keep_0 : decode cX5_keep 0 = .ok (.aload_n 0, 1) := by decide +kernel
theorem dX5_keep_1 : decode cX5_keep 1 = .ok (.getfield 81, 3) := by decide +kernel
theorem dX5_keep_4 : decode cX5_keep 4 = .ok (.bipush 48, 2) := by decide +kernel
theorem dX5_keep_6 : decode cX5_keep 6 = .ok (.iload_n 1, 1) := by decide +kernel
theorem dX5_keep_7 : decode cX5_keep 7 = .ok (.imul, 1) := by decide +kernel
theorem dX5_keep_8 : decode cX5_keep 8 = .ok (.iload_n 2, 1) := by decide +kernel
theorem dX5_keep_9 : decode cX5_keep 9 = .ok (.iadd, 1) := by decide +kernel
theorem dX5_keep_10 : decode cX5_keep 10 = .ok (.aload_n 0, 1) := by decide +kernel
theorem dX5_keep_11 : decode cX5_keep 11 = .ok (.getfield 75, 3) := by decide +kernel
theorem dX5_keep_14 : decode cX5_keep 14 = .ok (.iload_n 1, 1) := by decide +kernel
theorem dX5_keep_15 : decode cX5_keep 15 = .ok (.iaload, 1) := by decide +kernel
theorem dX5_keep_16 : decode cX5_keep 16 = .ok (.ifCond .ne 8, 3) := by decide +kernel
theorem dX5_keep_19 : decode cX5_keep 19 = .ok (.iload_n 3, 1) := by decide +kernel
theorem dX5_keep_20 : decode cX5_keep 20 = .ok (.i2b, 1) := by decide +kernel
theorem dX5_keep_21 : decode cX5_keep 21 = .ok (.goto 19, 3) := by decide +kernel
theorem dX5_keep_24 : decode cX5_keep 24 = .ok (.aload_n 0, 1) := by decide +kernel
theorem dX5_keep_25 : decode cX5_keep 25 = .ok (.getfield 75, 3) := by decide +kernel
theorem dX5_keep_28 : decode cX5_keep 28 = .ok (.iload_n 1, 1) := by decide +kernel
theorem dX5_keep_29 : decode cX5_keep 29 = .ok (.iaload, 1) := by decide +kernel
theorem dX5_keep_30 : decode cX5_keep 30 = .ok (.iconst 1, 1) := by decide +kernel
theorem dX5_keep_31 : decode cX5_keep 31 = .ok (.if_icmp .ne 8, 3) := by decide +kernel
theorem dX5_keep_34 : decode cX5_keep 34 = .ok (.iload_n 3, 1) := by decide +kernel
theorem dX5_keep_35 : decode cX5_keep 35 = .ok (.i2s, 1) := by decide +kernel
theorem dX5_keep_36 : decode cX5_keep 36 = .ok (.goto 4, 3) := by decide +kernel
theorem dX5_keep_39 : decode cX5_keep 39 = .ok (.iload_n 3, 1) := by decide +kernel
theorem dX5_keep_40 : decode cX5_keep 40 = .ok (.iastore, 1) := by decide +kernel
theorem dX5_keep_41 : decode cX5_keep 41 = .ok (.return_, 1) := by decide +kernel
theorem dX5_put_0 : decode cX5_put 0 = .ok (.iload_n 1, 1) := by decide +kernel
theorem dX5_put_1 : decode cX5_put 1 = .ok (.invokestatic 155, 3) := by decide +kernel
theorem dX5_put_4 : decode cX5_put 4 = .ok (.ifCond .eq 12, 3) := by decide +kernel
theorem dX5_put_7 : decode cX5_put 7 = .ok (.iload_n 2, 1) := by decide +kernel
theorem dX5_put_8 : decode cX5_put 8 = .ok (.iconst 0, 1) := by decide +kernel
theorem dX5_put_9 : decode cX5_put 9 = .ok (.iconst 2, 1) := by decide +kernel
theorem dX5_put_10 : decode cX5_put 10 = .ok (.invokestatic 89, 3) := by decide +kernel
theorem dX5_put_13 : decode cX5_put 13 = .ok (.ifCond .ne 6, 3) := by decide +kernel
theorem dX5_put_16 : decode cX5_put 16 = .ok (.bipush (-2), 2) := by decide +kernel
theorem dX5_put_18 : decode cX5_put 18 = .ok (.ireturn, 1) := by decide +kernel
theorem dX5_put_19 : decode cX5_put 19 = .ok (.aload_n 0, 1) := by decide +kernel
theorem dX5_put_20 : decode cX5_put 20 = .ok (.iload_n 1, 1) := by decide +kernel
theorem dX5_put_21 : decode cX5_put 21 = .ok (.iload_n 2, 1) := by decide +kernel
theorem dX5_put_22 : decode cX5_put 22 = .ok (.iload_n 3, 1) := by decide +kernel
theorem dX5_put_23 : decode cX5_put 23 = .ok (.invokevirtual 289, 3) := by decide +kernel
theorem dX5_put_26 : decode cX5_put 26 = .ok (.istore 5, 2) := by decide +kernel
theorem dX5_put_28 : decode cX5_put 28 = .ok (.iload 5, 2) := by decide +kernel
theorem dX5_put_30 : decode cX5_put 30 = .ok (.ifCond .le 10, 3) := by decide +kernel
theorem dX5_put_33 : decode cX5_put 33 = .ok (.aload_n 0, 1) := by decide +kernel
theorem dX5_put_34 : decode cX5_put 34 = .ok (.iload 5, 2) := by decide +kernel
theorem dX5_put_36 : decode cX5_put 36 = .ok (.invokevirtual 158, 3) := by decide +kernel
theorem dX5_put_39 : decode cX5_put 39 = .ok (.ireturn, 1) := by decide +kernel
theorem dX5_put_40 : decode cX5_put 40 = .ok (.aload_n 0, 1) := by decide +kernel
theorem dX5_put_41 : decode cX5_put 41 = .ok (.iload_n 1, 1) := by decide +kernel
theorem dX5_put_42 : decode cX5_put 42 = .ok (.iload_n 3, 1) := by decide +kernel
theorem dX5_put_43 : decode cX5_put 43 = .ok (.iload 4, 2) := by decide +kernel
theorem dX5_put_45 : decode cX5_put 45 = .ok (.invokevirtual 292, 3) := by decide +kernel
theorem dX5_put_48 : decode cX5_put 48 = .ok (.iconst 1, 1) := by decide +kernel
theorem dX5_put_49 : decode cX5_put 49 = .ok (.ireturn, 1) := by decide +kernel
theorem dX5_get_0 : decode cX5_get 0 = .ok (.iload_n 1, 1) := by decide +kernel
theorem dX5_get_1 : decode cX5_get 1 = .ok (.invokestatic 155, 3) := by decide +kernel
theorem dX5_get_4 : decode cX5_get 4 = .ok (.ifCond .eq 12, 3) := by decide +kernel
theorem dX5_get_7 : decode cX5_get 7 = .ok (.iload_n 2, 1) := by decide +kernel
theorem dX5_get_8 : decode cX5_get 8 = .ok (.iconst 0, 1) := by decide +kernel
theorem dX5_get_9 : decode cX5_get 9 = .ok (.iconst 2, 1) := by decide +kernel
theorem dX5_get_10 : decode cX5_get 10 = .ok (.invokestatic 89, 3) := by decide +kernel
theorem dX5_get_13 : decode cX5_get 13 = .ok (.ifCond .ne 7, 3) := by decide +kernel
theorem dX5_get_16 : decode cX5_get 16 = .ok (.ldc_w 296, 3) := by decide +kernel
theorem dX5_get_19 : decode cX5_get 19 = .ok (.ireturn, 1) := by decide +kernel
theorem dX5_get_20 : decode cX5_get 20 = .ok (.aload_n 0, 1) := by decide +kernel
theorem dX5_get_21 : decode cX5_get 21 = .ok (.iload_n 1, 1) := by decide +kernel
theorem dX5_get_22 : decode cX5_get 22 = .ok (.iload_n 2, 1) := by decide +kernel
theorem dX5_get_23 : decode cX5_get 23 = .ok (.iload_n 3, 1) := by decide +kernel
theorem dX5_get_24 : decode cX5_get 24 = .ok (.invokevirtual 289, 3) := by decide +kernel
theorem dX5_get_27 : decode cX5_get 27 = .ok (.istore 4, 2) := by decide +kernel
theorem dX5_get_29 : decode cX5_get 29 = .ok (.iload 4, 2) := by decide +kernel
theorem dX5_get_31 : decode cX5_get 31 = .ok (.ifCond .le 13, 3) := by decide +kernel
theorem dX5_get_34 : decode cX5_get 34 = .ok (.aload_n 0, 1) := by decide +kernel
theorem dX5_get_35 : decode cX5_get 35 = .ok (.iload 4, 2) := by decide +kernel
theorem dX5_get_37 : decode cX5_get 37 = .ok (.putfield 286, 3) := by decide +kernel
theorem dX5_get_40 : decode cX5_get 40 = .ok (.ldc_w 296, 3) := by decide +kernel
theorem dX5_get_43 : decode cX5_get 43 = .ok (.ireturn, 1) := by decide +kernel
theorem dX5_get_44 : decode cX5_get 44 = .ok (.aload_n 0, 1) := by decide +kernel
theorem dX5_get_45 : decode cX5_get 45 = .ok (.getfield 81, 3) := by decide +kernel
theorem dX5_get_48 : decode cX5_get 48 = .ok (.bipush 48, 2) := by decide +kernel
theorem dX5_get_50 : decode cX5_get 50 = .ok (.iload_n 1, 1) := by decide +kernel
theorem dX5_get_51 : decode cX5_get 51 = .ok (.imul, 1) := by decide +kernel
theorem dX5_get_52 : decode cX5_get 52 = .ok (.iload_n 3, 1) := by decide +kernel
theorem dX5_get_53 : decode cX5_get 53 = .ok (.iadd, 1) := by decide +kernel
theorem dX5_get_54 : decode cX5_get 54 = .ok (.iaload, 1) := by decide +kernel
theorem dX5_get_55 : decode cX5_get 55 = .ok (.ireturn, 1) := by decide +kernel
theorem dX5_copy_0 : decode cX5_copy 0 = .ok (.iload_n 1, 1) := by decide +kernel
theorem dX5_copy_1 : decode cX5_copy 1 = .ok (.invokestatic 155, 3) := by decide +kernel
theorem dX5_copy_4 : decode cX5_copy 4 = .ok (.ifCond .eq 10, 3) := by decide +kernel
theorem dX5_copy_7 : decode cX5_copy 7 = .ok (.iload_n 3, 1) := by decide +kernel
theorem dX5_copy_8 : decode cX5_copy 8 = .ok (.invokestatic 155, 3) := by decide +kernel
theorem dX5_copy_11 : decode cX5_copy 11 = .ok (.ifCond .ne 6, 3) := by decide +kernel
theorem dX5_copy_14 : decode cX5_copy 14 = .ok (.bipush (-2), 2) := by decide +kernel
theorem dX5_copy_16 : decode cX5_copy 16 = .ok (.ireturn, 1) := by decide +kernel
theorem dX5_copy_17 : decode cX5_copy 17 = .ok (.aload_n 0, 1) := by decide +kernel
theorem dX5_copy_18 : decode cX5_copy 18 = .ok (.getfield 72, 3) := by decide +kernel
theorem dX5_copy_21 : decode cX5_copy 21 = .ok (.iload_n 1, 1) := by decide +kernel
theorem dX5_copy_22 : decode cX5_copy 22 = .ok (.baload, 1) := by decide +kernel
theorem dX5_copy_23 : decode cX5_copy 23 = .ok (.ifCond .eq 12, 3) := by decide +kernel
theorem dX5_copy_26 : decode cX5_copy 26 = .ok (.aload_n 0, 1) := by decide +kernel
theorem dX5_copy_27 : decode cX5_copy 27 = .ok (.getfield 72, 3) := by decide +kernel
theorem dX5_copy_30 : decode cX5_copy 30 = .ok (.iload_n 3, 1) := by decide +kernel
theorem dX5_copy_31 : decode cX5_copy 31 = .ok (.baload, 1) := by decide +kernel
theorem dX5_copy_32 : decode cX5_copy 32 = .ok (.ifCond .ne 9, 3) := by decide +kernel
theorem dX5_copy_35 : decode cX5_copy 35 = .ok (.aload_n 0, 1) := by decide +kernel
theorem dX5_copy_36 : decode cX5_copy 36 = .ok (.iconst 1, 1) := by decide +kernel
theorem dX5_copy_37 : decode cX5_copy 37 = .ok (.invokevirtual 158, 3) := by decide +kernel
theorem dX5_copy_40 : decode cX5_copy 40 = .ok (.ireturn, 1) := by decide +kernel
theorem dX5_copy_41 : decode cX5_copy 41 = .ok (.aload_n 0, 1) := by decide +kernel
theorem dX5_copy_42 : decode cX5_copy 42 = .ok (.getfield 75, 3) := by decide +kernel
theorem dX5_copy_45 : decode cX5_copy 45 = .ok (.iload_n 1, 1) := by decide +kernel
theorem dX5_copy_46 : decode cX5_copy 46 = .ok (.iaload, 1) := by decide +kernel
theorem dX5_copy_47 : decode cX5_copy 47 = .ok (.aload_n 0, 1) := by decide +kernel
theorem dX5_copy_48 : decode cX5_copy 48 = .ok (.getfield 75, 3) := by decide +kernel
theorem dX5_copy_51 : decode cX5_copy 51 = .ok (.iload_n 3, 1) := by decide +kernel
theorem dX5_copy_52 : decode cX5_copy 52 = .ok (.iaload, 1) := by decide +kernel
theorem dX5_copy_53 : decode cX5_copy 53 = .ok (.if_icmp .eq 9, 3) := by decide +kernel
theorem dX5_copy_56 : decode cX5_copy 56 = .ok (.aload_n 0, 1) := by decide +kernel
theorem dX5_copy_57 : decode cX5_copy 57 = .ok (.iconst 4, 1) := by decide +kernel
theorem dX5_copy_58 : decode cX5_copy 58 = .ok (.invokevirtual 158, 3) := by decide +kernel
theorem dX5_copy_61 : decode cX5_copy 61 = .ok (.ireturn, 1) := by decide +kernel
theorem dX5_copy_62 : decode cX5_copy 62 = .ok (.iload_n 2, 1) := by decide +kernel
theorem dX5_copy_63 : decode cX5_copy 63 = .ok (.ifCond .lt 48, 3) := by decide +kernel
theorem dX5_copy_66 : decode cX5_copy 66 = .ok (.iload 4, 2) := by decide +kernel
theorem dX5_copy_68 : decode cX5_copy 68 = .ok (.ifCond .lt 43, 3) := by decide +kernel
theorem dX5_copy_71 : decode cX5_copy 71 = .ok (.iload 5, 2) := by decide +kernel
theorem dX5_copy_73 : decode cX5_copy 73 = .ok (.ifCond .lt 38, 3) := by decide +kernel
theorem dX5_copy_76 : decode cX5_copy 76 = .ok (.iload_n 2, 1) := by decide +kernel
theorem dX5_copy_77 : decode cX5_copy 77 = .ok (.i2l, 1) := by decide +kernel
theorem dX5_copy_78 : decode cX5_copy 78 = .ok (.iload 5, 2) := by decide +kernel
theorem dX5_copy_80 : decode cX5_copy 80 = .ok (.i2l, 1) := by decide +kernel
theorem dX5_copy_81 : decode cX5_copy 81 = .ok (.ladd, 1) := by decide +kernel
theorem dX5_copy_82 : decode cX5_copy 82 = .ok (.aload_n 0, 1) := by decide +kernel
theorem dX5_copy_83 : decode cX5_copy 83 = .ok (.getfield 78, 3) := by decide +kernel
theorem dX5_copy_86 : decode cX5_copy 86 = .ok (.iload_n 1, 1) := by decide +kernel
theorem dX5_copy_87 : decode cX5_copy 87 = .ok (.iaload, 1) := by decide +kernel
theorem dX5_copy_88 : decode cX5_copy 88 = .ok (.i2l, 1) := by decide +kernel
theorem dX5_copy_89 : decode cX5_copy 89 = .ok (.lcmp, 1) := by decide +kernel
theorem dX5_copy_90 : decode cX5_copy 90 = .ok (.ifCond .gt 21, 3) := by decide +kernel
theorem dX5_copy_93 : decode cX5_copy 93 = .ok (.iload 4, 2) := by decide +kernel
theorem dX5_copy_95 : decode cX5_copy 95 = .ok (.i2l, 1) := by decide +kernel
theorem dX5_copy_96 : decode cX5_copy 96 = .ok (.iload 5, 2) := by decide +kernel
theorem dX5_copy_98 : decode cX5_copy 98 = .ok (.i2l, 1) := by decide +kernel
theorem dX5_copy_99 : decode cX5_copy 99 = .ok (.ladd, 1) := by decide +kernel
theorem dX5_copy_100 : decode cX5_copy 100 = .ok (.aload_n 0, 1) := by decide +kernel
theorem dX5_copy_101 : decode cX5_copy 101 = .ok (.getfield 78, 3) := by decide +kernel
theorem dX5_copy_104 : decode cX5_copy 104 = .ok (.iload_n 3, 1) := by decide +kernel
theorem dX5_copy_105 : decode cX5_copy 105 = .ok (.iaload, 1) := by decide +kernel
theorem dX5_copy_106 : decode cX5_copy 106 = .ok (.i2l, 1) := by decide +kernel
theorem dX5_copy_107 : decode cX5_copy 107 = .ok (.lcmp, 1) := by decide +kernel
theorem dX5_copy_108 : decode cX5_copy 108 = .ok (.ifCond .le 9, 3) := by decide +kernel
theorem dX5_copy_111 : decode cX5_copy 111 = .ok (.aload_n 0, 1) := by decide +kernel
theorem dX5_copy_112 : decode cX5_copy 112 = .ok (.iconst 2, 1) := by decide +kernel
theorem dX5_copy_113 : decode cX5_copy 113 = .ok (.invokevirtual 158, 3) := by decide +kernel
theorem dX5_copy_116 : decode cX5_copy 116 = .ok (.ireturn, 1) := by decide +kernel
theorem dX5_copy_117 : decode cX5_copy 117 = .ok (.iconst 0, 1) := by decide +kernel
theorem dX5_copy_118 : decode cX5_copy 118 = .ok (.istore 6, 2) := by decide +kernel
theorem dX5_copy_120 : decode cX5_copy 120 = .ok (.iload 6, 2) := by decide +kernel
theorem dX5_copy_122 : decode cX5_copy 122 = .ok (.iload 5, 2) := by decide +kernel
theorem dX5_copy_124 : decode cX5_copy 124 = .ok (.if_icmp .ge 30, 3) := by decide +kernel
theorem dX5_copy_127 : decode cX5_copy 127 = .ok (.aload_n 0, 1) := by decide +kernel
theorem dX5_copy_128 : decode cX5_copy 128 = .ok (.getfield 84, 3) := by decide +kernel
theorem dX5_copy_131 : decode cX5_copy 131 = .ok (.iload 6, 2) := by decide +kernel
theorem dX5_copy_133 : decode cX5_copy 133 = .ok (.aload_n 0, 1) := by decide +kernel
theorem dX5_copy_134 : decode cX5_copy 134 = .ok (.getfield 81, 3) := by decide +kernel
theorem dX5_copy_137 : decode cX5_copy 137 = .ok (.bipush 48, 2) := by decide +kernel
theorem dX5_copy_139 : decode cX5_copy 139 = .ok (.iload_n 1, 1) := by decide +kernel
theorem dX5_copy_140 : decode cX5_copy 140 = .ok (.imul, 1) := by decide +kernel
theorem dX5_copy_141 : decode cX5_copy 141 = .ok (.iload_n 2, 1) := by decide +kernel
theorem dX5_copy_142 : decode cX5_copy 142 = .ok (.iadd, 1) := by decide +kernel
theorem dX5_copy_143 : decode cX5_copy 143 = .ok (.iload 6, 2) := by decide +kernel
theorem dX5_copy_145 : decode cX5_copy 145 = .ok (.iadd, 1) := by decide +kernel
theorem dX5_copy_146 : decode cX5_copy 146 = .ok (.iaload, 1) := by decide +kernel
theorem dX5_copy_147 : decode cX5_copy 147 = .ok (.iastore, 1) := by decide +kernel
theorem dX5_copy_148 : decode cX5_copy 148 = .ok (.iinc 6 1, 3) := by decide +kernel
theorem dX5_copy_151 : decode cX5_copy 151 = .ok (.goto (-31), 3) := by decide +kernel
theorem dX5_copy_154 : decode cX5_copy 154 = .ok (.iconst 0, 1) := by decide +kernel
theorem dX5_copy_155 : decode cX5_copy 155 = .ok (.istore 6, 2) := by decide +kernel
theorem dX5_copy_157 : decode cX5_copy 157 = .ok (.iload 6, 2) := by decide +kernel
theorem dX5_copy_159 : decode cX5_copy 159 = .ok (.iload 5, 2) := by decide +kernel
theorem dX5_copy_161 : decode cX5_copy 161 = .ok (.if_icmp .ge 31, 3) := by decide +kernel
theorem dX5_copy_164 : decode cX5_copy 164 = .ok (.aload_n 0, 1) := by decide +kernel
theorem dX5_copy_165 : decode cX5_copy 165 = .ok (.getfield 81, 3) := by decide +kernel
theorem dX5_copy_168 : decode cX5_copy 168 = .ok (.bipush 48, 2) := by decide +kernel
theorem dX5_copy_170 : decode cX5_copy 170 = .ok (.iload_n 3, 1) := by decide +kernel
theorem dX5_copy_171 : decode cX5_copy 171 = .ok (.imul, 1) := by decide +kernel
theorem dX5_copy_172 : decode cX5_copy 172 = .ok (.iload 4, 2) := by decide +kernel
theorem dX5_copy_174 : decode cX5_copy 174 = .ok (.iadd, 1) := by decide +kernel
theorem dX5_copy_175 : decode cX5_copy 175 = .ok (.iload 6, 2) := by decide +kernel
theorem dX5_copy_177 : decode cX5_copy 177 = .ok (.iadd, 1) := by decide +kernel
theorem dX5_copy_178 : decode cX5_copy 178 = .ok (.aload_n 0, 1) := by decide +kernel
theorem dX5_copy_179 : decode cX5_copy 179 = .ok (.getfield 84, 3) := by decide +kernel
theorem dX5_copy_182 : decode cX5_copy 182 = .ok (.iload 6, 2) := by decide +kernel
theorem dX5_copy_184 : decode cX5_copy 184 = .ok (.iaload, 1) := by decide +kernel
theorem dX5_copy_185 : decode cX5_copy 185 = .ok (.iastore, 1) := by decide +kernel
theorem dX5_copy_186 : decode cX5_copy 186 = .ok (.iinc 6 1, 3) := by decide +kernel
theorem dX5_copy_189 : decode cX5_copy 189 = .ok (.goto (-32), 3) := by decide +kernel
theorem dX5_copy_192 : decode cX5_copy 192 = .ok (.iconst 1, 1) := by decide +kernel
theorem dX5_copy_193 : decode cX5_copy 193 = .ok (.ireturn, 1) := by decide +kernel
theorem dX5_write_0 : decode cX5_write 0 = .ok (.iload_n 1, 1) := by decide +kernel
theorem dX5_write_1 : decode cX5_write 1 = .ok (.invokestatic 143, 3) := by decide +kernel
theorem dX5_write_4 : decode cX5_write 4 = .ok (.ifCond .eq 10, 3) := by decide +kernel
theorem dX5_write_7 : decode cX5_write 7 = .ok (.iload_n 2, 1) := by decide +kernel
theorem dX5_write_8 : decode cX5_write 8 = .ok (.invokestatic 155, 3) := by decide +kernel
theorem dX5_write_11 : decode cX5_write 11 = .ok (.ifCond .ne 6, 3) := by decide +kernel
theorem dX5_write_14 : decode cX5_write 14 = .ok (.bipush (-2), 2) := by decide +kernel
theorem dX5_write_16 : decode cX5_write 16 = .ok (.ireturn, 1) := by decide +kernel
theorem dX5_write_17 : decode cX5_write 17 = .ok (.aload_n 0, 1) := by decide +kernel
theorem dX5_write_18 : decode cX5_write 18 = .ok (.getfield 72, 3) := by decide +kernel
theorem dX5_write_21 : decode cX5_write 21 = .ok (.iload_n 2, 1) := by decide +kernel
theorem dX5_write_22 : decode cX5_write 22 = .ok (.baload, 1) := by decide +kernel
theorem dX5_write_23 : decode cX5_write 23 = .ok (.ifCond .ne 9, 3) := by decide +kernel
theorem dX5_write_26 : decode cX5_write 26 = .ok (.aload_n 0, 1) := by decide +kernel
theorem dX5_write_27 : decode cX5_write 27 = .ok (.iconst 1, 1) := by decide +kernel
theorem dX5_write_28 : decode cX5_write 28 = .ok (.invokevirtual 158, 3) := by decide +kernel
theorem dX5_write_31 : decode cX5_write 31 = .ok (.ireturn, 1) := by decide +kernel
theorem dX5_write_32 : decode cX5_write 32 = .ok (.aload_n 0, 1) := by decide +kernel
theorem dX5_write_33 : decode cX5_write 33 = .ok (.invokevirtual 198, 3) := by decide +kernel
theorem dX5_write_36 : decode cX5_write 36 = .ok (.iconst 0, 1) := by decide +kernel
theorem dX5_write_37 : decode cX5_write 37 = .ok (.istore_n 3, 1) := by decide +kernel
theorem dX5_write_38 : decode cX5_write 38 = .ok (.iload_n 3, 1) := by decide +kernel
theorem dX5_write_39 : decode cX5_write 39 = .ok (.aload_n 0, 1) := by decide +kernel
theorem dX5_write_40 : decode cX5_write 40 = .ok (.getfield 78, 3) := by decide +kernel
theorem dX5_write_43 : decode cX5_write 43 = .ok (.iload_n 2, 1) := by decide +kernel
theorem dX5_write_44 : decode cX5_write 44 = .ok (.iaload, 1) := by decide +kernel
theorem dX5_write_45 : decode cX5_write 45 = .ok (.if_icmp .ge 32, 3) := by decide +kernel
theorem dX5_write_48 : decode cX5_write 48 = .ok (.iload_n 1, 1) := by decide +kernel
theorem dX5_write_49 : decode cX5_write 49 = .ok (.iload_n 3, 1) := by decide +kernel
theorem dX5_write_50 : decode cX5_write 50 = .ok (.iadd, 1) := by decide +kernel
theorem dX5_write_51 : decode cX5_write 51 = .ok (.sipush 240, 3) := by decide +kernel
theorem dX5_write_54 : decode cX5_write 54 = .ok (.if_icmp .ge 23, 3) := by decide +kernel
theorem dX5_write_57 : decode cX5_write 57 = .ok (.aload_n 0, 1) := by decide +kernel
theorem dX5_write_58 : decode cX5_write 58 = .ok (.iload_n 2, 1) := by decide +kernel
theorem dX5_write_59 : decode cX5_write 59 = .ok (.iload_n 3, 1) := by decide +kernel
theorem dX5_write_60 : decode cX5_write 60 = .ok (.aload_n 0, 1) := by decide +kernel
theorem dX5_write_61 : decode cX5_write 61 = .ok (.getfield 55, 3) := by decide +kernel
theorem dX5_write_64 : decode cX5_write 64 = .ok (.iload_n 1, 1) := by decide +kernel
theorem dX5_write_65 : decode cX5_write 65 = .ok (.iload_n 3, 1) := by decide +kernel
theorem dX5_write_66 : decode cX5_write 66 = .ok (.iadd, 1) := by decide +kernel
theorem dX5_write_67 : decode cX5_write 67 = .ok (.iaload, 1) := by decide +kernel
theorem dX5_write_68 : decode cX5_write 68 = .ok (.invokevirtual 292, 3) := by decide +kernel
theorem dX5_write_71 : decode cX5_write 71 = .ok (.iinc 3 1, 3) := by decide +kernel
theorem dX5_write_74 : decode cX5_write 74 = .ok (.goto (-36), 3) := by decide +kernel
theorem dX5_write_77 : decode cX5_write 77 = .ok (.iload_n 3, 1) := by decide +kernel
theorem dX5_write_78 : decode cX5_write 78 = .ok (.ireturn, 1) := by decide +kernel
theorem dX5_sumOf_0 : decode cX5_sumOf 0 = .ok (.aload_n 0, 1) := by decide +kernel
theorem dX5_sumOf_1 : decode cX5_sumOf 1 = .ok (.invokevirtual 198, 3) := by decide +kernel
theorem dX5_sumOf_4 : decode cX5_sumOf 4 = .ok (.iconst 0, 1) := by decide +kernel
theorem dX5_sumOf_5 : decode cX5_sumOf 5 = .ok (.istore_n 2, 1) := by decide +kernel
theorem dX5_sumOf_6 : decode cX5_sumOf 6 = .ok (.iconst 0, 1) := by decide +kernel
theorem dX5_sumOf_7 : decode cX5_sumOf 7 = .ok (.istore_n 3, 1) := by decide +kernel
theorem dX5_sumOf_8 : decode cX5_sumOf 8 = .ok (.iload_n 3, 1) := by decide +kernel
theorem dX5_sumOf_9 : decode cX5_sumOf 9 = .ok (.sipush 240, 3) := by decide +kernel
theorem dX5_sumOf_12 : decode cX5_sumOf 12 = .ok (.if_icmp .ge 25, 3) := by decide +kernel
theorem dX5_sumOf_15 : decode cX5_sumOf 15 = .ok (.iload_n 2, 1) := by decide +kernel
theorem dX5_sumOf_16 : decode cX5_sumOf 16 = .ok (.aload_n 0, 1) := by decide +kernel
theorem dX5_sumOf_17 : decode cX5_sumOf 17 = .ok (.iload_n 3, 1) := by decide +kernel
theorem dX5_sumOf_18 : decode cX5_sumOf 18 = .ok (.invokevirtual 183, 3) := by decide +kernel
theorem dX5_sumOf_21 : decode cX5_sumOf 21 = .ok (.ifCond .eq 7, 3) := by decide +kernel
theorem dX5_sumOf_24 : decode cX5_sumOf 24 = .ok (.iconst 1, 1) := by decide +kernel
theorem dX5_sumOf_25 : decode cX5_sumOf 25 = .ok (.goto 4, 3) := by decide +kernel
theorem dX5_sumOf_28 : decode cX5_sumOf 28 = .ok (.iconst 0, 1) := by decide +kernel
theorem dX5_sumOf_29 : decode cX5_sumOf 29 = .ok (.iadd, 1) := by decide +kernel
theorem dX5_sumOf_30 : decode cX5_sumOf 30 = .ok (.istore_n 2, 1) := by decide +kernel
theorem dX5_sumOf_31 : decode cX5_sumOf 31 = .ok (.iinc 3 1, 3) := by decide +kernel
theorem dX5_sumOf_34 : decode cX5_sumOf 34 = .ok (.goto (-26), 3) := by decide +kernel
theorem dX5_sumOf_37 : decode cX5_sumOf 37 = .ok (.iload_n 1, 1) := by decide +kernel
theorem dX5_sumOf_38 : decode cX5_sumOf 38 = .ok (.ifCond .ne 10, 3) := by decide +kernel
theorem dX5_sumOf_41 : decode cX5_sumOf 41 = .ok (.aload_n 0, 1) := by decide +kernel
theorem dX5_sumOf_42 : decode cX5_sumOf 42 = .ok (.getfield 104, 3) := by decide +kernel
theorem dX5_sumOf_45 : decode cX5_sumOf 45 = .ok (.goto 28, 3) := by decide +kernel
theorem dX5_sumOf_48 : decode cX5_sumOf 48 = .ok (.iload_n 1, 1) := by decide +kernel
theorem dX5_sumOf_49 : decode cX5_sumOf 49 = .ok (.iconst 1, 1) := by decide +kernel
theorem dX5_sumOf_50 : decode cX5_sumOf 50 = .ok (.if_icmp .ne 10, 3) := by decide +kernel
theorem dX5_sumOf_53 : decode cX5_sumOf 53 = .ok (.aload_n 0, 1) := by decide +kernel
theorem dX5_sumOf_54 : decode cX5_sumOf 54 = .ok (.getfield 108, 3) := by decide +kernel
theorem dX5_sumOf_57 : decode cX5_sumOf 57 = .ok (.goto 16, 3) := by decide +kernel
theorem dX5_sumOf_60 : decode cX5_sumOf 60 = .ok (.iload_n 1, 1) := by decide +kernel
theorem dX5_sumOf_61 : decode cX5_sumOf 61 = .ok (.iconst 4, 1) := by decide +kernel
theorem dX5_sumOf_62 : decode cX5_sumOf 62 = .ok (.if_icmp .ne 7, 3) := by decide +kernel
theorem dX5_sumOf_65 : decode cX5_sumOf 65 = .ok (.iload_n 2, 1) := by decide +kernel
theorem dX5_sumOf_66 : decode cX5_sumOf 66 = .ok (.goto 7, 3) := by decide +kernel
theorem dX5_sumOf_69 : decode cX5_sumOf 69 = .ok (.aload_n 0, 1) := by decide +kernel
theorem dX5_sumOf_70 : decode cX5_sumOf 70 = .ok (.getfield 176, 3) := by decide +kernel
theorem dX5_sumOf_73 : decode cX5_sumOf 73 = .ok (.ireturn, 1) := by decide +kernel
theorem dX5_count_0 : decode cX5_count 0 = .ok (.iload_n 1, 1) := by decide +kernel
theorem dX5_count_1 : decode cX5_count 1 = .ok (.tableswitch 81 0 8 #[51, 51, 57, 57, 51, 66, 51, 71, 76], 51) := by decide +kernel
theorem dX5_count_52 : decode cX5_count 52 = .ok (.aload_n 0, 1) := by decide +kernel
theorem dX5_count_53 : decode cX5_count 53 = .ok (.iload_n 1, 1) := by decide +kernel
theorem dX5_count_54 : decode cX5_count 54 = .ok (.invokevirtual 297, 3) := by decide +kernel
theorem dX5_count_57 : decode cX5_count 57 = .ok (.ireturn, 1) := by decide +kernel
theorem dX5_count_58 : decode cX5_count 58 = .ok (.aload_n 0, 1) := by decide +kernel
theorem dX5_count_59 : decode cX5_count 59 = .ok (.getfield 7, 3) := by decide +kernel
theorem dX5_count_62 : decode cX5_count 62 = .ok (.iload_n 1, 1) := by decide +kernel
theorem dX5_count_63 : decode cX5_count 63 = .ok (.iconst 2, 1) := by decide +kernel
theorem dX5_count_64 : decode cX5_count 64 = .ok (.isub, 1) := by decide +kernel
theorem dX5_count_65 : decode cX5_count 65 = .ok (.iaload, 1) := by decide +kernel
theorem dX5_count_66 : decode cX5_count 66 = .ok (.ireturn, 1) := by decide +kernel
theorem dX5_count_67 : decode cX5_count 67 = .ok (.aload_n 0, 1) := by decide +kernel
theorem dX5_count_68 : decode cX5_count 68 = .ok (.getfield 152, 3) := by decide +kernel
theorem dX5_count_71 : decode cX5_count 71 = .ok (.ireturn, 1) := by decide +kernel
theorem dX5_count_72 : decode cX5_count 72 = .ok (.aload_n 0, 1) := by decide +kernel
theorem dX5_count_73 : decode cX5_count 73 = .ok (.getfield 250, 3) := by decide +kernel
theorem dX5_count_76 : decode cX5_count 76 = .ok (.ireturn, 1) := by decide +kernel
theorem dX5_count_77 : decode cX5_count 77 = .ok (.aload_n 0, 1) := by decide +kernel
theorem dX5_count_78 : decode cX5_count 78 = .ok (.getfield 286, 3) := by decide +kernel
theorem dX5_count_81 : decode cX5_count 81 = .ok (.ireturn, 1) := by decide +kernel
theorem dX5_count_82 : decode cX5_count 82 = .ok (.bipush (-2), 2) := by decide +kernel
theorem dX5_count_84 : decode cX5_count 84 = .ok (.ireturn, 1) := by decide +kernel
theorem dX5_swellDigest_0 : decode cX5_swellDigest 0 = .ok (.lload_n 1, 1) := by decide +kernel
theorem dX5_swellDigest_1 : decode cX5_swellDigest 1 = .ok (.lstore 4, 2) := by decide +kernel
theorem dX5_swellDigest_3 : decode cX5_swellDigest 3 = .ok (.iconst 0, 1) := by decide +kernel
theorem dX5_swellDigest_4 : decode cX5_swellDigest 4 = .ok (.istore 6, 2) := by decide +kernel
theorem dX5_swellDigest_6 : decode cX5_swellDigest 6 = .ok (.iload 6, 2) := by decide +kernel
theorem dX5_swellDigest_8 : decode cX5_swellDigest 8 = .ok (.iconst 3, 1) := by decide +kernel
theorem dX5_swellDigest_9 : decode cX5_swellDigest 9 = .ok (.if_icmp .ge 26, 3) := by decide +kernel
theorem dX5_swellDigest_12 : decode cX5_swellDigest 12 = .ok (.ldc2_w 300, 3) := by decide +kernel
theorem dX5_swellDigest_15 : decode cX5_swellDigest 15 = .ok (.lload 4, 2) := by decide +kernel
theorem dX5_swellDigest_17 : decode cX5_swellDigest 17 = .ok (.lmul, 1) := by decide +kernel
theorem dX5_swellDigest_18 : decode cX5_swellDigest 18 = .ok (.aload_n 0, 1) := by decide +kernel
theorem dX5_swellDigest_19 : decode cX5_swellDigest 19 = .ok (.iload_n 3, 1) := by decide +kernel
theorem dX5_swellDigest_20 : decode cX5_swellDigest 20 = .ok (.iload 6, 2) := by decide +kernel
theorem dX5_swellDigest_22 : decode cX5_swellDigest 22 = .ok (.invokevirtual 128, 3) := by decide +kernel
theorem dX5_swellDigest_25 : decode cX5_swellDigest 25 = .ok (.i2l, 1) := by decide +kernel
theorem dX5_swellDigest_26 : decode cX5_swellDigest 26 = .ok (.ladd, 1) := by decide +kernel
theorem dX5_swellDigest_27 : decode cX5_swellDigest 27 = .ok (.lstore 4, 2) := by decide +kernel
theorem dX5_swellDigest_29 : decode cX5_swellDigest 29 = .ok (.iinc 6 1, 3) := by decide +kernel
theorem dX5_swellDigest_32 : decode cX5_swellDigest 32 = .ok (.goto (-26), 3) := by decide +kernel
theorem dX5_swellDigest_35 : decode cX5_swellDigest 35 = .ok (.ldc2_w 300, 3) := by decide +kernel
theorem dX5_swellDigest_38 : decode cX5_swellDigest 38 = .ok (.lload 4, 2) := by decide +kernel
theorem dX5_swellDigest_40 : decode cX5_swellDigest 40 = .ok (.lmul, 1) := by decide +kernel
theorem dX5_swellDigest_41 : decode cX5_swellDigest 41 = .ok (.aload_n 0, 1) := by decide +kernel
theorem dX5_swellDigest_42 : decode cX5_swellDigest 42 = .ok (.iconst 0, 1) := by decide +kernel
theorem dX5_swellDigest_43 : decode cX5_swellDigest 43 = .ok (.iload_n 3, 1) := by decide +kernel
theorem dX5_swellDigest_44 : decode cX5_swellDigest 44 = .ok (.iconst 5, 1) := by decide +kernel
theorem dX5_swellDigest_45 : decode cX5_swellDigest 45 = .ok (.iconst 0, 1) := by decide +kernel
theorem dX5_swellDigest_46 : decode cX5_swellDigest 46 = .ok (.invokevirtual 302, 3) := by decide +kernel
theorem dX5_swellDigest_49 : decode cX5_swellDigest 49 = .ok (.i2l, 1) := by decide +kernel
theorem dX5_swellDigest_50 : decode cX5_swellDigest 50 = .ok (.ladd, 1) := by decide +kernel
theorem dX5_swellDigest_51 : decode cX5_swellDigest 51 = .ok (.lstore 4, 2) := by decide +kernel
theorem dX5_swellDigest_53 : decode cX5_swellDigest 53 = .ok (.ldc2_w 300, 3) := by decide +kernel
theorem dX5_swellDigest_56 : decode cX5_swellDigest 56 = .ok (.lload 4, 2) := by decide +kernel
theorem dX5_swellDigest_58 : decode cX5_swellDigest 58 = .ok (.lmul, 1) := by decide +kernel
theorem dX5_swellDigest_59 : decode cX5_swellDigest 59 = .ok (.aload_n 0, 1) := by decide +kernel
theorem dX5_swellDigest_60 : decode cX5_swellDigest 60 = .ok (.iconst 0, 1) := by decide +kernel
theorem dX5_swellDigest_61 : decode cX5_swellDigest 61 = .ok (.iload_n 3, 1) := by decide +kernel
theorem dX5_swellDigest_62 : decode cX5_swellDigest 62 = .ok (.iconst 5, 1) := by decide +kernel
theorem dX5_swellDigest_63 : decode cX5_swellDigest 63 = .ok (.iconst 1, 1) := by decide +kernel
theorem dX5_swellDigest_64 : decode cX5_swellDigest 64 = .ok (.invokevirtual 302, 3) := by decide +kernel
theorem dX5_swellDigest_67 : decode cX5_swellDigest 67 = .ok (.i2l, 1) := by decide +kernel
theorem dX5_swellDigest_68 : decode cX5_swellDigest 68 = .ok (.ladd, 1) := by decide +kernel
theorem dX5_swellDigest_69 : decode cX5_swellDigest 69 = .ok (.lstore 4, 2) := by decide +kernel
theorem dX5_swellDigest_71 : decode cX5_swellDigest 71 = .ok (.ldc2_w 300, 3) := by decide +kernel
theorem dX5_swellDigest_74 : decode cX5_swellDigest 74 = .ok (.lload 4, 2) := by decide +kernel
theorem dX5_swellDigest_76 : decode cX5_swellDigest 76 = .ok (.lmul, 1) := by decide +kernel
theorem dX5_swellDigest_77 : decode cX5_swellDigest 77 = .ok (.aload_n 0, 1) := by decide +kernel
theorem dX5_swellDigest_78 : decode cX5_swellDigest 78 = .ok (.iload_n 3, 1) := by decide +kernel
theorem dX5_swellDigest_79 : decode cX5_swellDigest 79 = .ok (.iconst (-1), 1) := by decide +kernel
theorem dX5_swellDigest_80 : decode cX5_swellDigest 80 = .ok (.invokevirtual 263, 3) := by decide +kernel
theorem dX5_swellDigest_83 : decode cX5_swellDigest 83 = .ok (.i2l, 1) := by decide +kernel
theorem dX5_swellDigest_84 : decode cX5_swellDigest 84 = .ok (.ladd, 1) := by decide +kernel
theorem dX5_swellDigest_85 : decode cX5_swellDigest 85 = .ok (.lstore 4, 2) := by decide +kernel
theorem dX5_swellDigest_87 : decode cX5_swellDigest 87 = .ok (.ldc2_w 300, 3) := by decide +kernel
theorem dX5_swellDigest_90 : decode cX5_swellDigest 90 = .ok (.lload 4, 2) := by decide +kernel
theorem dX5_swellDigest_92 : decode cX5_swellDigest 92 = .ok (.lmul, 1) := by decide +kernel
theorem dX5_swellDigest_93 : decode cX5_swellDigest 93 = .ok (.aload_n 0, 1) := by decide +kernel
theorem dX5_swellDigest_94 : decode cX5_swellDigest 94 = .ok (.iload_n 3, 1) := by decide +kernel
theorem dX5_swellDigest_95 : decode cX5_swellDigest 95 = .ok (.iconst 0, 1) := by decide +kernel
theorem dX5_swellDigest_96 : decode cX5_swellDigest 96 = .ok (.invokevirtual 263, 3) := by decide +kernel
theorem dX5_swellDigest_99 : decode cX5_swellDigest 99 = .ok (.i2l, 1) := by decide +kernel
theorem dX5_swellDigest_100 : decode cX5_swellDigest 100 = .ok (.ladd, 1) := by decide +kernel
theorem dX5_swellDigest_101 : decode cX5_swellDigest 101 = .ok (.lreturn, 1) := by decide +kernel
theorem dX5_timeDigest_0 : decode cX5_timeDigest 0 = .ok (.ldc2_w 300, 3) := by decide +kernel
theorem dX5_timeDigest_3 : decode cX5_timeDigest 3 = .ok (.lload_n 1, 1) := by decide +kernel
theorem dX5_timeDigest_4 : decode cX5_timeDigest 4 = .ok (.lmul, 1) := by decide +kernel
theorem dX5_timeDigest_5 : decode cX5_timeDigest 5 = .ok (.aload_n 0, 1) := by decide +kernel
theorem dX5_timeDigest_6 : decode cX5_timeDigest 6 = .ok (.iload_n 3, 1) := by decide +kernel
theorem dX5_timeDigest_7 : decode cX5_timeDigest 7 = .ok (.invokevirtual 201, 3) := by decide +kernel
theorem dX5_timeDigest_10 : decode cX5_timeDigest 10 = .ok (.i2l, 1) := by decide +kernel
theorem dX5_timeDigest_11 : decode cX5_timeDigest 11 = .ok (.ladd, 1) := by decide +kernel
theorem dX5_timeDigest_12 : decode cX5_timeDigest 12 = .ok (.lstore 4, 2) := by decide +kernel
theorem dX5_timeDigest_14 : decode cX5_timeDigest 14 = .ok (.iconst 0, 1) := by decide +kernel
theorem dX5_timeDigest_15 : decode cX5_timeDigest 15 = .ok (.istore 6, 2) := by decide +kernel
theorem dX5_timeDigest_17 : decode cX5_timeDigest 17 = .ok (.iload 6, 2) := by decide +kernel
theorem dX5_timeDigest_19 : decode cX5_timeDigest 19 = .ok (.iconst 3, 1) := by decide +kernel
theorem dX5_timeDigest_20 : decode cX5_timeDigest 20 = .ok (.if_icmp .ge 26, 3) := by decide +kernel
theorem dX5_timeDigest_23 : decode cX5_timeDigest 23 = .ok (.ldc2_w 300, 3) := by decide +kernel
theorem dX5_timeDigest_26 : decode cX5_timeDigest 26 = .ok (.lload 4, 2) := by decide +kernel
theorem dX5_timeDigest_28 : decode cX5_timeDigest 28 = .ok (.lmul, 1) := by decide +kernel
theorem dX5_timeDigest_29 : decode cX5_timeDigest 29 = .ok (.aload_n 0, 1) := by decide +kernel
theorem dX5_timeDigest_30 : decode cX5_timeDigest 30 = .ok (.iload_n 3, 1) := by decide +kernel
theorem dX5_timeDigest_31 : decode cX5_timeDigest 31 = .ok (.iload 6, 2) := by decide +kernel
theorem dX5_timeDigest_33 : decode cX5_timeDigest 33 = .ok (.invokevirtual 204, 3) := by decide +kernel
theorem dX5_timeDigest_36 : decode cX5_timeDigest 36 = .ok (.i2l, 1) := by decide +kernel
theorem dX5_timeDigest_37 : decode cX5_timeDigest 37 = .ok (.ladd, 1) := by decide +kernel
theorem dX5_timeDigest_38 : decode cX5_timeDigest 38 = .ok (.lstore 4, 2) := by decide +kernel
theorem dX5_timeDigest_40 : decode cX5_timeDigest 40 = .ok (.iinc 6 1, 3) := by decide +kernel
theorem dX5_timeDigest_43 : decode cX5_timeDigest 43 = .ok (.goto (-26), 3) := by decide +kernel
theorem dX5_timeDigest_46 : decode cX5_timeDigest 46 = .ok (.ldc2_w 300, 3) := by decide +kernel
theorem dX5_timeDigest_49 : decode cX5_timeDigest 49 = .ok (.lload 4, 2) := by decide +kernel
theorem dX5_timeDigest_51 : decode cX5_timeDigest 51 = .ok (.lmul, 1) := by decide +kernel
theorem dX5_timeDigest_52 : decode cX5_timeDigest 52 = .ok (.aload_n 0, 1) := by decide +kernel
theorem dX5_timeDigest_53 : decode cX5_timeDigest 53 = .ok (.iconst 0, 1) := by decide +kernel
theorem dX5_timeDigest_54 : decode cX5_timeDigest 54 = .ok (.iload_n 3, 1) := by decide +kernel
theorem dX5_timeDigest_55 : decode cX5_timeDigest 55 = .ok (.invokevirtual 213, 3) := by decide +kernel
theorem dX5_timeDigest_58 : decode cX5_timeDigest 58 = .ok (.i2l, 1) := by decide +kernel
theorem dX5_timeDigest_59 : decode cX5_timeDigest 59 = .ok (.ladd, 1) := by decide +kernel
theorem dX5_timeDigest_60 : decode cX5_timeDigest 60 = .ok (.lreturn, 1) := by decide +kernel
theorem dX5_numberDigest_0 : decode cX5_numberDigest 0 = .ok (.ldc2_w 300, 3) := by decide +kernel
theorem dX5_numberDigest_3 : decode cX5_numberDigest 3 = .ok (.lload_n 1, 1) := by decide +kernel
theorem dX5_numberDigest_4 : decode cX5_numberDigest 4 = .ok (.lmul, 1) := by decide +kernel
theorem dX5_numberDigest_5 : decode cX5_numberDigest 5 = .ok (.aload_n 0, 1) := by decide +kernel
theorem dX5_numberDigest_6 : decode cX5_numberDigest 6 = .ok (.iload_n 3, 1) := by decide +kernel
theorem dX5_numberDigest_7 : decode cX5_numberDigest 7 = .ok (.invokevirtual 210, 3) := by decide +kernel
theorem dX5_numberDigest_10 : decode cX5_numberDigest 10 = .ok (.i2l, 1) := by decide +kernel
theorem dX5_numberDigest_11 : decode cX5_numberDigest 11 = .ok (.ladd, 1) := by decide +kernel
theorem dX5_numberDigest_12 : decode cX5_numberDigest 12 = .ok (.lstore 4, 2) := by decide +kernel
theorem dX5_numberDigest_14 : decode cX5_numberDigest 14 = .ok (.ldc2_w 300, 3) := by decide +kernel
theorem dX5_numberDigest_17 : decode cX5_numberDigest 17 = .ok (.lload 4, 2) := by decide +kernel
theorem dX5_numberDigest_19 : decode cX5_numberDigest 19 = .ok (.lmul, 1) := by decide +kernel
theorem dX5_numberDigest_20 : decode cX5_numberDigest 20 = .ok (.aload_n 0, 1) := by decide +kernel
theorem dX5_numberDigest_21 : decode cX5_numberDigest 21 = .ok (.iload_n 3, 1) := by decide +kernel
theorem dX5_numberDigest_22 : decode cX5_numberDigest 22 = .ok (.invokevirtual 219, 3) := by decide +kernel
theorem dX5_numberDigest_25 : decode cX5_numberDigest 25 = .ok (.i2l, 1) := by decide +kernel
theorem dX5_numberDigest_26 : decode cX5_numberDigest 26 = .ok (.ladd, 1) := by decide +kernel
theorem dX5_numberDigest_27 : decode cX5_numberDigest 27 = .ok (.lreturn, 1) := by decide +kernel
theorem dX5_digest_0 : decode cX5_digest 0 = .ok (.ldc2_w 305, 3) := by decide +kernel
theorem dX5_digest_3 : decode cX5_digest 3 = .ok (.lstore_n 1, 1) := by decide +kernel
theorem dX5_digest_4 : decode cX5_digest 4 = .ok (.iconst 0, 1) := by decide +kernel
theorem dX5_digest_5 : decode cX5_digest 5 = .ok (.istore_n 3, 1) := by decide +kernel
theorem dX5_digest_6 : decode cX5_digest 6 = .ok (.iload_n 3, 1) := by decide +kernel
theorem dX5_digest_7 : decode cX5_digest 7 = .ok (.bipush 8, 2) := by decide +kernel
theorem dX5_digest_9 : decode cX5_digest 9 = .ok (.if_icmp .ge 22, 3) := by decide +kernel
theorem dX5_digest_12 : decode cX5_digest 12 = .ok (.ldc2_w 300, 3) := by decide +kernel
theorem dX5_digest_15 : decode cX5_digest 15 = .ok (.lload_n 1, 1) := by decide +kernel
theorem dX5_digest_16 : decode cX5_digest 16 = .ok (.lmul, 1) := by decide +kernel
theorem dX5_digest_17 : decode cX5_digest 17 = .ok (.aload_n 0, 1) := by decide +kernel
theorem dX5_digest_18 : decode cX5_digest 18 = .ok (.iload_n 3, 1) := by decide +kernel
theorem dX5_digest_19 : decode cX5_digest 19 = .ok (.invokevirtual 307, 3) := by decide +kernel
theorem dX5_digest_22 : decode cX5_digest 22 = .ok (.i2l, 1) := by decide +kernel
theorem dX5_digest_23 : decode cX5_digest 23 = .ok (.ladd, 1) := by decide +kernel
theorem dX5_digest_24 : decode cX5_digest 24 = .ok (.lstore_n 1, 1) := by decide +kernel
theorem dX5_digest_25 : decode cX5_digest 25 = .ok (.iinc 3 1, 3) := by decide +kernel
theorem dX5_digest_28 : decode cX5_digest 28 = .ok (.goto (-22), 3) := by decide +kernel
theorem dX5_digest_31 : decode cX5_digest 31 = .ok (.ldc2_w 300, 3) := by decide +kernel
theorem dX5_digest_34 : decode cX5_digest 34 = .ok (.lload_n 1, 1) := by decide +kernel
theorem dX5_digest_35 : decode cX5_digest 35 = .ok (.lmul, 1) := by decide +kernel
theorem dX5_digest_36 : decode cX5_digest 36 = .ok (.aload_n 0, 1) := by decide +kernel
theorem dX5_digest_37 : decode cX5_digest 37 = .ok (.iconst 0, 1) := by decide +kernel
theorem dX5_digest_38 : decode cX5_digest 38 = .ok (.invokevirtual 119, 3) := by decide +kernel
theorem dX5_digest_41 : decode cX5_digest 41 = .ok (.i2l, 1) := by decide +kernel
theorem dX5_digest_42 : decode cX5_digest 42 = .ok (.ladd, 1) := by decide +kernel
theorem dX5_digest_43 : decode cX5_digest 43 = .ok (.lstore_n 1, 1) := by decide +kernel
theorem dX5_digest_44 : decode cX5_digest 44 = .ok (.ldc2_w 300, 3) := by decide +kernel
theorem dX5_digest_47 : decode cX5_digest 47 = .ok (.lload_n 1, 1) := by decide +kernel
theorem dX5_digest_48 : decode cX5_digest 48 = .ok (.lmul, 1) := by decide +kernel
theorem dX5_digest_49 : decode cX5_digest 49 = .ok (.aload_n 0, 1) := by decide +kernel
theorem dX5_digest_50 : decode cX5_digest 50 = .ok (.iconst 1, 1) := by decide +kernel
theorem dX5_digest_51 : decode cX5_digest 51 = .ok (.invokevirtual 119, 3) := by decide +kernel
theorem dX5_digest_54 : decode cX5_digest 54 = .ok (.i2l, 1) := by decide +kernel
theorem dX5_digest_55 : decode cX5_digest 55 = .ok (.ladd, 1) := by decide +kernel
theorem dX5_digest_56 : decode cX5_digest 56 = .ok (.lstore_n 1, 1) := by decide +kernel
theorem dX5_digest_57 : decode cX5_digest 57 = .ok (.iconst 0, 1) := by decide +kernel
theorem dX5_digest_58 : decode cX5_digest 58 = .ok (.istore_n 3, 1) := by decide +kernel
theorem dX5_digest_59 : decode cX5_digest 59 = .ok (.iload_n 3, 1) := by decide +kernel
theorem dX5_digest_60 : decode cX5_digest 60 = .ok (.aload_n 0, 1) := by decide +kernel
theorem dX5_digest_61 : decode cX5_digest 61 = .ok (.getfield 104, 3) := by decide +kernel
theorem dX5_digest_64 : decode cX5_digest 64 = .ok (.if_icmp .ge 16, 3) := by decide +kernel
theorem dX5_digest_67 : decode cX5_digest 67 = .ok (.aload_n 0, 1) := by decide +kernel
theorem dX5_digest_68 : decode cX5_digest 68 = .ok (.lload_n 1, 1) := by decide +kernel
theorem dX5_digest_69 : decode cX5_digest 69 = .ok (.iload_n 3, 1) := by decide +kernel
theorem dX5_digest_70 : decode cX5_digest 70 = .ok (.invokevirtual 310, 3) := by decide +kernel
theorem dX5_digest_73 : decode cX5_digest 73 = .ok (.lstore_n 1, 1) := by decide +kernel
theorem dX5_digest_74 : decode cX5_digest 74 = .ok (.iinc 3 1, 3) := by decide +kernel
theorem dX5_digest_77 : decode cX5_digest 77 = .ok (.goto (-18), 3) := by decide +kernel
theorem dX5_digest_80 : decode cX5_digest 80 = .ok (.iconst 0, 1) := by decide +kernel
theorem dX5_digest_81 : decode cX5_digest 81 = .ok (.istore_n 3, 1) := by decide +kernel
theorem dX5_digest_82 : decode cX5_digest 82 = .ok (.iload_n 3, 1) := by decide +kernel
theorem dX5_digest_83 : decode cX5_digest 83 = .ok (.aload_n 0, 1) := by decide +kernel
theorem dX5_digest_84 : decode cX5_digest 84 = .ok (.getfield 108, 3) := by decide +kernel
theorem dX5_digest_87 : decode cX5_digest 87 = .ok (.if_icmp .ge 39, 3) := by decide +kernel
theorem dX5_digest_90 : decode cX5_digest 90 = .ok (.iconst 0, 1) := by decide +kernel
theorem dX5_digest_91 : decode cX5_digest 91 = .ok (.istore 4, 2) := by decide +kernel
theorem dX5_digest_93 : decode cX5_digest 93 = .ok (.iload 4, 2) := by decide +kernel
theorem dX5_digest_95 : decode cX5_digest 95 = .ok (.iconst 3, 1) := by decide +kernel
theorem dX5_digest_96 : decode cX5_digest 96 = .ok (.if_icmp .ge 24, 3) := by decide +kernel
theorem dX5_digest_99 : decode cX5_digest 99 = .ok (.ldc2_w 300, 3) := by decide +kernel
theorem dX5_digest_102 : decode cX5_digest 102 = .ok (.lload_n 1, 1) := by decide +kernel
theorem dX5_digest_103 : decode cX5_digest 103 = .ok (.lmul, 1) := by decide +kernel
theorem dX5_digest_104 : decode cX5_digest 104 = .ok (.aload_n 0, 1) := by decide +kernel
theorem dX5_digest_105 : decode cX5_digest 105 = .ok (.iload_n 3, 1) := by decide +kernel
theorem dX5_digest_106 : decode cX5_digest 106 = .ok (.iload 4, 2) := by decide +kernel
theorem dX5_digest_108 : decode cX5_digest 108 = .ok (.invokevirtual 134, 3) := by decide +kernel
theorem dX5_digest_111 : decode cX5_digest 111 = .ok (.i2l, 1) := by decide +kernel
theorem dX5_digest_112 : decode cX5_digest 112 = .ok (.ladd, 1) := by decide +kernel
theorem dX5_digest_113 : decode cX5_digest 113 = .ok (.lstore_n 1, 1) := by decide +kernel
theorem dX5_digest_114 : decode cX5_digest 114 = .ok (.iinc 4 1, 3) := by decide +kernel
theorem dX5_digest_117 : decode cX5_digest 117 = .ok (.goto (-24), 3) := by decide +kernel
theorem dX5_digest_120 : decode cX5_digest 120 = .ok (.iinc 3 1, 3) := by decide +kernel
theorem dX5_digest_123 : decode cX5_digest 123 = .ok (.goto (-41), 3) := by decide +kernel
theorem dX5_digest_126 : decode cX5_digest 126 = .ok (.aload_n 0, 1) := by decide +kernel
theorem dX5_digest_127 : decode cX5_digest 127 = .ok (.lload_n 1, 1) := by decide +kernel
theorem dX5_digest_128 : decode cX5_digest 128 = .ok (.iconst 0, 1) := by decide +kernel
theorem dX5_digest_129 : decode cX5_digest 129 = .ok (.invokevirtual 314, 3) := by decide +kernel
theorem dX5_digest_132 : decode cX5_digest 132 = .ok (.lstore_n 1, 1) := by decide +kernel
theorem dX5_digest_133 : decode cX5_digest 133 = .ok (.aload_n 0, 1) := by decide +kernel
theorem dX5_digest_134 : decode cX5_digest 134 = .ok (.lload_n 1, 1) := by decide +kernel
theorem dX5_digest_135 : decode cX5_digest 135 = .ok (.iconst 1, 1) := by decide +kernel
theorem dX5_digest_136 : decode cX5_digest 136 = .ok (.invokevirtual 314, 3) := by decide +kernel
theorem dX5_digest_139 : decode cX5_digest 139 = .ok (.lstore_n 1, 1) := by decide +kernel
theorem dX5_digest_140 : decode cX5_digest 140 = .ok (.aload_n 0, 1) := by decide +kernel
theorem dX5_digest_141 : decode cX5_digest 141 = .ok (.lload_n 1, 1) := by decide +kernel
theorem dX5_digest_142 : decode cX5_digest 142 = .ok (.bipush 60, 2) := by decide +kernel
theorem dX5_digest_144 : decode cX5_digest 144 = .ok (.invokevirtual 314, 3) := by decide +kernel
theorem dX5_digest_147 : decode cX5_digest 147 = .ok (.lstore_n 1, 1) := by decide +kernel
theorem dX5_digest_148 : decode cX5_digest 148 = .ok (.aload_n 0, 1) := by decide +kernel
theorem dX5_digest_149 : decode cX5_digest 149 = .ok (.lload_n 1, 1) := by decide +kernel
theorem dX5_digest_150 : decode cX5_digest 150 = .ok (.sipush 239, 3) := by decide +kernel
theorem dX5_digest_153 : decode cX5_digest 153 = .ok (.invokevirtual 314, 3) := by decide +kernel
theorem dX5_digest_156 : decode cX5_digest 156 = .ok (.lstore_n 1, 1) := by decide +kernel
theorem dX5_digest_157 : decode cX5_digest 157 = .ok (.aload_n 0, 1) := by decide +kernel
theorem dX5_digest_158 : decode cX5_digest 158 = .ok (.lload_n 1, 1) := by decide +kernel
theorem dX5_digest_159 : decode cX5_digest 159 = .ok (.iconst 1, 1) := by decide +kernel
theorem dX5_digest_160 : decode cX5_digest 160 = .ok (.invokevirtual 317, 3) := by decide +kernel
theorem dX5_digest_163 : decode cX5_digest 163 = .ok (.lstore_n 1, 1) := by decide +kernel
theorem dX5_digest_164 : decode cX5_digest 164 = .ok (.aload_n 0, 1) := by decide +kernel
theorem dX5_digest_165 : decode cX5_digest 165 = .ok (.lload_n 1, 1) := by decide +kernel
theorem dX5_digest_166 : decode cX5_digest 166 = .ok (.bipush 7, 2) := by decide +kernel
theorem dX5_digest_168 : decode cX5_digest 168 = .ok (.invokevirtual 317, 3) := by decide +kernel
theorem dX5_digest_171 : decode cX5_digest 171 = .ok (.lstore_n 1, 1) := by decide +kernel
theorem dX5_digest_172 : decode cX5_digest 172 = .ok (.aload_n 0, 1) := by decide +kernel
theorem dX5_digest_173 : decode cX5_digest 173 = .ok (.lload_n 1, 1) := by decide +kernel
theorem dX5_digest_174 : decode cX5_digest 174 = .ok (.bipush 40, 2) := by decide +kernel
theorem dX5_digest_176 : decode cX5_digest 176 = .ok (.invokevirtual 317, 3) := by decide +kernel
theorem dX5_digest_179 : decode cX5_digest 179 = .ok (.lstore_n 1, 1) := by decide +kernel
theorem dX5_digest_180 : decode cX5_digest 180 = .ok (.iconst 0, 1) := by decide +kernel
theorem dX5_digest_181 : decode cX5_digest 181 = .ok (.istore_n 3, 1) := by decide +kernel
theorem dX5_digest_182 : decode cX5_digest 182 = .ok (.iload_n 3, 1) := by decide +kernel
theorem dX5_digest_183 : decode cX5_digest 183 = .ok (.bipush 8, 2) := by decide +kernel
theorem dX5_digest_185 : decode cX5_digest 185 = .ok (.if_icmp .ge 50, 3) := by decide +kernel
theorem dX5_digest_188 : decode cX5_digest 188 = .ok (.ldc2_w 300, 3) := by decide +kernel
theorem dX5_digest_191 : decode cX5_digest 191 = .ok (.lload_n 1, 1) := by decide +kernel
theorem dX5_digest_192 : decode cX5_digest 192 = .ok (.lmul, 1) := by decide +kernel
theorem dX5_digest_193 : decode cX5_digest 193 = .ok (.aload_n 0, 1) := by decide +kernel
theorem dX5_digest_194 : decode cX5_digest 194 = .ok (.iload_n 3, 1) := by decide +kernel
theorem dX5_digest_195 : decode cX5_digest 195 = .ok (.invokevirtual 228, 3) := by decide +kernel
theorem dX5_digest_198 : decode cX5_digest 198 = .ok (.i2l, 1) := by decide +kernel
theorem dX5_digest_199 : decode cX5_digest 199 = .ok (.ladd, 1) := by decide +kernel
theorem dX5_digest_200 : decode cX5_digest 200 = .ok (.lstore_n 1, 1) := by decide +kernel
theorem dX5_digest_201 : decode cX5_digest 201 = .ok (.ldc2_w 300, 3) := by decide +kernel
theorem dX5_digest_204 : decode cX5_digest 204 = .ok (.lload_n 1, 1) := by decide +kernel
theorem dX5_digest_205 : decode cX5_digest 205 = .ok (.lmul, 1) := by decide +kernel
theorem dX5_digest_206 : decode cX5_digest 206 = .ok (.aload_n 0, 1) := by decide +kernel
theorem dX5_digest_207 : decode cX5_digest 207 = .ok (.iload_n 3, 1) := by decide +kernel
theorem dX5_digest_208 : decode cX5_digest 208 = .ok (.iconst 0, 1) := by decide +kernel
theorem dX5_digest_209 : decode cX5_digest 209 = .ok (.invokevirtual 247, 3) := by decide +kernel
theorem dX5_digest_212 : decode cX5_digest 212 = .ok (.i2l, 1) := by decide +kernel
theorem dX5_digest_213 : decode cX5_digest 213 = .ok (.ladd, 1) := by decide +kernel
theorem dX5_digest_214 : decode cX5_digest 214 = .ok (.lstore_n 1, 1) := by decide +kernel
theorem dX5_digest_215 : decode cX5_digest 215 = .ok (.ldc2_w 300, 3) := by decide +kernel
theorem dX5_digest_218 : decode cX5_digest 218 = .ok (.lload_n 1, 1) := by decide +kernel
theorem dX5_digest_219 : decode cX5_digest 219 = .ok (.lmul, 1) := by decide +kernel
theorem dX5_digest_220 : decode cX5_digest 220 = .ok (.aload_n 0, 1) := by decide +kernel
theorem dX5_digest_221 : decode cX5_digest 221 = .ok (.iload_n 3, 1) := by decide +kernel
theorem dX5_digest_222 : decode cX5_digest 222 = .ok (.iconst 1, 1) := by decide +kernel
theorem dX5_digest_223 : decode cX5_digest 223 = .ok (.invokevirtual 247, 3) := by decide +kernel
theorem dX5_digest_226 : decode cX5_digest 226 = .ok (.i2l, 1) := by decide +kernel
theorem dX5_digest_227 : decode cX5_digest 227 = .ok (.ladd, 1) := by decide +kernel
theorem dX5_digest_228 : decode cX5_digest 228 = .ok (.lstore_n 1, 1) := by decide +kernel
theorem dX5_digest_229 : decode cX5_digest 229 = .ok (.iinc 3 1, 3) := by decide +kernel
theorem dX5_digest_232 : decode cX5_digest 232 = .ok (.goto (-50), 3) := by decide +kernel
theorem dX5_digest_235 : decode cX5_digest 235 = .ok (.iconst 0, 1) := by decide +kernel
theorem dX5_digest_236 : decode cX5_digest 236 = .ok (.istore_n 3, 1) := by decide +kernel
theorem dX5_digest_237 : decode cX5_digest 237 = .ok (.iload_n 3, 1) := by decide +kernel
theorem dX5_digest_238 : decode cX5_digest 238 = .ok (.aload_n 0, 1) := by decide +kernel
theorem dX5_digest_239 : decode cX5_digest 239 = .ok (.getfield 152, 3) := by decide +kernel
theorem dX5_digest_242 : decode cX5_digest 242 = .ok (.if_icmp .ge 22, 3) := by decide +kernel
theorem dX5_digest_245 : decode cX5_digest 245 = .ok (.ldc2_w 300, 3) := by decide +kernel
theorem dX5_digest_248 : decode cX5_digest 248 = .ok (.lload_n 1, 1) := by decide +kernel
theorem dX5_digest_249 : decode cX5_digest 249 = .ok (.lmul, 1) := by decide +kernel
theorem dX5_digest_250 : decode cX5_digest 250 = .ok (.aload_n 0, 1) := by decide +kernel
theorem dX5_digest_251 : decode cX5_digest 251 = .ok (.iload_n 3, 1) := by decide +kernel
theorem dX5_digest_252 : decode cX5_digest 252 = .ok (.invokevirtual 231, 3) := by decide +kernel
theorem dX5_digest_255 : decode cX5_digest 255 = .ok (.i2l, 1) := by decide +kernel
theorem dX5_digest_256 : decode cX5_digest 256 = .ok (.ladd, 1) := by decide +kernel
theorem dX5_digest_257 : decode cX5_digest 257 = .ok (.lstore_n 1, 1) := by decide +kernel
theorem dX5_digest_258 : decode cX5_digest 258 = .ok (.iinc 3 1, 3) := by decide +kernel
theorem dX5_digest_261 : decode cX5_digest 261 = .ok (.goto (-24), 3) := by decide +kernel
theorem dX5_digest_264 : decode cX5_digest 264 = .ok (.ldc2_w 300, 3) := by decide +kernel
theorem dX5_digest_267 : decode cX5_digest 267 = .ok (.lload_n 1, 1) := by decide +kernel
theorem dX5_digest_268 : decode cX5_digest 268 = .ok (.lmul, 1) := by decide +kernel
theorem dX5_digest_269 : decode cX5_digest 269 = .ok (.aload_n 0, 1) := by decide +kernel
theorem dX5_digest_270 : decode cX5_digest 270 = .ok (.iconst 3, 1) := by decide +kernel
theorem dX5_digest_271 : decode cX5_digest 271 = .ok (.iconst 0, 1) := by decide +kernel
theorem dX5_digest_272 : decode cX5_digest 272 = .ok (.invokevirtual 241, 3) := by decide +kernel
theorem dX5_digest_275 : decode cX5_digest 275 = .ok (.i2l, 1) := by decide +kernel
theorem dX5_digest_276 : decode cX5_digest 276 = .ok (.ladd, 1) := by decide +kernel
theorem dX5_digest_277 : decode cX5_digest 277 = .ok (.lstore_n 1, 1) := by decide +kernel
theorem dX5_digest_278 : decode cX5_digest 278 = .ok (.ldc2_w 300, 3) := by decide +kernel
theorem dX5_digest_281 : decode cX5_digest 281 = .ok (.lload_n 1, 1) := by decide +kernel
theorem dX5_digest_282 : decode cX5_digest 282 = .ok (.lmul, 1) := by decide +kernel
theorem dX5_digest_283 : decode cX5_digest 283 = .ok (.aload_n 0, 1) := by decide +kernel
theorem dX5_digest_284 : decode cX5_digest 284 = .ok (.iconst 3, 1) := by decide +kernel
theorem dX5_digest_285 : decode cX5_digest 285 = .ok (.iconst 1, 1) := by decide +kernel
theorem dX5_digest_286 : decode cX5_digest 286 = .ok (.invokevirtual 241, 3) := by decide +kernel
theorem dX5_digest_289 : decode cX5_digest 289 = .ok (.i2l, 1) := by decide +kernel
theorem dX5_digest_290 : decode cX5_digest 290 = .ok (.ladd, 1) := by decide +kernel
theorem dX5_digest_291 : decode cX5_digest 291 = .ok (.lstore_n 1, 1) := by decide +kernel
theorem dX5_digest_292 : decode cX5_digest 292 = .ok (.ldc2_w 300, 3) := by decide +kernel
theorem dX5_digest_295 : decode cX5_digest 295 = .ok (.lload_n 1, 1) := by decide +kernel
theorem dX5_digest_296 : decode cX5_digest 296 = .ok (.lmul, 1) := by decide +kernel
theorem dX5_digest_297 : decode cX5_digest 297 = .ok (.aload_n 0, 1) := by decide +kernel
theorem dX5_digest_298 : decode cX5_digest 298 = .ok (.bipush 9, 2) := by decide +kernel
theorem dX5_digest_300 : decode cX5_digest 300 = .ok (.invokevirtual 244, 3) := by decide +kernel
theorem dX5_digest_303 : decode cX5_digest 303 = .ok (.i2l, 1) := by decide +kernel
theorem dX5_digest_304 : decode cX5_digest 304 = .ok (.ladd, 1) := by decide +kernel
theorem dX5_digest_305 : decode cX5_digest 305 = .ok (.lstore_n 1, 1) := by decide +kernel
theorem dX5_digest_306 : decode cX5_digest 306 = .ok (.ldc2_w 300, 3) := by decide +kernel
theorem dX5_digest_309 : decode cX5_digest 309 = .ok (.lload_n 1, 1) := by decide +kernel
theorem dX5_digest_310 : decode cX5_digest 310 = .ok (.lmul, 1) := by decide +kernel
theorem dX5_digest_311 : decode cX5_digest 311 = .ok (.aload_n 0, 1) := by decide +kernel
theorem dX5_digest_312 : decode cX5_digest 312 = .ok (.iconst 1, 1) := by decide +kernel
theorem dX5_digest_313 : decode cX5_digest 313 = .ok (.invokevirtual 257, 3) := by decide +kernel
theorem dX5_digest_316 : decode cX5_digest 316 = .ok (.i2l, 1) := by decide +kernel
theorem dX5_digest_317 : decode cX5_digest 317 = .ok (.ladd, 1) := by decide +kernel
theorem dX5_digest_318 : decode cX5_digest 318 = .ok (.lstore_n 1, 1) := by decide +kernel
theorem dX5_digest_319 : decode cX5_digest 319 = .ok (.ldc2_w 300, 3) := by decide +kernel
theorem dX5_digest_322 : decode cX5_digest 322 = .ok (.lload_n 1, 1) := by decide +kernel
theorem dX5_digest_323 : decode cX5_digest 323 = .ok (.lmul, 1) := by decide +kernel
theorem dX5_digest_324 : decode cX5_digest 324 = .ok (.aload_n 0, 1) := by decide +kernel
theorem dX5_digest_325 : decode cX5_digest 325 = .ok (.iconst (-1), 1) := by decide +kernel
theorem dX5_digest_326 : decode cX5_digest 326 = .ok (.invokevirtual 260, 3) := by decide +kernel
theorem dX5_digest_329 : decode cX5_digest 329 = .ok (.i2l, 1) := by decide +kernel
theorem dX5_digest_330 : decode cX5_digest 330 = .ok (.ladd, 1) := by decide +kernel
theorem dX5_digest_331 : decode cX5_digest 331 = .ok (.lstore_n 1, 1) := by decide +kernel
theorem dX5_digest_332 : decode cX5_digest 332 = .ok (.ldc2_w 300, 3) := by decide +kernel
theorem dX5_digest_335 : decode cX5_digest 335 = .ok (.lload_n 1, 1) := by decide +kernel
theorem dX5_digest_336 : decode cX5_digest 336 = .ok (.lmul, 1) := by decide +kernel
theorem dX5_digest_337 : decode cX5_digest 337 = .ok (.aload_n 0, 1) := by decide +kernel
theorem dX5_digest_338 : decode cX5_digest 338 = .ok (.iconst 0, 1) := by decide +kernel
theorem dX5_digest_339 : decode cX5_digest 339 = .ok (.invokevirtual 260, 3) := by decide +kernel
theorem dX5_digest_342 : decode cX5_digest 342 = .ok (.i2l, 1) := by decide +kernel
theorem dX5_digest_343 : decode cX5_digest 343 = .ok (.ladd, 1) := by decide +kernel
theorem dX5_digest_344 : decode cX5_digest 344 = .ok (.lstore_n 1, 1) := by decide +kernel
theorem dX5_digest_345 : decode cX5_digest 345 = .ok (.ldc2_w 300, 3) := by decide +kernel
theorem dX5_digest_348 : decode cX5_digest 348 = .ok (.lload_n 1, 1) := by decide +kernel
theorem dX5_digest_349 : decode cX5_digest 349 = .ok (.lmul, 1) := by decide +kernel
theorem dX5_digest_350 : decode cX5_digest 350 = .ok (.aload_n 0, 1) := by decide +kernel
theorem dX5_digest_351 : decode cX5_digest 351 = .ok (.iconst 5, 1) := by decide +kernel
theorem dX5_digest_352 : decode cX5_digest 352 = .ok (.iconst 4, 1) := by decide +kernel
theorem dX5_digest_353 : decode cX5_digest 353 = .ok (.iconst 0, 1) := by decide +kernel
theorem dX5_digest_354 : decode cX5_digest 354 = .ok (.invokevirtual 274, 3) := by decide +kernel
theorem dX5_digest_357 : decode cX5_digest 357 = .ok (.ladd, 1) := by decide +kernel
theorem dX5_digest_358 : decode cX5_digest 358 = .ok (.lstore_n 1, 1) := by decide +kernel
theorem dX5_digest_359 : decode cX5_digest 359 = .ok (.ldc2_w 300, 3) := by decide +kernel
theorem dX5_digest_362 : decode cX5_digest 362 = .ok (.lload_n 1, 1) := by decide +kernel
theorem dX5_digest_363 : decode cX5_digest 363 = .ok (.lmul, 1) := by decide +kernel
theorem dX5_digest_364 : decode cX5_digest 364 = .ok (.aload_n 0, 1) := by decide +kernel
theorem dX5_digest_365 : decode cX5_digest 365 = .ok (.iconst 5, 1) := by decide +kernel
theorem dX5_digest_366 : decode cX5_digest 366 = .ok (.iconst 4, 1) := by decide +kernel
theorem dX5_digest_367 : decode cX5_digest 367 = .ok (.iconst 1, 1) := by decide +kernel
theorem dX5_digest_368 : decode cX5_digest 368 = .ok (.invokevirtual 274, 3) := by decide +kernel
theorem dX5_digest_371 : decode cX5_digest 371 = .ok (.ladd, 1) := by decide +kernel
theorem dX5_digest_372 : decode cX5_digest 372 = .ok (.lstore_n 1, 1) := by decide +kernel
theorem dX5_digest_373 : decode cX5_digest 373 = .ok (.ldc2_w 300, 3) := by decide +kernel
theorem dX5_digest_376 : decode cX5_digest 376 = .ok (.lload_n 1, 1) := by decide +kernel
theorem dX5_digest_377 : decode cX5_digest 377 = .ok (.lmul, 1) := by decide +kernel
theorem dX5_digest_378 : decode cX5_digest 378 = .ok (.aload_n 0, 1) := by decide +kernel
theorem dX5_digest_379 : decode cX5_digest 379 = .ok (.bipush 7, 2) := by decide +kernel
theorem dX5_digest_381 : decode cX5_digest 381 = .ok (.bipush 30, 2) := by decide +kernel
theorem dX5_digest_383 : decode cX5_digest 383 = .ok (.iconst 0, 1) := by decide +kernel
theorem dX5_digest_384 : decode cX5_digest 384 = .ok (.invokevirtual 283, 3) := by decide +kernel
theorem dX5_digest_387 : decode cX5_digest 387 = .ok (.i2l, 1) := by decide +kernel
theorem dX5_digest_388 : decode cX5_digest 388 = .ok (.ladd, 1) := by decide +kernel
theorem dX5_digest_389 : decode cX5_digest 389 = .ok (.lstore_n 1, 1) := by decide +kernel
theorem dX5_digest_390 : decode cX5_digest 390 = .ok (.ldc2_w 300, 3) := by decide +kernel
theorem dX5_digest_393 : decode cX5_digest 393 = .ok (.lload_n 1, 1) := by decide +kernel
theorem dX5_digest_394 : decode cX5_digest 394 = .ok (.lmul, 1) := by decide +kernel
theorem dX5_digest_395 : decode cX5_digest 395 = .ok (.aload_n 0, 1) := by decide +kernel
theorem dX5_digest_396 : decode cX5_digest 396 = .ok (.bipush 7, 2) := by decide +kernel
theorem dX5_digest_398 : decode cX5_digest 398 = .ok (.bipush 30, 2) := by decide +kernel
theorem dX5_digest_400 : decode cX5_digest 400 = .ok (.iconst 1, 1) := by decide +kernel
theorem dX5_digest_401 : decode cX5_digest 401 = .ok (.invokevirtual 283, 3) := by decide +kernel
theorem dX5_digest_404 : decode cX5_digest 404 = .ok (.i2l, 1) := by decide +kernel
theorem dX5_digest_405 : decode cX5_digest 405 = .ok (.ladd, 1) := by decide +kernel
theorem dX5_digest_406 : decode cX5_digest 406 = .ok (.lreturn, 1) := by decide +kernel
end
section
theorem dL_law_0 : decode cL_law 0 = .ok (.new 7, 3) := by decide +kernel
theorem dL_law_3 : decode cL_law 3 = .ok (.dup, 1) := by decide +kernel
theorem dL_law_4 : decode cL_law 4 = .ok (.invokespecial 9, 3) := by decide +kernel
theorem dL_law_7 : decode cL_law 7 = .ok (.astore_n 1, 1) := by decide +kernel
theorem dL_law_8 : decode cL_law 8 = .ok (.new 10, 3) := by decide +kernel
theorem dL_law_11 : decode cL_law 11 = .ok (.dup, 1) := by decide +kernel
theorem dL_law_12 : decode cL_law 12 = .ok (.invokespecial 12, 3) := by decide +kernel
theorem dL_law_15 : decode cL_law 15 = .ok (.astore_n 2, 1) := by decide +kernel
theorem dL_law_16 : decode cL_law 16 = .ok (.iconst 0, 1) := by decide +kernel
theorem dL_law_17 : decode cL_law 17 = .ok (.istore_n 3, 1) := by decide +kernel
theorem dL_law_18 : decode cL_law 18 = .ok (.iload_n 3, 1) := by decide +kernel
theorem dL_law_19 : decode cL_law 19 = .ok (.aload_n 0, 1) := by decide +kernel
theorem dL_law_20 : decode cL_law 20 = .ok (.arraylength, 1) := by decide +kernel
theorem dL_law_21 : decode cL_law 21 = .ok (.bipush 6, 2) := by decide +kernel
theorem dL_law_23 : decode cL_law 23 = .ok (.isub, 1) := by decide +kernel
theorem dL_law_24 : decode cL_law 24 = .ok (.if_icmp .gt 1338, 3) := by decide +kernel
theorem dL_law_27 : decode cL_law 27 = .ok (.aload_n 0, 1) := by decide +kernel
theorem dL_law_28 : decode cL_law 28 = .ok (.iload_n 3, 1) := by decide +kernel
theorem dL_law_29 : decode cL_law 29 = .ok (.iaload, 1) := by decide +kernel
theorem dL_law_30 : decode cL_law 30 = .ok (.bipush 63, 2) := by decide +kernel
theorem dL_law_32 : decode cL_law 32 = .ok (.iand, 1) := by decide +kernel
theorem dL_law_33 : decode cL_law 33 = .ok (.tableswitch 1323 0 37 #[167, 200, 223, 246, 269, 302, 335, 358, 391, 414, 447, 470, 493, 516, 549, 572, 605, 628, 651, 674, 727, 760, 783, 816, 849, 862, 885, 908, 941, 985, 1028, 1071, 1094, 1147, 1190, 1253, 1286, 1309], 167) := by decide +kernel
theorem dL_law_200 : decode cL_law 200 = .ok (.aload_n 1, 1) := by decide +kernel
theorem dL_law_201 : decode cL_law 201 = .ok (.aload_n 0, 1) := by decide +kernel
theorem dL_law_202 : decode cL_law 202 = .ok (.iload_n 3, 1) := by decide +kernel
theorem dL_law_203 : decode cL_law 203 = .ok (.iconst 1, 1) := by decide +kernel
theorem dL_law_204 : decode cL_law 204 = .ok (.iadd, 1) := by decide +kernel
theorem dL_law_205 : decode cL_law 205 = .ok (.iaload, 1) := by decide +kernel
theorem dL_law_206 : decode cL_law 206 = .ok (.aload_n 0, 1) := by decide +kernel
theorem dL_law_207 : decode cL_law 207 = .ok (.iload_n 3, 1) := by decide +kernel
theorem dL_law_208 : decode cL_law 208 = .ok (.iconst 2, 1) := by decide +kernel
theorem dL_law_209 : decode cL_law 209 = .ok (.iadd, 1) := by decide +kernel
theorem dL_law_210 : decode cL_law 210 = .ok (.iaload, 1) := by decide +kernel
theorem dL_law_211 : decode cL_law 211 = .ok (.invokevirtual 13, 3) := by decide +kernel
theorem dL_law_214 : decode cL_law 214 = .ok (.aload_n 2, 1) := by decide +kernel
theorem dL_law_215 : decode cL_law 215 = .ok (.aload_n 0, 1) := by decide +kernel
theorem dL_law_216 : decode cL_law 216 = .ok (.iload_n 3, 1) := by decide +kernel
theorem dL_law_217 : decode cL_law 217 = .ok (.iconst 1, 1) := by decide +kernel
theorem dL_law_218 : decode cL_law 218 = .ok (.iadd, 1) := by decide +kernel
theorem dL_law_219 : decode cL_law 219 = .ok (.iaload, 1) := by decide +kernel
theorem dL_law_220 : decode cL_law 220 = .ok (.aload_n 0, 1) := by decide +kernel
theorem dL_law_221 : decode cL_law 221 = .ok (.iload_n 3, 1) := by decide +kernel
theorem dL_law_222 : decode cL_law 222 = .ok (.iconst 2, 1) := by decide +kernel
theorem dL_law_223 : decode cL_law 223 = .ok (.iadd, 1) := by decide +kernel
theorem dL_law_224 : decode cL_law 224 = .ok (.iaload, 1) := by decide +kernel
theorem dL_law_225 : decode cL_law 225 = .ok (.invokevirtual 17, 3) := by decide +kernel
theorem dL_law_228 : decode cL_law 228 = .ok (.if_icmp .eq 1128, 3) := by decide +kernel
theorem dL_law_231 : decode cL_law 231 = .ok (.iconst 0, 1) := by decide +kernel
theorem dL_law_232 : decode cL_law 232 = .ok (.ireturn, 1) := by decide +kernel
theorem dL_law_233 : decode cL_law 233 = .ok (.aload_n 1, 1) := by decide +kernel
theorem dL_law_234 : decode cL_law 234 = .ok (.aload_n 0, 1) := by decide +kernel
theorem dL_law_235 : decode cL_law 235 = .ok (.iload_n 3, 1) := by decide +kernel
theorem dL_law_236 : decode cL_law 236 = .ok (.iconst 1, 1) := by decide +kernel
theorem dL_law_237 : decode cL_law 237 = .ok (.iadd, 1) := by decide +kernel
theorem dL_law_238 : decode cL_law 238 = .ok (.iaload, 1) := by decide +kernel
theorem dL_law_239 : decode cL_law 239 = .ok (.invokevirtual 18, 3) := by decide +kernel
theorem dL_law_242 : decode cL_law 242 = .ok (.aload_n 2, 1) := by decide +kernel
theorem dL_law_243 : decode cL_law 243 = .ok (.aload_n 0, 1) := by decide +kernel
theorem dL_law_244 : decode cL_law 244 = .ok (.iload_n 3, 1) := by decide +kernel
theorem dL_law_245 : decode cL_law 245 = .ok (.iconst 1, 1) := by decide +kernel
theorem dL_law_246 : decode cL_law 246 = .ok (.iadd, 1) := by decide +kernel
theorem dL_law_247 : decode cL_law 247 = .ok (.iaload, 1) := by decide +kernel
theorem dL_law_248 : decode cL_law 248 = .ok (.invokevirtual 22, 3) := by decide +kernel
theorem dL_law_251 : decode cL_law 251 = .ok (.if_icmp .eq 1105, 3) := by decide +kernel
theorem dL_law_254 : decode cL_law 254 = .ok (.iconst 0, 1) := by decide +kernel
theorem dL_law_255 : decode cL_law 255 = .ok (.ireturn, 1) := by decide +kernel
theorem dL_law_256 : decode cL_law 256 = .ok (.aload_n 1, 1) := by decide +kernel
theorem dL_law_257 : decode cL_law 257 = .ok (.aload_n 0, 1) := by decide +kernel
theorem dL_law_258 : decode cL_law 258 = .ok (.iload_n 3, 1) := by decide +kernel
theorem dL_law_259 : decode cL_law 259 = .ok (.iconst 1, 1) := by decide +kernel
theorem dL_law_260 : decode cL_law 260 = .ok (.iadd, 1) := by decide +kernel
theorem dL_law_261 : decode cL_law 261 = .ok (.iaload, 1) := by decide +kernel
theorem dL_law_262 : decode cL_law 262 = .ok (.invokevirtual 23, 3) := by decide +kernel
theorem dL_law_265 : decode cL_law 265 = .ok (.aload_n 2, 1) := by decide +kernel
theorem dL_law_266 : decode cL_law 266 = .ok (.aload_n 0, 1) := by decide +kernel
theorem dL_law_267 : decode cL_law 267 = .ok (.iload_n 3, 1) := by decide +kernel
theorem dL_law_268 : decode cL_law 268 = .ok (.iconst 1, 1) := by decide +kernel
theorem dL_law_269 : decode cL_law 269 = .ok (.iadd, 1) := by decide +kernel
theorem dL_law_270 : decode cL_law 270 = .ok (.iaload, 1) := by decide +kernel
theorem dL_law_271 : decode cL_law 271 = .ok (.invokevirtual 26, 3) := by decide +kernel
theorem dL_law_274 : decode cL_law 274 = .ok (.if_icmp .eq 1082, 3) := by decide +kernel
theorem dL_law_277 : decode cL_law 277 = .ok (.iconst 0, 1) := by decide +kernel
theorem dL_law_278 : decode cL_law 278 = .ok (.ireturn, 1) := by decide +kernel
theorem dL_law_279 : decode cL_law 279 = .ok (.aload_n 1, 1) := by decide +kernel
theorem dL_law_280 : decode cL_law 280 = .ok (.aload_n 0, 1) := by decide +kernel
theorem dL_law_281 : decode cL_law 281 = .ok (.iload_n 3, 1) := by decide +kernel
theorem dL_law_282 : decode cL_law 282 = .ok (.iconst 1, 1) := by decide +kernel
theorem dL_law_283 : decode cL_law 283 = .ok (.iadd, 1) := by decide +kernel
theorem dL_law_284 : decode cL_law 284 = .ok (.iaload, 1) := by decide +kernel
theorem dL_law_285 : decode cL_law 285 = .ok (.invokevirtual 27, 3) := by decide +kernel
theorem dL_law_288 : decode cL_law 288 = .ok (.aload_n 2, 1) := by decide +kernel
theorem dL_law_289 : decode cL_law 289 = .ok (.aload_n 0, 1) := by decide +kernel
theorem dL_law_290 : decode cL_law 290 = .ok (.iload_n 3, 1) := by decide +kernel
theorem dL_law_291 : decode cL_law 291 = .ok (.iconst 1, 1) := by decide +kernel
theorem dL_law_292 : decode cL_law 292 = .ok (.iadd, 1) := by decide +kernel
theorem dL_law_293 : decode cL_law 293 = .ok (.iaload, 1) := by decide +kernel
theorem dL_law_294 : decode cL_law 294 = .ok (.invokevirtual 30, 3) := by decide +kernel
theorem dL_law_297 : decode cL_law 297 = .ok (.if_icmp .eq 1059, 3) := by decide +kernel
theorem dL_law_300 : decode cL_law 300 = .ok (.iconst 0, 1) := by decide +kernel
theorem dL_law_301 : decode cL_law 301 = .ok (.ireturn, 1) := by decide +kernel
theorem dL_law_302 : decode cL_law 302 = .ok (.aload_n 1, 1) := by decide +kernel
theorem dL_law_303 : decode cL_law 303 = .ok (.aload_n 0, 1) := by decide +kernel
theorem dL_law_304 : decode cL_law 304 = .ok (.iload_n 3, 1) := by decide +kernel
theorem dL_law_305 : decode cL_law 305 = .ok (.iconst 1, 1) := by decide +kernel
theorem dL_law_306 : decode cL_law 306 = .ok (.iadd, 1) := by decide +kernel
theorem dL_law_307 : decode cL_law 307 = .ok (.iaload, 1) := by decide +kernel
theorem dL_law_308 : decode cL_law 308 = .ok (.aload_n 0, 1) := by decide +kernel
theorem dL_law_309 : decode cL_law 309 = .ok (.iload_n 3, 1) := by decide +kernel
theorem dL_law_310 : decode cL_law 310 = .ok (.iconst 2, 1) := by decide +kernel
theorem dL_law_311 : decode cL_law 311 = .ok (.iadd, 1) := by decide +kernel
theorem dL_law_312 : decode cL_law 312 = .ok (.iaload, 1) := by decide +kernel
theorem dL_law_313 : decode cL_law 313 = .ok (.invokevirtual 31, 3) := by decide +kernel
theorem dL_law_316 : decode cL_law 316 = .ok (.aload_n 2, 1) := by decide +kernel
theorem dL_law_317 : decode cL_law 317 = .ok (.aload_n 0, 1) := by decide +kernel
theorem dL_law_318 : decode cL_law 318 = .ok (.iload_n 3, 1) := by decide +kernel
theorem dL_law_319 : decode cL_law 319 = .ok (.iconst 1, 1) := by decide +kernel
theorem dL_law_320 : decode cL_law 320 = .ok (.iadd, 1) := by decide +kernel
theorem dL_law_321 : decode cL_law 321 = .ok (.iaload, 1) := by decide +kernel
theorem dL_law_322 : decode cL_law 322 = .ok (.aload_n 0, 1) := by decide +kernel
theorem dL_law_323 : decode cL_law 323 = .ok (.iload_n 3, 1) := by decide +kernel
theorem dL_law_324 : decode cL_law 324 = .ok (.iconst 2, 1) := by decide +kernel
theorem dL_law_325 : decode cL_law 325 = .ok (.iadd, 1) := by decide +kernel
theorem dL_law_326 : decode cL_law 326 = .ok (.iaload, 1) := by decide +kernel
theorem dL_law_327 : decode cL_law 327 = .ok (.invokevirtual 34, 3) := by decide +kernel
theorem dL_law_330 : decode cL_law 330 = .ok (.if_icmp .eq 1026, 3) := by decide +kernel
theorem dL_law_333 : decode cL_law 333 = .ok (.iconst 0, 1) := by decide +kernel
theorem dL_law_334 : decode cL_law 334 = .ok (.ireturn, 1) := by decide +kernel
theorem dL_law_335 : decode cL_law 335 = .ok (.aload_n 1, 1) := by decide +kernel
theorem dL_law_336 : decode cL_law 336 = .ok (.aload_n 0, 1) := by decide +kernel
theorem dL_law_337 : decode cL_law 337 = .ok (.iload_n 3, 1) := by decide +kernel
theorem dL_law_338 : decode cL_law 338 = .ok (.iconst 1, 1) := by decide +kernel
theorem dL_law_339 : decode cL_law 339 = .ok (.iadd, 1) := by decide +kernel
theorem dL_law_340 : decode cL_law 340 = .ok (.iaload, 1) := by decide +kernel
theorem dL_law_341 : decode cL_law 341 = .ok (.aload_n 0, 1) := by decide +kernel
theorem dL_law_342 : decode cL_law 342 = .ok (.iload_n 3, 1) := by decide +kernel
theorem dL_law_343 : decode cL_law 343 = .ok (.iconst 2, 1) := by decide +kernel
theorem dL_law_344 : decode cL_law 344 = .ok (.iadd, 1) := by decide +kernel
theorem dL_law_345 : decode cL_law 345 = .ok (.iaload, 1) := by decide +kernel
theorem dL_law_346 : decode cL_law 346 = .ok (.invokevirtual 35, 3) := by decide +kernel
theorem dL_law_349 : decode cL_law 349 = .ok (.aload_n 2, 1) := by decide +kernel
theorem dL_law_350 : decode cL_law 350 = .ok (.aload_n 0, 1) := by decide +kernel
theorem dL_law_351 : decode cL_law 351 = .ok (.iload_n 3, 1) := by decide +kernel
theorem dL_law_352 : decode cL_law 352 = .ok (.iconst 1, 1) := by decide +kernel
theorem dL_law_353 : decode cL_law 353 = .ok (.iadd, 1) := by decide +kernel
theorem dL_law_354 : decode cL_law 354 = .ok (.iaload, 1) := by decide +kernel
theorem dL_law_355 : decode cL_law 355 = .ok (.aload_n 0, 1) := by decide +kernel
theorem dL_law_356 : decode cL_law 356 = .ok (.iload_n 3, 1) := by decide +kernel
theorem dL_law_357 : decode cL_law 357 = .ok (.iconst 2, 1) := by decide +kernel
theorem dL_law_358 : decode cL_law 358 = .ok (.iadd, 1) := by decide +kernel
theorem dL_law_359 : decode cL_law 359 = .ok (.iaload, 1) := by decide +kernel
theorem dL_law_360 : decode cL_law 360 = .ok (.invokevirtual 38, 3) := by decide +kernel
theorem dL_law_363 : decode cL_law 363 = .ok (.if_icmp .eq 993, 3) := by decide +kernel
theorem dL_law_366 : decode cL_law 366 = .ok (.iconst 0, 1) := by decide +kernel
theorem dL_law_367 : decode cL_law 367 = .ok (.ireturn, 1) := by decide +kernel
theorem dL_law_368 : decode cL_law 368 = .ok (.aload_n 1, 1) := by decide +kernel
theorem dL_law_369 : decode cL_law 369 = .ok (.aload_n 0, 1) := by decide +kernel
theorem dL_law_370 : decode cL_law 370 = .ok (.iload_n 3, 1) := by decide +kernel
theorem dL_law_371 : decode cL_law 371 = .ok (.iconst 1, 1) := by decide +kernel
theorem dL_law_372 : decode cL_law 372 = .ok (.iadd, 1) := by decide +kernel
theorem dL_law_373 : decode cL_law 373 = .ok (.iaload, 1) := by decide +kernel
theorem dL_law_374 : decode cL_law 374 = .ok (.invokevirtual 39, 3) := by decide +kernel
theorem dL_law_377 : decode cL_law 377 = .ok (.aload_n 2, 1) := by decide +kernel
theorem dL_law_378 : decode cL_law 378 = .ok (.aload_n 0, 1) := by decide +kernel
theorem dL_law_379 : decode cL_law 379 = .ok (.iload_n 3, 1) := by decide +kernel
theorem dL_law_380 : decode cL_law 380 = .ok (.iconst 1, 1) := by decide +kernel
theorem dL_law_381 : decode cL_law 381 = .ok (.iadd, 1) := by decide +kernel
theorem dL_law_382 : decode cL_law 382 = .ok (.iaload, 1) := by decide +kernel
theorem dL_law_383 : decode cL_law 383 = .ok (.invokevirtual 42, 3) := by decide +kernel
theorem dL_law_386 : decode cL_law 386 = .ok (.if_icmp .eq 970, 3) := by decide +kernel
theorem dL_law_389 : decode cL_law 389 = .ok (.iconst 0, 1) := by decide +kernel
theorem dL_law_390 : decode cL_law 390 = .ok (.ireturn, 1) := by decide +kernel
theorem dL_law_391 : decode cL_law 391 = .ok (.aload_n 1, 1) := by decide +kernel
theorem dL_law_392 : decode cL_law 392 = .ok (.aload_n 0, 1) := by decide +kernel
theorem dL_law_393 : decode cL_law 393 = .ok (.iload_n 3, 1) := by decide +kernel
theorem dL_law_394 : decode cL_law 394 = .ok (.iconst 1, 1) := by decide +kernel
theorem dL_law_395 : decode cL_law 395 = .ok (.iadd, 1) := by decide +kernel
theorem dL_law_396 : decode cL_law 396 = .ok (.iaload, 1) := by decide +kernel
theorem dL_law_397 : decode cL_law 397 = .ok (.aload_n 0, 1) := by decide +kernel
theorem dL_law_398 : decode cL_law 398 = .ok (.iload_n 3, 1) := by decide +kernel
theorem dL_law_399 : decode cL_law 399 = .ok (.iconst 2, 1) := by decide +kernel
theorem dL_law_400 : decode cL_law 400 = .ok (.iadd, 1) := by decide +kernel
theorem dL_law_401 : decode cL_law 401 = .ok (.iaload, 1) := by decide +kernel
theorem dL_law_402 : decode cL_law 402 = .ok (.invokevirtual 43, 3) := by decide +kernel
theorem dL_law_405 : decode cL_law 405 = .ok (.aload_n 2, 1) := by decide +kernel
theorem dL_law_406 : decode cL_law 406 = .ok (.aload_n 0, 1) := by decide +kernel
theorem dL_law_407 : decode cL_law 407 = .ok (.iload_n 3, 1) := by decide +kernel
theorem dL_law_408 : decode cL_law 408 = .ok (.iconst 1, 1) := by decide +kernel
theorem dL_law_409 : decode cL_law 409 = .ok (.iadd, 1) := by decide +kernel
theorem dL_law_410 : decode cL_law 410 = .ok (.iaload, 1) := by decide +kernel
theorem dL_law_411 : decode cL_law 411 = .ok (.aload_n 0, 1) := by decide +kernel
theorem dL_law_412 : decode cL_law 412 = .ok (.iload_n 3, 1) := by decide +kernel
theorem dL_law_413 : decode cL_law 413 = .ok (.iconst 2, 1) := by decide +kernel
theorem dL_law_414 : decode cL_law 414 = .ok (.iadd, 1) := by decide +kernel
theorem dL_law_415 : decode cL_law 415 = .ok (.iaload, 1) := by decide +kernel
theorem dL_law_416 : decode cL_law 416 = .ok (.invokevirtual 46, 3) := by decide +kernel
theorem dL_law_419 : decode cL_law 419 = .ok (.if_icmp .eq 937, 3) := by decide +kernel
theorem dL_law_422 : decode cL_law 422 = .ok (.iconst 0, 1) := by decide +kernel
theorem dL_law_423 : decode cL_law 423 = .ok (.ireturn, 1) := by decide +kernel
theorem dL_law_424 : decode cL_law 424 = .ok (.aload_n 1, 1) := by decide +kernel
theorem dL_law_425 : decode cL_law 425 = .ok (.aload_n 0, 1) := by decide +kernel
theorem dL_law_426 : decode cL_law 426 = .ok (.iload_n 3, 1) := by decide +kernel
theorem dL_law_427 : decode cL_law 427 = .ok (.iconst 1, 1) := by decide +kernel
theorem dL_law_428 : decode cL_law 428 = .ok (.iadd, 1) := by decide +kernel
theorem dL_law_429 : decode cL_law 429 = .ok (.iaload, 1) := by decide +kernel
theorem dL_law_430 : decode cL_law 430 = .ok (.invokevirtual 47, 3) := by decide +kernel
theorem dL_law_433 : decode cL_law 433 = .ok (.aload_n 2, 1) := by decide +kernel
theorem dL_law_434 : decode cL_law 434 = .ok (.aload_n 0, 1) := by decide +kernel
theorem dL_law_435 : decode cL_law 435 = .ok (.iload_n 3, 1) := by decide +kernel
theorem dL_law_436 : decode cL_law 436 = .ok (.iconst 1, 1) := by decide +kernel
theorem dL_law_437 : decode cL_law 437 = .ok (.iadd, 1) := by decide +kernel
theorem dL_law_438 : decode cL_law 438 = .ok (.iaload, 1) := by decide +kernel
theorem dL_law_439 : decode cL_law 439 = .ok (.invokevirtual 50, 3) := by decide +kernel
theorem dL_law_442 : decode cL_law 442 = .ok (.if_icmp .eq 914, 3) := by decide +kernel
theorem dL_law_445 : decode cL_law 445 = .ok (.iconst 0, 1) := by decide +kernel
theorem dL_law_446 : decode cL_law 446 = .ok (.ireturn, 1) := by decide +kernel
theorem dL_law_447 : decode cL_law 447 = .ok (.aload_n 1, 1) := by decide +kernel
theorem dL_law_448 : decode cL_law 448 = .ok (.aload_n 0, 1) := by decide +kernel
theorem dL_law_449 : decode cL_law 449 = .ok (.iload_n 3, 1) := by decide +kernel
theorem dL_law_450 : decode cL_law 450 = .ok (.iconst 1, 1) := by decide +kernel
theorem dL_law_451 : decode cL_law 451 = .ok (.iadd, 1) := by decide +kernel
theorem dL_law_452 : decode cL_law 452 = .ok (.iaload, 1) := by decide +kernel
theorem dL_law_453 : decode cL_law 453 = .ok (.aload_n 0, 1) := by decide +kernel
theorem dL_law_454 : decode cL_law 454 = .ok (.iload_n 3, 1) := by decide +kernel
theorem dL_law_455 : decode cL_law 455 = .ok (.iconst 2, 1) := by decide +kernel
theorem dL_law_456 : decode cL_law 456 = .ok (.iadd, 1) := by decide +kernel
theorem dL_law_457 : decode cL_law 457 = .ok (.iaload, 1) := by decide +kernel
theorem dL_law_458 : decode cL_law 458 = .ok (.invokevirtual 51, 3) := by decide +kernel
theorem dL_law_461 : decode cL_law 461 = .ok (.aload_n 2, 1) := by decide +kernel
theorem dL_law_462 : decode cL_law 462 = .ok (.aload_n 0, 1) := by decide +kernel
theorem dL_law_463 : decode cL_law 463 = .ok (.iload_n 3, 1) := by decide +kernel
theorem dL_law_464 : decode cL_law 464 = .ok (.iconst 1, 1) := by decide +kernel
theorem dL_law_465 : decode cL_law 465 = .ok (.iadd, 1) := by decide +kernel
theorem dL_law_466 : decode cL_law 466 = .ok (.iaload, 1) := by decide +kernel
theorem dL_law_467 : decode cL_law 467 = .ok (.aload_n 0, 1) := by decide +kernel
theorem dL_law_468 : decode cL_law 468 = .ok (.iload_n 3, 1) := by decide +kernel
theorem dL_law_469 : decode cL_law 469 = .ok (.iconst 2, 1) := by decide +kernel
theorem dL_law_470 : decode cL_law 470 = .ok (.iadd, 1) := by decide +kernel
theorem dL_law_471 : decode cL_law 471 = .ok (.iaload, 1) := by decide +kernel
theorem dL_law_472 : decode cL_law 472 = .ok (.invokevirtual 54, 3) := by decide +kernel
theorem dL_law_475 : decode cL_law 475 = .ok (.if_icmp .eq 881, 3) := by decide +kernel
theorem dL_law_478 : decode cL_law 478 = .ok (.iconst 0, 1) := by decide +kernel
theorem dL_law_479 : decode cL_law 479 = .ok (.ireturn, 1) := by decide +kernel
theorem dL_law_480 : decode cL_law 480 = .ok (.aload_n 1, 1) := by decide +kernel
theorem dL_law_481 : decode cL_law 481 = .ok (.aload_n 0, 1) := by decide +kernel
theorem dL_law_482 : decode cL_law 482 = .ok (.iload_n 3, 1) := by decide +kernel
theorem dL_law_483 : decode cL_law 483 = .ok (.iconst 1, 1) := by decide +kernel
theorem dL_law_484 : decode cL_law 484 = .ok (.iadd, 1) := by decide +kernel
theorem dL_law_485 : decode cL_law 485 = .ok (.iaload, 1) := by decide +kernel
theorem dL_law_486 : decode cL_law 486 = .ok (.invokevirtual 55, 3) := by decide +kernel
theorem dL_law_489 : decode cL_law 489 = .ok (.aload_n 2, 1) := by decide +kernel
theorem dL_law_490 : decode cL_law 490 = .ok (.aload_n 0, 1) := by decide +kernel
theorem dL_law_491 : decode cL_law 491 = .ok (.iload_n 3, 1) := by decide +kernel
theorem dL_law_492 : decode cL_law 492 = .ok (.iconst 1, 1) := by decide +kernel
theorem dL_law_493 : decode cL_law 493 = .ok (.iadd, 1) := by decide +kernel
theorem dL_law_494 : decode cL_law 494 = .ok (.iaload, 1) := by decide +kernel
theorem dL_law_495 : decode cL_law 495 = .ok (.invokevirtual 58, 3) := by decide +kernel
theorem dL_law_498 : decode cL_law 498 = .ok (.if_icmp .eq 858, 3) := by decide +kernel
theorem dL_law_501 : decode cL_law 501 = .ok (.iconst 0, 1) := by decide +kernel
theorem dL_law_502 : decode cL_law 502 = .ok (.ireturn, 1) := by decide +kernel
theorem dL_law_503 : decode cL_law 503 = .ok (.aload_n 1, 1) := by decide +kernel
theorem dL_law_504 : decode cL_law 504 = .ok (.aload_n 0, 1) := by decide +kernel
theorem dL_law_505 : decode cL_law 505 = .ok (.iload_n 3, 1) := by decide +kernel
theorem dL_law_506 : decode cL_law 506 = .ok (.iconst 1, 1) := by decide +kernel
theorem dL_law_507 : decode cL_law 507 = .ok (.iadd, 1) := by decide +kernel
theorem dL_law_508 : decode cL_law 508 = .ok (.iaload, 1) := by decide +kernel
theorem dL_law_509 : decode cL_law 509 = .ok (.invokevirtual 59, 3) := by decide +kernel
theorem dL_law_512 : decode cL_law 512 = .ok (.aload_n 2, 1) := by decide +kernel
theorem dL_law_513 : decode cL_law 513 = .ok (.aload_n 0, 1) := by decide +kernel
theorem dL_law_514 : decode cL_law 514 = .ok (.iload_n 3, 1) := by decide +kernel
theorem dL_law_515 : decode cL_law 515 = .ok (.iconst 1, 1) := by decide +kernel
theorem dL_law_516 : decode cL_law 516 = .ok (.iadd, 1) := by decide +kernel
theorem dL_law_517 : decode cL_law 517 = .ok (.iaload, 1) := by decide +kernel
theorem dL_law_518 : decode cL_law 518 = .ok (.invokevirtual 62, 3) := by decide +kernel
theorem dL_law_521 : decode cL_law 521 = .ok (.if_icmp .eq 835, 3) := by decide +kernel
theorem dL_law_524 : decode cL_law 524 = .ok (.iconst 0, 1) := by decide +kernel
theorem dL_law_525 : decode cL_law 525 = .ok (.ireturn, 1) := by decide +kernel
theorem dL_law_526 : decode cL_law 526 = .ok (.aload_n 1, 1) := by decide +kernel
theorem dL_law_527 : decode cL_law 527 = .ok (.aload_n 0, 1) := by decide +kernel
theorem dL_law_528 : decode cL_law 528 = .ok (.iload_n 3, 1) := by decide +kernel
theorem dL_law_529 : decode cL_law 529 = .ok (.iconst 1, 1) := by decide +kernel
theorem dL_law_530 : decode cL_law 530 = .ok (.iadd, 1) := by decide +kernel
theorem dL_law_531 : decode cL_law 531 = .ok (.iaload, 1) := by decide +kernel
theorem dL_law_532 : decode cL_law 532 = .ok (.invokevirtual 63, 3) := by decide +kernel
theorem dL_law_535 : decode cL_law 535 = .ok (.aload_n 2, 1) := by decide +kernel
theorem dL_law_536 : decode cL_law 536 = .ok (.aload_n 0, 1) := by decide +kernel
theorem dL_law_537 : decode cL_law 537 = .ok (.iload_n 3, 1) := by decide +kernel
theorem dL_law_538 : decode cL_law 538 = .ok (.iconst 1, 1) := by decide +kernel
theorem dL_law_539 : decode cL_law 539 = .ok (.iadd, 1) := by decide +kernel
theorem dL_law_540 : decode cL_law 540 = .ok (.iaload, 1) := by decide +kernel
theorem dL_law_541 : decode cL_law 541 = .ok (.invokevirtual 66, 3) := by decide +kernel
theorem dL_law_544 : decode cL_law 544 = .ok (.if_icmp .eq 812, 3) := by decide +kernel
theorem dL_law_547 : decode cL_law 547 = .ok (.iconst 0, 1) := by decide +kernel
theorem dL_law_548 : decode cL_law 548 = .ok (.ireturn, 1) := by decide +kernel
theorem dL_law_549 : decode cL_law 549 = .ok (.aload_n 1, 1) := by decide +kernel
theorem dL_law_550 : decode cL_law 550 = .ok (.aload_n 0, 1) := by decide +kernel
theorem dL_law_551 : decode cL_law 551 = .ok (.iload_n 3, 1) := by decide +kernel
theorem dL_law_552 : decode cL_law 552 = .ok (.iconst 1, 1) := by decide +kernel
theorem dL_law_553 : decode cL_law 553 = .ok (.iadd, 1) := by decide +kernel
theorem dL_law_554 : decode cL_law 554 = .ok (.iaload, 1) := by decide +kernel
theorem dL_law_555 : decode cL_law 555 = .ok (.aload_n 0, 1) := by decide +kernel
theorem dL_law_556 : decode cL_law 556 = .ok (.iload_n 3, 1) := by decide +kernel
theorem dL_law_557 : decode cL_law 557 = .ok (.iconst 2, 1) := by decide +kernel
theorem dL_law_558 : decode cL_law 558 = .ok (.iadd, 1) := by decide +kernel
theorem dL_law_559 : decode cL_law 559 = .ok (.iaload, 1) := by decide +kernel
theorem dL_law_560 : decode cL_law 560 = .ok (.invokevirtual 67, 3) := by decide +kernel
theorem dL_law_563 : decode cL_law 563 = .ok (.aload_n 2, 1) := by decide +kernel
theorem dL_law_564 : decode cL_law 564 = .ok (.aload_n 0, 1) := by decide +kernel
theorem dL_law_565 : decode cL_law 565 = .ok (.iload_n 3, 1) := by decide +kernel
theorem dL_law_566 : decode cL_law 566 = .ok (.iconst 1, 1) := by decide +kernel
theorem dL_law_567 : decode cL_law 567 = .ok (.iadd, 1) := by decide +kernel
theorem dL_law_568 : decode cL_law 568 = .ok (.iaload, 1) := by decide +kernel
theorem dL_law_569 : decode cL_law 569 = .ok (.aload_n 0, 1) := by decide +kernel
theorem dL_law_570 : decode cL_law 570 = .ok (.iload_n 3, 1) := by decide +kernel
theorem dL_law_571 : decode cL_law 571 = .ok (.iconst 2, 1) := by decide +kernel
theorem dL_law_572 : decode cL_law 572 = .ok (.iadd, 1) := by decide +kernel
theorem dL_law_573 : decode cL_law 573 = .ok (.iaload, 1) := by decide +kernel
theorem dL_law_574 : decode cL_law 574 = .ok (.invokevirtual 70, 3) := by decide +kernel
theorem dL_law_577 : decode cL_law 577 = .ok (.if_icmp .eq 779, 3) := by decide +kernel
theorem dL_law_580 : decode cL_law 580 = .ok (.iconst 0, 1) := by decide +kernel
theorem dL_law_581 : decode cL_law 581 = .ok (.ireturn, 1) := by decide +kernel
theorem dL_law_582 : decode cL_law 582 = .ok (.aload_n 1, 1) := by decide +kernel
theorem dL_law_583 : decode cL_law 583 = .ok (.aload_n 0, 1) := by decide +kernel
theorem dL_law_584 : decode cL_law 584 = .ok (.iload_n 3, 1) := by decide +kernel
theorem dL_law_585 : decode cL_law 585 = .ok (.iconst 1, 1) := by decide +kernel
theorem dL_law_586 : decode cL_law 586 = .ok (.iadd, 1) := by decide +kernel
theorem dL_law_587 : decode cL_law 587 = .ok (.iaload, 1) := by decide +kernel
theorem dL_law_588 : decode cL_law 588 = .ok (.invokevirtual 71, 3) := by decide +kernel
theorem dL_law_591 : decode cL_law 591 = .ok (.aload_n 2, 1) := by decide +kernel
theorem dL_law_592 : decode cL_law 592 = .ok (.aload_n 0, 1) := by decide +kernel
theorem dL_law_593 : decode cL_law 593 = .ok (.iload_n 3, 1) := by decide +kernel
theorem dL_law_594 : decode cL_law 594 = .ok (.iconst 1, 1) := by decide +kernel
theorem dL_law_595 : decode cL_law 595 = .ok (.iadd, 1) := by decide +kernel
theorem dL_law_596 : decode cL_law 596 = .ok (.iaload, 1) := by decide +kernel
theorem dL_law_597 : decode cL_law 597 = .ok (.invokevirtual 74, 3) := by decide +kernel
theorem dL_law_600 : decode cL_law 600 = .ok (.if_icmp .eq 756, 3) := by decide +kernel
theorem dL_law_603 : decode cL_law 603 = .ok (.iconst 0, 1) := by decide +kernel
theorem dL_law_604 : decode cL_law 604 = .ok (.ireturn, 1) := by decide +kernel
theorem dL_law_605 : decode cL_law 605 = .ok (.aload_n 1, 1) := by decide +kernel
theorem dL_law_606 : decode cL_law 606 = .ok (.aload_n 0, 1) := by decide +kernel
theorem dL_law_607 : decode cL_law 607 = .ok (.iload_n 3, 1) := by decide +kernel
theorem dL_law_608 : decode cL_law 608 = .ok (.iconst 1, 1) := by decide +kernel
theorem dL_law_609 : decode cL_law 609 = .ok (.iadd, 1) := by decide +kernel
theorem dL_law_610 : decode cL_law 610 = .ok (.iaload, 1) := by decide +kernel
theorem dL_law_611 : decode cL_law 611 = .ok (.aload_n 0, 1) := by decide +kernel
theorem dL_law_612 : decode cL_law 612 = .ok (.iload_n 3, 1) := by decide +kernel
theorem dL_law_613 : decode cL_law 613 = .ok (.iconst 2, 1) := by decide +kernel
theorem dL_law_614 : decode cL_law 614 = .ok (.iadd, 1) := by decide +kernel
theorem dL_law_615 : decode cL_law 615 = .ok (.iaload, 1) := by decide +kernel
theorem dL_law_616 : decode cL_law 616 = .ok (.invokevirtual 75, 3) := by decide +kernel
theorem dL_law_619 : decode cL_law 619 = .ok (.aload_n 2, 1) := by decide +kernel
theorem dL_law_620 : decode cL_law 620 = .ok (.aload_n 0, 1) := by decide +kernel
theorem dL_law_621 : decode cL_law 621 = .ok (.iload_n 3, 1) := by decide +kernel
theorem dL_law_622 : decode cL_law 622 = .ok (.iconst 1, 1) := by decide +kernel
theorem dL_law_623 : decode cL_law 623 = .ok (.iadd, 1) := by decide +kernel
theorem dL_law_624 : decode cL_law 624 = .ok (.iaload, 1) := by decide +kernel
theorem dL_law_625 : decode cL_law 625 = .ok (.aload_n 0, 1) := by decide +kernel
theorem dL_law_626 : decode cL_law 626 = .ok (.iload_n 3, 1) := by decide +kernel
theorem dL_law_627 : decode cL_law 627 = .ok (.iconst 2, 1) := by decide +kernel
theorem dL_law_628 : decode cL_law 628 = .ok (.iadd, 1) := by decide +kernel
theorem dL_law_629 : decode cL_law 629 = .ok (.iaload, 1) := by decide +kernel
theorem dL_law_630 : decode cL_law 630 = .ok (.invokevirtual 78, 3) := by decide +kernel
theorem dL_law_633 : decode cL_law 633 = .ok (.if_icmp .eq 723, 3) := by decide +kernel
theorem dL_law_636 : decode cL_law 636 = .ok (.iconst 0, 1) := by decide +kernel
theorem dL_law_637 : decode cL_law 637 = .ok (.ireturn, 1) := by decide +kernel
theorem dL_law_638 : decode cL_law 638 = .ok (.aload_n 1, 1) := by decide +kernel
theorem dL_law_639 : decode cL_law 639 = .ok (.aload_n 0, 1) := by decide +kernel
theorem dL_law_640 : decode cL_law 640 = .ok (.iload_n 3, 1) := by decide +kernel
theorem dL_law_641 : decode cL_law 641 = .ok (.iconst 1, 1) := by decide +kernel
theorem dL_law_642 : decode cL_law 642 = .ok (.iadd, 1) := by decide +kernel
theorem dL_law_643 : decode cL_law 643 = .ok (.iaload, 1) := by decide +kernel
theorem dL_law_644 : decode cL_law 644 = .ok (.invokevirtual 79, 3) := by decide +kernel
theorem dL_law_647 : decode cL_law 647 = .ok (.aload_n 2, 1) := by decide +kernel
theorem dL_law_648 : decode cL_law 648 = .ok (.aload_n 0, 1) := by decide +kernel
theorem dL_law_649 : decode cL_law 649 = .ok (.iload_n 3, 1) := by decide +kernel
theorem dL_law_650 : decode cL_law 650 = .ok (.iconst 1, 1) := by decide +kernel
theorem dL_law_651 : decode cL_law 651 = .ok (.iadd, 1) := by decide +kernel
theorem dL_law_652 : decode cL_law 652 = .ok (.iaload, 1) := by decide +kernel
theorem dL_law_653 : decode cL_law 653 = .ok (.invokevirtual 82, 3) := by decide +kernel
theorem dL_law_656 : decode cL_law 656 = .ok (.if_icmp .eq 700, 3) := by decide +kernel
theorem dL_law_659 : decode cL_law 659 = .ok (.iconst 0, 1) := by decide +kernel
theorem dL_law_660 : decode cL_law 660 = .ok (.ireturn, 1) := by decide +kernel
theorem dL_law_661 : decode cL_law 661 = .ok (.aload_n 1, 1) := by decide +kernel
theorem dL_law_662 : decode cL_law 662 = .ok (.aload_n 0, 1) := by decide +kernel
theorem dL_law_663 : decode cL_law 663 = .ok (.iload_n 3, 1) := by decide +kernel
theorem dL_law_664 : decode cL_law 664 = .ok (.iconst 1, 1) := by decide +kernel
theorem dL_law_665 : decode cL_law 665 = .ok (.iadd, 1) := by decide +kernel
theorem dL_law_666 : decode cL_law 666 = .ok (.iaload, 1) := by decide +kernel
theorem dL_law_667 : decode cL_law 667 = .ok (.invokevirtual 83, 3) := by decide +kernel
theorem dL_law_670 : decode cL_law 670 = .ok (.aload_n 2, 1) := by decide +kernel
theorem dL_law_671 : decode cL_law 671 = .ok (.aload_n 0, 1) := by decide +kernel
theorem dL_law_672 : decode cL_law 672 = .ok (.iload_n 3, 1) := by decide +kernel
theorem dL_law_673 : decode cL_law 673 = .ok (.iconst 1, 1) := by decide +kernel
theorem dL_law_674 : decode cL_law 674 = .ok (.iadd, 1) := by decide +kernel
theorem dL_law_675 : decode cL_law 675 = .ok (.iaload, 1) := by decide +kernel
theorem dL_law_676 : decode cL_law 676 = .ok (.invokevirtual 86, 3) := by decide +kernel
theorem dL_law_679 : decode cL_law 679 = .ok (.if_icmp .eq 677, 3) := by decide +kernel
theorem dL_law_682 : decode cL_law 682 = .ok (.iconst 0, 1) := by decide +kernel
theorem dL_law_683 : decode cL_law 683 = .ok (.ireturn, 1) := by decide +kernel
theorem dL_law_684 : decode cL_law 684 = .ok (.aload_n 1, 1) := by decide +kernel
theorem dL_law_685 : decode cL_law 685 = .ok (.aload_n 0, 1) := by decide +kernel
theorem dL_law_686 : decode cL_law 686 = .ok (.iload_n 3, 1) := by decide +kernel
theorem dL_law_687 : decode cL_law 687 = .ok (.iconst 1, 1) := by decide +kernel
theorem dL_law_688 : decode cL_law 688 = .ok (.iadd, 1) := by decide +kernel
theorem dL_law_689 : decode cL_law 689 = .ok (.iaload, 1) := by decide +kernel
theorem dL_law_690 : decode cL_law 690 = .ok (.invokevirtual 87, 3) := by decide +kernel
theorem dL_law_693 : decode cL_law 693 = .ok (.aload_n 2, 1) := by decide +kernel
theorem dL_law_694 : decode cL_law 694 = .ok (.aload_n 0, 1) := by decide +kernel
theorem dL_law_695 : decode cL_law 695 = .ok (.iload_n 3, 1) := by decide +kernel
theorem dL_law_696 : decode cL_law 696 = .ok (.iconst 1, 1) := by decide +kernel
theorem dL_law_697 : decode cL_law 697 = .ok (.iadd, 1) := by decide +kernel
theorem dL_law_698 : decode cL_law 698 = .ok (.iaload, 1) := by decide +kernel
theorem dL_law_699 : decode cL_law 699 = .ok (.invokevirtual 90, 3) := by decide +kernel
theorem dL_law_702 : decode cL_law 702 = .ok (.if_icmp .eq 654, 3) := by decide +kernel
theorem dL_law_705 : decode cL_law 705 = .ok (.iconst 0, 1) := by decide +kernel
theorem dL_law_706 : decode cL_law 706 = .ok (.ireturn, 1) := by decide +kernel
theorem dL_law_707 : decode cL_law 707 = .ok (.aload_n 1, 1) := by decide +kernel
theorem dL_law_708 : decode cL_law 708 = .ok (.aload_n 0, 1) := by decide +kernel
theorem dL_law_709 : decode cL_law 709 = .ok (.iload_n 3, 1) := by decide +kernel
theorem dL_law_710 : decode cL_law 710 = .ok (.iconst 1, 1) := by decide +kernel
theorem dL_law_711 : decode cL_law 711 = .ok (.iadd, 1) := by decide +kernel
theorem dL_law_712 : decode cL_law 712 = .ok (.iaload, 1) := by decide +kernel
theorem dL_law_713 : decode cL_law 713 = .ok (.aload_n 0, 1) := by decide +kernel
theorem dL_law_714 : decode cL_law 714 = .ok (.iload_n 3, 1) := by decide +kernel
theorem dL_law_715 : decode cL_law 715 = .ok (.iconst 2, 1) := by decide +kernel
theorem dL_law_716 : decode cL_law 716 = .ok (.iadd, 1) := by decide +kernel
theorem dL_law_717 : decode cL_law 717 = .ok (.iaload, 1) := by decide +kernel
theorem dL_law_718 : decode cL_law 718 = .ok (.aload_n 0, 1) := by decide +kernel
theorem dL_law_719 : decode cL_law 719 = .ok (.iload_n 3, 1) := by decide +kernel
theorem dL_law_720 : decode cL_law 720 = .ok (.iconst 3, 1) := by decide +kernel
theorem dL_law_721 : decode cL_law 721 = .ok (.iadd, 1) := by decide +kernel
theorem dL_law_722 : decode cL_law 722 = .ok (.iaload, 1) := by decide +kernel
theorem dL_law_723 : decode cL_law 723 = .ok (.aload_n 0, 1) := by decide +kernel
theorem dL_law_724 : decode cL_law 724 = .ok (.iload_n 3, 1) := by decide +kernel
theorem dL_law_725 : decode cL_law 725 = .ok (.iconst 4, 1) := by decide +kernel
theorem dL_law_726 : decode cL_law 726 = .ok (.iadd, 1) := by decide +kernel
theorem dL_law_727 : decode cL_law 727 = .ok (.iaload, 1) := by decide +kernel
theorem dL_law_728 : decode cL_law 728 = .ok (.invokevirtual 91, 3) := by decide +kernel
theorem dL_law_731 : decode cL_law 731 = .ok (.aload_n 2, 1) := by decide +kernel
theorem dL_law_732 : decode cL_law 732 = .ok (.aload_n 0, 1) := by decide +kernel
theorem dL_law_733 : decode cL_law 733 = .ok (.iload_n 3, 1) := by decide +kernel
theorem dL_law_734 : decode cL_law 734 = .ok (.iconst 1, 1) := by decide +kernel
theorem dL_law_735 : decode cL_law 735 = .ok (.iadd, 1) := by decide +kernel
theorem dL_law_736 : decode cL_law 736 = .ok (.iaload, 1) := by decide +kernel
theorem dL_law_737 : decode cL_law 737 = .ok (.aload_n 0, 1) := by decide +kernel
theorem dL_law_738 : decode cL_law 738 = .ok (.iload_n 3, 1) := by decide +kernel
theorem dL_law_739 : decode cL_law 739 = .ok (.iconst 2, 1) := by decide +kernel
theorem dL_law_740 : decode cL_law 740 = .ok (.iadd, 1) := by decide +kernel
theorem dL_law_741 : decode cL_law 741 = .ok (.iaload, 1) := by decide +kernel
theorem dL_law_742 : decode cL_law 742 = .ok (.aload_n 0, 1) := by decide +kernel
theorem dL_law_743 : decode cL_law 743 = .ok (.iload_n 3, 1) := by decide +kernel
theorem dL_law_744 : decode cL_law 744 = .ok (.iconst 3, 1) := by decide +kernel
theorem dL_law_745 : decode cL_law 745 = .ok (.iadd, 1) := by decide +kernel
theorem dL_law_746 : decode cL_law 746 = .ok (.iaload, 1) := by decide +kernel
theorem dL_law_747 : decode cL_law 747 = .ok (.aload_n 0, 1) := by decide +kernel
theorem dL_law_748 : decode cL_law 748 = .ok (.iload_n 3, 1) := by decide +kernel
theorem dL_law_749 : decode cL_law 749 = .ok (.iconst 4, 1) := by decide +kernel
theorem dL_law_750 : decode cL_law 750 = .ok (.iadd, 1) := by decide +kernel
theorem dL_law_751 : decode cL_law 751 = .ok (.iaload, 1) := by decide +kernel
theorem dL_law_752 : decode cL_law 752 = .ok (.invokevirtual 95, 3) := by decide +kernel
theorem dL_law_755 : decode cL_law 755 = .ok (.if_icmp .eq 601, 3) := by decide +kernel
theorem dL_law_758 : decode cL_law 758 = .ok (.iconst 0, 1) := by decide +kernel
theorem dL_law_759 : decode cL_law 759 = .ok (.ireturn, 1) := by decide +kernel
theorem dL_law_760 : decode cL_law 760 = .ok (.aload_n 1, 1) := by decide +kernel
theorem dL_law_761 : decode cL_law 761 = .ok (.aload_n 0, 1) := by decide +kernel
theorem dL_law_762 : decode cL_law 762 = .ok (.iload_n 3, 1) := by decide +kernel
theorem dL_law_763 : decode cL_law 763 = .ok (.iconst 1, 1) := by decide +kernel
theorem dL_law_764 : decode cL_law 764 = .ok (.iadd, 1) := by decide +kernel
theorem dL_law_765 : decode cL_law 765 = .ok (.iaload, 1) := by decide +kernel
theorem dL_law_766 : decode cL_law 766 = .ok (.aload_n 0, 1) := by decide +kernel
theorem dL_law_767 : decode cL_law 767 = .ok (.iload_n 3, 1) := by decide +kernel
theorem dL_law_768 : decode cL_law 768 = .ok (.iconst 2, 1) := by decide +kernel
theorem dL_law_769 : decode cL_law 769 = .ok (.iadd, 1) := by decide +kernel
theorem dL_law_770 : decode cL_law 770 = .ok (.iaload, 1) := by decide +kernel
theorem dL_law_771 : decode cL_law 771 = .ok (.invokevirtual 96, 3) := by decide +kernel
theorem dL_law_774 : decode cL_law 774 = .ok (.aload_n 2, 1) := by decide +kernel
theorem dL_law_775 : decode cL_law 775 = .ok (.aload_n 0, 1) := by decide +kernel
theorem dL_law_776 : decode cL_law 776 = .ok (.iload_n 3, 1) := by decide +kernel
theorem dL_law_777 : decode cL_law 777 = .ok (.iconst 1, 1) := by decide +kernel
theorem dL_law_778 : decode cL_law 778 = .ok (.iadd, 1) := by decide +kernel
theorem dL_law_779 : decode cL_law 779 = .ok (.iaload, 1) := by decide +kernel
theorem dL_law_780 : decode cL_law 780 = .ok (.aload_n 0, 1) := by decide +kernel
theorem dL_law_781 : decode cL_law 781 = .ok (.iload_n 3, 1) := by decide +kernel
theorem dL_law_782 : decode cL_law 782 = .ok (.iconst 2, 1) := by decide +kernel
theorem dL_law_783 : decode cL_law 783 = .ok (.iadd, 1) := by decide +kernel
theorem dL_law_784 : decode cL_law 784 = .ok (.iaload, 1) := by decide +kernel
theorem dL_law_785 : decode cL_law 785 = .ok (.invokevirtual 99, 3) := by decide +kernel
theorem dL_law_788 : decode cL_law 788 = .ok (.if_icmp .eq 568, 3) := by decide +kernel
theorem dL_law_791 : decode cL_law 791 = .ok (.iconst 0, 1) := by decide +kernel
theorem dL_law_792 : decode cL_law 792 = .ok (.ireturn, 1) := by decide +kernel
theorem dL_law_793 : decode cL_law 793 = .ok (.aload_n 1, 1) := by decide +kernel
theorem dL_law_794 : decode cL_law 794 = .ok (.aload_n 0, 1) := by decide +kernel
theorem dL_law_795 : decode cL_law 795 = .ok (.iload_n 3, 1) := by decide +kernel
theorem dL_law_796 : decode cL_law 796 = .ok (.iconst 1, 1) := by decide +kernel
theorem dL_law_797 : decode cL_law 797 = .ok (.iadd, 1) := by decide +kernel
theorem dL_law_798 : decode cL_law 798 = .ok (.iaload, 1) := by decide +kernel
theorem dL_law_799 : decode cL_law 799 = .ok (.invokevirtual 100, 3) := by decide +kernel
theorem dL_law_802 : decode cL_law 802 = .ok (.aload_n 2, 1) := by decide +kernel
theorem dL_law_803 : decode cL_law 803 = .ok (.aload_n 0, 1) := by decide +kernel
theorem dL_law_804 : decode cL_law 804 = .ok (.iload_n 3, 1) := by decide +kernel
theorem dL_law_805 : decode cL_law 805 = .ok (.iconst 1, 1) := by decide +kernel
theorem dL_law_806 : decode cL_law 806 = .ok (.iadd, 1) := by decide +kernel
theorem dL_law_807 : decode cL_law 807 = .ok (.iaload, 1) := by decide +kernel
theorem dL_law_808 : decode cL_law 808 = .ok (.invokevirtual 103, 3) := by decide +kernel
theorem dL_law_811 : decode cL_law 811 = .ok (.if_icmp .eq 545, 3) := by decide +kernel
theorem dL_law_814 : decode cL_law 814 = .ok (.iconst 0, 1) := by decide +kernel
theorem dL_law_815 : decode cL_law 815 = .ok (.ireturn, 1) := by decide +kernel
theorem dL_law_816 : decode cL_law 816 = .ok (.aload_n 1, 1) := by decide +kernel
theorem dL_law_817 : decode cL_law 817 = .ok (.aload_n 0, 1) := by decide +kernel
theorem dL_law_818 : decode cL_law 818 = .ok (.iload_n 3, 1) := by decide +kernel
theorem dL_law_819 : decode cL_law 819 = .ok (.iconst 1, 1) := by decide +kernel
theorem dL_law_820 : decode cL_law 820 = .ok (.iadd, 1) := by decide +kernel
theorem dL_law_821 : decode cL_law 821 = .ok (.iaload, 1) := by decide +kernel
theorem dL_law_822 : decode cL_law 822 = .ok (.aload_n 0, 1) := by decide +kernel
theorem dL_law_823 : decode cL_law 823 = .ok (.iload_n 3, 1) := by decide +kernel
theorem dL_law_824 : decode cL_law 824 = .ok (.iconst 2, 1) := by decide +kernel
theorem dL_law_825 : decode cL_law 825 = .ok (.iadd, 1) := by decide +kernel
theorem dL_law_826 : decode cL_law 826 = .ok (.iaload, 1) := by decide +kernel
theorem dL_law_827 : decode cL_law 827 = .ok (.invokevirtual 104, 3) := by decide +kernel
theorem dL_law_830 : decode cL_law 830 = .ok (.aload_n 2, 1) := by decide +kernel
theorem dL_law_831 : decode cL_law 831 = .ok (.aload_n 0, 1) := by decide +kernel
theorem dL_law_832 : decode cL_law 832 = .ok (.iload_n 3, 1) := by decide +kernel
theorem dL_law_833 : decode cL_law 833 = .ok (.iconst 1, 1) := by decide +kernel
theorem dL_law_834 : decode cL_law 834 = .ok (.iadd, 1) := by decide +kernel
theorem dL_law_835 : decode cL_law 835 = .ok (.iaload, 1) := by decide +kernel
theorem dL_law_836 : decode cL_law 836 = .ok (.aload_n 0, 1) := by decide +kernel
theorem dL_law_837 : decode cL_law 837 = .ok (.iload_n 3, 1) := by decide +kernel
theorem dL_law_838 : decode cL_law 838 = .ok (.iconst 2, 1) := by decide +kernel
theorem dL_law_839 : decode cL_law 839 = .ok (.iadd, 1) := by decide +kernel
theorem dL_law_840 : decode cL_law 840 = .ok (.iaload, 1) := by decide +kernel
theorem dL_law_841 : decode cL_law 841 = .ok (.invokevirtual 107, 3) := by decide +kernel
theorem dL_law_844 : decode cL_law 844 = .ok (.if_icmp .eq 512, 3) := by decide +kernel
theorem dL_law_847 : decode cL_law 847 = .ok (.iconst 0, 1) := by decide +kernel
theorem dL_law_848 : decode cL_law 848 = .ok (.ireturn, 1) := by decide +kernel
theorem dL_law_849 : decode cL_law 849 = .ok (.aload_n 1, 1) := by decide +kernel
theorem dL_law_850 : decode cL_law 850 = .ok (.aload_n 0, 1) := by decide +kernel
theorem dL_law_851 : decode cL_law 851 = .ok (.iload_n 3, 1) := by decide +kernel
theorem dL_law_852 : decode cL_law 852 = .ok (.iconst 1, 1) := by decide +kernel
theorem dL_law_853 : decode cL_law 853 = .ok (.iadd, 1) := by decide +kernel
theorem dL_law_854 : decode cL_law 854 = .ok (.iaload, 1) := by decide +kernel
theorem dL_law_855 : decode cL_law 855 = .ok (.aload_n 0, 1) := by decide +kernel
theorem dL_law_856 : decode cL_law 856 = .ok (.iload_n 3, 1) := by decide +kernel
theorem dL_law_857 : decode cL_law 857 = .ok (.iconst 2, 1) := by decide +kernel
theorem dL_law_858 : decode cL_law 858 = .ok (.iadd, 1) := by decide +kernel
theorem dL_law_859 : decode cL_law 859 = .ok (.iaload, 1) := by decide +kernel
theorem dL_law_860 : decode cL_law 860 = .ok (.invokevirtual 108, 3) := by decide +kernel
theorem dL_law_863 : decode cL_law 863 = .ok (.aload_n 2, 1) := by decide +kernel
theorem dL_law_864 : decode cL_law 864 = .ok (.aload_n 0, 1) := by decide +kernel
theorem dL_law_865 : decode cL_law 865 = .ok (.iload_n 3, 1) := by decide +kernel
theorem dL_law_866 : decode cL_law 866 = .ok (.iconst 1, 1) := by decide +kernel
theorem dL_law_867 : decode cL_law 867 = .ok (.iadd, 1) := by decide +kernel
theorem dL_law_868 : decode cL_law 868 = .ok (.iaload, 1) := by decide +kernel
theorem dL_law_869 : decode cL_law 869 = .ok (.aload_n 0, 1) := by decide +kernel
theorem dL_law_870 : decode cL_law 870 = .ok (.iload_n 3, 1) := by decide +kernel
theorem dL_law_871 : decode cL_law 871 = .ok (.iconst 2, 1) := by decide +kernel
theorem dL_law_872 : decode cL_law 872 = .ok (.iadd, 1) := by decide +kernel
theorem dL_law_873 : decode cL_law 873 = .ok (.iaload, 1) := by decide +kernel
theorem dL_law_874 : decode cL_law 874 = .ok (.invokevirtual 111, 3) := by decide +kernel
theorem dL_law_877 : decode cL_law 877 = .ok (.if_icmp .eq 479, 3) := by decide +kernel
theorem dL_law_880 : decode cL_law 880 = .ok (.iconst 0, 1) := by decide +kernel
theorem dL_law_881 : decode cL_law 881 = .ok (.ireturn, 1) := by decide +kernel
theorem dL_law_882 : decode cL_law 882 = .ok (.aload_n 1, 1) := by decide +kernel
theorem dL_law_883 : decode cL_law 883 = .ok (.invokevirtual 112, 3) := by decide +kernel
theorem dL_law_886 : decode cL_law 886 = .ok (.aload_n 2, 1) := by decide +kernel
theorem dL_law_887 : decode cL_law 887 = .ok (.invokevirtual 116, 3) := by decide +kernel
theorem dL_law_890 : decode cL_law 890 = .ok (.if_icmp .eq 466, 3) := by decide +kernel
theorem dL_law_893 : decode cL_law 893 = .ok (.iconst 0, 1) := by decide +kernel
theorem dL_law_894 : decode cL_law 894 = .ok (.ireturn, 1) := by decide +kernel
theorem dL_law_895 : decode cL_law 895 = .ok (.aload_n 1, 1) := by decide +kernel
theorem dL_law_896 : decode cL_law 896 = .ok (.aload_n 0, 1) := by decide +kernel
theorem dL_law_897 : decode cL_law 897 = .ok (.iload_n 3, 1) := by decide +kernel
theorem dL_law_898 : decode cL_law 898 = .ok (.iconst 1, 1) := by decide +kernel
theorem dL_law_899 : decode cL_law 899 = .ok (.iadd, 1) := by decide +kernel
theorem dL_law_900 : decode cL_law 900 = .ok (.iaload, 1) := by decide +kernel
theorem dL_law_901 : decode cL_law 901 = .ok (.invokevirtual 117, 3) := by decide +kernel
theorem dL_law_904 : decode cL_law 904 = .ok (.aload_n 2, 1) := by decide +kernel
theorem dL_law_905 : decode cL_law 905 = .ok (.aload_n 0, 1) := by decide +kernel
theorem dL_law_906 : decode cL_law 906 = .ok (.iload_n 3, 1) := by decide +kernel
theorem dL_law_907 : decode cL_law 907 = .ok (.iconst 1, 1) := by decide +kernel
theorem dL_law_908 : decode cL_law 908 = .ok (.iadd, 1) := by decide +kernel
theorem dL_law_909 : decode cL_law 909 = .ok (.iaload, 1) := by decide +kernel
theorem dL_law_910 : decode cL_law 910 = .ok (.invokevirtual 120, 3) := by decide +kernel
theorem dL_law_913 : decode cL_law 913 = .ok (.if_icmp .eq 443, 3) := by decide +kernel
theorem dL_law_916 : decode cL_law 916 = .ok (.iconst 0, 1) := by decide +kernel
theorem dL_law_917 : decode cL_law 917 = .ok (.ireturn, 1) := by decide +kernel
theorem dL_law_918 : decode cL_law 918 = .ok (.aload_n 1, 1) := by decide +kernel
theorem dL_law_919 : decode cL_law 919 = .ok (.aload_n 0, 1) := by decide +kernel
theorem dL_law_920 : decode cL_law 920 = .ok (.iload_n 3, 1) := by decide +kernel
theorem dL_law_921 : decode cL_law 921 = .ok (.iconst 1, 1) := by decide +kernel
theorem dL_law_922 : decode cL_law 922 = .ok (.iadd, 1) := by decide +kernel
theorem dL_law_923 : decode cL_law 923 = .ok (.iaload, 1) := by decide +kernel
theorem dL_law_924 : decode cL_law 924 = .ok (.invokevirtual 121, 3) := by decide +kernel
theorem dL_law_927 : decode cL_law 927 = .ok (.aload_n 2, 1) := by decide +kernel
theorem dL_law_928 : decode cL_law 928 = .ok (.aload_n 0, 1) := by decide +kernel
theorem dL_law_929 : decode cL_law 929 = .ok (.iload_n 3, 1) := by decide +kernel
theorem dL_law_930 : decode cL_law 930 = .ok (.iconst 1, 1) := by decide +kernel
theorem dL_law_931 : decode cL_law 931 = .ok (.iadd, 1) := by decide +kernel
theorem dL_law_932 : decode cL_law 932 = .ok (.iaload, 1) := by decide +kernel
theorem dL_law_933 : decode cL_law 933 = .ok (.invokevirtual 124, 3) := by decide +kernel
theorem dL_law_936 : decode cL_law 936 = .ok (.if_icmp .eq 420, 3) := by decide +kernel
theorem dL_law_939 : decode cL_law 939 = .ok (.iconst 0, 1) := by decide +kernel
theorem dL_law_940 : decode cL_law 940 = .ok (.ireturn, 1) := by decide +kernel
theorem dL_law_941 : decode cL_law 941 = .ok (.aload_n 1, 1) := by decide +kernel
theorem dL_law_942 : decode cL_law 942 = .ok (.aload_n 0, 1) := by decide +kernel
theorem dL_law_943 : decode cL_law 943 = .ok (.iload_n 3, 1) := by decide +kernel
theorem dL_law_944 : decode cL_law 944 = .ok (.iconst 1, 1) := by decide +kernel
theorem dL_law_945 : decode cL_law 945 = .ok (.iadd, 1) := by decide +kernel
theorem dL_law_946 : decode cL_law 946 = .ok (.iaload, 1) := by decide +kernel
theorem dL_law_947 : decode cL_law 947 = .ok (.aload_n 0, 1) := by decide +kernel
theorem dL_law_948 : decode cL_law 948 = .ok (.iload_n 3, 1) := by decide +kernel
theorem dL_law_949 : decode cL_law 949 = .ok (.iconst 2, 1) := by decide +kernel
theorem dL_law_950 : decode cL_law 950 = .ok (.iadd, 1) := by decide +kernel
theorem dL_law_951 : decode cL_law 951 = .ok (.iaload, 1) := by decide +kernel
theorem dL_law_952 : decode cL_law 952 = .ok (.invokevirtual 125, 3) := by decide +kernel
theorem dL_law_955 : decode cL_law 955 = .ok (.aload_n 2, 1) := by decide +kernel
theorem dL_law_956 : decode cL_law 956 = .ok (.aload_n 0, 1) := by decide +kernel
theorem dL_law_957 : decode cL_law 957 = .ok (.iload_n 3, 1) := by decide +kernel
theorem dL_law_958 : decode cL_law 958 = .ok (.iconst 1, 1) := by decide +kernel
theorem dL_law_959 : decode cL_law 959 = .ok (.iadd, 1) := by decide +kernel
theorem dL_law_960 : decode cL_law 960 = .ok (.iaload, 1) := by decide +kernel
theorem dL_law_961 : decode cL_law 961 = .ok (.aload_n 0, 1) := by decide +kernel
theorem dL_law_962 : decode cL_law 962 = .ok (.iload_n 3, 1) := by decide +kernel
theorem dL_law_963 : decode cL_law 963 = .ok (.iconst 2, 1) := by decide +kernel
theorem dL_law_964 : decode cL_law 964 = .ok (.iadd, 1) := by decide +kernel
theorem dL_law_965 : decode cL_law 965 = .ok (.iaload, 1) := by decide +kernel
theorem dL_law_966 : decode cL_law 966 = .ok (.invokevirtual 128, 3) := by decide +kernel
theorem dL_law_969 : decode cL_law 969 = .ok (.if_icmp .eq 387, 3) := by decide +kernel
theorem dL_law_972 : decode cL_law 972 = .ok (.iconst 0, 1) := by decide +kernel
theorem dL_law_973 : decode cL_law 973 = .ok (.ireturn, 1) := by decide +kernel
theorem dL_law_974 : decode cL_law 974 = .ok (.aload_n 1, 1) := by decide +kernel
theorem dL_law_975 : decode cL_law 975 = .ok (.aload_n 0, 1) := by decide +kernel
theorem dL_law_976 : decode cL_law 976 = .ok (.iload_n 3, 1) := by decide +kernel
theorem dL_law_977 : decode cL_law 977 = .ok (.iconst 1, 1) := by decide +kernel
theorem dL_law_978 : decode cL_law 978 = .ok (.iadd, 1) := by decide +kernel
theorem dL_law_979 : decode cL_law 979 = .ok (.iaload, 1) := by decide +kernel
theorem dL_law_980 : decode cL_law 980 = .ok (.aload_n 0, 1) := by decide +kernel
theorem dL_law_981 : decode cL_law 981 = .ok (.iload_n 3, 1) := by decide +kernel
theorem dL_law_982 : decode cL_law 982 = .ok (.iconst 2, 1) := by decide +kernel
theorem dL_law_983 : decode cL_law 983 = .ok (.iadd, 1) := by decide +kernel
theorem dL_law_984 : decode cL_law 984 = .ok (.iaload, 1) := by decide +kernel
theorem dL_law_985 : decode cL_law 985 = .ok (.aload_n 0, 1) := by decide +kernel
theorem dL_law_986 : decode cL_law 986 = .ok (.iload_n 3, 1) := by decide +kernel
theorem dL_law_987 : decode cL_law 987 = .ok (.iconst 3, 1) := by decide +kernel
theorem dL_law_988 : decode cL_law 988 = .ok (.iadd, 1) := by decide +kernel
theorem dL_law_989 : decode cL_law 989 = .ok (.iaload, 1) := by decide +kernel
theorem dL_law_990 : decode cL_law 990 = .ok (.invokevirtual 129, 3) := by decide +kernel
theorem dL_law_993 : decode cL_law 993 = .ok (.aload_n 2, 1) := by decide +kernel
theorem dL_law_994 : decode cL_law 994 = .ok (.aload_n 0, 1) := by decide +kernel
theorem dL_law_995 : decode cL_law 995 = .ok (.iload_n 3, 1) := by decide +kernel
theorem dL_law_996 : decode cL_law 996 = .ok (.iconst 1, 1) := by decide +kernel
theorem dL_law_997 : decode cL_law 997 = .ok (.iadd, 1) := by decide +kernel
theorem dL_law_998 : decode cL_law 998 = .ok (.iaload, 1) := by decide +kernel
theorem dL_law_999 : decode cL_law 999 = .ok (.aload_n 0, 1) := by decide +kernel
theorem dL_law_1000 : decode cL_law 1000 = .ok (.iload_n 3, 1) := by decide +kernel
theorem dL_law_1001 : decode cL_law 1001 = .ok (.iconst 2, 1) := by decide +kernel
theorem dL_law_1002 : decode cL_law 1002 = .ok (.iadd, 1) := by decide +kernel
theorem dL_law_1003 : decode cL_law 1003 = .ok (.iaload, 1) := by decide +kernel
theorem dL_law_1004 : decode cL_law 1004 = .ok (.aload_n 0, 1) := by decide +kernel
theorem dL_law_1005 : decode cL_law 1005 = .ok (.iload_n 3, 1) := by decide +kernel
theorem dL_law_1006 : decode cL_law 1006 = .ok (.iconst 3, 1) := by decide +kernel
theorem dL_law_1007 : decode cL_law 1007 = .ok (.iadd, 1) := by decide +kernel
theorem dL_law_1008 : decode cL_law 1008 = .ok (.iaload, 1) := by decide +kernel
theorem dL_law_1009 : decode cL_law 1009 = .ok (.invokevirtual 133, 3) := by decide +kernel
theorem dL_law_1012 : decode cL_law 1012 = .ok (.lcmp, 1) := by decide +kernel
theorem dL_law_1013 : decode cL_law 1013 = .ok (.ifCond .eq 343, 3) := by decide +kernel
theorem dL_law_1016 : decode cL_law 1016 = .ok (.iconst 0, 1) := by decide +kernel
theorem dL_law_1017 : decode cL_law 1017 = .ok (.ireturn, 1) := by decide +kernel
theorem dL_law_1018 : decode cL_law 1018 = .ok (.aload_n 1, 1) := by decide +kernel
theorem dL_law_1019 : decode cL_law 1019 = .ok (.aload_n 0, 1) := by decide +kernel
theorem dL_law_1020 : decode cL_law 1020 = .ok (.iload_n 3, 1) := by decide +kernel
theorem dL_law_1021 : decode cL_law 1021 = .ok (.iconst 1, 1) := by decide +kernel
theorem dL_law_1022 : decode cL_law 1022 = .ok (.iadd, 1) := by decide +kernel
theorem dL_law_1023 : decode cL_law 1023 = .ok (.iaload, 1) := by decide +kernel
theorem dL_law_1024 : decode cL_law 1024 = .ok (.aload_n 0, 1) := by decide +kernel
theorem dL_law_1025 : decode cL_law 1025 = .ok (.iload_n 3, 1) := by decide +kernel
theorem dL_law_1026 : decode cL_law 1026 = .ok (.iconst 2, 1) := by decide +kernel
theorem dL_law_1027 : decode cL_law 1027 = .ok (.iadd, 1) := by decide +kernel
theorem dL_law_1028 : decode cL_law 1028 = .ok (.iaload, 1) := by decide +kernel
theorem dL_law_1029 : decode cL_law 1029 = .ok (.aload_n 0, 1) := by decide +kernel
theorem dL_law_1030 : decode cL_law 1030 = .ok (.iload_n 3, 1) := by decide +kernel
theorem dL_law_1031 : decode cL_law 1031 = .ok (.iconst 3, 1) := by decide +kernel
theorem dL_law_1032 : decode cL_law 1032 = .ok (.iadd, 1) := by decide +kernel
theorem dL_law_1033 : decode cL_law 1033 = .ok (.iaload, 1) := by decide +kernel
theorem dL_law_1034 : decode cL_law 1034 = .ok (.invokevirtual 134, 3) := by decide +kernel
theorem dL_law_1037 : decode cL_law 1037 = .ok (.aload_n 2, 1) := by decide +kernel
theorem dL_law_1038 : decode cL_law 1038 = .ok (.aload_n 0, 1) := by decide +kernel
theorem dL_law_1039 : decode cL_law 1039 = .ok (.iload_n 3, 1) := by decide +kernel
theorem dL_law_1040 : decode cL_law 1040 = .ok (.iconst 1, 1) := by decide +kernel
theorem dL_law_1041 : decode cL_law 1041 = .ok (.iadd, 1) := by decide +kernel
theorem dL_law_1042 : decode cL_law 1042 = .ok (.iaload, 1) := by decide +kernel
theorem dL_law_1043 : decode cL_law 1043 = .ok (.aload_n 0, 1) := by decide +kernel
theorem dL_law_1044 : decode cL_law 1044 = .ok (.iload_n 3, 1) := by decide +kernel
theorem dL_law_1045 : decode cL_law 1045 = .ok (.iconst 2, 1) := by decide +kernel
theorem dL_law_1046 : decode cL_law 1046 = .ok (.iadd, 1) := by decide +kernel
theorem dL_law_1047 : decode cL_law 1047 = .ok (.iaload, 1) := by decide +kernel
theorem dL_law_1048 : decode cL_law 1048 = .ok (.aload_n 0, 1) := by decide +kernel
theorem dL_law_1049 : decode cL_law 1049 = .ok (.iload_n 3, 1) := by decide +kernel
theorem dL_law_1050 : decode cL_law 1050 = .ok (.iconst 3, 1) := by decide +kernel
theorem dL_law_1051 : decode cL_law 1051 = .ok (.iadd, 1) := by decide +kernel
theorem dL_law_1052 : decode cL_law 1052 = .ok (.iaload, 1) := by decide +kernel
theorem dL_law_1053 : decode cL_law 1053 = .ok (.invokevirtual 138, 3) := by decide +kernel
theorem dL_law_1056 : decode cL_law 1056 = .ok (.if_icmp .eq 300, 3) := by decide +kernel
theorem dL_law_1059 : decode cL_law 1059 = .ok (.iconst 0, 1) := by decide +kernel
theorem dL_law_1060 : decode cL_law 1060 = .ok (.ireturn, 1) := by decide +kernel
theorem dL_law_1061 : decode cL_law 1061 = .ok (.aload_n 1, 1) := by decide +kernel
theorem dL_law_1062 : decode cL_law 1062 = .ok (.aload_n 0, 1) := by decide +kernel
theorem dL_law_1063 : decode cL_law 1063 = .ok (.iload_n 3, 1) := by decide +kernel
theorem dL_law_1064 : decode cL_law 1064 = .ok (.iconst 1, 1) := by decide +kernel
theorem dL_law_1065 : decode cL_law 1065 = .ok (.iadd, 1) := by decide +kernel
theorem dL_law_1066 : decode cL_law 1066 = .ok (.iaload, 1) := by decide +kernel
theorem dL_law_1067 : decode cL_law 1067 = .ok (.aload_n 0, 1) := by decide +kernel
theorem dL_law_1068 : decode cL_law 1068 = .ok (.iload_n 3, 1) := by decide +kernel
theorem dL_law_1069 : decode cL_law 1069 = .ok (.iconst 2, 1) := by decide +kernel
theorem dL_law_1070 : decode cL_law 1070 = .ok (.iadd, 1) := by decide +kernel
theorem dL_law_1071 : decode cL_law 1071 = .ok (.iaload, 1) := by decide +kernel
theorem dL_law_1072 : decode cL_law 1072 = .ok (.aload_n 0, 1) := by decide +kernel
theorem dL_law_1073 : decode cL_law 1073 = .ok (.iload_n 3, 1) := by decide +kernel
theorem dL_law_1074 : decode cL_law 1074 = .ok (.iconst 3, 1) := by decide +kernel
theorem dL_law_1075 : decode cL_law 1075 = .ok (.iadd, 1) := by decide +kernel
theorem dL_law_1076 : decode cL_law 1076 = .ok (.iaload, 1) := by decide +kernel
theorem dL_law_1077 : decode cL_law 1077 = .ok (.invokevirtual 139, 3) := by decide +kernel
theorem dL_law_1080 : decode cL_law 1080 = .ok (.aload_n 2, 1) := by decide +kernel
theorem dL_law_1081 : decode cL_law 1081 = .ok (.aload_n 0, 1) := by decide +kernel
theorem dL_law_1082 : decode cL_law 1082 = .ok (.iload_n 3, 1) := by decide +kernel
theorem dL_law_1083 : decode cL_law 1083 = .ok (.iconst 1, 1) := by decide +kernel
theorem dL_law_1084 : decode cL_law 1084 = .ok (.iadd, 1) := by decide +kernel
theorem dL_law_1085 : decode cL_law 1085 = .ok (.iaload, 1) := by decide +kernel
theorem dL_law_1086 : decode cL_law 1086 = .ok (.aload_n 0, 1) := by decide +kernel
theorem dL_law_1087 : decode cL_law 1087 = .ok (.iload_n 3, 1) := by decide +kernel
theorem dL_law_1088 : decode cL_law 1088 = .ok (.iconst 2, 1) := by decide +kernel
theorem dL_law_1089 : decode cL_law 1089 = .ok (.iadd, 1) := by decide +kernel
theorem dL_law_1090 : decode cL_law 1090 = .ok (.iaload, 1) := by decide +kernel
theorem dL_law_1091 : decode cL_law 1091 = .ok (.aload_n 0, 1) := by decide +kernel
theorem dL_law_1092 : decode cL_law 1092 = .ok (.iload_n 3, 1) := by decide +kernel
theorem dL_law_1093 : decode cL_law 1093 = .ok (.iconst 3, 1) := by decide +kernel
theorem dL_law_1094 : decode cL_law 1094 = .ok (.iadd, 1) := by decide +kernel
theorem dL_law_1095 : decode cL_law 1095 = .ok (.iaload, 1) := by decide +kernel
theorem dL_law_1096 : decode cL_law 1096 = .ok (.invokevirtual 142, 3) := by decide +kernel
theorem dL_law_1099 : decode cL_law 1099 = .ok (.if_icmp .eq 257, 3) := by decide +kernel
theorem dL_law_1102 : decode cL_law 1102 = .ok (.iconst 0, 1) := by decide +kernel
theorem dL_law_1103 : decode cL_law 1103 = .ok (.ireturn, 1) := by decide +kernel
theorem dL_law_1104 : decode cL_law 1104 = .ok (.aload_n 1, 1) := by decide +kernel
theorem dL_law_1105 : decode cL_law 1105 = .ok (.aload_n 0, 1) := by decide +kernel
theorem dL_law_1106 : decode cL_law 1106 = .ok (.iload_n 3, 1) := by decide +kernel
theorem dL_law_1107 : decode cL_law 1107 = .ok (.iconst 1, 1) := by decide +kernel
theorem dL_law_1108 : decode cL_law 1108 = .ok (.iadd, 1) := by decide +kernel
theorem dL_law_1109 : decode cL_law 1109 = .ok (.iaload, 1) := by decide +kernel
theorem dL_law_1110 : decode cL_law 1110 = .ok (.invokevirtual 143, 3) := by decide +kernel
theorem dL_law_1113 : decode cL_law 1113 = .ok (.aload_n 2, 1) := by decide +kernel
theorem dL_law_1114 : decode cL_law 1114 = .ok (.aload_n 0, 1) := by decide +kernel
theorem dL_law_1115 : decode cL_law 1115 = .ok (.iload_n 3, 1) := by decide +kernel
theorem dL_law_1116 : decode cL_law 1116 = .ok (.iconst 1, 1) := by decide +kernel
theorem dL_law_1117 : decode cL_law 1117 = .ok (.iadd, 1) := by decide +kernel
theorem dL_law_1118 : decode cL_law 1118 = .ok (.iaload, 1) := by decide +kernel
theorem dL_law_1119 : decode cL_law 1119 = .ok (.invokevirtual 146, 3) := by decide +kernel
theorem dL_law_1122 : decode cL_law 1122 = .ok (.if_icmp .eq 234, 3) := by decide +kernel
theorem dL_law_1125 : decode cL_law 1125 = .ok (.iconst 0, 1) := by decide +kernel
theorem dL_law_1126 : decode cL_law 1126 = .ok (.ireturn, 1) := by decide +kernel
theorem dL_law_1127 : decode cL_law 1127 = .ok (.aload_n 1, 1) := by decide +kernel
theorem dL_law_1128 : decode cL_law 1128 = .ok (.aload_n 0, 1) := by decide +kernel
theorem dL_law_1129 : decode cL_law 1129 = .ok (.iload_n 3, 1) := by decide +kernel
theorem dL_law_1130 : decode cL_law 1130 = .ok (.iconst 1, 1) := by decide +kernel
theorem dL_law_1131 : decode cL_law 1131 = .ok (.iadd, 1) := by decide +kernel
theorem dL_law_1132 : decode cL_law 1132 = .ok (.iaload, 1) := by decide +kernel
theorem dL_law_1133 : decode cL_law 1133 = .ok (.aload_n 0, 1) := by decide +kernel
theorem dL_law_1134 : decode cL_law 1134 = .ok (.iload_n 3, 1) := by decide +kernel
theorem dL_law_1135 : decode cL_law 1135 = .ok (.iconst 2, 1) := by decide +kernel
theorem dL_law_1136 : decode cL_law 1136 = .ok (.iadd, 1) := by decide +kernel
theorem dL_law_1137 : decode cL_law 1137 = .ok (.iaload, 1) := by decide +kernel
theorem dL_law_1138 : decode cL_law 1138 = .ok (.aload_n 0, 1) := by decide +kernel
theorem dL_law_1139 : decode cL_law 1139 = .ok (.iload_n 3, 1) := by decide +kernel
theorem dL_law_1140 : decode cL_law 1140 = .ok (.iconst 3, 1) := by decide +kernel
theorem dL_law_1141 : decode cL_law 1141 = .ok (.iadd, 1) := by decide +kernel
theorem dL_law_1142 : decode cL_law 1142 = .ok (.iaload, 1) := by decide +kernel
theorem dL_law_1143 : decode cL_law 1143 = .ok (.aload_n 0, 1) := by decide +kernel
theorem dL_law_1144 : decode cL_law 1144 = .ok (.iload_n 3, 1) := by decide +kernel
theorem dL_law_1145 : decode cL_law 1145 = .ok (.iconst 4, 1) := by decide +kernel
theorem dL_law_1146 : decode cL_law 1146 = .ok (.iadd, 1) := by decide +kernel
theorem dL_law_1147 : decode cL_law 1147 = .ok (.iaload, 1) := by decide +kernel
theorem dL_law_1148 : decode cL_law 1148 = .ok (.invokevirtual 147, 3) := by decide +kernel
theorem dL_law_1151 : decode cL_law 1151 = .ok (.aload_n 2, 1) := by decide +kernel
theorem dL_law_1152 : decode cL_law 1152 = .ok (.aload_n 0, 1) := by decide +kernel
theorem dL_law_1153 : decode cL_law 1153 = .ok (.iload_n 3, 1) := by decide +kernel
theorem dL_law_1154 : decode cL_law 1154 = .ok (.iconst 1, 1) := by decide +kernel
theorem dL_law_1155 : decode cL_law 1155 = .ok (.iadd, 1) := by decide +kernel
theorem dL_law_1156 : decode cL_law 1156 = .ok (.iaload, 1) := by decide +kernel
theorem dL_law_1157 : decode cL_law 1157 = .ok (.aload_n 0, 1) := by decide +kernel
theorem dL_law_1158 : decode cL_law 1158 = .ok (.iload_n 3, 1) := by decide +kernel
theorem dL_law_1159 : decode cL_law 1159 = .ok (.iconst 2, 1) := by decide +kernel
theorem dL_law_1160 : decode cL_law 1160 = .ok (.iadd, 1) := by decide +kernel
theorem dL_law_1161 : decode cL_law 1161 = .ok (.iaload, 1) := by decide +kernel
theorem dL_law_1162 : decode cL_law 1162 = .ok (.aload_n 0, 1) := by decide +kernel
theorem dL_law_1163 : decode cL_law 1163 = .ok (.iload_n 3, 1) := by decide +kernel
theorem dL_law_1164 : decode cL_law 1164 = .ok (.iconst 3, 1) := by decide +kernel
theorem dL_law_1165 : decode cL_law 1165 = .ok (.iadd, 1) := by decide +kernel
theorem dL_law_1166 : decode cL_law 1166 = .ok (.iaload, 1) := by decide +kernel
theorem dL_law_1167 : decode cL_law 1167 = .ok (.aload_n 0, 1) := by decide +kernel
theorem dL_law_1168 : decode cL_law 1168 = .ok (.iload_n 3, 1) := by decide +kernel
theorem dL_law_1169 : decode cL_law 1169 = .ok (.iconst 4, 1) := by decide +kernel
theorem dL_law_1170 : decode cL_law 1170 = .ok (.iadd, 1) := by decide +kernel
theorem dL_law_1171 : decode cL_law 1171 = .ok (.iaload, 1) := by decide +kernel
theorem dL_law_1172 : decode cL_law 1172 = .ok (.invokevirtual 150, 3) := by decide +kernel
theorem dL_law_1175 : decode cL_law 1175 = .ok (.if_icmp .eq 181, 3) := by decide +kernel
theorem dL_law_1178 : decode cL_law 1178 = .ok (.iconst 0, 1) := by decide +kernel
theorem dL_law_1179 : decode cL_law 1179 = .ok (.ireturn, 1) := by decide +kernel
theorem dL_law_1180 : decode cL_law 1180 = .ok (.aload_n 1, 1) := by decide +kernel
theorem dL_law_1181 : decode cL_law 1181 = .ok (.aload_n 0, 1) := by decide +kernel
theorem dL_law_1182 : decode cL_law 1182 = .ok (.iload_n 3, 1) := by decide +kernel
theorem dL_law_1183 : decode cL_law 1183 = .ok (.iconst 1, 1) := by decide +kernel
theorem dL_law_1184 : decode cL_law 1184 = .ok (.iadd, 1) := by decide +kernel
theorem dL_law_1185 : decode cL_law 1185 = .ok (.iaload, 1) := by decide +kernel
theorem dL_law_1186 : decode cL_law 1186 = .ok (.aload_n 0, 1) := by decide +kernel
theorem dL_law_1187 : decode cL_law 1187 = .ok (.iload_n 3, 1) := by decide +kernel
theorem dL_law_1188 : decode cL_law 1188 = .ok (.iconst 2, 1) := by decide +kernel
theorem dL_law_1189 : decode cL_law 1189 = .ok (.iadd, 1) := by decide +kernel
theorem dL_law_1190 : decode cL_law 1190 = .ok (.iaload, 1) := by decide +kernel
theorem dL_law_1191 : decode cL_law 1191 = .ok (.aload_n 0, 1) := by decide +kernel
theorem dL_law_1192 : decode cL_law 1192 = .ok (.iload_n 3, 1) := by decide +kernel
theorem dL_law_1193 : decode cL_law 1193 = .ok (.iconst 3, 1) := by decide +kernel
theorem dL_law_1194 : decode cL_law 1194 = .ok (.iadd, 1) := by decide +kernel
theorem dL_law_1195 : decode cL_law 1195 = .ok (.iaload, 1) := by decide +kernel
theorem dL_law_1196 : decode cL_law 1196 = .ok (.invokevirtual 151, 3) := by decide +kernel
theorem dL_law_1199 : decode cL_law 1199 = .ok (.aload_n 2, 1) := by decide +kernel
theorem dL_law_1200 : decode cL_law 1200 = .ok (.aload_n 0, 1) := by decide +kernel
theorem dL_law_1201 : decode cL_law 1201 = .ok (.iload_n 3, 1) := by decide +kernel
theorem dL_law_1202 : decode cL_law 1202 = .ok (.iconst 1, 1) := by decide +kernel
theorem dL_law_1203 : decode cL_law 1203 = .ok (.iadd, 1) := by decide +kernel
theorem dL_law_1204 : decode cL_law 1204 = .ok (.iaload, 1) := by decide +kernel
theorem dL_law_1205 : decode cL_law 1205 = .ok (.aload_n 0, 1) := by decide +kernel
theorem dL_law_1206 : decode cL_law 1206 = .ok (.iload_n 3, 1) := by decide +kernel
theorem dL_law_1207 : decode cL_law 1207 = .ok (.iconst 2, 1) := by decide +kernel
theorem dL_law_1208 : decode cL_law 1208 = .ok (.iadd, 1) := by decide +kernel
theorem dL_law_1209 : decode cL_law 1209 = .ok (.iaload, 1) := by decide +kernel
theorem dL_law_1210 : decode cL_law 1210 = .ok (.aload_n 0, 1) := by decide +kernel
theorem dL_law_1211 : decode cL_law 1211 = .ok (.iload_n 3, 1) := by decide +kernel
theorem dL_law_1212 : decode cL_law 1212 = .ok (.iconst 3, 1) := by decide +kernel
theorem dL_law_1213 : decode cL_law 1213 = .ok (.iadd, 1) := by decide +kernel
theorem dL_law_1214 : decode cL_law 1214 = .ok (.iaload, 1) := by decide +kernel
theorem dL_law_1215 : decode cL_law 1215 = .ok (.invokevirtual 154, 3) := by decide +kernel
theorem dL_law_1218 : decode cL_law 1218 = .ok (.if_icmp .eq 138, 3) := by decide +kernel
theorem dL_law_1221 : decode cL_law 1221 = .ok (.iconst 0, 1) := by decide +kernel
theorem dL_law_1222 : decode cL_law 1222 = .ok (.ireturn, 1) := by decide +kernel
theorem dL_law_1223 : decode cL_law 1223 = .ok (.aload_n 1, 1) := by decide +kernel
theorem dL_law_1224 : decode cL_law 1224 = .ok (.aload_n 0, 1) := by decide +kernel
theorem dL_law_1225 : decode cL_law 1225 = .ok (.iload_n 3, 1) := by decide +kernel
theorem dL_law_1226 : decode cL_law 1226 = .ok (.iconst 1, 1) := by decide +kernel
theorem dL_law_1227 : decode cL_law 1227 = .ok (.iadd, 1) := by decide +kernel
theorem dL_law_1228 : decode cL_law 1228 = .ok (.iaload, 1) := by decide +kernel
theorem dL_law_1229 : decode cL_law 1229 = .ok (.aload_n 0, 1) := by decide +kernel
theorem dL_law_1230 : decode cL_law 1230 = .ok (.iload_n 3, 1) := by decide +kernel
theorem dL_law_1231 : decode cL_law 1231 = .ok (.iconst 2, 1) := by decide +kernel
theorem dL_law_1232 : decode cL_law 1232 = .ok (.iadd, 1) := by decide +kernel
theorem dL_law_1233 : decode cL_law 1233 = .ok (.iaload, 1) := by decide +kernel
theorem dL_law_1234 : decode cL_law 1234 = .ok (.aload_n 0, 1) := by decide +kernel
theorem dL_law_1235 : decode cL_law 1235 = .ok (.iload_n 3, 1) := by decide +kernel
theorem dL_law_1236 : decode cL_law 1236 = .ok (.iconst 3, 1) := by decide +kernel
theorem dL_law_1237 : decode cL_law 1237 = .ok (.iadd, 1) := by decide +kernel
theorem dL_law_1238 : decode cL_law 1238 = .ok (.iaload, 1) := by decide +kernel
theorem dL_law_1239 : decode cL_law 1239 = .ok (.aload_n 0, 1) := by decide +kernel
theorem dL_law_1240 : decode cL_law 1240 = .ok (.iload_n 3, 1) := by decide +kernel
theorem dL_law_1241 : decode cL_law 1241 = .ok (.iconst 4, 1) := by decide +kernel
theorem dL_law_1242 : decode cL_law 1242 = .ok (.iadd, 1) := by decide +kernel
theorem dL_law_1243 : decode cL_law 1243 = .ok (.iaload, 1) := by decide +kernel
theorem dL_law_1244 : decode cL_law 1244 = .ok (.aload_n 0, 1) := by decide +kernel
theorem dL_law_1245 : decode cL_law 1245 = .ok (.iload_n 3, 1) := by decide +kernel
theorem dL_law_1246 : decode cL_law 1246 = .ok (.iconst 5, 1) := by decide +kernel
theorem dL_law_1247 : decode cL_law 1247 = .ok (.iadd, 1) := by decide +kernel
theorem dL_law_1248 : decode cL_law 1248 = .ok (.iaload, 1) := by decide +kernel
theorem dL_law_1249 : decode cL_law 1249 = .ok (.invokevirtual 155, 3) := by decide +kernel
theorem dL_law_1252 : decode cL_law 1252 = .ok (.aload_n 2, 1) := by decide +kernel
theorem dL_law_1253 : decode cL_law 1253 = .ok (.aload_n 0, 1) := by decide +kernel
theorem dL_law_1254 : decode cL_law 1254 = .ok (.iload_n 3, 1) := by decide +kernel
theorem dL_law_1255 : decode cL_law 1255 = .ok (.iconst 1, 1) := by decide +kernel
theorem dL_law_1256 : decode cL_law 1256 = .ok (.iadd, 1) := by decide +kernel
theorem dL_law_1257 : decode cL_law 1257 = .ok (.iaload, 1) := by decide +kernel
theorem dL_law_1258 : decode cL_law 1258 = .ok (.aload_n 0, 1) := by decide +kernel
theorem dL_law_1259 : decode cL_law 1259 = .ok (.iload_n 3, 1) := by decide +kernel
theorem dL_law_1260 : decode cL_law 1260 = .ok (.iconst 2, 1) := by decide +kernel
theorem dL_law_1261 : decode cL_law 1261 = .ok (.iadd, 1) := by decide +kernel
theorem dL_law_1262 : decode cL_law 1262 = .ok (.iaload, 1) := by decide +kernel
theorem dL_law_1263 : decode cL_law 1263 = .ok (.aload_n 0, 1) := by decide +kernel
theorem dL_law_1264 : decode cL_law 1264 = .ok (.iload_n 3, 1) := by decide +kernel
theorem dL_law_1265 : decode cL_law 1265 = .ok (.iconst 3, 1) := by decide +kernel
theorem dL_law_1266 : decode cL_law 1266 = .ok (.iadd, 1) := by decide +kernel
theorem dL_law_1267 : decode cL_law 1267 = .ok (.iaload, 1) := by decide +kernel
theorem dL_law_1268 : decode cL_law 1268 = .ok (.aload_n 0, 1) := by decide +kernel
theorem dL_law_1269 : decode cL_law 1269 = .ok (.iload_n 3, 1) := by decide +kernel
theorem dL_law_1270 : decode cL_law 1270 = .ok (.iconst 4, 1) := by decide +kernel
theorem dL_law_1271 : decode cL_law 1271 = .ok (.iadd, 1) := by decide +kernel
theorem dL_law_1272 : decode cL_law 1272 = .ok (.iaload, 1) := by decide +kernel
theorem dL_law_1273 : decode cL_law 1273 = .ok (.aload_n 0, 1) := by decide +kernel
theorem dL_law_1274 : decode cL_law 1274 = .ok (.iload_n 3, 1) := by decide +kernel
theorem dL_law_1275 : decode cL_law 1275 = .ok (.iconst 5, 1) := by decide +kernel
theorem dL_law_1276 : decode cL_law 1276 = .ok (.iadd, 1) := by decide +kernel
theorem dL_law_1277 : decode cL_law 1277 = .ok (.iaload, 1) := by decide +kernel
theorem dL_law_1278 : decode cL_law 1278 = .ok (.invokevirtual 159, 3) := by decide +kernel
theorem dL_law_1281 : decode cL_law 1281 = .ok (.if_icmp .eq 75, 3) := by decide +kernel
theorem dL_law_1284 : decode cL_law 1284 = .ok (.iconst 0, 1) := by decide +kernel
theorem dL_law_1285 : decode cL_law 1285 = .ok (.ireturn, 1) := by decide +kernel
theorem dL_law_1286 : decode cL_law 1286 = .ok (.aload_n 1, 1) := by decide +kernel
theorem dL_law_1287 : decode cL_law 1287 = .ok (.aload_n 0, 1) := by decide +kernel
theorem dL_law_1288 : decode cL_law 1288 = .ok (.iload_n 3, 1) := by decide +kernel
theorem dL_law_1289 : decode cL_law 1289 = .ok (.iconst 1, 1) := by decide +kernel
theorem dL_law_1290 : decode cL_law 1290 = .ok (.iadd, 1) := by decide +kernel
theorem dL_law_1291 : decode cL_law 1291 = .ok (.iaload, 1) := by decide +kernel
theorem dL_law_1292 : decode cL_law 1292 = .ok (.aload_n 0, 1) := by decide +kernel
theorem dL_law_1293 : decode cL_law 1293 = .ok (.iload_n 3, 1) := by decide +kernel
theorem dL_law_1294 : decode cL_law 1294 = .ok (.iconst 2, 1) := by decide +kernel
theorem dL_law_1295 : decode cL_law 1295 = .ok (.iadd, 1) := by decide +kernel
theorem dL_law_1296 : decode cL_law 1296 = .ok (.iaload, 1) := by decide +kernel
theorem dL_law_1297 : decode cL_law 1297 = .ok (.invokevirtual 160, 3) := by decide +kernel
theorem dL_law_1300 : decode cL_law 1300 = .ok (.aload_n 2, 1) := by decide +kernel
theorem dL_law_1301 : decode cL_law 1301 = .ok (.aload_n 0, 1) := by decide +kernel
theorem dL_law_1302 : decode cL_law 1302 = .ok (.iload_n 3, 1) := by decide +kernel
theorem dL_law_1303 : decode cL_law 1303 = .ok (.iconst 1, 1) := by decide +kernel
theorem dL_law_1304 : decode cL_law 1304 = .ok (.iadd, 1) := by decide +kernel
theorem dL_law_1305 : decode cL_law 1305 = .ok (.iaload, 1) := by decide +kernel
theorem dL_law_1306 : decode cL_law 1306 = .ok (.aload_n 0, 1) := by decide +kernel
theorem dL_law_1307 : decode cL_law 1307 = .ok (.iload_n 3, 1) := by decide +kernel
theorem dL_law_1308 : decode cL_law 1308 = .ok (.iconst 2, 1) := by decide +kernel
theorem dL_law_1309 : decode cL_law 1309 = .ok (.iadd, 1) := by decide +kernel
theorem dL_law_1310 : decode cL_law 1310 = .ok (.iaload, 1) := by decide +kernel
theorem dL_law_1311 : decode cL_law 1311 = .ok (.invokevirtual 163, 3) := by decide +kernel
theorem dL_law_1314 : decode cL_law 1314 = .ok (.if_icmp .eq 42, 3) := by decide +kernel
theorem dL_law_1317 : decode cL_law 1317 = .ok (.iconst 0, 1) := by decide +kernel
theorem dL_law_1318 : decode cL_law 1318 = .ok (.ireturn, 1) := by decide +kernel
theorem dL_law_1319 : decode cL_law 1319 = .ok (.aload_n 1, 1) := by decide +kernel
theorem dL_law_1320 : decode cL_law 1320 = .ok (.aload_n 0, 1) := by decide +kernel
theorem dL_law_1321 : decode cL_law 1321 = .ok (.iload_n 3, 1) := by decide +kernel
theorem dL_law_1322 : decode cL_law 1322 = .ok (.iconst 1, 1) := by decide +kernel
theorem dL_law_1323 : decode cL_law 1323 = .ok (.iadd, 1) := by decide +kernel
theorem dL_law_1324 : decode cL_law 1324 = .ok (.iaload, 1) := by decide +kernel
theorem dL_law_1325 : decode cL_law 1325 = .ok (.invokevirtual 164, 3) := by decide +kernel
theorem dL_law_1328 : decode cL_law 1328 = .ok (.aload_n 2, 1) := by decide +kernel
theorem dL_law_1329 : decode cL_law 1329 = .ok (.aload_n 0, 1) := by decide +kernel
theorem dL_law_1330 : decode cL_law 1330 = .ok (.iload_n 3, 1) := by decide +kernel
theorem dL_law_1331 : decode cL_law 1331 = .ok (.iconst 1, 1) := by decide +kernel
theorem dL_law_1332 : decode cL_law 1332 = .ok (.iadd, 1) := by decide +kernel
theorem dL_law_1333 : decode cL_law 1333 = .ok (.iaload, 1) := by decide +kernel
theorem dL_law_1334 : decode cL_law 1334 = .ok (.invokevirtual 167, 3) := by decide +kernel
theorem dL_law_1337 : decode cL_law 1337 = .ok (.if_icmp .eq 19, 3) := by decide +kernel
theorem dL_law_1340 : decode cL_law 1340 = .ok (.iconst 0, 1) := by decide +kernel
theorem dL_law_1341 : decode cL_law 1341 = .ok (.ireturn, 1) := by decide +kernel
theorem dL_law_1342 : decode cL_law 1342 = .ok (.aload_n 1, 1) := by decide +kernel
theorem dL_law_1343 : decode cL_law 1343 = .ok (.invokevirtual 168, 3) := by decide +kernel
theorem dL_law_1346 : decode cL_law 1346 = .ok (.aload_n 2, 1) := by decide +kernel
theorem dL_law_1347 : decode cL_law 1347 = .ok (.invokevirtual 172, 3) := by decide +kernel
theorem dL_law_1350 : decode cL_law 1350 = .ok (.lcmp, 1) := by decide +kernel
theorem dL_law_1351 : decode cL_law 1351 = .ok (.ifCond .eq 5, 3) := by decide +kernel
theorem dL_law_1354 : decode cL_law 1354 = .ok (.iconst 0, 1) := by decide +kernel
theorem dL_law_1355 : decode cL_law 1355 = .ok (.ireturn, 1) := by decide +kernel
theorem dL_law_1356 : decode cL_law 1356 = .ok (.iinc 3 6, 3) := by decide +kernel
theorem dL_law_1359 : decode cL_law 1359 = .ok (.goto (-1341), 3) := by decide +kernel
theorem dL_law_1362 : decode cL_law 1362 = .ok (.iconst 1, 1) := by decide +kernel
theorem dL_law_1363 : decode cL_law 1363 = .ok (.ireturn, 1) := by decide +kernel
end
section
/-! the state of both systems: int fields by cell and slot, int arrays by cell, long arrays by cell -/
abbrev nw_ST : Type := (Nat → Nat → Int32) × (Nat → Nat → Int32) × (Nat → Nat → Int64)
def nw_gS (σ : nw_ST) (q k : Nat) : Int32 := σ.1 q k
def nw_gA (σ : nw_ST) (q i : Nat) : Int32 := σ.2.1 q i
def nw_gL (σ : nw_ST) (q i : Nat) : Int64 := σ.2.2 q i
def nw_sS (σ : nw_ST) (q k : Nat) (v : Int32) : nw_ST := (fun q' k' => if q' = q then (if k' = k then v else σ.1 q' k') else σ.1 q' k', σ.2)
def nw_sA (σ : nw_ST) (q i : Nat) (v : Int32) : nw_ST := (σ.1, fun q' => if q' = q then upd (σ.2.1 q) i v else σ.2.1 q', σ.2.2)
def nw_sL (σ : nw_ST) (q i : Nat) (v : Int64) : nw_ST := (σ.1, σ.2.1, fun q' => if q' = q then vp_updL (σ.2.2 q) i v else σ.2.2 q')
def nw_sC (σ : nw_ST) (q0 q1 sp dp n : Nat) : nw_ST := (σ.1, fun q' => if q' = q1 then va_cpy (σ.2.1 q0) (σ.2.1 q1) sp dp n else σ.2.1 q', σ.2.2)
def nw_rem (x y : Int32) : Int32 := x - x / y * y
def nw_lrem (x y : Int64) : Int64 := x - x / y * y
def nw_shl (x y : Int32) : Int32 := x <<< (y &&& 31)
def nw_ushr (x y : Int32) : Int32 := (x.toUInt32 >>> (y.toUInt32 &&& Int32.toUInt32 31)).toInt32
def nw_lshr (x : Int64) (y : Int32) : Int64 := x >>> (y.toInt64 &&& 63)
def nw_b (x : Int32) : Int32 := x.toInt8.toInt32
def nw_s16 (x : Int32) : Int32 := x.toInt16.toInt32
def nw_isZ (x : Int32) : Prop := x = 0 ∨ x = 1

def nw_clT : List Nat := [4, 2, 10, 10, 2, 10, 10, 0, 10, 10, 0, 10, 10, 0, 10, 10, 0, 10, 10, 3, 10, 10, 12, 10, 10, 10, 13, 1, 10, 1, 10, 1, 10, 1, 10, 10, 11, 5, 10, 10, 10, 10, 10, 10, 10, 10, 10, 10, 10, 10, 10, 10, 10, 10, 12, 10, 10, 11, 12, 10, 10, 10, 10, 14, 14, 14, 14, 14, 14]
def nw_lenT : List Nat := [0, 0, 35, 18, 0, 47, 24, 0, 12, 12, 0, 8, 8, 0, 12, 12, 0, 8, 8, 0, 240, 240, 240, 240, 241, 401, 4, 0, 48, 0, 48, 0, 48, 0, 48, 240, 13, 0, 2, 94, 7, 7, 7, 9, 9, 9, 13, 13, 9, 13, 13, 240, 240, 240, 401, 8, 8, 15, 4, 4, 4, 192, 48, 5, 3, 5, 3, 4, 3]
def nw_rfT : List (List Nat) := [[1, 4, 7, 10, 13, 16, 19, 26, 35, 36], [2, 63, 64, 3], [], [], [5, 65, 66, 6], [], [], [8, 9], [], [], [11, 12], [], [], [14, 15], [], [], [17, 18], [], [], [20, 21, 22, 23, 24, 25], [], [], [], [], [], [], [], [28], [], [30], [], [32], [], [34], [], [], [], [38, 39, 999, 40, 41, 42, 999, 43, 44, 45, 999, 999, 46, 47, 999, 48, 999, 49, 50, 51, 52, 53, 999, 999, 999, 999, 999, 54, 999, 55, 56, 57, 58, 59, 60, 61, 62], [], [], [], [], [], [], [], [], [], [], [], [], [], [], [], [], [], [], [], [], [], [], [], [], [], [], [], [], [], [], []]
def nw_cstT : List (List Int32) := [[0, 1, 1, 2, 2], [1, 2, 0], [0, 0, 1, 1, 2], [1, 0, 0], [0, 1, 60, 239], [1, 7, 40]]
def nw_cl (q : Nat) : Nat := nw_clT.getD q 99
def nw_len (q : Nat) : Nat := nw_lenT.getD q 0
def nw_rf (q k : Nat) : Nat := (nw_rfT.getD q []).getD k 999
def nw_cst (q i : Nat) : Int32 := (nw_cstT.getD (q - 63) []).getD i 0
theorem nw_cl_lt {q c : Nat} (h : nw_cl q = c) (hc : c ≠ 99) : q < 69 := by
  rcases Nat.lt_or_ge q 69 with h1 | h1
  · exact h1
  · exfalso; apply hc; rw [← h]; unfold nw_cl; rw [List.getD_eq_getElem?_getD, List.getElem?_eq_none (by simpa [nw_clT] using h1)]; rfl

def nw_fs0 (ad : Nat → Nat) (σ : nw_ST) (q : Nat) : List Value := [.ref (ad (nw_rf q 0)), .ref (ad (nw_rf q 1)), .int (σ.1 q 2)]
def nw_fs1 (ad : Nat → Nat) (σ : nw_ST) (q : Nat) : List Value := [.ref (ad (nw_rf q 0)), .int (σ.1 q 1), .int (σ.1 q 2), .int (σ.1 q 3)]
def nw_fs2 (ad : Nat → Nat) (σ : nw_ST) (q : Nat) : List Value := [.ref (ad (nw_rf q 0)), .ref (ad (nw_rf q 1)), .ref (ad (nw_rf q 2)), .ref (ad (nw_rf q 3)), .int (σ.1 q 4), .int (σ.1 q 5), .int (σ.1 q 6)]
def nw_fs3 (ad : Nat → Nat) (σ : nw_ST) (q : Nat) : List Value := [.ref (ad (nw_rf q 0)), .ref (ad (nw_rf q 1)), .ref (ad (nw_rf q 2)), .ref (ad (nw_rf q 3)), .ref (ad (nw_rf q 4)), .ref (ad (nw_rf q 5)), .int (σ.1 q 6)]
def nw_fs4 (ad : Nat → Nat) (σ : nw_ST) (q : Nat) : List Value := [.ref (ad (nw_rf q 0)), .ref (ad (nw_rf q 1)), .ref (ad (nw_rf q 2)), .ref (ad (nw_rf q 3)), .ref (ad (nw_rf q 4)), .ref (ad (nw_rf q 5)), .ref (ad (nw_rf q 6)), .ref (ad (nw_rf q 7)), .ref (ad (nw_rf q 8)), .ref (ad (nw_rf q 9)), .int (σ.1 q 10), .int (σ.1 q 11), .int (σ.1 q 12)]
def nw_fs5 (ad : Nat → Nat) (σ : nw_ST) (q : Nat) : List Value := [.ref (ad (nw_rf q 0)), .ref (ad (nw_rf q 1)), .int (σ.1 q 2), .ref (ad (nw_rf q 3)), .ref (ad (nw_rf q 4)), .ref (ad (nw_rf q 5)), .int (σ.1 q 6), .ref (ad (nw_rf q 7)), .ref (ad (nw_rf q 8)), .ref (ad (nw_rf q 9)), .int (σ.1 q 10), .int (σ.1 q 11), .ref (ad (nw_rf q 12)), .ref (ad (nw_rf q 13)), .int (σ.1 q 14), .ref (ad (nw_rf q 15)), .int (σ.1 q 16), .ref (ad (nw_rf q 17)), .ref (ad (nw_rf q 18)), .ref (ad (nw_rf q 19)), .ref (ad (nw_rf q 20)), .ref (ad (nw_rf q 21)), .int (σ.1 q 22), .int (σ.1 q 23), .int (σ.1 q 24), .int (σ.1 q 25), .int (σ.1 q 26), .ref (ad (nw_rf q 27)), .int (σ.1 q 28), .ref (ad (nw_rf q 29)), .ref (ad (nw_rf q 30)), .ref (ad (nw_rf q 31)), .ref (ad (nw_rf q 32)), .ref (ad (nw_rf q 33)), .ref (ad (nw_rf q 34)), .ref (ad (nw_rf q 35)), .ref (ad (nw_rf q 36)), .int (σ.1 q 37)]
def nw_W (ad : Nat → Nat) (ca : Nat → ClassId) (σ : nw_ST) : va_W := [(ad 0, .inr (4, nw_fs4 ad σ 0)),
  (ad 1, .inr (2, nw_fs2 ad σ 1)),
  (ad 2, .inl (ca 0, 35, .inl (σ.2.1 2))),
  (ad 3, .inl (ca 0, 18, .inl (σ.2.1 3))),
  (ad 4, .inr (2, nw_fs2 ad σ 4)),
  (ad 5, .inl (ca 0, 47, .inl (σ.2.1 5))),
  (ad 6, .inl (ca 0, 24, .inl (σ.2.1 6))),
  (ad 7, .inr (0, nw_fs0 ad σ 7)),
  (ad 8, .inl (ca 0, 12, .inl (σ.2.1 8))),
  (ad 9, .inl (ca 0, 12, .inl (σ.2.1 9))),
  (ad 10, .inr (0, nw_fs0 ad σ 10)),
  (ad 11, .inl (ca 0, 8, .inl (σ.2.1 11))),
  (ad 12, .inl (ca 0, 8, .inl (σ.2.1 12))),
  (ad 13, .inr (0, nw_fs0 ad σ 13)),
  (ad 14, .inl (ca 0, 12, .inl (σ.2.1 14))),
  (ad 15, .inl (ca 0, 12, .inl (σ.2.1 15))),
  (ad 16, .inr (0, nw_fs0 ad σ 16)),
  (ad 17, .inl (ca 0, 8, .inl (σ.2.1 17))),
  (ad 18, .inl (ca 0, 8, .inl (σ.2.1 18))),
  (ad 19, .inr (3, nw_fs3 ad σ 19)),
  (ad 20, .inl (ca 0, 240, .inl (σ.2.1 20))),
  (ad 21, .inl (ca 0, 240, .inl (σ.2.1 21))),
  (ad 22, .inl (ca 2, 240, .inl (σ.2.1 22))),
  (ad 23, .inl (ca 0, 240, .inl (σ.2.1 23))),
  (ad 24, .inl (ca 0, 241, .inl (σ.2.1 24))),
  (ad 25, .inl (ca 0, 401, .inl (σ.2.1 25))),
  (ad 26, .inl (ca 3, 4, .inr (.inr (.inr (.inr (fun i => some (ad (27 + 2 * i)))))))),
  (ad 27, .inr (1, nw_fs1 ad σ 27)),
  (ad 28, .inl (ca 0, 48, .inl (σ.2.1 28))),
  (ad 29, .inr (1, nw_fs1 ad σ 29)),
  (ad 30, .inl (ca 0, 48, .inl (σ.2.1 30))),
  (ad 31, .inr (1, nw_fs1 ad σ 31)),
  (ad 32, .inl (ca 0, 48, .inl (σ.2.1 32))),
  (ad 33, .inr (1, nw_fs1 ad σ 33)),
  (ad 34, .inl (ca 0, 48, .inl (σ.2.1 34))),
  (ad 35, .inl (ca 0, 240, .inl (σ.2.1 35))),
  (ad 36, .inl (ca 1, 13, .inr (.inl (σ.2.2 36)))),
  (ad 37, .inr (5, nw_fs5 ad σ 37)),
  (ad 38, .inl (ca 0, 2, .inl (σ.2.1 38))),
  (ad 39, .inl (ca 0, 94, .inl (σ.2.1 39))),
  (ad 40, .inl (ca 0, 7, .inl (σ.2.1 40))),
  (ad 41, .inl (ca 0, 7, .inl (σ.2.1 41))),
  (ad 42, .inl (ca 0, 7, .inl (σ.2.1 42))),
  (ad 43, .inl (ca 0, 9, .inl (σ.2.1 43))),
  (ad 44, .inl (ca 0, 9, .inl (σ.2.1 44))),
  (ad 45, .inl (ca 0, 9, .inl (σ.2.1 45))),
  (ad 46, .inl (ca 0, 13, .inl (σ.2.1 46))),
  (ad 47, .inl (ca 0, 13, .inl (σ.2.1 47))),
  (ad 48, .inl (ca 0, 9, .inl (σ.2.1 48))),
  (ad 49, .inl (ca 0, 13, .inl (σ.2.1 49))),
  (ad 50, .inl (ca 0, 13, .inl (σ.2.1 50))),
  (ad 51, .inl (ca 0, 240, .inl (σ.2.1 51))),
  (ad 52, .inl (ca 0, 240, .inl (σ.2.1 52))),
  (ad 53, .inl (ca 0, 240, .inl (σ.2.1 53))),
  (ad 54, .inl (ca 2, 401, .inl (σ.2.1 54))),
  (ad 55, .inl (ca 0, 8, .inl (σ.2.1 55))),
  (ad 56, .inl (ca 0, 8, .inl (σ.2.1 56))),
  (ad 57, .inl (ca 1, 15, .inr (.inl (σ.2.2 57)))),
  (ad 58, .inl (ca 2, 4, .inl (σ.2.1 58))),
  (ad 59, .inl (ca 0, 4, .inl (σ.2.1 59))),
  (ad 60, .inl (ca 0, 4, .inl (σ.2.1 60))),
  (ad 61, .inl (ca 0, 192, .inl (σ.2.1 61))),
  (ad 62, .inl (ca 0, 48, .inl (σ.2.1 62)))]
theorem nw_q0 {q : Nat} (h : nw_cl q = 0) : q = 7 ∨ q = 10 ∨ q = 13 ∨ q = 16 := by
  have h1 := nw_cl_lt h (by decide)
  have h2 : ∀ q, q < 69 → nw_cl q = 0 → q ∈ [7, 10, 13, 16] := by decide +kernel
  have h3 := h2 q h1 h
  simpa only [List.mem_cons, List.not_mem_nil, or_false] using h3
theorem nw_q1 {q : Nat} (h : nw_cl q = 1) : q = 27 ∨ q = 29 ∨ q = 31 ∨ q = 33 := by
  have h1 := nw_cl_lt h (by decide)
  have h2 : ∀ q, q < 69 → nw_cl q = 1 → q ∈ [27, 29, 31, 33] := by decide +kernel
  have h3 := h2 q h1 h
  simpa only [List.mem_cons, List.not_mem_nil, or_false] using h3
theorem nw_q2 {q : Nat} (h : nw_cl q = 2) : q = 1 ∨ q = 4 := by
  have h1 := nw_cl_lt h (by decide)
  have h2 : ∀ q, q < 69 → nw_cl q = 2 → q ∈ [1, 4] := by decide +kernel
  have h3 := h2 q h1 h
  simpa only [List.mem_cons, List.not_mem_nil, or_false] using h3
theorem nw_q3 {q : Nat} (h : nw_cl q = 3) : q = 19 := by
  have h1 := nw_cl_lt h (by decide)
  have h2 : ∀ q, q < 69 → nw_cl q = 3 → q ∈ [19] := by decide +kernel
  have h3 := h2 q h1 h
  simpa only [List.mem_cons, List.not_mem_nil, or_false] using h3
theorem nw_q4 {q : Nat} (h : nw_cl q = 4) : q = 0 := by
  have h1 := nw_cl_lt h (by decide)
  have h2 : ∀ q, q < 69 → nw_cl q = 4 → q ∈ [0] := by decide +kernel
  have h3 := h2 q h1 h
  simpa only [List.mem_cons, List.not_mem_nil, or_false] using h3
theorem nw_q5 {q : Nat} (h : nw_cl q = 5) : q = 37 := by
  have h1 := nw_cl_lt h (by decide)
  have h2 : ∀ q, q < 69 → nw_cl q = 5 → q ∈ [37] := by decide +kernel
  have h3 := h2 q h1 h
  simpa only [List.mem_cons, List.not_mem_nil, or_false] using h3
theorem nw_q10 {q : Nat} (h : nw_cl q = 10) : q = 2 ∨ q = 3 ∨ q = 5 ∨ q = 6 ∨ q = 8 ∨ q = 9 ∨ q = 11 ∨ q = 12 ∨ q = 14 ∨ q = 15 ∨ q = 17 ∨ q = 18 ∨ q = 20 ∨ q = 21 ∨ q = 23 ∨ q = 24 ∨ q = 25 ∨ q = 28 ∨ q = 30 ∨ q = 32 ∨ q = 34 ∨ q = 35 ∨ q = 38 ∨ q = 39 ∨ q = 40 ∨ q = 41 ∨ q = 42 ∨ q = 43 ∨ q = 44 ∨ q = 45 ∨ q = 46 ∨ q = 47 ∨ q = 48 ∨ q = 49 ∨ q = 50 ∨ q = 51 ∨ q = 52 ∨ q = 53 ∨ q = 55 ∨ q = 56 ∨ q = 59 ∨ q = 60 ∨ q = 61 ∨ q = 62 := by
  have h1 := nw_cl_lt h (by decide)
  have h2 : ∀ q, q < 69 → nw_cl q = 10 → q ∈ [2, 3, 5, 6, 8, 9, 11, 12, 14, 15, 17, 18, 20, 21, 23, 24, 25, 28, 30, 32, 34, 35, 38, 39, 40, 41, 42, 43, 44, 45, 46, 47, 48, 49, 50, 51, 52, 53, 55, 56, 59, 60, 61, 62] := by decide +kernel
  have h3 := h2 q h1 h
  simpa only [List.mem_cons, List.not_mem_nil, or_false] using h3
theorem nw_q11 {q : Nat} (h : nw_cl q = 11) : q = 36 ∨ q = 57 := by
  have h1 := nw_cl_lt h (by decide)
  have h2 : ∀ q, q < 69 → nw_cl q = 11 → q ∈ [36, 57] := by decide +kernel
  have h3 := h2 q h1 h
  simpa only [List.mem_cons, List.not_mem_nil, or_false] using h3
theorem nw_q12 {q : Nat} (h : nw_cl q = 12) : q = 22 ∨ q = 54 ∨ q = 58 := by
  have h1 := nw_cl_lt h (by decide)
  have h2 : ∀ q, q < 69 → nw_cl q = 12 → q ∈ [22, 54, 58] := by decide +kernel
  have h3 := h2 q h1 h
  simpa only [List.mem_cons, List.not_mem_nil, or_false] using h3
theorem nw_q13 {q : Nat} (h : nw_cl q = 13) : q = 26 := by
  have h1 := nw_cl_lt h (by decide)
  have h2 : ∀ q, q < 69 → nw_cl q = 13 → q ∈ [26] := by decide +kernel
  have h3 := h2 q h1 h
  simpa only [List.mem_cons, List.not_mem_nil, or_false] using h3
theorem nw_q14 {q : Nat} (h : nw_cl q = 14) : q = 63 ∨ q = 64 ∨ q = 65 ∨ q = 66 ∨ q = 67 ∨ q = 68 := by
  have h1 := nw_cl_lt h (by decide)
  have h2 : ∀ q, q < 69 → nw_cl q = 14 → q ∈ [63, 64, 65, 66, 67, 68] := by decide +kernel
  have h3 := h2 q h1 h
  simpa only [List.mem_cons, List.not_mem_nil, or_false] using h3
theorem nw_at0 {ad : Nat → Nat} {ca : Nat → ClassId} {σ : nw_ST} {q : Nat} (h : nw_cl q = 0) : (nw_W ad ca σ)[q]? = some (ad q, .inr (0, nw_fs0 ad σ q)) := by
  rcases nw_q0 h with rfl | rfl | rfl | rfl <;> rfl
theorem nw_at1 {ad : Nat → Nat} {ca : Nat → ClassId} {σ : nw_ST} {q : Nat} (h : nw_cl q = 1) : (nw_W ad ca σ)[q]? = some (ad q, .inr (1, nw_fs1 ad σ q)) := by
  rcases nw_q1 h with rfl | rfl | rfl | rfl <;> rfl
theorem nw_at2 {ad : Nat → Nat} {ca : Nat → ClassId} {σ : nw_ST} {q : Nat} (h : nw_cl q = 2) : (nw_W ad ca σ)[q]? = some (ad q, .inr (2, nw_fs2 ad σ q)) := by
  rcases nw_q2 h with rfl | rfl <;> rfl
theorem nw_at3 {ad : Nat → Nat} {ca : Nat → ClassId} {σ : nw_ST} {q : Nat} (h : nw_cl q = 3) : (nw_W ad ca σ)[q]? = some (ad q, .inr (3, nw_fs3 ad σ q)) := by
  rcases nw_q3 h with rfl <;> rfl
theorem nw_at4 {ad : Nat → Nat} {ca : Nat → ClassId} {σ : nw_ST} {q : Nat} (h : nw_cl q = 4) : (nw_W ad ca σ)[q]? = some (ad q, .inr (4, nw_fs4 ad σ q)) := by
  rcases nw_q4 h with rfl <;> rfl
theorem nw_at5 {ad : Nat → Nat} {ca : Nat → ClassId} {σ : nw_ST} {q : Nat} (h : nw_cl q = 5) : (nw_W ad ca σ)[q]? = some (ad q, .inr (5, nw_fs5 ad σ q)) := by
  rcases nw_q5 h with rfl <;> rfl
theorem nw_atI {ad : Nat → Nat} {ca : Nat → ClassId} {σ : nw_ST} {q : Nat} (h : nw_cl q = 10) : (nw_W ad ca σ)[q]? = some (ad q, .inl (ca 0, nw_len q, .inl (σ.2.1 q))) := by
  rcases nw_q10 h with rfl | rfl | rfl | rfl | rfl | rfl | rfl | rfl | rfl | rfl | rfl | rfl | rfl | rfl | rfl | rfl | rfl | rfl | rfl | rfl | rfl | rfl | rfl | rfl | rfl | rfl | rfl | rfl | rfl | rfl | rfl | rfl | rfl | rfl | rfl | rfl | rfl | rfl | rfl | rfl | rfl | rfl | rfl | rfl <;> rfl
theorem nw_atZ {ad : Nat → Nat} {ca : Nat → ClassId} {σ : nw_ST} {q : Nat} (h : nw_cl q = 12) : (nw_W ad ca σ)[q]? = some (ad q, .inl (ca 2, nw_len q, .inl (σ.2.1 q))) := by
  rcases nw_q12 h with rfl | rfl | rfl <;> rfl
theorem nw_atL {ad : Nat → Nat} {ca : Nat → ClassId} {σ : nw_ST} {q : Nat} (h : nw_cl q = 11) : (nw_W ad ca σ)[q]? = some (ad q, .inl (ca 1, nw_len q, .inr (.inl (σ.2.2 q)))) := by
  rcases nw_q11 h with rfl | rfl <;> rfl
theorem nw_atS {ad : Nat → Nat} {ca : Nat → ClassId} {σ : nw_ST} : (nw_W ad ca σ)[26]? = some (ad 26, .inl (ca 3, 4, .inr (.inr (.inr (.inr (fun i => some (ad (27 + 2 * i)))))))) := rfl
set_option maxHeartbeats 4000000 in
theorem nw_setI {ad : Nat → Nat} {ca : Nat → ClassId} {σ : nw_ST} {q i : Nat} {v : Int32} (h : nw_cl q = 10) : (nw_W ad ca σ).set q (ad q, .inl (ca 0, nw_len q, .inl (upd (σ.2.1 q) i v))) = nw_W ad ca (nw_sA σ q i v) := by
  rcases nw_q10 h with rfl | rfl | rfl | rfl | rfl | rfl | rfl | rfl | rfl | rfl | rfl | rfl | rfl | rfl | rfl | rfl | rfl | rfl | rfl | rfl | rfl | rfl | rfl | rfl | rfl | rfl | rfl | rfl | rfl | rfl | rfl | rfl | rfl | rfl | rfl | rfl | rfl | rfl | rfl | rfl | rfl | rfl | rfl | rfl <;> rfl
set_option maxHeartbeats 4000000 in
theorem nw_setZ {ad : Nat → Nat} {ca : Nat → ClassId} {σ : nw_ST} {q i : Nat} {v : Int32} (h : nw_cl q = 12) : (nw_W ad ca σ).set q (ad q, .inl (ca 2, nw_len q, .inl (upd (σ.2.1 q) i v))) = nw_W ad ca (nw_sA σ q i v) := by
  rcases nw_q12 h with rfl | rfl | rfl <;> rfl
set_option maxHeartbeats 4000000 in
theorem nw_setL {ad : Nat → Nat} {ca : Nat → ClassId} {σ : nw_ST} {q i : Nat} {v : Int64} (h : nw_cl q = 11) : (nw_W ad ca σ).set q (ad q, .inl (ca 1, nw_len q, .inr (.inl (vp_updL (σ.2.2 q) i v)))) = nw_W ad ca (nw_sL σ q i v) := by
  rcases nw_q11 h with rfl | rfl <;> rfl
set_option maxHeartbeats 4000000 in
theorem nw_setC {ad : Nat → Nat} {ca : Nat → ClassId} {σ : nw_ST} {q0 q i j n : Nat} (h : nw_cl q = 10) : (nw_W ad ca σ).set q (ad q, .inl (ca 0, nw_len q, .inl (va_cpy (σ.2.1 q0) (σ.2.1 q) i j n))) = nw_W ad ca (nw_sC σ q0 q i j n) := by
  rcases nw_q10 h with rfl | rfl | rfl | rfl | rfl | rfl | rfl | rfl | rfl | rfl | rfl | rfl | rfl | rfl | rfl | rfl | rfl | rfl | rfl | rfl | rfl | rfl | rfl | rfl | rfl | rfl | rfl | rfl | rfl | rfl | rfl | rfl | rfl | rfl | rfl | rfl | rfl | rfl | rfl | rfl | rfl | rfl | rfl | rfl <;> rfl
theorem nw_wt0_0 {q : Nat} (h : nw_cl q = 0) : nw_cl (nw_rf q 0) = 10 := by
  rcases nw_q0 h with rfl | rfl | rfl | rfl <;> rfl
theorem nw_wt0_1 {q : Nat} (h : nw_cl q = 0) : nw_cl (nw_rf q 1) = 10 := by
  rcases nw_q0 h with rfl | rfl | rfl | rfl <;> rfl
theorem nw_set0_2 {ad : Nat → Nat} {ca : Nat → ClassId} {σ : nw_ST} {q : Nat} {v : Int32} (h : nw_cl q = 0) : (nw_W ad ca σ).set q (ad q, .inr (0, (nw_fs0 ad σ q).set 2 (.int v))) = nw_W ad ca (nw_sS σ q 2 v) := by
  rcases nw_q0 h with rfl | rfl | rfl | rfl <;> rfl
theorem nw_wt1_0 {q : Nat} (h : nw_cl q = 1) : nw_cl (nw_rf q 0) = 10 := by
  rcases nw_q1 h with rfl | rfl | rfl | rfl <;> rfl
theorem nw_set1_1 {ad : Nat → Nat} {ca : Nat → ClassId} {σ : nw_ST} {q : Nat} {v : Int32} (h : nw_cl q = 1) : (nw_W ad ca σ).set q (ad q, .inr (1, (nw_fs1 ad σ q).set 1 (.int v))) = nw_W ad ca (nw_sS σ q 1 v) := by
  rcases nw_q1 h with rfl | rfl | rfl | rfl <;> rfl
theorem nw_set1_2 {ad : Nat → Nat} {ca : Nat → ClassId} {σ : nw_ST} {q : Nat} {v : Int32} (h : nw_cl q = 1) : (nw_W ad ca σ).set q (ad q, .inr (1, (nw_fs1 ad σ q).set 2 (.int v))) = nw_W ad ca (nw_sS σ q 2 v) := by
  rcases nw_q1 h with rfl | rfl | rfl | rfl <;> rfl
theorem nw_set1_3 {ad : Nat → Nat} {ca : Nat → ClassId} {σ : nw_ST} {q : Nat} {v : Int32} (h : nw_cl q = 1) : (nw_W ad ca σ).set q (ad q, .inr (1, (nw_fs1 ad σ q).set 3 (.int v))) = nw_W ad ca (nw_sS σ q 3 v) := by
  rcases nw_q1 h with rfl | rfl | rfl | rfl <;> rfl
theorem nw_wt2_0 {q : Nat} (h : nw_cl q = 2) : nw_cl (nw_rf q 0) = 10 := by
  rcases nw_q2 h with rfl | rfl <;> rfl
theorem nw_wt2_1 {q : Nat} (h : nw_cl q = 2) : nw_cl (nw_rf q 1) = 14 := by
  rcases nw_q2 h with rfl | rfl <;> rfl
theorem nw_wt2_2 {q : Nat} (h : nw_cl q = 2) : nw_cl (nw_rf q 2) = 14 := by
  rcases nw_q2 h with rfl | rfl <;> rfl
theorem nw_wt2_3 {q : Nat} (h : nw_cl q = 2) : nw_cl (nw_rf q 3) = 10 := by
  rcases nw_q2 h with rfl | rfl <;> rfl
theorem nw_set2_4 {ad : Nat → Nat} {ca : Nat → ClassId} {σ : nw_ST} {q : Nat} {v : Int32} (h : nw_cl q = 2) : (nw_W ad ca σ).set q (ad q, .inr (2, (nw_fs2 ad σ q).set 4 (.int v))) = nw_W ad ca (nw_sS σ q 4 v) := by
  rcases nw_q2 h with rfl | rfl <;> rfl
theorem nw_set2_5 {ad : Nat → Nat} {ca : Nat → ClassId} {σ : nw_ST} {q : Nat} {v : Int32} (h : nw_cl q = 2) : (nw_W ad ca σ).set q (ad q, .inr (2, (nw_fs2 ad σ q).set 5 (.int v))) = nw_W ad ca (nw_sS σ q 5 v) := by
  rcases nw_q2 h with rfl | rfl <;> rfl
theorem nw_set2_6 {ad : Nat → Nat} {ca : Nat → ClassId} {σ : nw_ST} {q : Nat} {v : Int32} (h : nw_cl q = 2) : (nw_W ad ca σ).set q (ad q, .inr (2, (nw_fs2 ad σ q).set 6 (.int v))) = nw_W ad ca (nw_sS σ q 6 v) := by
  rcases nw_q2 h with rfl | rfl <;> rfl
theorem nw_wt3_0 {q : Nat} (h : nw_cl q = 3) : nw_cl (nw_rf q 0) = 10 := by
  rcases nw_q3 h with rfl <;> rfl
theorem nw_wt3_1 {q : Nat} (h : nw_cl q = 3) : nw_cl (nw_rf q 1) = 10 := by
  rcases nw_q3 h with rfl <;> rfl
theorem nw_wt3_2 {q : Nat} (h : nw_cl q = 3) : nw_cl (nw_rf q 2) = 12 := by
  rcases nw_q3 h with rfl <;> rfl
theorem nw_wt3_3 {q : Nat} (h : nw_cl q = 3) : nw_cl (nw_rf q 3) = 10 := by
  rcases nw_q3 h with rfl <;> rfl
theorem nw_wt3_4 {q : Nat} (h : nw_cl q = 3) : nw_cl (nw_rf q 4) = 10 := by
  rcases nw_q3 h with rfl <;> rfl
theorem nw_wt3_5 {q : Nat} (h : nw_cl q = 3) : nw_cl (nw_rf q 5) = 10 := by
  rcases nw_q3 h with rfl <;> rfl
theorem nw_set3_6 {ad : Nat → Nat} {ca : Nat → ClassId} {σ : nw_ST} {q : Nat} {v : Int32} (h : nw_cl q = 3) : (nw_W ad ca σ).set q (ad q, .inr (3, (nw_fs3 ad σ q).set 6 (.int v))) = nw_W ad ca (nw_sS σ q 6 v) := by
  rcases nw_q3 h with rfl <;> rfl
theorem nw_wt4_0 {q : Nat} (h : nw_cl q = 4) : nw_cl (nw_rf q 0) = 2 := by
  rcases nw_q4 h with rfl <;> rfl
theorem nw_wt4_1 {q : Nat} (h : nw_cl q = 4) : nw_cl (nw_rf q 1) = 2 := by
  rcases nw_q4 h with rfl <;> rfl
theorem nw_wt4_2 {q : Nat} (h : nw_cl q = 4) : nw_cl (nw_rf q 2) = 0 := by
  rcases nw_q4 h with rfl <;> rfl
theorem nw_wt4_3 {q : Nat} (h : nw_cl q = 4) : nw_cl (nw_rf q 3) = 0 := by
  rcases nw_q4 h with rfl <;> rfl
theorem nw_wt4_4 {q : Nat} (h : nw_cl q = 4) : nw_cl (nw_rf q 4) = 0 := by
  rcases nw_q4 h with rfl <;> rfl
theorem nw_wt4_5 {q : Nat} (h : nw_cl q = 4) : nw_cl (nw_rf q 5) = 0 := by
  rcases nw_q4 h with rfl <;> rfl
theorem nw_wt4_6 {q : Nat} (h : nw_cl q = 4) : nw_cl (nw_rf q 6) = 3 := by
  rcases nw_q4 h with rfl <;> rfl
theorem nw_wt4_7 {q : Nat} (h : nw_cl q = 4) : nw_cl (nw_rf q 7) = 13 := by
  rcases nw_q4 h with rfl <;> rfl
theorem nw_wt4_8 {q : Nat} (h : nw_cl q = 4) : nw_cl (nw_rf q 8) = 10 := by
  rcases nw_q4 h with rfl <;> rfl
theorem nw_wt4_9 {q : Nat} (h : nw_cl q = 4) : nw_cl (nw_rf q 9) = 11 := by
  rcases nw_q4 h with rfl <;> rfl
theorem nw_set4_10 {ad : Nat → Nat} {ca : Nat → ClassId} {σ : nw_ST} {q : Nat} {v : Int32} (h : nw_cl q = 4) : (nw_W ad ca σ).set q (ad q, .inr (4, (nw_fs4 ad σ q).set 10 (.int v))) = nw_W ad ca (nw_sS σ q 10 v) := by
  rcases nw_q4 h with rfl <;> rfl
theorem nw_set4_11 {ad : Nat → Nat} {ca : Nat → ClassId} {σ : nw_ST} {q : Nat} {v : Int32} (h : nw_cl q = 4) : (nw_W ad ca σ).set q (ad q, .inr (4, (nw_fs4 ad σ q).set 11 (.int v))) = nw_W ad ca (nw_sS σ q 11 v) := by
  rcases nw_q4 h with rfl <;> rfl
theorem nw_set4_12 {ad : Nat → Nat} {ca : Nat → ClassId} {σ : nw_ST} {q : Nat} {v : Int32} (h : nw_cl q = 4) : (nw_W ad ca σ).set q (ad q, .inr (4, (nw_fs4 ad σ q).set 12 (.int v))) = nw_W ad ca (nw_sS σ q 12 v) := by
  rcases nw_q4 h with rfl <;> rfl
theorem nw_wt5_0 {q : Nat} (h : nw_cl q = 5) : nw_cl (nw_rf q 0) = 10 := by
  rcases nw_q5 h with rfl <;> rfl
theorem nw_wt5_1 {q : Nat} (h : nw_cl q = 5) : nw_cl (nw_rf q 1) = 10 := by
  rcases nw_q5 h with rfl <;> rfl
theorem nw_set5_2 {ad : Nat → Nat} {ca : Nat → ClassId} {σ : nw_ST} {q : Nat} {v : Int32} (h : nw_cl q = 5) : (nw_W ad ca σ).set q (ad q, .inr (5, (nw_fs5 ad σ q).set 2 (.int v))) = nw_W ad ca (nw_sS σ q 2 v) := by
  rcases nw_q5 h with rfl <;> rfl
theorem nw_wt5_3 {q : Nat} (h : nw_cl q = 5) : nw_cl (nw_rf q 3) = 10 := by
  rcases nw_q5 h with rfl <;> rfl
theorem nw_wt5_4 {q : Nat} (h : nw_cl q = 5) : nw_cl (nw_rf q 4) = 10 := by
  rcases nw_q5 h with rfl <;> rfl
theorem nw_wt5_5 {q : Nat} (h : nw_cl q = 5) : nw_cl (nw_rf q 5) = 10 := by
  rcases nw_q5 h with rfl <;> rfl
theorem nw_set5_6 {ad : Nat → Nat} {ca : Nat → ClassId} {σ : nw_ST} {q : Nat} {v : Int32} (h : nw_cl q = 5) : (nw_W ad ca σ).set q (ad q, .inr (5, (nw_fs5 ad σ q).set 6 (.int v))) = nw_W ad ca (nw_sS σ q 6 v) := by
  rcases nw_q5 h with rfl <;> rfl
theorem nw_wt5_7 {q : Nat} (h : nw_cl q = 5) : nw_cl (nw_rf q 7) = 10 := by
  rcases nw_q5 h with rfl <;> rfl
theorem nw_wt5_8 {q : Nat} (h : nw_cl q = 5) : nw_cl (nw_rf q 8) = 10 := by
  rcases nw_q5 h with rfl <;> rfl
theorem nw_wt5_9 {q : Nat} (h : nw_cl q = 5) : nw_cl (nw_rf q 9) = 10 := by
  rcases nw_q5 h with rfl <;> rfl
theorem nw_set5_10 {ad : Nat → Nat} {ca : Nat → ClassId} {σ : nw_ST} {q : Nat} {v : Int32} (h : nw_cl q = 5) : (nw_W ad ca σ).set q (ad q, .inr (5, (nw_fs5 ad σ q).set 10 (.int v))) = nw_W ad ca (nw_sS σ q 10 v) := by
  rcases nw_q5 h with rfl <;> rfl
theorem nw_set5_11 {ad : Nat → Nat} {ca : Nat → ClassId} {σ : nw_ST} {q : Nat} {v : Int32} (h : nw_cl q = 5) : (nw_W ad ca σ).set q (ad q, .inr (5, (nw_fs5 ad σ q).set 11 (.int v))) = nw_W ad ca (nw_sS σ q 11 v) := by
  rcases nw_q5 h with rfl <;> rfl
theorem nw_wt5_12 {q : Nat} (h : nw_cl q = 5) : nw_cl (nw_rf q 12) = 10 := by
  rcases nw_q5 h with rfl <;> rfl
theorem nw_wt5_13 {q : Nat} (h : nw_cl q = 5) : nw_cl (nw_rf q 13) = 10 := by
  rcases nw_q5 h with rfl <;> rfl
theorem nw_set5_14 {ad : Nat → Nat} {ca : Nat → ClassId} {σ : nw_ST} {q : Nat} {v : Int32} (h : nw_cl q = 5) : (nw_W ad ca σ).set q (ad q, .inr (5, (nw_fs5 ad σ q).set 14 (.int v))) = nw_W ad ca (nw_sS σ q 14 v) := by
  rcases nw_q5 h with rfl <;> rfl
theorem nw_wt5_15 {q : Nat} (h : nw_cl q = 5) : nw_cl (nw_rf q 15) = 10 := by
  rcases nw_q5 h with rfl <;> rfl
theorem nw_set5_16 {ad : Nat → Nat} {ca : Nat → ClassId} {σ : nw_ST} {q : Nat} {v : Int32} (h : nw_cl q = 5) : (nw_W ad ca σ).set q (ad q, .inr (5, (nw_fs5 ad σ q).set 16 (.int v))) = nw_W ad ca (nw_sS σ q 16 v) := by
  rcases nw_q5 h with rfl <;> rfl
theorem nw_wt5_17 {q : Nat} (h : nw_cl q = 5) : nw_cl (nw_rf q 17) = 10 := by
  rcases nw_q5 h with rfl <;> rfl
theorem nw_wt5_18 {q : Nat} (h : nw_cl q = 5) : nw_cl (nw_rf q 18) = 10 := by
  rcases nw_q5 h with rfl <;> rfl
theorem nw_wt5_19 {q : Nat} (h : nw_cl q = 5) : nw_cl (nw_rf q 19) = 10 := by
  rcases nw_q5 h with rfl <;> rfl
theorem nw_wt5_20 {q : Nat} (h : nw_cl q = 5) : nw_cl (nw_rf q 20) = 10 := by
  rcases nw_q5 h with rfl <;> rfl
theorem nw_wt5_21 {q : Nat} (h : nw_cl q = 5) : nw_cl (nw_rf q 21) = 10 := by
  rcases nw_q5 h with rfl <;> rfl
theorem nw_set5_22 {ad : Nat → Nat} {ca : Nat → ClassId} {σ : nw_ST} {q : Nat} {v : Int32} (h : nw_cl q = 5) : (nw_W ad ca σ).set q (ad q, .inr (5, (nw_fs5 ad σ q).set 22 (.int v))) = nw_W ad ca (nw_sS σ q 22 v) := by
  rcases nw_q5 h with rfl <;> rfl
theorem nw_set5_23 {ad : Nat → Nat} {ca : Nat → ClassId} {σ : nw_ST} {q : Nat} {v : Int32} (h : nw_cl q = 5) : (nw_W ad ca σ).set q (ad q, .inr (5, (nw_fs5 ad σ q).set 23 (.int v))) = nw_W ad ca (nw_sS σ q 23 v) := by
  rcases nw_q5 h with rfl <;> rfl
theorem nw_set5_24 {ad : Nat → Nat} {ca : Nat → ClassId} {σ : nw_ST} {q : Nat} {v : Int32} (h : nw_cl q = 5) : (nw_W ad ca σ).set q (ad q, .inr (5, (nw_fs5 ad σ q).set 24 (.int v))) = nw_W ad ca (nw_sS σ q 24 v) := by
  rcases nw_q5 h with rfl <;> rfl
theorem nw_set5_25 {ad : Nat → Nat} {ca : Nat → ClassId} {σ : nw_ST} {q : Nat} {v : Int32} (h : nw_cl q = 5) : (nw_W ad ca σ).set q (ad q, .inr (5, (nw_fs5 ad σ q).set 25 (.int v))) = nw_W ad ca (nw_sS σ q 25 v) := by
  rcases nw_q5 h with rfl <;> rfl
theorem nw_set5_26 {ad : Nat → Nat} {ca : Nat → ClassId} {σ : nw_ST} {q : Nat} {v : Int32} (h : nw_cl q = 5) : (nw_W ad ca σ).set q (ad q, .inr (5, (nw_fs5 ad σ q).set 26 (.int v))) = nw_W ad ca (nw_sS σ q 26 v) := by
  rcases nw_q5 h with rfl <;> rfl
theorem nw_wt5_27 {q : Nat} (h : nw_cl q = 5) : nw_cl (nw_rf q 27) = 12 := by
  rcases nw_q5 h with rfl <;> rfl
theorem nw_set5_28 {ad : Nat → Nat} {ca : Nat → ClassId} {σ : nw_ST} {q : Nat} {v : Int32} (h : nw_cl q = 5) : (nw_W ad ca σ).set q (ad q, .inr (5, (nw_fs5 ad σ q).set 28 (.int v))) = nw_W ad ca (nw_sS σ q 28 v) := by
  rcases nw_q5 h with rfl <;> rfl
theorem nw_wt5_29 {q : Nat} (h : nw_cl q = 5) : nw_cl (nw_rf q 29) = 10 := by
  rcases nw_q5 h with rfl <;> rfl
theorem nw_wt5_30 {q : Nat} (h : nw_cl q = 5) : nw_cl (nw_rf q 30) = 10 := by
  rcases nw_q5 h with rfl <;> rfl
theorem nw_wt5_31 {q : Nat} (h : nw_cl q = 5) : nw_cl (nw_rf q 31) = 11 := by
  rcases nw_q5 h with rfl <;> rfl
theorem nw_wt5_32 {q : Nat} (h : nw_cl q = 5) : nw_cl (nw_rf q 32) = 12 := by
  rcases nw_q5 h with rfl <;> rfl
theorem nw_wt5_33 {q : Nat} (h : nw_cl q = 5) : nw_cl (nw_rf q 33) = 10 := by
  rcases nw_q5 h with rfl <;> rfl
theorem nw_wt5_34 {q : Nat} (h : nw_cl q = 5) : nw_cl (nw_rf q 34) = 10 := by
  rcases nw_q5 h with rfl <;> rfl
theorem nw_wt5_35 {q : Nat} (h : nw_cl q = 5) : nw_cl (nw_rf q 35) = 10 := by
  rcases nw_q5 h with rfl <;> rfl
theorem nw_wt5_36 {q : Nat} (h : nw_cl q = 5) : nw_cl (nw_rf q 36) = 10 := by
  rcases nw_q5 h with rfl <;> rfl
theorem nw_set5_37 {ad : Nat → Nat} {ca : Nat → ClassId} {σ : nw_ST} {q : Nat} {v : Int32} (h : nw_cl q = 5) : (nw_W ad ca σ).set q (ad q, .inr (5, (nw_fs5 ad σ q).set 37 (.int v))) = nw_W ad ca (nw_sS σ q 37 v) := by
  rcases nw_q5 h with rfl <;> rfl
theorem nw_wtS {i : Nat} (h : i < 4) : nw_cl (27 + 2 * i) = 1 := by
  have h2 : ∀ i, i < 4 → nw_cl (27 + 2 * i) = 1 := by decide +kernel
  exact h2 i h
end
section
def nw_T : List Cond := lw_tbl.filter goodWord
theorem nw_T_in {w : Cond} (h : w ∈ nw_T) : w ∈ lw_tbl := (List.mem_filter.mp h).1
theorem nw_T_good {w : Cond} (h : w ∈ nw_T) : (w.onTables && w.keeps) = true ∨ ∃ ty, w = .arrayClass ty := good_of_word (List.mem_filter.mp h).2
theorem nw_T_of {w : Cond} (h : w ∈ lw_tbl) (hg : goodWord w = true) : w ∈ nw_T := List.mem_filter.mpr ⟨h, hg⟩
def nw_nF : List (String × Nat × String × String × String × String) := [("NumberedWaves", 96, "NumberedWaves$Text", "length", "I", "NumberedWaves"), ("NumberedWaves", 102, "NumberedWaves$Text", "flaw", "I", "NumberedWaves"), ("NumberedWaves$Waves", 61, "NumberedWaves$Text", "entries", "I", "NumberedWaves"), ("NumberedWaves", 178, "NumberedWaves$Text", "entries", "I", "NumberedWaves"), ("NumberedWaves$Waves", 58, "NumberedWaves$Pairs", "first", "[I", "NumberedWaves"), ("NumberedWaves", 377, "NumberedWaves$Pairs", "first", "[I", "NumberedWaves"), ("NumberedWaves$Waves", 74, "NumberedWaves$Pairs", "second", "[I", "NumberedWaves"), ("NumberedWaves", 172, "NumberedWaves$Pairs", "second", "[I", "NumberedWaves"), ("NumberedWaves$Waves", 53, "NumberedWaves$Pairs", "size", "I", "NumberedWaves"), ("NumberedWaves", 127, "NumberedWaves$Pairs", "size", "I", "NumberedWaves"), ("NumberedWaves", 144, "NumberedWaves$Waves", "heights", "[I", "NumberedWaves"), ("NumberedWaves", 386, "NumberedWaves$Waves", "voided", "[Z", "NumberedWaves"), ("NumberedWaves", 162, "NumberedWaves$Waves", "turns", "[I", "NumberedWaves"), ("NumberedWaves", 380, "NumberedWaves$Waves", "numbers", "[I", "NumberedWaves"), ("NumberedWaves", 159, "NumberedWaves$Waves", "times", "[I", "NumberedWaves"), ("NumberedWaves", 236, "NumberedWaves$Waves", "calls", "I", "NumberedWaves"), ("NumberedWaves", 135, "NumberedWaves$Sheet", "items", "[I", "NumberedWaves"), ("NumberedWaves", 270, "NumberedWaves$Sheet", "form", "I", "NumberedWaves"), ("NumberedWaves", 134, "NumberedWaves$Sheet", "size", "I", "NumberedWaves"), ("NumberedWaves", 259, "NumberedWaves$Sheet", "lost", "Z", "NumberedWaves")]
def nw_nM : List (String × Nat × MethodName × String) := [("NumberedWaves", 54, ⟨"NumberedWaves$Waves", "<init>", "()V"⟩, "NumberedWaves"), ("NumberedWaves", 65, ⟨"NumberedWaves$Sheet", "<init>", "()V"⟩, "NumberedWaves"), ("NumberedWaves$Waves", 70, ⟨"NumberedWaves", "isCrest", "(III)Z"⟩, "NumberedWaves"), ("NumberedWaves$Waves", 35, ⟨"NumberedWaves", "breaksAt", "(II)Z"⟩, "NumberedWaves")]
def nw_sn (k : Nat) : String := (["SWELL_PARTS", "SWELL_LEAST", "FIND_PARTS", "FIND_LEAST", "DIGEST_TIMES", "DIGEST_NUMBERS"] : List String).getD k ""
abbrev nw_PT : Type := va_G × (Nat → Nat) × (Nat → ClassId) × Nat
def nw_A (P : nw_PT) : Nat → Prop := fun q => P.2.2.2 ≤ q
abbrev nw_tys (P : nw_PT) : List (ClassId × FieldType) := [(P.2.2.1 0, .int), (P.2.2.1 1, .long), (P.2.2.1 2, .boolean), (P.2.2.1 3, .object "NumberedWaves$Sheet")]
def nw_B (P : nw_PT) (U : State) (H : Heap) : Prop := va_K P.1 vwCl (nw_tys P) U ∧ (∀ q ∈ nw_nF, va_Nw (.fieldLinkNest q.1 q.2.1 q.2.2.1 q.2.2.2.1 q.2.2.2.2.1 q.2.2.2.2.2) U) ∧ (∀ q ∈ nw_nM, va_Nw (.methodLinkNest q.1 q.2.1 q.2.2.1 q.2.2.2) U) ∧
  ∀ k, k < 6 → va_Z RX4 (nw_sn k) "[I" (.ref (P.2.1 (63 + k))) (nw_A P) U H ∧ va_T .int (P.2.1 (63 + k)) (nw_len (63 + k)) (fun j => .int (nw_cst (63 + k) j)) (nw_A P) U H
theorem nw_B.go {P : nw_PT} {s U : State} {H : Heap} {locs : List Loc} (h : nw_B P s s.heap) (hW : s.WarmedH U.vm) (hS : va_S (nw_A P) s.heap H locs) : nw_B P U H :=
  ⟨va_K.moved hW.alike h.1, fun q hq => va_Nw.warmF hW (h.2.1 q hq), fun q hq => va_Nw.warmM hW (h.2.2.1 q hq), fun k hk => ⟨((h.2.2.2 k hk).1.kept (fun a h1 h2 => hS.2.1 a h1 h2)).moved hW.alike, ((h.2.2.2 k hk).2.kept (fun a h1 h2 => hS.2.1 a h1 h2)).moved hW.alike⟩⟩
def nw_Wd (P : nw_PT) (σ : nw_ST) (t : State) : Prop := va_P P.1 vwCl (nw_W P.2.1 P.2.2.1 σ) t.heap ∧ nw_B P t t.heap
theorem nw_Wd.call {P : nw_PT} {σ : nw_ST} {U : State} (g : JFrame) (mk : MethodId) (a : Array Value) (h : nw_Wd P σ U) : nw_Wd P σ (U.calling g mk a) :=
  ⟨h.1, va_K.moved (u := U) (U := U.calling g mk a) (Vm.Alike.refl U.vm) h.2.1, fun q hq => va_Nw.same rfl (rfl : U.vm = (U.calling g mk a).vm) (h.2.2.1 q hq), fun q hq => va_Nw.same rfl (rfl : U.vm = (U.calling g mk a).vm) (h.2.2.2.1 q hq), fun k hk => ⟨(h.2.2.2.2 k hk).1.moved (u := U) (U := U.calling g mk a) (Vm.Alike.refl U.vm), (h.2.2.2.2 k hk).2.moved (u := U) (U := U.calling g mk a) (Vm.Alike.refl U.vm)⟩⟩
def nw_D (P : nw_PT) : Prop := ∀ σ, va_D (nw_A P) (nw_W P.2.1 P.2.2.1 σ)
/-- a method's end: its answer and the state behind it -/
def nw_Qc (P : nw_PT) (Kv : Option Value → nw_ST → Prop) : Array Value → State → Outcome → State → Prop := fun _ st oc t => (∃ (v : Option Value) (σ : nw_ST), oc = .returned v ∧ Kv v σ ∧ nw_Wd P σ t) ∧ va_F (nw_A P) st t
def nw_MT (l : Launch) (y : MethodName) (cc : ByteArray) (maxL : Nat) (ret : Option FieldType) (rm : Room) (P : nw_PT) (As : List Value) (σ : nw_ST) (Kv : Option Value → nw_ST → Prop) : Prop :=
  Met l y (Cond.code y cc maxL ret :: nw_T) rm (va_Pc As (fun U => nw_Wd P σ U)) (nw_Qc P Kv) 0 0 (nw_A P)
def nw_Ki (K : Int32 → nw_ST → Prop) : Option Value → nw_ST → Prop := fun v σ => ∃ r : Int32, v = some (.int r) ∧ K r σ
def nw_Kl (K : Int64 → nw_ST → Prop) : Option Value → nw_ST → Prop := fun v σ => ∃ r : Int64, v = some (.long r) ∧ K r σ
def nw_Kv (K : nw_ST → Prop) : Option Value → nw_ST → Prop := fun v σ => v = none ∧ K σ
def nw_Kr (P : nw_PT) (c : Nat) (K : Nat → nw_ST → Prop) : Option Value → nw_ST → Prop := fun v σ => ∃ q : Nat, v = some (.ref (P.2.1 q)) ∧ nw_cl q = c ∧ K q σ
/-- a walk's surroundings: program, launch, env, room, start, method, arguments, frames below, method, code, end -/
abbrev nw_EX : Type := Program × Launch × Env × Room × State × MethodId × Array Value × List Frame × Method × Code × (State → Prop)
def nw_Wx (X : nw_EX) (H : Heap) (locs : List Loc) (g : JFrame) : Prop := W X.1 X.2.1 X.2.2.1 X.2.2.2.1 X.2.2.2.2.1 X.2.2.2.2.2.1 X.2.2.2.2.2.2.1 X.2.2.2.2.2.2.2.1 X.2.2.2.2.2.2.2.2.1 X.2.2.2.2.2.2.2.2.2.1 H locs 0 0 X.2.2.2.2.2.2.2.2.2.2 g
def nw_G (P : nw_PT) (X : nw_EX) (nL : Nat) (σ : nw_ST) (lv : List (Nat × Value)) (pc : Nat) (st : List Value) : Prop :=
  ∀ (H : Heap) (locs : List Loc) (ls : Array Slot), va_P P.1 vwCl (nw_W P.2.1 P.2.2.1 σ) H → va_S (nw_A P) X.2.2.2.2.1.heap H locs → lv_has ls nL lv → nw_Wx X H locs (F0 X.2.2.2.2.2.1 pc ls st)
def nw_ok (P : nw_PT) (X : nw_EX) (cc : ByteArray) (own : String) (nL : Nat) : Prop :=
  CallFix X.1 X.2.2.2.2.2.1 X.2.2.2.2.2.2.2.2.2.1 cc nL X.2.2.2.2.1 X.2.2.2.2.2.2.1 nw_T own ∧ nw_B P X.2.2.2.2.1 X.2.2.2.2.1.heap ∧ nw_D P
def nw_end (P : nw_PT) (X : nw_EX) (rt : Option FieldType) (Kv : Option Value → nw_ST → Prop) : Prop :=
  X.2.2.2.2.2.2.2.2.2.2 = MQ X.2.2.2.2.2.2.2.1 (nw_Qc P Kv) X.2.2.2.2.2.2.1 X.2.2.2.2.1 0 0 (nw_A P) ∧ X.2.2.2.2.2.2.2.2.1.sig.returnType = rt ∧ X.2.2.2.2.2.2.2.2.1.locks = false
theorem nw_enter {l : Launch} {y : MethodName} {cc : ByteArray} {nL : Nat} {ret : Option FieldType} {rm : Room} {P : nw_PT} {As : List Value} {σ : nw_ST} {Kv : Option Value → nw_ST → Prop} (hy : plainName y.cls = true) (hlen : (lg_sl As).length ≤ nL) (hD : nw_D P)
    (body : ∀ X : nw_EX, X.2.1 = l → nw_ok P X cc y.cls nL → nw_end P X ret Kv → X.2.2.2.1 = rm → nw_G P X nL σ (lv_args 0 As) 0 []) : nw_MT l y cc nL ret rm P As σ Kv := by
  refine Met.ofW (cc := cc) (maxL := nL) (ret := ret) hy rfl ?_
  intro p e s m args below meth c s₁ B hml hv
  obtain ⟨rfl, hP, hB⟩ := hv
  have hts := atoms_spec (ws := Cond.code y cc nL ret :: nw_T) B.pre
  have hl := lv_entry As (n := nL) hlen
  rw [lg_entry_eq]
  exact body (p, l, e, rm, s, m, As.toArray, below, meth, c, MQ below (nw_Qc P Kv) As.toArray s 0 0 (nw_A P)) rfl ⟨⟨B.exec, B.bytes, hml, findClass_of_methodNamed B.named, fun w hw => hts w (List.mem_cons_of_mem _ hw)⟩, hB, hD⟩ ⟨rfl, B.returns, B.notSynchronized⟩ rfl s.heap [] _ hP va_S.rf hl
section NWA
variable {p : Program} {l : Launch} {e : Env} {R : Room} {s : State} {m : MethodId} {args : Array Value} {below : List Frame} {meth : Method} {c : Code} {H : Heap} {locs : List Loc} {Q : State → Prop}
theorem nw_after {P : nw_PT} {pc : Nat} {ls : Array Slot} {rest st0 : List Value} {a : Array Value} {Kv : Option Value → nw_ST → Prop} (hr : va_Run p l e R s m args below meth c H locs 0 0 0 0 (F0 m pc ls st0) rest (nw_Qc P Kv a) (nw_A P)) (hS : va_S (nw_A P) s.heap H locs)
    (k : ∀ (v : Option Value) (σ : nw_ST) (H1 : Heap) (locs1 : List Loc), Kv v σ → va_P P.1 vwCl (nw_W P.2.1 P.2.2.1 σ) H1 → va_S (nw_A P) s.heap H1 locs1 → W p l e R s m args below meth c H1 locs1 0 0 Q (F0 m (pc + 3) ls (v.toList ++ rest))) : W p l e R s m args below meth c H locs 0 0 Q (F0 m pc ls st0) := by
  intro T hT XX
  obtain ⟨v, st₀, t, T', L, h0, X', hL, e1, e2, ⟨⟨v', σ', hv, hK, hWd⟩, hz, hk⟩, st⟩ := hr T hT XX
  cases hv
  rw [h0] at hz hk
  obtain ⟨t2, a1, b1⟩ := k v σ' T'.heap (locs ++ L) hK (by rw [e1]; exact hWd.1)
    ⟨Nat.le_trans hS.1 (by rw [e1]; exact hz), fun q h1 h2 => by rw [e1, hk q (Nat.lt_of_lt_of_le h1 hS.1) h2]; exact hS.2.1 q h1 h2, fun q hq => by
      rcases List.mem_append.mp hq with h | h
      · exact hS.2.2 q h
      · exact hL q h⟩ T' rfl X'
  exact ⟨t2, st t2 a1, b1⟩
end NWA
theorem nw_goodV {own C : String} {index : Nat} {y : MethodName} {cw : Cond} (h1 : Cond.methodLink own index y ∈ nw_T) (h2 : Cond.instanceMethod y ∈ nw_T) (h3 : Cond.selects C y y ∈ nw_T) (h4 : Cond.initialized C ∈ nw_T) (h5 : cw ∈ nw_T) : GoodIn nw_T (wsV own index C y (cw :: nw_T)) := by
  intro w hw
  have hm : w ∈ nw_T := by
    simp only [wsV, List.mem_append, List.mem_cons, List.not_mem_nil, or_false] at hw
    rcases hw with (rfl | rfl | rfl | rfl) | rfl | h <;> assumption
  exact ⟨hm, nw_T_good hm⟩
theorem nw_goodS {own : String} {index : Nat} {y : MethodName} {cw : Cond} (h1 : Cond.methodLink own index y ∈ nw_T) (h2 : Cond.static y ∈ nw_T) (h4 : Cond.initialized y.cls ∈ nw_T) (h5 : cw ∈ nw_T) : GoodIn nw_T (va_wsS own index y (cw :: nw_T)) := by
  intro w hw
  have hm : w ∈ nw_T := by
    simp only [va_wsS, List.mem_append, List.mem_cons, List.not_mem_nil, or_false] at hw
    rcases hw with (rfl | rfl | rfl) | rfl | h <;> assumption
  exact ⟨hm, nw_T_good hm⟩
theorem nw_goodN {cw : Cond} (h5 : cw ∈ nw_T) : GoodIn nw_T (cw :: nw_T) := by
  intro w hw
  have hm : w ∈ nw_T := by
    rcases List.mem_cons.mp hw with rfl | h <;> assumption
  exact ⟨hm, nw_T_good hm⟩
theorem nw_atO {P : nw_PT} {σ : nw_ST} {q ci : Nat} (h : nw_cl q = ci) (hc : ci < 6) : ∃ fs, (nw_W P.2.1 P.2.2.1 σ)[q]? = some (P.2.1 q, .inr (ci, fs)) := by
  match ci, h, hc with
  | 0, h, _ => exact ⟨_, nw_at0 h⟩
  | 1, h, _ => exact ⟨_, nw_at1 h⟩
  | 2, h, _ => exact ⟨_, nw_at2 h⟩
  | 3, h, _ => exact ⟨_, nw_at3 h⟩
  | 4, h, _ => exact ⟨_, nw_at4 h⟩
  | 5, h, _ => exact ⟨_, nw_at5 h⟩
  | n + 6, _, hc => exact absurd hc (by omega)
section NWR
variable {P : nw_PT} {X : nw_EX} {cc : ByteArray} {own : String} {nL : Nat} {σ : nw_ST} {lv lv' : List (Nat × Value)} {pc : Nat} {st : List Value} {x y v : Int32} {xl yl vl : Int64}

theorem nw_iconst (h : nw_ok P X cc own nL) {n : Int} (hd : decode cc pc = .ok (.iconst n, 1)) (hv : Int32.ofInt n = v) (k : nw_G P X nL σ lv (pc + 1) (.int v :: st)) : nw_G P X nL σ lv pc st :=
  fun H locs ls h1 h2 h3 => lv_iconst h.1.1 h.1.2.1 hd hv (k H locs ls h1 h2 h3)
theorem nw_bipush (h : nw_ok P X cc own nL) {n : Int} (hd : decode cc pc = .ok (.bipush n, 2)) (hv : (Int8.ofInt n).toInt32 = v) (k : nw_G P X nL σ lv (pc + 2) (.int v :: st)) : nw_G P X nL σ lv pc st :=
  fun H locs ls h1 h2 h3 => lv_bipush h.1.1 h.1.2.1 hd hv (k H locs ls h1 h2 h3)
theorem nw_sipush (h : nw_ok P X cc own nL) {n : Int} (hd : decode cc pc = .ok (.sipush n, 3)) (hv : (Int16.ofInt n).toInt32 = v) (k : nw_G P X nL σ lv (pc + 3) (.int v :: st)) : nw_G P X nL σ lv pc st :=
  fun H locs ls h1 h2 h3 => lv_sipush h.1.1 h.1.2.1 hd hv (k H locs ls h1 h2 h3)
theorem nw_lconst (h : nw_ok P X cc own nL) {n : Fin 2} (hd : decode cc pc = .ok (.lconst n, 1)) (hv : Int64.ofNat (n : Nat) = vl) (k : nw_G P X nL σ lv (pc + 1) (.long vl :: st)) : nw_G P X nL σ lv pc st :=
  fun H locs ls h1 h2 h3 => lv_lconst h.1.1 h.1.2.1 hd hv (k H locs ls h1 h2 h3)
theorem nw_ldc (h : nw_ok P X cc own nL) {index : Nat} (hw : Cond.constant own index v ∈ nw_T) (hd : decode cc pc = .ok (.ldc index, 2)) (k : nw_G P X nL σ lv (pc + 2) (.int v :: st)) : nw_G P X nL σ lv pc st :=
  fun H locs ls h1 h2 h3 => lv_ldc h.1.1 h.1.2.1 h.1.2.2.2.1 (h.1.2.2.2.2 _ hw) hd (k H locs ls h1 h2 h3)
theorem nw_ldcw (h : nw_ok P X cc own nL) {index : Nat} (hw : Cond.constant own index v ∈ nw_T) (hd : decode cc pc = .ok (.ldc_w index, 3)) (k : nw_G P X nL σ lv (pc + 3) (.int v :: st)) : nw_G P X nL σ lv pc st :=
  fun H locs ls h1 h2 h3 => lv_ldcw h.1.1 h.1.2.1 h.1.2.2.2.1 (h.1.2.2.2.2 _ hw) hd (k H locs ls h1 h2 h3)
theorem nw_ldc2 (h : nw_ok P X cc own nL) {index : Nat} (hw : Cond.constantLong own index vl ∈ nw_T) (hd : decode cc pc = .ok (.ldc2_w index, 3)) (k : nw_G P X nL σ lv (pc + 3) (.long vl :: st)) : nw_G P X nL σ lv pc st :=
  fun H locs ls h1 h2 h3 => lv_ldc2 h.1.1 h.1.2.1 h.1.2.2.2.1 (h.1.2.2.2.2 _ hw) hd (k H locs ls h1 h2 h3)
theorem nw_iload_n (h : nw_ok P X cc own nL) {n : Fin 4} {i : Nat} (hd : decode cc pc = .ok (.iload_n n, 1)) (hi : (n : Nat) = i) (j : Nat) (hl : lv[j]? = some (i, .int x)) (k : nw_G P X nL σ lv (pc + 1) (.int x :: st)) : nw_G P X nL σ lv pc st :=
  fun H locs ls h1 h2 h3 => lv_iload_n h.1.1 h.1.2.1 hd hi (lv_at h3 j hl) (k H locs ls h1 h2 h3)
theorem nw_iload (h : nw_ok P X cc own nL) {i : Nat} (hd : decode cc pc = .ok (.iload i, 2)) (j : Nat) (hl : lv[j]? = some (i, .int x)) (k : nw_G P X nL σ lv (pc + 2) (.int x :: st)) : nw_G P X nL σ lv pc st :=
  fun H locs ls h1 h2 h3 => lv_iload h.1.1 h.1.2.1 hd (lv_at h3 j hl) (k H locs ls h1 h2 h3)
theorem nw_istore_n (h : nw_ok P X cc own nL) {n : Fin 4} {i : Nat} (hd : decode cc pc = .ok (.istore_n n, 1)) (hi : (n : Nat) = i) (hn : i < nL) (hl : (i, Value.int x) :: lv.filter (fun q => !(q.1 == i) && !(q.1 + 1 == i && q.2.category == 2)) = lv') (k : nw_G P X nL σ lv' (pc + 1) st) : nw_G P X nL σ lv pc (.int x :: st) :=
  fun H locs ls h1 h2 h3 => lv_istore_n h.1.1 h.1.2.1 hd hi h3 hn hl (fun ls h3 => k H locs ls h1 h2 h3)
theorem nw_istore (h : nw_ok P X cc own nL) {i : Nat} (hd : decode cc pc = .ok (.istore i, 2)) (hn : i < nL) (hl : (i, Value.int x) :: lv.filter (fun q => !(q.1 == i) && !(q.1 + 1 == i && q.2.category == 2)) = lv') (k : nw_G P X nL σ lv' (pc + 2) st) : nw_G P X nL σ lv pc (.int x :: st) :=
  fun H locs ls h1 h2 h3 => lv_istore h.1.1 h.1.2.1 hd h3 hn hl (fun ls h3 => k H locs ls h1 h2 h3)
theorem nw_lload_n (h : nw_ok P X cc own nL) {n : Fin 4} {i : Nat} (hd : decode cc pc = .ok (.lload_n n, 1)) (hi : (n : Nat) = i) (j : Nat) (hl : lv[j]? = some (i, .long xl)) (k : nw_G P X nL σ lv (pc + 1) (.long xl :: st)) : nw_G P X nL σ lv pc st :=
  fun H locs ls h1 h2 h3 => lv_lload_n h.1.1 h.1.2.1 hd hi (lv_at h3 j hl) (k H locs ls h1 h2 h3)
theorem nw_lload (h : nw_ok P X cc own nL) {i : Nat} (hd : decode cc pc = .ok (.lload i, 2)) (j : Nat) (hl : lv[j]? = some (i, .long xl)) (k : nw_G P X nL σ lv (pc + 2) (.long xl :: st)) : nw_G P X nL σ lv pc st :=
  fun H locs ls h1 h2 h3 => lv_lload h.1.1 h.1.2.1 hd (lv_at h3 j hl) (k H locs ls h1 h2 h3)
theorem nw_lstore_n (h : nw_ok P X cc own nL) {n : Fin 4} {i : Nat} (hd : decode cc pc = .ok (.lstore_n n, 1)) (hi : (n : Nat) = i) (hn : i + 1 < nL) (hl : (i, Value.long xl) :: lv.filter (fun q => !(q.1 == i) && (!(q.1 == i + 1) && !(q.1 + 1 == i && q.2.category == 2))) = lv') (k : nw_G P X nL σ lv' (pc + 1) st) : nw_G P X nL σ lv pc (.long xl :: st) :=
  fun H locs ls h1 h2 h3 => lv_lstore_n h.1.1 h.1.2.1 hd hi h3 hn hl (fun ls h3 => k H locs ls h1 h2 h3)
theorem nw_lstore (h : nw_ok P X cc own nL) {i : Nat} (hd : decode cc pc = .ok (.lstore i, 2)) (hn : i + 1 < nL) (hl : (i, Value.long xl) :: lv.filter (fun q => !(q.1 == i) && (!(q.1 == i + 1) && !(q.1 + 1 == i && q.2.category == 2))) = lv') (k : nw_G P X nL σ lv' (pc + 2) st) : nw_G P X nL σ lv pc (.long xl :: st) :=
  fun H locs ls h1 h2 h3 => lv_lstore h.1.1 h.1.2.1 hd h3 hn hl (fun ls h3 => k H locs ls h1 h2 h3)
theorem nw_aload_n (h : nw_ok P X cc own nL) {xr : Nat} {n : Fin 4} {i : Nat} (hd : decode cc pc = .ok (.aload_n n, 1)) (hi : (n : Nat) = i) (j : Nat) (hl : lv[j]? = some (i, .ref xr)) (k : nw_G P X nL σ lv (pc + 1) (.ref xr :: st)) : nw_G P X nL σ lv pc st :=
  fun H locs ls h1 h2 h3 => lv_aload_n h.1.1 h.1.2.1 hd hi (lv_at h3 j hl) (k H locs ls h1 h2 h3)
theorem nw_aload (h : nw_ok P X cc own nL) {xr : Nat} {i : Nat} (hd : decode cc pc = .ok (.aload i, 2)) (j : Nat) (hl : lv[j]? = some (i, .ref xr)) (k : nw_G P X nL σ lv (pc + 2) (.ref xr :: st)) : nw_G P X nL σ lv pc st :=
  fun H locs ls h1 h2 h3 => lv_aload h.1.1 h.1.2.1 hd (lv_at h3 j hl) (k H locs ls h1 h2 h3)
theorem nw_astore_n (h : nw_ok P X cc own nL) {xr : Nat} {n : Fin 4} {i : Nat} (hd : decode cc pc = .ok (.astore_n n, 1)) (hi : (n : Nat) = i) (hn : i < nL) (hl : (i, Value.ref xr) :: lv.filter (fun q => !(q.1 == i) && !(q.1 + 1 == i && q.2.category == 2)) = lv') (k : nw_G P X nL σ lv' (pc + 1) st) : nw_G P X nL σ lv pc (.ref xr :: st) :=
  fun H locs ls h1 h2 h3 => lv_astore_n h.1.1 h.1.2.1 hd hi h3 hn hl (fun ls h3 => k H locs ls h1 h2 h3)
theorem nw_astore (h : nw_ok P X cc own nL) {xr : Nat} {i : Nat} (hd : decode cc pc = .ok (.astore i, 2)) (hn : i < nL) (hl : (i, Value.ref xr) :: lv.filter (fun q => !(q.1 == i) && !(q.1 + 1 == i && q.2.category == 2)) = lv') (k : nw_G P X nL σ lv' (pc + 2) st) : nw_G P X nL σ lv pc (.ref xr :: st) :=
  fun H locs ls h1 h2 h3 => lv_astore h.1.1 h.1.2.1 hd h3 hn hl (fun ls h3 => k H locs ls h1 h2 h3)
theorem nw_iinc (h : nw_ok P X cc own nL) {i : Nat} {n : Int} {j : Nat} (hd : decode cc pc = .ok (.iinc i n, 3)) (hj : lv[j]? = some (i, .int x)) (hv : x + Int32.ofInt n = v) (hn : i < nL) (hl : (i, Value.int v) :: lv.filter (fun q => !(q.1 == i) && !(q.1 + 1 == i && q.2.category == 2)) = lv') (k : nw_G P X nL σ lv' (pc + 3) st) : nw_G P X nL σ lv pc st :=
  fun H locs ls h1 h2 h3 => lv_iinc h.1.1 h.1.2.1 hd h3 hj hv hn hl (fun ls h3 => k H locs ls h1 h2 h3)
theorem nw_iadd (h : nw_ok P X cc own nL) (hd : decode cc pc = .ok (.iadd, 1)) (k : nw_G P X nL σ lv (pc + 1) (.int (x + y) :: st)) : nw_G P X nL σ lv pc (.int y :: .int x :: st) :=
  fun H locs ls h1 h2 h3 => lv_iadd h.1.1 h.1.2.1 hd (k H locs ls h1 h2 h3)
theorem nw_isub (h : nw_ok P X cc own nL) (hd : decode cc pc = .ok (.isub, 1)) (k : nw_G P X nL σ lv (pc + 1) (.int (x - y) :: st)) : nw_G P X nL σ lv pc (.int y :: .int x :: st) :=
  fun H locs ls h1 h2 h3 => lv_isub h.1.1 h.1.2.1 hd (k H locs ls h1 h2 h3)
theorem nw_imul (h : nw_ok P X cc own nL) (hd : decode cc pc = .ok (.imul, 1)) (k : nw_G P X nL σ lv (pc + 1) (.int (x * y) :: st)) : nw_G P X nL σ lv pc (.int y :: .int x :: st) :=
  fun H locs ls h1 h2 h3 => lv_imul h.1.1 h.1.2.1 hd (k H locs ls h1 h2 h3)
theorem nw_iand (h : nw_ok P X cc own nL) (hd : decode cc pc = .ok (.iand, 1)) (k : nw_G P X nL σ lv (pc + 1) (.int (x &&& y) :: st)) : nw_G P X nL σ lv pc (.int y :: .int x :: st) :=
  fun H locs ls h1 h2 h3 => lv_iand h.1.1 h.1.2.1 hd (k H locs ls h1 h2 h3)
theorem nw_ior (h : nw_ok P X cc own nL) (hd : decode cc pc = .ok (.ior, 1)) (k : nw_G P X nL σ lv (pc + 1) (.int (x ||| y) :: st)) : nw_G P X nL σ lv pc (.int y :: .int x :: st) :=
  fun H locs ls h1 h2 h3 => lv_ior h.1.1 h.1.2.1 hd (k H locs ls h1 h2 h3)
theorem nw_ishl (h : nw_ok P X cc own nL) (hd : decode cc pc = .ok (.ishl, 1)) (k : nw_G P X nL σ lv (pc + 1) (.int (nw_shl x y) :: st)) : nw_G P X nL σ lv pc (.int y :: .int x :: st) :=
  fun H locs ls h1 h2 h3 => lv_ishl h.1.1 h.1.2.1 hd (k H locs ls h1 h2 h3)
theorem nw_iushr (h : nw_ok P X cc own nL) (hd : decode cc pc = .ok (.iushr, 1)) (k : nw_G P X nL σ lv (pc + 1) (.int (nw_ushr x y) :: st)) : nw_G P X nL σ lv pc (.int y :: .int x :: st) :=
  fun H locs ls h1 h2 h3 => lv_iushr h.1.1 h.1.2.1 hd rfl (k H locs ls h1 h2 h3)
theorem nw_idiv (h : nw_ok P X cc own nL) (hd : decode cc pc = .ok (.idiv, 1)) (hne : ¬ y = 0) (k : nw_G P X nL σ lv (pc + 1) (.int (x / y) :: st)) : nw_G P X nL σ lv pc (.int y :: .int x :: st) :=
  fun H locs ls h1 h2 h3 => lv_idiv h.1.1 h.1.2.1 hd hne (k H locs ls h1 h2 h3)
theorem nw_irem (h : nw_ok P X cc own nL) (hd : decode cc pc = .ok (.irem, 1)) (hne : ¬ y = 0) (k : nw_G P X nL σ lv (pc + 1) (.int (nw_rem x y) :: st)) : nw_G P X nL σ lv pc (.int y :: .int x :: st) :=
  fun H locs ls h1 h2 h3 => lv_irem h.1.1 h.1.2.1 hd hne (k H locs ls h1 h2 h3)
theorem nw_ladd (h : nw_ok P X cc own nL) (hd : decode cc pc = .ok (.ladd, 1)) (k : nw_G P X nL σ lv (pc + 1) (.long (xl + yl) :: st)) : nw_G P X nL σ lv pc (.long yl :: .long xl :: st) :=
  fun H locs ls h1 h2 h3 => lv_ladd h.1.1 h.1.2.1 hd (k H locs ls h1 h2 h3)
theorem nw_lsub (h : nw_ok P X cc own nL) (hd : decode cc pc = .ok (.lsub, 1)) (k : nw_G P X nL σ lv (pc + 1) (.long (xl - yl) :: st)) : nw_G P X nL σ lv pc (.long yl :: .long xl :: st) :=
  fun H locs ls h1 h2 h3 => lv_lsub h.1.1 h.1.2.1 hd (k H locs ls h1 h2 h3)
theorem nw_lmul (h : nw_ok P X cc own nL) (hd : decode cc pc = .ok (.lmul, 1)) (k : nw_G P X nL σ lv (pc + 1) (.long (xl * yl) :: st)) : nw_G P X nL σ lv pc (.long yl :: .long xl :: st) :=
  fun H locs ls h1 h2 h3 => lv_lmul h.1.1 h.1.2.1 hd (k H locs ls h1 h2 h3)
theorem nw_land (h : nw_ok P X cc own nL) (hd : decode cc pc = .ok (.land, 1)) (k : nw_G P X nL σ lv (pc + 1) (.long (xl &&& yl) :: st)) : nw_G P X nL σ lv pc (.long yl :: .long xl :: st) :=
  fun H locs ls h1 h2 h3 => lv_land h.1.1 h.1.2.1 hd (k H locs ls h1 h2 h3)
theorem nw_lor (h : nw_ok P X cc own nL) (hd : decode cc pc = .ok (.lor, 1)) (k : nw_G P X nL σ lv (pc + 1) (.long (xl ||| yl) :: st)) : nw_G P X nL σ lv pc (.long yl :: .long xl :: st) :=
  fun H locs ls h1 h2 h3 => lv_lor h.1.1 h.1.2.1 hd (k H locs ls h1 h2 h3)
theorem nw_ldiv_ (h : nw_ok P X cc own nL) (hd : decode cc pc = .ok (.ldiv, 1)) (hne : ¬ yl = 0) (k : nw_G P X nL σ lv (pc + 1) (.long (xl / yl) :: st)) : nw_G P X nL σ lv pc (.long yl :: .long xl :: st) :=
  fun H locs ls h1 h2 h3 => lv_ldiv h.1.1 h.1.2.1 hd hne (k H locs ls h1 h2 h3)
theorem nw_lrem_ (h : nw_ok P X cc own nL) (hd : decode cc pc = .ok (.lrem, 1)) (hne : ¬ yl = 0) (k : nw_G P X nL σ lv (pc + 1) (.long (nw_lrem xl yl) :: st)) : nw_G P X nL σ lv pc (.long yl :: .long xl :: st) :=
  fun H locs ls h1 h2 h3 => lv_lrem h.1.1 h.1.2.1 hd hne (k H locs ls h1 h2 h3)
theorem nw_lshr_ (h : nw_ok P X cc own nL) (hd : decode cc pc = .ok (.lshr, 1)) (k : nw_G P X nL σ lv (pc + 1) (.long (nw_lshr xl y) :: st)) : nw_G P X nL σ lv pc (.int y :: .long xl :: st) :=
  fun H locs ls h1 h2 h3 => lv_lshr h.1.1 h.1.2.1 hd rfl (k H locs ls h1 h2 h3)
theorem nw_lcmp (h : nw_ok P X cc own nL) (hd : decode cc pc = .ok (.lcmp, 1)) (k : nw_G P X nL σ lv (pc + 1) (.int (lg_cmp xl yl) :: st)) : nw_G P X nL σ lv pc (.long yl :: .long xl :: st) :=
  fun H locs ls h1 h2 h3 => W.lcmp h.1.1 h.1.2.1 hd (k H locs ls h1 h2 h3)
theorem nw_i2l (h : nw_ok P X cc own nL) (hd : decode cc pc = .ok (.i2l, 1)) (k : nw_G P X nL σ lv (pc + 1) (.long x.toInt64 :: st)) : nw_G P X nL σ lv pc (.int x :: st) :=
  fun H locs ls h1 h2 h3 => lv_i2l h.1.1 h.1.2.1 hd rfl (k H locs ls h1 h2 h3)
theorem nw_l2i (h : nw_ok P X cc own nL) (hd : decode cc pc = .ok (.l2i, 1)) (k : nw_G P X nL σ lv (pc + 1) (.int xl.toInt32 :: st)) : nw_G P X nL σ lv pc (.long xl :: st) :=
  fun H locs ls h1 h2 h3 => lv_l2i h.1.1 h.1.2.1 hd rfl (k H locs ls h1 h2 h3)
theorem nw_i2b (h : nw_ok P X cc own nL) (hd : decode cc pc = .ok (.i2b, 1)) (k : nw_G P X nL σ lv (pc + 1) (.int (nw_b x) :: st)) : nw_G P X nL σ lv pc (.int x :: st) :=
  fun H locs ls h1 h2 h3 => lv_i2b h.1.1 h.1.2.1 hd rfl (k H locs ls h1 h2 h3)
theorem nw_i2s (h : nw_ok P X cc own nL) (hd : decode cc pc = .ok (.i2s, 1)) (k : nw_G P X nL σ lv (pc + 1) (.int (nw_s16 x) :: st)) : nw_G P X nL σ lv pc (.int x :: st) :=
  fun H locs ls h1 h2 h3 => lv_i2s h.1.1 h.1.2.1 hd rfl (k H locs ls h1 h2 h3)
theorem nw_dup (h : nw_ok P X cc own nL) {w : Value} (hd : decode cc pc = .ok (.dup, 1)) (hw : w.category = 1) (k : nw_G P X nL σ lv (pc + 1) (w :: w :: st)) : nw_G P X nL σ lv pc (w :: st) :=
  fun H locs ls h1 h2 h3 => lv_dup h.1.1 h.1.2.1 hd hw (k H locs ls h1 h2 h3)
theorem nw_pop (h : nw_ok P X cc own nL) {w : Value} (hd : decode cc pc = .ok (.pop, 1)) (hw : w.category = 1) (k : nw_G P X nL σ lv (pc + 1) st) : nw_G P X nL σ lv pc (w :: st) :=
  fun H locs ls h1 h2 h3 => lv_pop h.1.1 h.1.2.1 hd hw (k H locs ls h1 h2 h3)
theorem nw_dup2 (h : nw_ok P X cc own nL) {w u : Value} (hd : decode cc pc = .ok (.dup2, 1)) (hw : w.category = 1) (hu : u.category = 1) (k : nw_G P X nL σ lv (pc + 1) (w :: u :: w :: u :: st)) : nw_G P X nL σ lv pc (w :: u :: st) :=
  fun H locs ls h1 h2 h3 => lv_dup2_11 h.1.1 h.1.2.1 hd hw hu (k H locs ls h1 h2 h3)
theorem nw_icmp_eq (h : nw_ok P X cc own nL) {off : Int} {tgt : Nat} (hd : decode cc pc = .ok (.if_icmp .eq off, 3)) (ht : (pc : Int) + off = (tgt : Int)) (kt : x = y → nw_G P X nL σ lv tgt st) (kf : ¬ (x = y) → nw_G P X nL σ lv (pc + 3) st) : nw_G P X nL σ lv pc (.int y :: .int x :: st) :=
  fun H locs ls h1 h2 h3 => lv_icmp_eq h.1.1 h.1.2.1 hd ht (fun z => kt z H locs ls h1 h2 h3) (fun z => kf z H locs ls h1 h2 h3)
theorem nw_if_eq (h : nw_ok P X cc own nL) {off : Int} {tgt : Nat} (hd : decode cc pc = .ok (.ifCond .eq off, 3)) (ht : (pc : Int) + off = (tgt : Int)) (kt : x = 0 → nw_G P X nL σ lv tgt st) (kf : ¬ (x = 0) → nw_G P X nL σ lv (pc + 3) st) : nw_G P X nL σ lv pc (.int x :: st) :=
  fun H locs ls h1 h2 h3 => lv_if_eq h.1.1 h.1.2.1 hd ht (fun z => kt z H locs ls h1 h2 h3) (fun z => kf z H locs ls h1 h2 h3)
theorem nw_icmp_ne (h : nw_ok P X cc own nL) {off : Int} {tgt : Nat} (hd : decode cc pc = .ok (.if_icmp .ne off, 3)) (ht : (pc : Int) + off = (tgt : Int)) (kt : ¬ x = y → nw_G P X nL σ lv tgt st) (kf : x = y → nw_G P X nL σ lv (pc + 3) st) : nw_G P X nL σ lv pc (.int y :: .int x :: st) :=
  fun H locs ls h1 h2 h3 => lv_icmp_ne h.1.1 h.1.2.1 hd ht (fun z => kt z H locs ls h1 h2 h3) (fun z => kf z H locs ls h1 h2 h3)
theorem nw_if_ne (h : nw_ok P X cc own nL) {off : Int} {tgt : Nat} (hd : decode cc pc = .ok (.ifCond .ne off, 3)) (ht : (pc : Int) + off = (tgt : Int)) (kt : ¬ x = 0 → nw_G P X nL σ lv tgt st) (kf : x = 0 → nw_G P X nL σ lv (pc + 3) st) : nw_G P X nL σ lv pc (.int x :: st) :=
  fun H locs ls h1 h2 h3 => lv_if_ne h.1.1 h.1.2.1 hd ht (fun z => kt z H locs ls h1 h2 h3) (fun z => kf z H locs ls h1 h2 h3)
theorem nw_icmp_lt (h : nw_ok P X cc own nL) {off : Int} {tgt : Nat} (hd : decode cc pc = .ok (.if_icmp .lt off, 3)) (ht : (pc : Int) + off = (tgt : Int)) (kt : x < y → nw_G P X nL σ lv tgt st) (kf : ¬ (x < y) → nw_G P X nL σ lv (pc + 3) st) : nw_G P X nL σ lv pc (.int y :: .int x :: st) :=
  fun H locs ls h1 h2 h3 => lv_icmp_lt h.1.1 h.1.2.1 hd ht (fun z => kt z H locs ls h1 h2 h3) (fun z => kf z H locs ls h1 h2 h3)
theorem nw_if_lt (h : nw_ok P X cc own nL) {off : Int} {tgt : Nat} (hd : decode cc pc = .ok (.ifCond .lt off, 3)) (ht : (pc : Int) + off = (tgt : Int)) (kt : x < 0 → nw_G P X nL σ lv tgt st) (kf : ¬ (x < 0) → nw_G P X nL σ lv (pc + 3) st) : nw_G P X nL σ lv pc (.int x :: st) :=
  fun H locs ls h1 h2 h3 => lv_if_lt h.1.1 h.1.2.1 hd ht (fun z => kt z H locs ls h1 h2 h3) (fun z => kf z H locs ls h1 h2 h3)
theorem nw_icmp_ge (h : nw_ok P X cc own nL) {off : Int} {tgt : Nat} (hd : decode cc pc = .ok (.if_icmp .ge off, 3)) (ht : (pc : Int) + off = (tgt : Int)) (kt : y ≤ x → nw_G P X nL σ lv tgt st) (kf : ¬ (y ≤ x) → nw_G P X nL σ lv (pc + 3) st) : nw_G P X nL σ lv pc (.int y :: .int x :: st) :=
  fun H locs ls h1 h2 h3 => lv_icmp_ge h.1.1 h.1.2.1 hd ht (fun z => kt z H locs ls h1 h2 h3) (fun z => kf z H locs ls h1 h2 h3)
theorem nw_if_ge (h : nw_ok P X cc own nL) {off : Int} {tgt : Nat} (hd : decode cc pc = .ok (.ifCond .ge off, 3)) (ht : (pc : Int) + off = (tgt : Int)) (kt : 0 ≤ x → nw_G P X nL σ lv tgt st) (kf : ¬ (0 ≤ x) → nw_G P X nL σ lv (pc + 3) st) : nw_G P X nL σ lv pc (.int x :: st) :=
  fun H locs ls h1 h2 h3 => lv_if_ge h.1.1 h.1.2.1 hd ht (fun z => kt z H locs ls h1 h2 h3) (fun z => kf z H locs ls h1 h2 h3)
theorem nw_icmp_gt (h : nw_ok P X cc own nL) {off : Int} {tgt : Nat} (hd : decode cc pc = .ok (.if_icmp .gt off, 3)) (ht : (pc : Int) + off = (tgt : Int)) (kt : y < x → nw_G P X nL σ lv tgt st) (kf : ¬ (y < x) → nw_G P X nL σ lv (pc + 3) st) : nw_G P X nL σ lv pc (.int y :: .int x :: st) :=
  fun H locs ls h1 h2 h3 => lv_icmp_gt h.1.1 h.1.2.1 hd ht (fun z => kt z H locs ls h1 h2 h3) (fun z => kf z H locs ls h1 h2 h3)
theorem nw_if_gt (h : nw_ok P X cc own nL) {off : Int} {tgt : Nat} (hd : decode cc pc = .ok (.ifCond .gt off, 3)) (ht : (pc : Int) + off = (tgt : Int)) (kt : 0 < x → nw_G P X nL σ lv tgt st) (kf : ¬ (0 < x) → nw_G P X nL σ lv (pc + 3) st) : nw_G P X nL σ lv pc (.int x :: st) :=
  fun H locs ls h1 h2 h3 => lv_if_gt h.1.1 h.1.2.1 hd ht (fun z => kt z H locs ls h1 h2 h3) (fun z => kf z H locs ls h1 h2 h3)
theorem nw_icmp_le (h : nw_ok P X cc own nL) {off : Int} {tgt : Nat} (hd : decode cc pc = .ok (.if_icmp .le off, 3)) (ht : (pc : Int) + off = (tgt : Int)) (kt : x ≤ y → nw_G P X nL σ lv tgt st) (kf : ¬ (x ≤ y) → nw_G P X nL σ lv (pc + 3) st) : nw_G P X nL σ lv pc (.int y :: .int x :: st) :=
  fun H locs ls h1 h2 h3 => lv_icmp_le h.1.1 h.1.2.1 hd ht (fun z => kt z H locs ls h1 h2 h3) (fun z => kf z H locs ls h1 h2 h3)
theorem nw_if_le (h : nw_ok P X cc own nL) {off : Int} {tgt : Nat} (hd : decode cc pc = .ok (.ifCond .le off, 3)) (ht : (pc : Int) + off = (tgt : Int)) (kt : x ≤ 0 → nw_G P X nL σ lv tgt st) (kf : ¬ (x ≤ 0) → nw_G P X nL σ lv (pc + 3) st) : nw_G P X nL σ lv pc (.int x :: st) :=
  fun H locs ls h1 h2 h3 => lv_if_le h.1.1 h.1.2.1 hd ht (fun z => kt z H locs ls h1 h2 h3) (fun z => kf z H locs ls h1 h2 h3)
theorem nw_goto (h : nw_ok P X cc own nL) {off : Int} {tgt : Nat} (hd : decode cc pc = .ok (.goto off, 3)) (ht : (pc : Int) + off = (tgt : Int)) (k : nw_G P X nL σ lv tgt st) : nw_G P X nL σ lv pc st :=
  fun H locs ls h1 h2 h3 => lv_goto h.1.1 h.1.2.1 hd ht (k H locs ls h1 h2 h3)
theorem nw_tabOut (h : nw_ok P X cc own nL) {dflt lo hi : Int} {offs : Array Int} {len : Nat} {tgt : Nat} (hd : decode cc pc = .ok (.tableswitch dflt lo hi offs, len)) (hx : x.toInt < lo ∨ hi < x.toInt) (ht : (pc : Int) + dflt = (tgt : Int)) (k : nw_G P X nL σ lv tgt st) : nw_G P X nL σ lv pc (.int x :: st) :=
  fun H locs ls h1 h2 h3 => lv_tableOut h.1.1 h.1.2.1 hd hx ht (k H locs ls h1 h2 h3)
theorem nw_tabIn (h : nw_ok P X cc own nL) {dflt lo hi : Int} {offs : Array Int} {len : Nat} {off : Int} {tgt : Nat} (hd : decode cc pc = .ok (.tableswitch dflt lo hi offs, len)) (hx1 : ¬ x.toInt < lo) (hx2 : ¬ hi < x.toInt) (ho : offs[(x.toInt - lo).toNat]? = some off) (ht : (pc : Int) + off = (tgt : Int)) (k : nw_G P X nL σ lv tgt st) : nw_G P X nL σ lv pc (.int x :: st) :=
  fun H locs ls h1 h2 h3 => lv_tableIn h.1.1 h.1.2.1 hd hx1 hx2 ho ht (k H locs ls h1 h2 h3)
theorem nw_sub (ks : List Nat) (hl : lv_pick lv ks = lv') (k : nw_G P X nL σ lv' pc st) : nw_G P X nL σ lv pc st :=
  fun H locs ls h1 h2 h3 => k H locs ls h1 h2 (lv_sub h3 ks hl)
theorem nw_iald (h : nw_ok P X cc own nL) {q n : Nat} (hq : nw_cl q = 10) (hn : nw_len q = n) (hin : vp_in x n) (hd : decode cc pc = .ok (.iaload, 1)) (k : nw_G P X nL σ lv (pc + 1) (.int (nw_gA σ q x.toNatClampNeg) :: st)) : nw_G P X nL σ lv pc (.int x :: .ref (P.2.1 q) :: st) :=
  fun H locs ls h1 h2 h3 => by subst hn; exact va_iald h.1.1 h.1.2.1 h.2.1.1 h1 q 0 (nw_atI hq) rfl hin hd (k H locs ls h1 h2 h3)
theorem nw_zald (h : nw_ok P X cc own nL) {q n : Nat} (hq : nw_cl q = 12) (hn : nw_len q = n) (hin : vp_in x n) (hd : decode cc pc = .ok (.baload, 1)) (k : nw_G P X nL σ lv (pc + 1) (.int (nw_gA σ q x.toNatClampNeg) :: st)) : nw_G P X nL σ lv pc (.int x :: .ref (P.2.1 q) :: st) :=
  fun H locs ls h1 h2 h3 => by subst hn; exact va_zald h.1.1 h.1.2.1 h.2.1.1 h1 q 2 (nw_atZ hq) rfl hin hd (k H locs ls h1 h2 h3)
theorem nw_lald (h : nw_ok P X cc own nL) {q n : Nat} (hq : nw_cl q = 11) (hn : nw_len q = n) (hin : vp_in x n) (hd : decode cc pc = .ok (.laload, 1)) (k : nw_G P X nL σ lv (pc + 1) (.long (nw_gL σ q x.toNatClampNeg) :: st)) : nw_G P X nL σ lv pc (.int x :: .ref (P.2.1 q) :: st) :=
  fun H locs ls h1 h2 h3 => by subst hn; exact va_lald h.1.1 h.1.2.1 h.2.1.1 h1 q 1 (nw_atL hq) rfl hin hd (k H locs ls h1 h2 h3)
theorem nw_aald (h : nw_ok P X cc own nL) (hin : vp_in x 4) (hd : decode cc pc = .ok (.aaload, 1)) (k : nw_G P X nL σ lv (pc + 1) (.ref (P.2.1 (27 + 2 * x.toNatClampNeg)) :: st)) : nw_G P X nL σ lv pc (.int x :: .ref (P.2.1 26) :: st) :=
  fun H locs ls h1 h2 h3 => va_aldq h.1.1 h.1.2.1 h.2.1.1 h1 26 3 nw_atS rfl hin hd (k H locs ls h1 h2 h3)
theorem nw_tald (h : nw_ok P X cc own nL) {q n : Nat} (hq : nw_cl q = 14) (hn : nw_len q = n) (hin : vp_in x n) (hd : decode cc pc = .ok (.iaload, 1)) (k : nw_G P X nL σ lv (pc + 1) (.int (nw_cst q x.toNatClampNeg) :: st)) : nw_G P X nL σ lv pc (.int x :: .ref (P.2.1 q) :: st) :=
  fun H locs ls h1 h2 h3 => by
    subst hn
    have hk : ∃ k, k < 6 ∧ q = 63 + k := by exact ⟨q - 63, by rcases nw_q14 hq with rfl | rfl | rfl | rfl | rfl | rfl <;> decide, by rcases nw_q14 hq with rfl | rfl | rfl | rfl | rfl | rfl <;> rfl⟩
    obtain ⟨j, hj, rfl⟩ := hk
    exact va_ti h.1.1 h.1.2.1 (h.2.1.2.2.2 j hj).2 h2 hin rfl hd (k H locs ls h1 h2 h3)
theorem nw_iast (h : nw_ok P X cc own nL) {q n : Nat} (hq : nw_cl q = 10) (hn : nw_len q = n) (hin : vp_in x n) (hd : decode cc pc = .ok (.iastore, 1)) (k : nw_G P X nL (nw_sA σ q x.toNatClampNeg y) lv (pc + 1) st) : nw_G P X nL σ lv pc (.int y :: .int x :: .ref (P.2.1 q) :: st) :=
  fun H locs ls h1 h2 h3 => by
    subst hn
    exact va_iast h.1.1 h.1.2.1 h.2.1.1 h1 (h.2.2 σ) h2 q 0 (nw_atI hq) rfl hin hd (fun H1 locs1 g1 _ g2 => k H1 locs1 ls (by rw [nw_setI hq] at g1; exact g1) g2 h3)
theorem nw_zast (h : nw_ok P X cc own nL) {q n : Nat} (hq : nw_cl q = 12) (hn : nw_len q = n) (hin : vp_in x n) (hy : vp_nar .boolean y = y) (hd : decode cc pc = .ok (.bastore, 1)) (k : nw_G P X nL (nw_sA σ q x.toNatClampNeg y) lv (pc + 1) st) : nw_G P X nL σ lv pc (.int y :: .int x :: .ref (P.2.1 q) :: st) :=
  fun H locs ls h1 h2 h3 => by
    subst hn
    exact va_zast h.1.1 h.1.2.1 h.2.1.1 h1 (h.2.2 σ) h2 q 2 (nw_atZ hq) rfl hin hd (fun H1 locs1 g1 _ g2 => k H1 locs1 ls (by rw [hy, nw_setZ hq] at g1; exact g1) g2 h3)
theorem nw_last (h : nw_ok P X cc own nL) {q n : Nat} (hq : nw_cl q = 11) (hn : nw_len q = n) (hin : vp_in x n) (hd : decode cc pc = .ok (.lastore, 1)) (k : nw_G P X nL (nw_sL σ q x.toNatClampNeg yl) lv (pc + 1) st) : nw_G P X nL σ lv pc (.long yl :: .int x :: .ref (P.2.1 q) :: st) :=
  fun H locs ls h1 h2 h3 => by
    subst hn
    exact va_last h.1.1 h.1.2.1 h.2.1.1 h1 (h.2.2 σ) h2 q 1 (nw_atL hq) rfl hin hd (fun H1 locs1 g1 _ g2 => k H1 locs1 ls (by rw [nw_setL hq] at g1; exact g1) g2 h3)
theorem nw_ilen (h : nw_ok P X cc own nL) {q n : Nat} (hq : nw_cl q = 10) (hn : nw_len q = n) (hv : Int32.ofNat n = v) (hd : decode cc pc = .ok (.arraylength, 1)) (k : nw_G P X nL σ lv (pc + 1) (.int v :: st)) : nw_G P X nL σ lv pc (.ref (P.2.1 q) :: st) :=
  fun H locs ls h1 h2 h3 => by subst hn; exact va_alen h.1.1 h.1.2.1 h.2.1.1 h1 q 0 (nw_atI hq) rfl hv hd (k H locs ls h1 h2 h3)
theorem nw_llen (h : nw_ok P X cc own nL) {q n : Nat} (hq : nw_cl q = 11) (hn : nw_len q = n) (hv : Int32.ofNat n = v) (hd : decode cc pc = .ok (.arraylength, 1)) (k : nw_G P X nL σ lv (pc + 1) (.int v :: st)) : nw_G P X nL σ lv pc (.ref (P.2.1 q) :: st) :=
  fun H locs ls h1 h2 h3 => by subst hn; exact va_alen h.1.1 h.1.2.1 h.2.1.1 h1 q 1 (nw_atL hq) rfl hv hd (k H locs ls h1 h2 h3)
theorem nw_tlen (h : nw_ok P X cc own nL) {q n : Nat} (hq : nw_cl q = 14) (hn : nw_len q = n) (hv : Int32.ofNat n = v) (hd : decode cc pc = .ok (.arraylength, 1)) (k : nw_G P X nL σ lv (pc + 1) (.int v :: st)) : nw_G P X nL σ lv pc (.ref (P.2.1 q) :: st) :=
  fun H locs ls h1 h2 h3 => by
    subst hn
    have hk : ∃ k, k < 6 ∧ q = 63 + k := by exact ⟨q - 63, by rcases nw_q14 hq with rfl | rfl | rfl | rfl | rfl | rfl <;> decide, by rcases nw_q14 hq with rfl | rfl | rfl | rfl | rfl | rfl <;> rfl⟩
    obtain ⟨j, hj, rfl⟩ := hk
    exact va_tlen h.1.1 h.1.2.1 (h.2.1.2.2.2 j hj).2 h2 hv hd (k H locs ls h1 h2 h3)
theorem nw_gets (h : nw_ok P X cc own nL) {index j : Nat} (hj : j < 6) (hw : Cond.fieldLink own index RX4 (nw_sn j) "[I" ∈ nw_T) (hd : decode cc pc = .ok (.getstatic index, 3)) (k : nw_G P X nL σ lv (pc + 3) (.ref (P.2.1 (63 + j)) :: st)) : nw_G P X nL σ lv pc st :=
  fun H locs ls h1 h2 h3 => va_gets h.1.1 h.1.2.1 (h.2.1.2.2.2 j hj).1 h2 h.1.2.2.2.1 (h.1.2.2.2.2 _ hw) (fun _ z => z) hd (k H locs ls h1 h2 h3)
theorem nw_iret (h : nw_ok P X cc own nL) {Kv : Option Value → nw_ST → Prop} (he : nw_end P X (some .int) Kv) (hd : decode cc pc = .ok (.ireturn, 1)) (hk : Kv (some (.int x)) σ) : nw_G P X nL σ lv pc [.int x] := fun H locs ls h1 h2 h3 => by
  unfold nw_Wx; rw [he.1]
  exact W.iret h.1.1 h.1.2.1 he.2.1 (fun t ht hW => ⟨⟨_, σ, rfl, hk, by rw [ht]; exact h1, by rw [ht]; exact h.2.1.go hW h2⟩, h2.F ht⟩) h2.2.2 hd he.2.2
theorem nw_zret (h : nw_ok P X cc own nL) {Kv : Option Value → nw_ST → Prop} (he : nw_end P X (some .boolean) Kv) (hd : decode cc pc = .ok (.ireturn, 1)) (hz : nw_isZ x) (hk : Kv (some (.int x)) σ) : nw_G P X nL σ lv pc [.int x] := fun H locs ls h1 h2 h3 => by
  unfold nw_Wx; rw [he.1]
  exact W.zret h.1.1 h.1.2.1 he.2.1 (by rcases hz with rfl | rfl <;> decide) (fun t ht hW => ⟨⟨_, σ, rfl, hk, by rw [ht]; exact h1, by rw [ht]; exact h.2.1.go hW h2⟩, h2.F ht⟩) h2.2.2 hd he.2.2
theorem nw_lret (h : nw_ok P X cc own nL) {Kv : Option Value → nw_ST → Prop} (he : nw_end P X (some .long) Kv) (hd : decode cc pc = .ok (.lreturn, 1)) (hk : Kv (some (.long xl)) σ) : nw_G P X nL σ lv pc [.long xl] := fun H locs ls h1 h2 h3 => by
  unfold nw_Wx; rw [he.1]
  exact W.lret h.1.1 h.1.2.1 he.2.1 (fun t ht hW => ⟨⟨_, σ, rfl, hk, by rw [ht]; exact h1, by rw [ht]; exact h.2.1.go hW h2⟩, h2.F ht⟩) h2.2.2 hd he.2.2
theorem nw_vret (h : nw_ok P X cc own nL) {Kv : Option Value → nw_ST → Prop} (he : nw_end P X none Kv) (hd : decode cc pc = .ok (.return_, 1)) (hk : Kv none σ) : nw_G P X nL σ lv pc [] := fun H locs ls h1 h2 h3 => by
  unfold nw_Wx; rw [he.1]
  exact W.vret h.1.1 h.1.2.1 he.2.1 (fun t ht hW => ⟨⟨_, σ, rfl, hk, by rw [ht]; exact h1, by rw [ht]; exact h.2.1.go hW h2⟩, h2.F ht⟩) h2.2.2 hd he.2.2
theorem nw_aret (h : nw_ok P X cc own nL) {Kv : Option Value → nw_ST → Prop} {n : String} {a : Nat} (he : nw_end P X (some (.object n)) Kv) (hd : decode cc pc = .ok (.areturn, 1)) (hk : Kv (some (.ref a)) σ) : nw_G P X nL σ lv pc [.ref a] := fun H locs ls h1 h2 h3 => by
  unfold nw_Wx; rw [he.1]
  exact W.aret h.1.1 h.1.2.1 he.2.1 (Or.inl ⟨n, rfl⟩) (Or.inr ⟨a, rfl⟩) (fun t ht hW => ⟨⟨_, σ, rfl, hk, by rw [ht]; exact h1, by rw [ht]; exact h.2.1.go hW h2⟩, h2.F ht⟩) h2.2.2 hd he.2.2

section NWC
variable {ym : MethodName} {bytes : ByteArray} {maxL n index : Nat} {ret : Option FieldType} {rm : Room} {Kv : Option Value → nw_ST → Prop} {C : String} {q ci : Nat} {cq : vw_C} {As rest : List Value}
theorem nw_callV (h : nw_ok P X cc own nL) (hM : nw_MT X.2.1 ym bytes maxL ret rm P (.ref (P.2.1 q) :: As) σ Kv) (hg : GoodIn nw_T (wsV own index C ym (Cond.code ym bytes maxL ret :: nw_T))) (hy : ym.cls = C ∧ ym.cls ≠ "java/lang/invoke/MethodHandle" ∧ ym.cls ≠ "java/lang/invoke/VarHandle" ∧ (parseMethodDescriptor ym.desc).map (fun d => d.parameters.length) = some n) (hn : As.length = n) (hR : rm.frames + 1 ≤ X.2.2.2.1.frames ∧ 8 + (maxL + 11) + rm.locals ≤ X.2.2.2.1.locals) (hrc : rm.cells = 0 ∧ rm.slots = 0) (hq : nw_cl q = ci) (hci : ci < 6) (hcl : vwCl[ci]? = some cq) (hC : cq.1 = C) (hst : (rest.map fun v => v.category).sum ≤ 8) (hs : As.reverse ++ .ref (P.2.1 q) :: rest = st) (hd : decode cc pc = .ok (.invokevirtual index, 3))
    (k : ∀ (v : Option Value) (σ' : nw_ST), Kv v σ' → nw_G P X nL σ' lv (pc + 3) (v.toList ++ rest)) : nw_G P X nL σ lv pc st := by
  intro H locs ls h1 h2 h3
  subst hs; subst hC
  obtain ⟨fs, hfs⟩ := nw_atO (P := P) (σ := σ) hq hci
  exact nw_after (va_runV (As := As) (rest := rest) h.1 hM (cwV n h.1.2.2.2.2 hg rfl hrc.1 hrc.2 hy hR) ⟨fun a U g mk z => ⟨z.1, z.2.call g mk a⟩, va_recv h.2.1.1 h1 hcl hfs, fun U hU hW => ⟨rfl, by rw [hU]; exact h1, by rw [hU]; exact h.2.1.go hW h2⟩⟩ rfl hn h3.1 rfl (lv_room hst) hd ⟨Nat.zero_le _, Nat.zero_le _⟩) h2 (fun v σ' H1 locs1 z1 z2 z3 => k v σ' z1 H1 locs1 ls z2 z3 h3)
theorem nw_callS (h : nw_ok P X cc own nL) (hM : nw_MT X.2.1 ym bytes maxL ret rm P As σ Kv) (hg : GoodIn nw_T (va_wsS own index ym (Cond.code ym bytes maxL ret :: nw_T))) (hy : ym.cls ≠ "java/lang/invoke/MethodHandle" ∧ ym.cls ≠ "java/lang/invoke/VarHandle" ∧ (parseMethodDescriptor ym.desc).map (fun d => d.parameters.length) = some n) (hn : As.length = n) (hR : rm.frames + 1 ≤ X.2.2.2.1.frames ∧ 8 + (maxL + 11) + rm.locals ≤ X.2.2.2.1.locals) (hrc : rm.cells = 0 ∧ rm.slots = 0) (hst : (rest.map fun v => v.category).sum ≤ 8) (hs : As.reverse ++ rest = st) (hd : decode cc pc = .ok (.invokestatic index, 3))
    (k : ∀ (v : Option Value) (σ' : nw_ST), Kv v σ' → nw_G P X nL σ' lv (pc + 3) (v.toList ++ rest)) : nw_G P X nL σ lv pc st := by
  intro H locs ls h1 h2 h3
  subst hs
  exact nw_after (va_runS (As := As) (rest := rest) h.1 hM (va_cwS n h.1.2.2.2.2 hg rfl hrc.1 hrc.2 hy hR) ⟨fun a U g mk z => ⟨z.1, z.2.call g mk a⟩, fun U hU hW => ⟨rfl, by rw [hU]; exact h1, by rw [hU]; exact h.2.1.go hW h2⟩⟩ rfl hn h3.1 rfl (lv_room hst) hd ⟨Nat.zero_le _, Nat.zero_le _⟩) h2 (fun v σ' H1 locs1 z1 z2 z3 => k v σ' z1 H1 locs1 ls z2 z3 h3)
theorem nw_callSN (h : nw_ok P X cc own nL) {host : String} (hM : nw_MT X.2.1 ym bytes maxL ret rm P As σ Kv) (hg : GoodIn nw_T (Cond.code ym bytes maxL ret :: nw_T)) (hw : (own, index, ym, host) ∈ nw_nM) (hi : Cond.initialized ym.cls ∈ nw_T) (hsw : Cond.static ym ∈ nw_T) (hy : ym.cls ≠ "java/lang/invoke/MethodHandle" ∧ ym.cls ≠ "java/lang/invoke/VarHandle" ∧ (parseMethodDescriptor ym.desc).map (fun d => d.parameters.length) = some n) (hn : As.length = n) (hR : rm.frames + 1 ≤ X.2.2.2.1.frames ∧ 8 + (maxL + 11) + rm.locals ≤ X.2.2.2.1.locals) (hrc : rm.cells = 0 ∧ rm.slots = 0) (hst : (rest.map fun v => v.category).sum ≤ 8) (hs : As.reverse ++ rest = st) (hd : decode cc pc = .ok (.invokestatic index, 3))
    (k : ∀ (v : Option Value) (σ' : nw_ST), Kv v σ' → nw_G P X nL σ' lv (pc + 3) (v.toList ++ rest)) : nw_G P X nL σ lv pc st := by
  intro H locs ls h1 h2 h3
  subst hs
  exact nw_after (va_runSN (As := As) (rest := rest) (host := host) h.1 hM ⟨va_cnB n h.1.2.2.2.2 hg rfl hrc.1 hrc.2 (h.2.1.2.2.1 _ hw) (h.1.2.2.2.2 _ hi) hy hR, h.1.2.2.2.2 _ hsw, trivial⟩ ⟨fun a U g mk z => ⟨z.1, z.2.call g mk a⟩, fun U hU hW => ⟨rfl, by rw [hU]; exact h1, by rw [hU]; exact h.2.1.go hW h2⟩⟩ rfl hn h3.1 rfl (lv_room hst) hd ⟨Nat.zero_le _, Nat.zero_le _⟩) h2 (fun v σ' H1 locs1 z1 z2 z3 => k v σ' z1 H1 locs1 ls z2 z3 h3)
end NWC
theorem nw_mmin (h : nw_ok P X cc own nL) {index : Nat} (hl : Cond.methodLink own index Lib.Math.min.name ∈ nw_T) (hs : Cond.static Lib.Math.min.name ∈ nw_T) (hi : Cond.initialized "java/lang/Math" ∈ nw_T) (hc : Cond.code Lib.Math.min.name Lib.Math.min.code 2 (some .int) ∈ nw_T) (hf : 1 ≤ X.2.2.2.1.frames) (hlo : (st.map fun v => v.category).sum + 13 ≤ X.2.2.2.1.locals) (hd : decode cc pc = .ok (.invokestatic index, 3)) (k : nw_G P X nL σ lv (pc + 3) (.int (if y < x then y else x) :: st)) : nw_G P X nL σ lv pc (.int y :: .int x :: st) :=
  fun H locs ls h1 h2 h3 => va_mmin h.1.1 h.1.2.1 (by rw [h3.1]; exact h.1.2.2.1) h.1.2.2.2.1 (h.1.2.2.2.2 _ hl) (h.1.2.2.2.2 _ hs) (h.1.2.2.2.2 _ hi) (h.1.2.2.2.2 _ hc) hf hlo (Nat.zero_le _) (Nat.zero_le _) hd (k H locs ls h1 h2 h3)
theorem nw_mmax (h : nw_ok P X cc own nL) {index : Nat} (hl : Cond.methodLink own index Lib.Math.max.name ∈ nw_T) (hs : Cond.static Lib.Math.max.name ∈ nw_T) (hi : Cond.initialized "java/lang/Math" ∈ nw_T) (hc : Cond.code Lib.Math.max.name Lib.Math.max.code 2 (some .int) ∈ nw_T) (hf : 1 ≤ X.2.2.2.1.frames) (hlo : (st.map fun v => v.category).sum + 13 ≤ X.2.2.2.1.locals) (hd : decode cc pc = .ok (.invokestatic index, 3)) (k : nw_G P X nL σ lv (pc + 3) (.int (if x < y then y else x) :: st)) : nw_G P X nL σ lv pc (.int y :: .int x :: st) :=
  fun H locs ls h1 h2 h3 => va_mmax h.1.1 h.1.2.1 (by rw [h3.1]; exact h.1.2.2.1) h.1.2.2.2.1 (h.1.2.2.2.2 _ hl) (h.1.2.2.2.2 _ hs) (h.1.2.2.2.2 _ hi) (h.1.2.2.2.2 _ hc) hf hlo (Nat.zero_le _) (Nat.zero_le _) hd (k H locs ls h1 h2 h3)
theorem nw_copy (h : nw_ok P X cc own nL) {index q0 q1 n0 n1 : Nat} {sp dp n : Int32} (hl : Cond.methodLink own index arraycopyName ∈ nw_T) (hna : Cond.native arraycopyName ∈ nw_T) (hs : Cond.static arraycopyName ∈ nw_T) (hi : Cond.initialized "java/lang/System" ∈ nw_T) (hq0 : nw_cl q0 = 10) (hq1 : nw_cl q1 = 10) (hn0 : nw_len q0 = n0) (hn1 : nw_len q1 = n1) (g1 : ¬ sp < 0) (g2 : ¬ dp < 0) (g3 : ¬ n < 0) (g4 : sp.toNatClampNeg + n.toNatClampNeg ≤ n0) (g5 : dp.toNatClampNeg + n.toNatClampNeg ≤ n1) (hf : 1 ≤ X.2.2.2.1.frames) (hlo : (st.map fun v => v.category).sum + (nativeFrameWords "java/lang/System" "arraycopy" 5 + 11) ≤ X.2.2.2.1.locals) (hd : decode cc pc = .ok (.invokestatic index, 3)) (k : nw_G P X nL (nw_sC σ q0 q1 sp.toNatClampNeg dp.toNatClampNeg n.toNatClampNeg) lv (pc + 3) st) : nw_G P X nL σ lv pc (.int n :: .int dp :: .ref (P.2.1 q1) :: .int sp :: .ref (P.2.1 q0) :: st) :=
  fun H locs ls h1 h2 h3 => by
    subst hn0; subst hn1
    exact va_copyi h.1.1 h.1.2.1 (by rw [h3.1]; exact h.1.2.2.1) h.1.2.2.2.1 (h.1.2.2.2.2 _ hl) (h.1.2.2.2.2 _ hna) (h.1.2.2.2.2 _ hs) (h.1.2.2.2.2 _ hi) h.2.1.1 h1 (h.2.2 σ) h2 q0 q1 0 0 (nw_atI hq0) (nw_atI hq1) rfl rfl rfl g1 g2 g3 g4 g5 (fun i _ => rfl) hf hlo hd (fun H1 locs1 z1 _ z2 => k H1 locs1 ls (by rw [nw_setC hq1] at z1; exact z1) z2 h3)
end NWR
end
