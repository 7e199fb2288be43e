section
/-- a private method of a class that the tables say can be made, by its rows of tables_1 -/
def lw_okq (q : MethodName × Nat) : Prop := (q.1.cls ≠ "java/lang/invoke/MethodHandle" ∧ q.1.cls ≠ "java/lang/invoke/VarHandle") ∧ Cond.instantiable q.1.cls q.2 ∈ tables_1 ∧ Cond.privateMethod q.1 ∈ tables_1 ∧ Cond.instanceMethod q.1 ∈ tables_1
theorem lw_p0 : lw_okq (⟨"WindowsGive$Tape", "skipBlanks", "()V"⟩, 7) := ⟨⟨by decide +kernel, by decide +kernel⟩, List.mem_of_getElem? (i := 93) (by decide +kernel), List.mem_of_getElem? (i := 275) (by decide +kernel), List.mem_of_getElem? (i := 276) (by decide +kernel)⟩
theorem lw_p1 : lw_okq (⟨"WindowsGive$Tape", "cutOne", "()I"⟩, 7) := ⟨⟨by decide +kernel, by decide +kernel⟩, List.mem_of_getElem? (i := 93) (by decide +kernel), List.mem_of_getElem? (i := 279) (by decide +kernel), List.mem_of_getElem? (i := 280) (by decide +kernel)⟩
theorem lw_p2 : lw_okq (⟨"WindowsGive$Tape", "cutWord", "()I"⟩, 7) := ⟨⟨by decide +kernel, by decide +kernel⟩, List.mem_of_getElem? (i := 93) (by decide +kernel), List.mem_of_getElem? (i := 286) (by decide +kernel), List.mem_of_getElem? (i := 287) (by decide +kernel)⟩
theorem lw_p3 : lw_okq (⟨"WindowsGive$Tape", "stands", "(Ljava/lang/String;I)Z"⟩, 7) := ⟨⟨by decide +kernel, by decide +kernel⟩, List.mem_of_getElem? (i := 93) (by decide +kernel), List.mem_of_getElem? (i := 305) (by decide +kernel), List.mem_of_getElem? (i := 306) (by decide +kernel)⟩
theorem lw_p4 : lw_okq (⟨"WindowsGive$Tape", "cutNumber", "()I"⟩, 7) := ⟨⟨by decide +kernel, by decide +kernel⟩, List.mem_of_getElem? (i := 93) (by decide +kernel), List.mem_of_getElem? (i := 314) (by decide +kernel), List.mem_of_getElem? (i := 315) (by decide +kernel)⟩
theorem lw_p5 : lw_okq (⟨"WindowsGive$Reader", "readPart", "(LWindowsGive$Tape;II)V"⟩, 6) := ⟨⟨by decide +kernel, by decide +kernel⟩, List.mem_of_getElem? (i := 126) (by decide +kernel), List.mem_of_getElem? (i := 321) (by decide +kernel), List.mem_of_getElem? (i := 322) (by decide +kernel)⟩
theorem lw_p6 : lw_okq (⟨"WindowsGive$Reader", "expect", "(LWindowsGive$Tape;I)V"⟩, 6) := ⟨⟨by decide +kernel, by decide +kernel⟩, List.mem_of_getElem? (i := 126) (by decide +kernel), List.mem_of_getElem? (i := 325) (by decide +kernel), List.mem_of_getElem? (i := 326) (by decide +kernel)⟩
theorem lw_p7 : lw_okq (⟨"WindowsGive$Reader", "advance", "(LWindowsGive$Tape;)V"⟩, 6) := ⟨⟨by decide +kernel, by decide +kernel⟩, List.mem_of_getElem? (i := 126) (by decide +kernel), List.mem_of_getElem? (i := 329) (by decide +kernel), List.mem_of_getElem? (i := 330) (by decide +kernel)⟩
theorem lw_p8 : lw_okq (⟨"WindowsGive$Reader", "fail", "(LWindowsGive$Tape;)V"⟩, 6) := ⟨⟨by decide +kernel, by decide +kernel⟩, List.mem_of_getElem? (i := 126) (by decide +kernel), List.mem_of_getElem? (i := 333) (by decide +kernel), List.mem_of_getElem? (i := 334) (by decide +kernel)⟩
theorem lw_p9 : lw_okq (⟨"WindowsGive$Reader", "readOr", "(LWindowsGive$Tape;I)V"⟩, 6) := ⟨⟨by decide +kernel, by decide +kernel⟩, List.mem_of_getElem? (i := 126) (by decide +kernel), List.mem_of_getElem? (i := 337) (by decide +kernel), List.mem_of_getElem? (i := 338) (by decide +kernel)⟩
theorem lw_p10 : lw_okq (⟨"WindowsGive$Reader", "readAnd", "(LWindowsGive$Tape;I)V"⟩, 6) := ⟨⟨by decide +kernel, by decide +kernel⟩, List.mem_of_getElem? (i := 126) (by decide +kernel), List.mem_of_getElem? (i := 341) (by decide +kernel), List.mem_of_getElem? (i := 342) (by decide +kernel)⟩
theorem lw_p11 : lw_okq (⟨"WindowsGive$Reader", "readNot", "(LWindowsGive$Tape;I)V"⟩, 6) := ⟨⟨by decide +kernel, by decide +kernel⟩, List.mem_of_getElem? (i := 126) (by decide +kernel), List.mem_of_getElem? (i := 345) (by decide +kernel), List.mem_of_getElem? (i := 346) (by decide +kernel)⟩
theorem lw_p12 : lw_okq (⟨"WindowsGive$Reader", "emit", "(II)V"⟩, 6) := ⟨⟨by decide +kernel, by decide +kernel⟩, List.mem_of_getElem? (i := 126) (by decide +kernel), List.mem_of_getElem? (i := 349) (by decide +kernel), List.mem_of_getElem? (i := 350) (by decide +kernel)⟩
theorem lw_p13 : lw_okq (⟨"WindowsGive$Reader", "readSum", "(LWindowsGive$Tape;I)V"⟩, 6) := ⟨⟨by decide +kernel, by decide +kernel⟩, List.mem_of_getElem? (i := 126) (by decide +kernel), List.mem_of_getElem? (i := 353) (by decide +kernel), List.mem_of_getElem? (i := 354) (by decide +kernel)⟩
theorem lw_p14 : lw_okq (⟨"WindowsGive$Reader", "readTerm", "(LWindowsGive$Tape;I)V"⟩, 6) := ⟨⟨by decide +kernel, by decide +kernel⟩, List.mem_of_getElem? (i := 126) (by decide +kernel), List.mem_of_getElem? (i := 357) (by decide +kernel), List.mem_of_getElem? (i := 358) (by decide +kernel)⟩
theorem lw_p15 : lw_okq (⟨"WindowsGive$Reader", "readOne", "(LWindowsGive$Tape;I)V"⟩, 6) := ⟨⟨by decide +kernel, by decide +kernel⟩, List.mem_of_getElem? (i := 126) (by decide +kernel), List.mem_of_getElem? (i := 361) (by decide +kernel), List.mem_of_getElem? (i := 362) (by decide +kernel)⟩
def lw_privs_1 : List (MethodName × Nat) := [(⟨"WindowsGive$Tape", "skipBlanks", "()V"⟩, 7), (⟨"WindowsGive$Tape", "cutOne", "()I"⟩, 7), (⟨"WindowsGive$Tape", "cutWord", "()I"⟩, 7), (⟨"WindowsGive$Tape", "stands", "(Ljava/lang/String;I)Z"⟩, 7), (⟨"WindowsGive$Tape", "cutNumber", "()I"⟩, 7), (⟨"WindowsGive$Reader", "readPart", "(LWindowsGive$Tape;II)V"⟩, 6), (⟨"WindowsGive$Reader", "expect", "(LWindowsGive$Tape;I)V"⟩, 6), (⟨"WindowsGive$Reader", "advance", "(LWindowsGive$Tape;)V"⟩, 6), (⟨"WindowsGive$Reader", "fail", "(LWindowsGive$Tape;)V"⟩, 6), (⟨"WindowsGive$Reader", "readOr", "(LWindowsGive$Tape;I)V"⟩, 6), (⟨"WindowsGive$Reader", "readAnd", "(LWindowsGive$Tape;I)V"⟩, 6), (⟨"WindowsGive$Reader", "readNot", "(LWindowsGive$Tape;I)V"⟩, 6), (⟨"WindowsGive$Reader", "emit", "(II)V"⟩, 6), (⟨"WindowsGive$Reader", "readSum", "(LWindowsGive$Tape;I)V"⟩, 6), (⟨"WindowsGive$Reader", "readTerm", "(LWindowsGive$Tape;I)V"⟩, 6), (⟨"WindowsGive$Reader", "readOne", "(LWindowsGive$Tape;I)V"⟩, 6)]
theorem lw_r1 : ∀ q ∈ lw_privs_1, lw_okq q := List.forall_mem_cons.mpr ⟨lw_p0, List.forall_mem_cons.mpr ⟨lw_p1, List.forall_mem_cons.mpr ⟨lw_p2, List.forall_mem_cons.mpr ⟨lw_p3, List.forall_mem_cons.mpr ⟨lw_p4, List.forall_mem_cons.mpr ⟨lw_p5, List.forall_mem_cons.mpr ⟨lw_p6, List.forall_mem_cons.mpr ⟨lw_p7, List.forall_mem_cons.mpr ⟨lw_p8, List.forall_mem_cons.mpr ⟨lw_p9, List.forall_mem_cons.mpr ⟨lw_p10, List.forall_mem_cons.mpr ⟨lw_p11, List.forall_mem_cons.mpr ⟨lw_p12, List.forall_mem_cons.mpr ⟨lw_p13, List.forall_mem_cons.mpr ⟨lw_p14, List.forall_mem_cons.mpr ⟨lw_p15, fun _ h => absurd h List.not_mem_nil⟩⟩⟩⟩⟩⟩⟩⟩⟩⟩⟩⟩⟩⟩⟩⟩
theorem lw_p16 : lw_okq (⟨"WindowsGive$Pane", "lets", "(II)Z"⟩, 6) := ⟨⟨by decide +kernel, by decide +kernel⟩, List.mem_of_getElem? (i := 35) (by decide +kernel), List.mem_of_getElem? (i := 499) (by decide +kernel), List.mem_of_getElem? (i := 500) (by decide +kernel)⟩
theorem lw_p17 : lw_okq (⟨"WindowsGive$Walk", "nearest", "()I"⟩, 3) := ⟨⟨by decide +kernel, by decide +kernel⟩, List.mem_of_getElem? (i := 174) (by decide +kernel), List.mem_of_getElem? (i := 530) (by decide +kernel), List.mem_of_getElem? (i := 531) (by decide +kernel)⟩
theorem lw_p18 : lw_okq (⟨"WindowsGive$Walk", "leave", "(LWindowsGive$House;LWindowsGive$Rules;II)V"⟩, 3) := ⟨⟨by decide +kernel, by decide +kernel⟩, List.mem_of_getElem? (i := 174) (by decide +kernel), List.mem_of_getElem? (i := 534) (by decide +kernel), List.mem_of_getElem? (i := 535) (by decide +kernel)⟩
theorem lw_p19 : lw_okq (⟨"WindowsGive$Walk", "shorten", "(II)V"⟩, 3) := ⟨⟨by decide +kernel, by decide +kernel⟩, List.mem_of_getElem? (i := 174) (by decide +kernel), List.mem_of_getElem? (i := 538) (by decide +kernel), List.mem_of_getElem? (i := 539) (by decide +kernel)⟩
theorem lw_p20 : lw_okq (⟨"WindowsGive$Rules", "reckon", "(LWindowsGive$Text;I)I"⟩, 4) := ⟨⟨by decide +kernel, by decide +kernel⟩, List.mem_of_getElem? (i := 152) (by decide +kernel), List.mem_of_getElem? (i := 549) (by decide +kernel), List.mem_of_getElem? (i := 550) (by decide +kernel)⟩
theorem lw_p21 : lw_okq (⟨"WindowsGive$Rules", "nameOf", "(I)I"⟩, 4) := ⟨⟨by decide +kernel, by decide +kernel⟩, List.mem_of_getElem? (i := 152) (by decide +kernel), List.mem_of_getElem? (i := 561) (by decide +kernel), List.mem_of_getElem? (i := 562) (by decide +kernel)⟩
theorem lw_p22 : lw_okq (⟨"WindowsGive$Walk", "passAll", "(LWindowsGive$House;II)Z"⟩, 3) := ⟨⟨by decide +kernel, by decide +kernel⟩, List.mem_of_getElem? (i := 174) (by decide +kernel), List.mem_of_getElem? (i := 590) (by decide +kernel), List.mem_of_getElem? (i := 591) (by decide +kernel)⟩
theorem lw_p23 : lw_okq (⟨"WindowsGive", "fewestToBrick", "(III)I"⟩, 12) := ⟨⟨by decide +kernel, by decide +kernel⟩, List.mem_of_getElem? (i := 20) (by decide +kernel), List.mem_of_getElem? (i := 616) (by decide +kernel), List.mem_of_getElem? (i := 617) (by decide +kernel)⟩
theorem lw_p24 : lw_okq (⟨"WindowsGive", "neededAlone", "(III)I"⟩, 12) := ⟨⟨by decide +kernel, by decide +kernel⟩, List.mem_of_getElem? (i := 20) (by decide +kernel), List.mem_of_getElem? (i := 631) (by decide +kernel), List.mem_of_getElem? (i := 632) (by decide +kernel)⟩
theorem lw_p25 : lw_okq (⟨"WindowsGive", "refusalOfLook", "(IIIII)I"⟩, 12) := ⟨⟨by decide +kernel, by decide +kernel⟩, List.mem_of_getElem? (i := 20) (by decide +kernel), List.mem_of_getElem? (i := 639) (by decide +kernel), List.mem_of_getElem? (i := 640) (by decide +kernel)⟩
theorem lw_p26 : lw_okq (⟨"WindowsGive", "firstOther", "(LWindowsGive$Sheet;LWindowsGive$Pane;I)I"⟩, 12) := ⟨⟨by decide +kernel, by decide +kernel⟩, List.mem_of_getElem? (i := 20) (by decide +kernel), List.mem_of_getElem? (i := 650) (by decide +kernel), List.mem_of_getElem? (i := 651) (by decide +kernel)⟩
theorem lw_p27 : lw_okq (⟨"WindowsGive", "fittingShifts", "(LWindowsGive$Sheet;LWindowsGive$Pane;I)I"⟩, 12) := ⟨⟨by decide +kernel, by decide +kernel⟩, List.mem_of_getElem? (i := 20) (by decide +kernel), List.mem_of_getElem? (i := 661) (by decide +kernel), List.mem_of_getElem? (i := 662) (by decide +kernel)⟩
theorem lw_p28 : lw_okq (⟨"WindowsGive", "fittingKinds", "(LWindowsGive$Sheet;LWindowsGive$Pane;I)I"⟩, 12) := ⟨⟨by decide +kernel, by decide +kernel⟩, List.mem_of_getElem? (i := 20) (by decide +kernel), List.mem_of_getElem? (i := 669) (by decide +kernel), List.mem_of_getElem? (i := 670) (by decide +kernel)⟩
theorem lw_p29 : lw_okq (⟨"WindowsGive", "unlikeShown", "(LWindowsGive$Pane;II)I"⟩, 12) := ⟨⟨by decide +kernel, by decide +kernel⟩, List.mem_of_getElem? (i := 20) (by decide +kernel), List.mem_of_getElem? (i := 677) (by decide +kernel), List.mem_of_getElem? (i := 678) (by decide +kernel)⟩
theorem lw_p30 : lw_okq (⟨"WindowsGive", "flood", "(I[I)I"⟩, 12) := ⟨⟨by decide +kernel, by decide +kernel⟩, List.mem_of_getElem? (i := 20) (by decide +kernel), List.mem_of_getElem? (i := 698) (by decide +kernel), List.mem_of_getElem? (i := 699) (by decide +kernel)⟩
theorem lw_p31 : lw_okq (⟨"WindowsGive", "fillPrices", "(I)V"⟩, 12) := ⟨⟨by decide +kernel, by decide +kernel⟩, List.mem_of_getElem? (i := 20) (by decide +kernel), List.mem_of_getElem? (i := 713) (by decide +kernel), List.mem_of_getElem? (i := 714) (by decide +kernel)⟩
def lw_privs_2 : List (MethodName × Nat) := [(⟨"WindowsGive$Pane", "lets", "(II)Z"⟩, 6), (⟨"WindowsGive$Walk", "nearest", "()I"⟩, 3), (⟨"WindowsGive$Walk", "leave", "(LWindowsGive$House;LWindowsGive$Rules;II)V"⟩, 3), (⟨"WindowsGive$Walk", "shorten", "(II)V"⟩, 3), (⟨"WindowsGive$Rules", "reckon", "(LWindowsGive$Text;I)I"⟩, 4), (⟨"WindowsGive$Rules", "nameOf", "(I)I"⟩, 4), (⟨"WindowsGive$Walk", "passAll", "(LWindowsGive$House;II)Z"⟩, 3), (⟨"WindowsGive", "fewestToBrick", "(III)I"⟩, 12), (⟨"WindowsGive", "neededAlone", "(III)I"⟩, 12), (⟨"WindowsGive", "refusalOfLook", "(IIIII)I"⟩, 12), (⟨"WindowsGive", "firstOther", "(LWindowsGive$Sheet;LWindowsGive$Pane;I)I"⟩, 12), (⟨"WindowsGive", "fittingShifts", "(LWindowsGive$Sheet;LWindowsGive$Pane;I)I"⟩, 12), (⟨"WindowsGive", "fittingKinds", "(LWindowsGive$Sheet;LWindowsGive$Pane;I)I"⟩, 12), (⟨"WindowsGive", "unlikeShown", "(LWindowsGive$Pane;II)I"⟩, 12), (⟨"WindowsGive", "flood", "(I[I)I"⟩, 12), (⟨"WindowsGive", "fillPrices", "(I)V"⟩, 12)]
theorem lw_r2 : ∀ q ∈ lw_privs_2, lw_okq q := List.forall_mem_cons.mpr ⟨lw_p16, List.forall_mem_cons.mpr ⟨lw_p17, List.forall_mem_cons.mpr ⟨lw_p18, List.forall_mem_cons.mpr ⟨lw_p19, List.forall_mem_cons.mpr ⟨lw_p20, List.forall_mem_cons.mpr ⟨lw_p21, List.forall_mem_cons.mpr ⟨lw_p22, List.forall_mem_cons.mpr ⟨lw_p23, List.forall_mem_cons.mpr ⟨lw_p24, List.forall_mem_cons.mpr ⟨lw_p25, List.forall_mem_cons.mpr ⟨lw_p26, List.forall_mem_cons.mpr ⟨lw_p27, List.forall_mem_cons.mpr ⟨lw_p28, List.forall_mem_cons.mpr ⟨lw_p29, List.forall_mem_cons.mpr ⟨lw_p30, List.forall_mem_cons.mpr ⟨lw_p31, fun _ h => absurd h List.not_mem_nil⟩⟩⟩⟩⟩⟩⟩⟩⟩⟩⟩⟩⟩⟩⟩⟩
theorem lw_p32 : lw_okq (⟨"WindowsGive", "priceTogether", "(I)I"⟩, 12) := ⟨⟨by decide +kernel, by decide +kernel⟩, List.mem_of_getElem? (i := 20) (by decide +kernel), List.mem_of_getElem? (i := 717) (by decide +kernel), List.mem_of_getElem? (i := 718) (by decide +kernel)⟩
theorem lw_p33 : lw_okq (⟨"WindowsGive", "drawnWater", "(II)I"⟩, 12) := ⟨⟨by decide +kernel, by decide +kernel⟩, List.mem_of_getElem? (i := 20) (by decide +kernel), List.mem_of_getElem? (i := 731) (by decide +kernel), List.mem_of_getElem? (i := 732) (by decide +kernel)⟩
theorem lw_p34 : lw_okq (⟨"WindowsGiveModel", "spell", "(IIIIIIIII)V"⟩, 44) := ⟨⟨by decide +kernel, by decide +kernel⟩, List.mem_of_getElem? (i := 805) (by decide +kernel), List.mem_of_getElem? (i := 811) (by decide +kernel), List.mem_of_getElem? (i := 812) (by decide +kernel)⟩
theorem lw_p35 : lw_okq (⟨"WindowsGiveModel", "isPane", "(I)Z"⟩, 44) := ⟨⟨by decide +kernel, by decide +kernel⟩, List.mem_of_getElem? (i := 805) (by decide +kernel), List.mem_of_getElem? (i := 960) (by decide +kernel), List.mem_of_getElem? (i := 961) (by decide +kernel)⟩
theorem lw_p36 : lw_okq (⟨"WindowsGiveModel", "leads", "(I)I"⟩, 44) := ⟨⟨by decide +kernel, by decide +kernel⟩, List.mem_of_getElem? (i := 805) (by decide +kernel), List.mem_of_getElem? (i := 972) (by decide +kernel), List.mem_of_getElem? (i := 973) (by decide +kernel)⟩
theorem lw_p37 : lw_okq (⟨"WindowsGiveModel", "on", "(II)I"⟩, 44) := ⟨⟨by decide +kernel, by decide +kernel⟩, List.mem_of_getElem? (i := 805) (by decide +kernel), List.mem_of_getElem? (i := 994) (by decide +kernel), List.mem_of_getElem? (i := 995) (by decide +kernel)⟩
theorem lw_p38 : lw_okq (⟨"WindowsGiveModel", "passes", "(III)Z"⟩, 44) := ⟨⟨by decide +kernel, by decide +kernel⟩, List.mem_of_getElem? (i := 805) (by decide +kernel), List.mem_of_getElem? (i := 998) (by decide +kernel), List.mem_of_getElem? (i := 999) (by decide +kernel)⟩
theorem lw_p39 : lw_okq (⟨"WindowsGiveModel", "read", "(II)I"⟩, 44) := ⟨⟨by decide +kernel, by decide +kernel⟩, List.mem_of_getElem? (i := 805) (by decide +kernel), List.mem_of_getElem? (i := 1011) (by decide +kernel), List.mem_of_getElem? (i := 1012) (by decide +kernel)⟩
theorem lw_p40 : lw_okq (⟨"WindowsGiveModel", "next", "()V"⟩, 44) := ⟨⟨by decide +kernel, by decide +kernel⟩, List.mem_of_getElem? (i := 805) (by decide +kernel), List.mem_of_getElem? (i := 1015) (by decide +kernel), List.mem_of_getElem? (i := 1016) (by decide +kernel)⟩
theorem lw_p41 : lw_okq (⟨"WindowsGiveModel", "byteAt", "(I)I"⟩, 44) := ⟨⟨by decide +kernel, by decide +kernel⟩, List.mem_of_getElem? (i := 805) (by decide +kernel), List.mem_of_getElem? (i := 1019) (by decide +kernel), List.mem_of_getElem? (i := 1020) (by decide +kernel)⟩
theorem lw_p42 : lw_okq (⟨"WindowsGiveModel", "isWord", "(IIIIIIII)Z"⟩, 44) := ⟨⟨by decide +kernel, by decide +kernel⟩, List.mem_of_getElem? (i := 805) (by decide +kernel), List.mem_of_getElem? (i := 1028) (by decide +kernel), List.mem_of_getElem? (i := 1029) (by decide +kernel)⟩
theorem lw_p43 : lw_okq (⟨"WindowsGiveModel", "isLetter", "(II)Z"⟩, 44) := ⟨⟨by decide +kernel, by decide +kernel⟩, List.mem_of_getElem? (i := 805) (by decide +kernel), List.mem_of_getElem? (i := 1032) (by decide +kernel), List.mem_of_getElem? (i := 1033) (by decide +kernel)⟩
theorem lw_p44 : lw_okq (⟨"WindowsGiveModel", "part", "(Z)I"⟩, 44) := ⟨⟨by decide +kernel, by decide +kernel⟩, List.mem_of_getElem? (i := 805) (by decide +kernel), List.mem_of_getElem? (i := 1036) (by decide +kernel), List.mem_of_getElem? (i := 1037) (by decide +kernel)⟩
theorem lw_p45 : lw_okq (⟨"WindowsGiveModel", "fail", "()V"⟩, 44) := ⟨⟨by decide +kernel, by decide +kernel⟩, List.mem_of_getElem? (i := 805) (by decide +kernel), List.mem_of_getElem? (i := 1040) (by decide +kernel), List.mem_of_getElem? (i := 1041) (by decide +kernel)⟩
theorem lw_p46 : lw_okq (⟨"WindowsGiveModel", "either", "()I"⟩, 44) := ⟨⟨by decide +kernel, by decide +kernel⟩, List.mem_of_getElem? (i := 805) (by decide +kernel), List.mem_of_getElem? (i := 1044) (by decide +kernel), List.mem_of_getElem? (i := 1045) (by decide +kernel)⟩
theorem lw_p47 : lw_okq (⟨"WindowsGiveModel", "both", "()I"⟩, 44) := ⟨⟨by decide +kernel, by decide +kernel⟩, List.mem_of_getElem? (i := 805) (by decide +kernel), List.mem_of_getElem? (i := 1048) (by decide +kernel), List.mem_of_getElem? (i := 1049) (by decide +kernel)⟩
def lw_privs_3 : List (MethodName × Nat) := [(⟨"WindowsGive", "priceTogether", "(I)I"⟩, 12), (⟨"WindowsGive", "drawnWater", "(II)I"⟩, 12), (⟨"WindowsGiveModel", "spell", "(IIIIIIIII)V"⟩, 44), (⟨"WindowsGiveModel", "isPane", "(I)Z"⟩, 44), (⟨"WindowsGiveModel", "leads", "(I)I"⟩, 44), (⟨"WindowsGiveModel", "on", "(II)I"⟩, 44), (⟨"WindowsGiveModel", "passes", "(III)Z"⟩, 44), (⟨"WindowsGiveModel", "read", "(II)I"⟩, 44), (⟨"WindowsGiveModel", "next", "()V"⟩, 44), (⟨"WindowsGiveModel", "byteAt", "(I)I"⟩, 44), (⟨"WindowsGiveModel", "isWord", "(IIIIIIII)Z"⟩, 44), (⟨"WindowsGiveModel", "isLetter", "(II)Z"⟩, 44), (⟨"WindowsGiveModel", "part", "(Z)I"⟩, 44), (⟨"WindowsGiveModel", "fail", "()V"⟩, 44), (⟨"WindowsGiveModel", "either", "()I"⟩, 44), (⟨"WindowsGiveModel", "both", "()I"⟩, 44)]
theorem lw_r3 : ∀ q ∈ lw_privs_3, lw_okq q := List.forall_mem_cons.mpr ⟨lw_p32, List.forall_mem_cons.mpr ⟨lw_p33, List.forall_mem_cons.mpr ⟨lw_p34, List.forall_mem_cons.mpr ⟨lw_p35, List.forall_mem_cons.mpr ⟨lw_p36, List.forall_mem_cons.mpr ⟨lw_p37, List.forall_mem_cons.mpr ⟨lw_p38, List.forall_mem_cons.mpr ⟨lw_p39, List.forall_mem_cons.mpr ⟨lw_p40, List.forall_mem_cons.mpr ⟨lw_p41, List.forall_mem_cons.mpr ⟨lw_p42, List.forall_mem_cons.mpr ⟨lw_p43, List.forall_mem_cons.mpr ⟨lw_p44, List.forall_mem_cons.mpr ⟨lw_p45, List.forall_mem_cons.mpr ⟨lw_p46, List.forall_mem_cons.mpr ⟨lw_p47, fun _ h => absurd h List.not_mem_nil⟩⟩⟩⟩⟩⟩⟩⟩⟩⟩⟩⟩⟩⟩⟩⟩
theorem lw_p48 : lw_okq (⟨"WindowsGiveModel", "not", "()I"⟩, 44) := ⟨⟨by decide +kernel, by decide +kernel⟩, List.mem_of_getElem? (i := 805) (by decide +kernel), List.mem_of_getElem? (i := 1052) (by decide +kernel), List.mem_of_getElem? (i := 1053) (by decide +kernel)⟩
theorem lw_p49 : lw_okq (⟨"WindowsGiveModel", "opens", "()Z"⟩, 44) := ⟨⟨by decide +kernel, by decide +kernel⟩, List.mem_of_getElem? (i := 805) (by decide +kernel), List.mem_of_getElem? (i := 1056) (by decide +kernel), List.mem_of_getElem? (i := 1057) (by decide +kernel)⟩
theorem lw_p50 : lw_okq (⟨"WindowsGiveModel", "added", "()I"⟩, 44) := ⟨⟨by decide +kernel, by decide +kernel⟩, List.mem_of_getElem? (i := 805) (by decide +kernel), List.mem_of_getElem? (i := 1060) (by decide +kernel), List.mem_of_getElem? (i := 1061) (by decide +kernel)⟩
theorem lw_p51 : lw_okq (⟨"WindowsGiveModel", "term", "()I"⟩, 44) := ⟨⟨by decide +kernel, by decide +kernel⟩, List.mem_of_getElem? (i := 805) (by decide +kernel), List.mem_of_getElem? (i := 1064) (by decide +kernel), List.mem_of_getElem? (i := 1065) (by decide +kernel)⟩
theorem lw_p52 : lw_okq (⟨"WindowsGiveModel", "atom", "()I"⟩, 44) := ⟨⟨by decide +kernel, by decide +kernel⟩, List.mem_of_getElem? (i := 805) (by decide +kernel), List.mem_of_getElem? (i := 1068) (by decide +kernel), List.mem_of_getElem? (i := 1069) (by decide +kernel)⟩
theorem lw_p53 : lw_okq (⟨"WindowsGiveModel", "isSign", "(I)Z"⟩, 44) := ⟨⟨by decide +kernel, by decide +kernel⟩, List.mem_of_getElem? (i := 805) (by decide +kernel), List.mem_of_getElem? (i := 1072) (by decide +kernel), List.mem_of_getElem? (i := 1073) (by decide +kernel)⟩
theorem lw_p54 : lw_okq (⟨"WindowsGiveModel", "name", "()I"⟩, 44) := ⟨⟨by decide +kernel, by decide +kernel⟩, List.mem_of_getElem? (i := 805) (by decide +kernel), List.mem_of_getElem? (i := 1076) (by decide +kernel), List.mem_of_getElem? (i := 1077) (by decide +kernel)⟩
theorem lw_p55 : lw_okq (⟨"WindowsGiveModel", "spreads", "(IIZ)V"⟩, 44) := ⟨⟨by decide +kernel, by decide +kernel⟩, List.mem_of_getElem? (i := 805) (by decide +kernel), List.mem_of_getElem? (i := 1094) (by decide +kernel), List.mem_of_getElem? (i := 1095) (by decide +kernel)⟩
theorem lw_p56 : lw_okq (⟨"WindowsGiveModel", "says", "(III)I"⟩, 44) := ⟨⟨by decide +kernel, by decide +kernel⟩, List.mem_of_getElem? (i := 805) (by decide +kernel), List.mem_of_getElem? (i := 1098) (by decide +kernel), List.mem_of_getElem? (i := 1099) (by decide +kernel)⟩
theorem lw_p57 : lw_okq (⟨"WindowsGiveModel", "goesOn", "(IIZ)Z"⟩, 44) := ⟨⟨by decide +kernel, by decide +kernel⟩, List.mem_of_getElem? (i := 805) (by decide +kernel), List.mem_of_getElem? (i := 1106) (by decide +kernel), List.mem_of_getElem? (i := 1107) (by decide +kernel)⟩
theorem lw_p58 : lw_okq (⟨"WindowsGiveModel", "eases", "(II)Z"⟩, 44) := ⟨⟨by decide +kernel, by decide +kernel⟩, List.mem_of_getElem? (i := 805) (by decide +kernel), List.mem_of_getElem? (i := 1110) (by decide +kernel), List.mem_of_getElem? (i := 1111) (by decide +kernel)⟩
theorem lw_p59 : lw_okq (⟨"WindowsGiveModel", "comesBut", "(IIII)Z"⟩, 44) := ⟨⟨by decide +kernel, by decide +kernel⟩, List.mem_of_getElem? (i := 805) (by decide +kernel), List.mem_of_getElem? (i := 1134) (by decide +kernel), List.mem_of_getElem? (i := 1135) (by decide +kernel)⟩
theorem lw_p60 : lw_okq (⟨"WindowsGiveModel", "seenBad", "(III)I"⟩, 44) := ⟨⟨by decide +kernel, by decide +kernel⟩, List.mem_of_getElem? (i := 805) (by decide +kernel), List.mem_of_getElem? (i := 1145) (by decide +kernel), List.mem_of_getElem? (i := 1146) (by decide +kernel)⟩
theorem lw_p61 : lw_okq (⟨"WindowsGiveModel", "wrongAt", "(III)I"⟩, 44) := ⟨⟨by decide +kernel, by decide +kernel⟩, List.mem_of_getElem? (i := 805) (by decide +kernel), List.mem_of_getElem? (i := 1153) (by decide +kernel), List.mem_of_getElem? (i := 1154) (by decide +kernel)⟩
theorem lw_p62 : lw_okq (⟨"WindowsGiveModel", "shows", "(II)I"⟩, 44) := ⟨⟨by decide +kernel, by decide +kernel⟩, List.mem_of_getElem? (i := 805) (by decide +kernel), List.mem_of_getElem? (i := 1157) (by decide +kernel), List.mem_of_getElem? (i := 1158) (by decide +kernel)⟩
theorem lw_p63 : lw_okq (⟨"WindowsGiveModel", "shiftsOf", "(III)I"⟩, 44) := ⟨⟨by decide +kernel, by decide +kernel⟩, List.mem_of_getElem? (i := 805) (by decide +kernel), List.mem_of_getElem? (i := 1161) (by decide +kernel), List.mem_of_getElem? (i := 1162) (by decide +kernel)⟩
def lw_privs_4 : List (MethodName × Nat) := [(⟨"WindowsGiveModel", "not", "()I"⟩, 44), (⟨"WindowsGiveModel", "opens", "()Z"⟩, 44), (⟨"WindowsGiveModel", "added", "()I"⟩, 44), (⟨"WindowsGiveModel", "term", "()I"⟩, 44), (⟨"WindowsGiveModel", "atom", "()I"⟩, 44), (⟨"WindowsGiveModel", "isSign", "(I)Z"⟩, 44), (⟨"WindowsGiveModel", "name", "()I"⟩, 44), (⟨"WindowsGiveModel", "spreads", "(IIZ)V"⟩, 44), (⟨"WindowsGiveModel", "says", "(III)I"⟩, 44), (⟨"WindowsGiveModel", "goesOn", "(IIZ)Z"⟩, 44), (⟨"WindowsGiveModel", "eases", "(II)Z"⟩, 44), (⟨"WindowsGiveModel", "comesBut", "(IIII)Z"⟩, 44), (⟨"WindowsGiveModel", "seenBad", "(III)I"⟩, 44), (⟨"WindowsGiveModel", "wrongAt", "(III)I"⟩, 44), (⟨"WindowsGiveModel", "shows", "(II)I"⟩, 44), (⟨"WindowsGiveModel", "shiftsOf", "(III)I"⟩, 44)]
theorem lw_r4 : ∀ q ∈ lw_privs_4, lw_okq q := List.forall_mem_cons.mpr ⟨lw_p48, List.forall_mem_cons.mpr ⟨lw_p49, List.forall_mem_cons.mpr ⟨lw_p50, List.forall_mem_cons.mpr ⟨lw_p51, List.forall_mem_cons.mpr ⟨lw_p52, List.forall_mem_cons.mpr ⟨lw_p53, List.forall_mem_cons.mpr ⟨lw_p54, List.forall_mem_cons.mpr ⟨lw_p55, List.forall_mem_cons.mpr ⟨lw_p56, List.forall_mem_cons.mpr ⟨lw_p57, List.forall_mem_cons.mpr ⟨lw_p58, List.forall_mem_cons.mpr ⟨lw_p59, List.forall_mem_cons.mpr ⟨lw_p60, List.forall_mem_cons.mpr ⟨lw_p61, List.forall_mem_cons.mpr ⟨lw_p62, List.forall_mem_cons.mpr ⟨lw_p63, fun _ h => absurd h List.not_mem_nil⟩⟩⟩⟩⟩⟩⟩⟩⟩⟩⟩⟩⟩⟩⟩⟩
theorem lw_p64 : lw_okq (⟨"WindowsGiveModel", "unlikeOn", "(III)I"⟩, 44) := ⟨⟨by decide +kernel, by decide +kernel⟩, List.mem_of_getElem? (i := 805) (by decide +kernel), List.mem_of_getElem? (i := 1169) (by decide +kernel), List.mem_of_getElem? (i := 1170) (by decide +kernel)⟩
theorem lw_p65 : lw_okq (⟨"WindowsGiveModel", "rains", "(I)V"⟩, 44) := ⟨⟨by decide +kernel, by decide +kernel⟩, List.mem_of_getElem? (i := 805) (by decide +kernel), List.mem_of_getElem? (i := 1186) (by decide +kernel), List.mem_of_getElem? (i := 1187) (by decide +kernel)⟩
theorem lw_p66 : lw_okq (⟨"WindowsGiveModel", "wetAll", "()I"⟩, 44) := ⟨⟨by decide +kernel, by decide +kernel⟩, List.mem_of_getElem? (i := 805) (by decide +kernel), List.mem_of_getElem? (i := 1194) (by decide +kernel), List.mem_of_getElem? (i := 1195) (by decide +kernel)⟩
theorem lw_p67 : lw_okq (⟨"WindowsGiveModel", "viewsFrom", "(IIIII)V"⟩, 44) := ⟨⟨by decide +kernel, by decide +kernel⟩, List.mem_of_getElem? (i := 805) (by decide +kernel), List.mem_of_getElem? (i := 1202) (by decide +kernel), List.mem_of_getElem? (i := 1203) (by decide +kernel)⟩
theorem lw_p68 : lw_okq (⟨"WindowsGiveModel", "draws", "(II)I"⟩, 44) := ⟨⟨by decide +kernel, by decide +kernel⟩, List.mem_of_getElem? (i := 805) (by decide +kernel), List.mem_of_getElem? (i := 1210) (by decide +kernel), List.mem_of_getElem? (i := 1211) (by decide +kernel)⟩
def lw_privs_5 : List (MethodName × Nat) := [(⟨"WindowsGiveModel", "unlikeOn", "(III)I"⟩, 44), (⟨"WindowsGiveModel", "rains", "(I)V"⟩, 44), (⟨"WindowsGiveModel", "wetAll", "()I"⟩, 44), (⟨"WindowsGiveModel", "viewsFrom", "(IIIII)V"⟩, 44), (⟨"WindowsGiveModel", "draws", "(II)I"⟩, 44)]
theorem lw_r5 : ∀ q ∈ lw_privs_5, lw_okq q := List.forall_mem_cons.mpr ⟨lw_p64, List.forall_mem_cons.mpr ⟨lw_p65, List.forall_mem_cons.mpr ⟨lw_p66, List.forall_mem_cons.mpr ⟨lw_p67, List.forall_mem_cons.mpr ⟨lw_p68, fun _ h => absurd h List.not_mem_nil⟩⟩⟩⟩⟩
def lw_privs : List (MethodName × Nat) := lw_privs_1 ++ (lw_privs_2 ++ (lw_privs_3 ++ (lw_privs_4 ++ (lw_privs_5))))
def lw_tbl : List Cond := k2_sels lw_privs ++ tables_1
theorem lw_privs_ok : ∀ q ∈ lw_privs, lw_okq q := by
  show ∀ q ∈ lw_privs_1 ++ (lw_privs_2 ++ (lw_privs_3 ++ (lw_privs_4 ++ (lw_privs_5)))), lw_okq q
  exact List.forall_mem_append.mpr ⟨lw_r1, List.forall_mem_append.mpr ⟨lw_r2, List.forall_mem_append.mpr ⟨lw_r3, List.forall_mem_append.mpr ⟨lw_r4, lw_r5⟩⟩⟩⟩
end
section
def RX0 : String := "WindowsGive$House"
def TX0 : u_T := fun k => match k with
  | 0 => ("WindowsGive$House", "sky", "[I", true)
  | 1 => ("WindowsGive$House", "panes", "[LWindowsGive$Pane;", true)
  | 2 => ("WindowsGive$House", "size", "I", false)
  | _ => ("WindowsGive$House", "rule", "I", false)
def tyX0 : Nat → FieldType := fun k => match k with
  | 0 => .array .int
  | 1 => .array (.object "WindowsGive$Pane")
  | 2 => .int
  | _ => .int
abbrev wsX00 : List Cond := u_ws RX0 TX0 4
theorem nmX0 : ∀ a, a < 4 → ∀ b, b < 4 → a ≠ b → (TX0 a).2.1 ≠ (TX0 b).2.1 := by decide +kernel
theorem tyX0_ok : ∀ k, k < 4 → parseFieldDescriptor (TX0 k).2.2.1 = some (tyX0 k) := by decide +kernel
abbrev cX0_init : ByteArray := prog_2_method_1_code
def yX0_init : MethodName := ⟨RX0, "<init>", "()V"⟩
abbrev cX0_has : ByteArray := prog_2_method_2_code
def yX0_has : MethodName := ⟨RX0, "has", "(I)Z"⟩
abbrev cX0_become : ByteArray := prog_2_method_3_code
def yX0_become : MethodName := ⟨RX0, "become", "(LWindowsGive$House;)V"⟩
abbrev cX0_shows : ByteArray := prog_2_method_4_code
def yX0_shows : MethodName := ⟨RX0, "shows", "(LWindowsGive$Pane;I)I"⟩
abbrev cX0_weatherTogether : ByteArray := prog_2_method_5_code
def yX0_weatherTogether : MethodName := ⟨RX0, "weatherTogether", "()I"⟩
def RX1 : String := "WindowsGive$Pane"
def TX1 : u_T := fun k => match k with
  | 0 => ("WindowsGive$Pane", "window", "I", true)
  | 1 => ("WindowsGive$Pane", "kind", "I", false)
  | 2 => ("WindowsGive$Pane", "number", "I", false)
  | 3 => ("WindowsGive$Pane", "shift", "I", false)
  | 4 => ("WindowsGive$Pane", "room", "I", false)
  | _ => ("WindowsGive$Pane", "into", "I", false)
def tyX1 : Nat → FieldType := fun k => match k with
  | 0 => .int
  | 1 => .int
  | 2 => .int
  | 3 => .int
  | 4 => .int
  | _ => .int
abbrev wsX10 : List Cond := u_ws RX1 TX1 6
theorem nmX1 : ∀ a, a < 6 → ∀ b, b < 6 → a ≠ b → (TX1 a).2.1 ≠ (TX1 b).2.1 := by decide +kernel
theorem tyX1_ok : ∀ k, k < 6 → parseFieldDescriptor (TX1 k).2.2.1 = some (tyX1 k) := by decide +kernel
abbrev cX1_init : ByteArray := prog_3_method_1_code
def yX1_init : MethodName := ⟨RX1, "<init>", "(I)V"⟩
abbrev cX1_become : ByteArray := prog_3_method_2_code
def yX1_become : MethodName := ⟨RX1, "become", "(LWindowsGive$Pane;)V"⟩
abbrev cX1_change : ByteArray := prog_3_method_3_code
def yX1_change : MethodName := ⟨RX1, "change", "(II)V"⟩
abbrev cX1_tell : ByteArray := prog_3_method_4_code
def yX1_tell : MethodName := ⟨RX1, "tell", "(I)I"⟩
abbrev cX1_on : ByteArray := prog_3_method_5_code
def yX1_on : MethodName := ⟨RX1, "on", "(I)I"⟩
abbrev cX1_passes : ByteArray := prog_3_method_6_code
def yX1_passes : MethodName := ⟨RX1, "passes", "(II)Z"⟩
abbrev cX1_lets : ByteArray := prog_3_method_7_code
def yX1_lets : MethodName := ⟨RX1, "lets", "(II)Z"⟩
abbrev cX1_leads : ByteArray := prog_3_method_8_code
def yX1_leads : MethodName := ⟨RX1, "leads", "()I"⟩
abbrev cX1_firstOut : ByteArray := prog_3_method_9_code
def yX1_firstOut : MethodName := ⟨RX1, "firstOut", "(II)I"⟩
def RX2 : String := "WindowsGive$Reader"
def TX2 : u_T := fun k => match k with
  | 0 => ("WindowsGive$Reader", "fault", "I", false)
  | 1 => ("WindowsGive$Reader", "at", "I", false)
  | 2 => ("WindowsGive$Reader", "token", "I", false)
  | 3 => ("WindowsGive$Reader", "length", "I", false)
  | 4 => ("WindowsGive$Reader", "code", "[I", true)
  | _ => ("WindowsGive$Reader", "ends", "[I", true)
def tyX2 : Nat → FieldType := fun k => match k with
  | 0 => .int
  | 1 => .int
  | 2 => .int
  | 3 => .int
  | 4 => .array .int
  | _ => .array .int
abbrev wsX20 : List Cond := u_ws RX2 TX2 6
theorem nmX2 : ∀ a, a < 6 → ∀ b, b < 6 → a ≠ b → (TX2 a).2.1 ≠ (TX2 b).2.1 := by decide +kernel
theorem tyX2_ok : ∀ k, k < 6 → parseFieldDescriptor (TX2 k).2.2.1 = some (tyX2 k) := by decide +kernel
abbrev cX2_init : ByteArray := prog_4_method_1_code
def yX2_init : MethodName := ⟨RX2, "<init>", "()V"⟩
abbrev cX2_read : ByteArray := prog_4_method_2_code
def yX2_read : MethodName := ⟨RX2, "read", "(LWindowsGive$Tape;)LWindowsGive$Text;"⟩
abbrev cX2_readPart : ByteArray := prog_4_method_3_code
def yX2_readPart : MethodName := ⟨RX2, "readPart", "(LWindowsGive$Tape;II)V"⟩
abbrev cX2_readOr : ByteArray := prog_4_method_4_code
def yX2_readOr : MethodName := ⟨RX2, "readOr", "(LWindowsGive$Tape;I)V"⟩
abbrev cX2_readAnd : ByteArray := prog_4_method_5_code
def yX2_readAnd : MethodName := ⟨RX2, "readAnd", "(LWindowsGive$Tape;I)V"⟩
abbrev cX2_readNot : ByteArray := prog_4_method_6_code
def yX2_readNot : MethodName := ⟨RX2, "readNot", "(LWindowsGive$Tape;I)V"⟩
abbrev cX2_readSum : ByteArray := prog_4_method_7_code
def yX2_readSum : MethodName := ⟨RX2, "readSum", "(LWindowsGive$Tape;I)V"⟩
abbrev cX2_readTerm : ByteArray := prog_4_method_8_code
def yX2_readTerm : MethodName := ⟨RX2, "readTerm", "(LWindowsGive$Tape;I)V"⟩
abbrev cX2_readOne : ByteArray := prog_4_method_9_code
def yX2_readOne : MethodName := ⟨RX2, "readOne", "(LWindowsGive$Tape;I)V"⟩
abbrev cX2_expect : ByteArray := prog_4_method_10_code
def yX2_expect : MethodName := ⟨RX2, "expect", "(LWindowsGive$Tape;I)V"⟩
abbrev cX2_advance : ByteArray := prog_4_method_11_code
def yX2_advance : MethodName := ⟨RX2, "advance", "(LWindowsGive$Tape;)V"⟩
abbrev cX2_fail : ByteArray := prog_4_method_12_code
def yX2_fail : MethodName := ⟨RX2, "fail", "(LWindowsGive$Tape;)V"⟩
abbrev cX2_emit : ByteArray := prog_4_method_13_code
def yX2_emit : MethodName := ⟨RX2, "emit", "(II)V"⟩
def RX3 : String := "WindowsGive$Rules"
def TX3 : u_T := fun k => match k with
  | 0 => ("WindowsGive$Rules", "texts", "[LWindowsGive$Text;", true)
  | 1 => ("WindowsGive$Rules", "size", "I", false)
  | 2 => ("WindowsGive$Rules", "names", "[I", true)
  | _ => ("WindowsGive$Rules", "stack", "[I", true)
def tyX3 : Nat → FieldType := fun k => match k with
  | 0 => .array (.object "WindowsGive$Text")
  | 1 => .int
  | 2 => .array .int
  | _ => .array .int
abbrev wsX30 : List Cond := u_ws RX3 TX3 4
theorem nmX3 : ∀ a, a < 4 → ∀ b, b < 4 → a ≠ b → (TX3 a).2.1 ≠ (TX3 b).2.1 := by decide +kernel
theorem tyX3_ok : ∀ k, k < 4 → parseFieldDescriptor (TX3 k).2.2.1 = some (tyX3 k) := by decide +kernel
abbrev cX3_init : ByteArray := prog_5_method_1_code
def yX3_init : MethodName := ⟨RX3, "<init>", "()V"⟩
abbrev cX3_add : ByteArray := prog_5_method_2_code
def yX3_add : MethodName := ⟨RX3, "add", "(LWindowsGive$Text;)I"⟩
abbrev cX3_worth : ByteArray := prog_5_method_3_code
def yX3_worth : MethodName := ⟨RX3, "worth", "(IILWindowsGive$Pane;I[I)I"⟩
abbrev cX3_reckon : ByteArray := prog_5_method_4_code
def yX3_reckon : MethodName := ⟨RX3, "reckon", "(LWindowsGive$Text;I)I"⟩
abbrev cX3_nameOf : ByteArray := prog_5_method_5_code
def yX3_nameOf : MethodName := ⟨RX3, "nameOf", "(I)I"⟩
abbrev cX3_joined : ByteArray := prog_5_method_6_code
def yX3_joined : MethodName := ⟨RX3, "joined", "(III)I"⟩
abbrev cX3_truth : ByteArray := prog_5_method_7_code
def yX3_truth : MethodName := ⟨RX3, "truth", "(Z)I"⟩
def RX4 : String := "WindowsGive$Sheet"
def TX4 : u_T := fun k => match k with
  | 0 => ("WindowsGive$Sheet", "items", "[I", true)
  | 1 => ("WindowsGive$Sheet", "sort", "I", false)
  | _ => ("WindowsGive$Sheet", "size", "I", false)
def tyX4 : Nat → FieldType := fun k => match k with
  | 0 => .array .int
  | 1 => .int
  | _ => .int
abbrev wsX40 : List Cond := u_ws RX4 TX4 3
theorem nmX4 : ∀ a, a < 3 → ∀ b, b < 3 → a ≠ b → (TX4 a).2.1 ≠ (TX4 b).2.1 := by decide +kernel
theorem tyX4_ok : ∀ k, k < 3 → parseFieldDescriptor (TX4 k).2.2.1 = some (tyX4 k) := by decide +kernel
abbrev cX4_init : ByteArray := prog_6_method_1_code
def yX4_init : MethodName := ⟨RX4, "<init>", "()V"⟩
abbrev cX4_isMissing : ByteArray := prog_6_method_2_code
def yX4_isMissing : MethodName := ⟨RX4, "isMissing", "()Z"⟩
abbrev cX4_has : ByteArray := prog_6_method_3_code
def yX4_has : MethodName := ⟨RX4, "has", "(I)Z"⟩
abbrev cX4_hasRun : ByteArray := prog_6_method_4_code
def yX4_hasRun : MethodName := ⟨RX4, "hasRun", "(II)Z"⟩
abbrev cX4_become : ByteArray := prog_6_method_5_code
def yX4_become : MethodName := ⟨RX4, "become", "(II)V"⟩
abbrev cX4_put : ByteArray := prog_6_method_6_code
def yX4_put : MethodName := ⟨RX4, "put", "(II)V"⟩
def RX5 : String := "WindowsGive$Tape"
def TX5 : u_T := fun k => match k with
  | 0 => ("WindowsGive$Tape", "bytes", "[I", true)
  | 1 => ("WindowsGive$Tape", "size", "I", false)
  | 2 => ("WindowsGive$Tape", "at", "I", false)
  | 3 => ("WindowsGive$Tape", "tokens", "[I", true)
  | 4 => ("WindowsGive$Tape", "values", "[I", true)
  | 5 => ("WindowsGive$Tape", "places", "[I", true)
  | _ => ("WindowsGive$Tape", "many", "I", false)
def tyX5 : Nat → FieldType := fun k => match k with
  | 0 => .array .int
  | 1 => .int
  | 2 => .int
  | 3 => .array .int
  | 4 => .array .int
  | 5 => .array .int
  | _ => .int
abbrev wsX50 : List Cond := u_ws RX5 TX5 7
theorem nmX5 : ∀ a, a < 7 → ∀ b, b < 7 → a ≠ b → (TX5 a).2.1 ≠ (TX5 b).2.1 := by decide +kernel
theorem tyX5_ok : ∀ k, k < 7 → parseFieldDescriptor (TX5 k).2.2.1 = some (tyX5 k) := by decide +kernel
abbrev cX5_init : ByteArray := prog_7_method_1_code
def yX5_init : MethodName := ⟨RX5, "<init>", "()V"⟩
abbrev cX5_put : ByteArray := prog_7_method_2_code
def yX5_put : MethodName := ⟨RX5, "put", "(I)Z"⟩
abbrev cX5_empty : ByteArray := prog_7_method_3_code
def yX5_empty : MethodName := ⟨RX5, "empty", "()V"⟩
abbrev cX5_cut : ByteArray := prog_7_method_4_code
def yX5_cut : MethodName := ⟨RX5, "cut", "()V"⟩
abbrev cX5_skipBlanks : ByteArray := prog_7_method_5_code
def yX5_skipBlanks : MethodName := ⟨RX5, "skipBlanks", "()V"⟩
abbrev cX5_cutOne : ByteArray := prog_7_method_6_code
def yX5_cutOne : MethodName := ⟨RX5, "cutOne", "()I"⟩
abbrev cX5_cutNumber : ByteArray := prog_7_method_7_code
def yX5_cutNumber : MethodName := ⟨RX5, "cutNumber", "()I"⟩
abbrev cX5_cutWord : ByteArray := prog_7_method_8_code
def yX5_cutWord : MethodName := ⟨RX5, "cutWord", "()I"⟩
abbrev cX5_stands : ByteArray := prog_7_method_9_code
def yX5_stands : MethodName := ⟨RX5, "stands", "(Ljava/lang/String;I)Z"⟩
abbrev cX5_isLetter : ByteArray := prog_7_method_10_code
def yX5_isLetter : MethodName := ⟨RX5, "isLetter", "(I)Z"⟩
abbrev cX5_isDigit : ByteArray := prog_7_method_11_code
def yX5_isDigit : MethodName := ⟨RX5, "isDigit", "(I)Z"⟩
abbrev cX5_isSign : ByteArray := prog_7_method_12_code
def yX5_isSign : MethodName := ⟨RX5, "isSign", "(I)Z"⟩
abbrev cX5_spelling : ByteArray := prog_7_method_13_code
def yX5_spelling : MethodName := ⟨RX5, "spelling", "(I)Ljava/lang/String;"⟩
def RX6 : String := "WindowsGive$Text"
def TX6 : u_T := fun k => match k with
  | 0 => ("WindowsGive$Text", "code", "[I", true)
  | _ => ("WindowsGive$Text", "ends", "[I", true)
def tyX6 : Nat → FieldType := fun k => match k with
  | 0 => .array .int
  | _ => .array .int
abbrev wsX60 : List Cond := u_ws RX6 TX6 2
theorem nmX6 : ∀ a, a < 2 → ∀ b, b < 2 → a ≠ b → (TX6 a).2.1 ≠ (TX6 b).2.1 := by decide +kernel
theorem tyX6_ok : ∀ k, k < 2 → parseFieldDescriptor (TX6 k).2.2.1 = some (tyX6 k) := by decide +kernel
abbrev cX6_init : ByteArray := prog_8_method_1_code
def yX6_init : MethodName := ⟨RX6, "<init>", "([I[I)V"⟩
abbrev cX6_start : ByteArray := prog_8_method_2_code
def yX6_start : MethodName := ⟨RX6, "start", "(I)I"⟩
abbrev cX6_end : ByteArray := prog_8_method_3_code
def yX6_end : MethodName := ⟨RX6, "end", "(I)I"⟩
def RX7 : String := "WindowsGive$Walk"
def TX7 : u_T := fun k => match k with
  | 0 => ("WindowsGive$Walk", "firstDay", "[I", true)
  | 1 => ("WindowsGive$Walk", "far", "[I", true)
  | _ => ("WindowsGive$Walk", "settled", "[I", true)
def tyX7 : Nat → FieldType := fun k => match k with
  | 0 => .array .int
  | 1 => .array .int
  | _ => .array .int
abbrev wsX70 : List Cond := u_ws RX7 TX7 3
theorem nmX7 : ∀ a, a < 3 → ∀ b, b < 3 → a ≠ b → (TX7 a).2.1 ≠ (TX7 b).2.1 := by decide +kernel
theorem tyX7_ok : ∀ k, k < 3 → parseFieldDescriptor (TX7 k).2.2.1 = some (tyX7 k) := by decide +kernel
abbrev cX7_init : ByteArray := prog_9_method_1_code
def yX7_init : MethodName := ⟨RX7, "<init>", "()V"⟩
abbrev cX7_reach : ByteArray := prog_9_method_2_code
def yX7_reach : MethodName := ⟨RX7, "reach", "(LWindowsGive$House;III)V"⟩
abbrev cX7_comes : ByteArray := prog_9_method_3_code
def yX7_comes : MethodName := ⟨RX7, "comes", "(LWindowsGive$House;IIII)Z"⟩
abbrev cX7_passAll : ByteArray := prog_9_method_4_code
def yX7_passAll : MethodName := ⟨RX7, "passAll", "(LWindowsGive$House;II)Z"⟩
abbrev cX7_search : ByteArray := prog_9_method_5_code
def yX7_search : MethodName := ⟨RX7, "search", "(LWindowsGive$House;LWindowsGive$Rules;II)V"⟩
abbrev cX7_nearest : ByteArray := prog_9_method_6_code
def yX7_nearest : MethodName := ⟨RX7, "nearest", "()I"⟩
abbrev cX7_leave : ByteArray := prog_9_method_7_code
def yX7_leave : MethodName := ⟨RX7, "leave", "(LWindowsGive$House;LWindowsGive$Rules;II)V"⟩
abbrev cX7_shorten : ByteArray := prog_9_method_8_code
def yX7_shorten : MethodName := ⟨RX7, "shorten", "(II)V"⟩
abbrev cX7_fewestBackTo : ByteArray := prog_9_method_9_code
def yX7_fewestBackTo : MethodName := ⟨RX7, "fewestBackTo", "(LWindowsGive$House;II)I"⟩
def RX8 : String := "WindowsGive"
def TX8 : u_T := fun k => match k with
  | 0 => ("WindowsGive", "house", "LWindowsGive$House;", true)
  | 1 => ("WindowsGive", "kept", "LWindowsGive$House;", true)
  | 2 => ("WindowsGive", "imageKept", "Z", false)
  | 3 => ("WindowsGive", "tape", "LWindowsGive$Tape;", true)
  | 4 => ("WindowsGive", "reader", "LWindowsGive$Reader;", true)
  | 5 => ("WindowsGive", "rules", "LWindowsGive$Rules;", true)
  | 6 => ("WindowsGive", "walk", "LWindowsGive$Walk;", true)
  | 7 => ("WindowsGive", "sheets", "[LWindowsGive$Sheet;", true)
  | 8 => ("WindowsGive", "guess", "LWindowsGive$Pane;", true)
  | 9 => ("WindowsGive", "waters", "[I", true)
  | 10 => ("WindowsGive", "drawnSky", "[I", true)
  | _ => ("WindowsGive", "prices", "[I", true)
def tyX8 : Nat → FieldType := fun k => match k with
  | 0 => .object "WindowsGive$House"
  | 1 => .object "WindowsGive$House"
  | 2 => .boolean
  | 3 => .object "WindowsGive$Tape"
  | 4 => .object "WindowsGive$Reader"
  | 5 => .object "WindowsGive$Rules"
  | 6 => .object "WindowsGive$Walk"
  | 7 => .array (.object "WindowsGive$Sheet")
  | 8 => .object "WindowsGive$Pane"
  | 9 => .array .int
  | 10 => .array .int
  | _ => .array .int
abbrev wsX80 : List Cond := u_ws RX8 TX8 12
theorem nmX8 : ∀ a, a < 12 → ∀ b, b < 12 → a ≠ b → (TX8 a).2.1 ≠ (TX8 b).2.1 := by decide +kernel
theorem tyX8_ok : ∀ k, k < 12 → parseFieldDescriptor (TX8 k).2.2.1 = some (tyX8 k) := by decide +kernel
abbrev cX8_init : ByteArray := prog_1_method_1_code
def yX8_init : MethodName := ⟨RX8, "<init>", "()V"⟩
abbrev cX8_set : ByteArray := prog_1_method_2_code
def yX8_set : MethodName := ⟨RX8, "set", "(III)I"⟩
abbrev cX8_pane : ByteArray := prog_1_method_3_code
def yX8_pane : MethodName := ⟨RX8, "pane", "(III)I"⟩
abbrev cX8_told : ByteArray := prog_1_method_4_code
def yX8_told : MethodName := ⟨RX8, "told", "(II)I"⟩
abbrev cX8_gives : ByteArray := prog_1_method_5_code
def yX8_gives : MethodName := ⟨RX8, "gives", "(III)I"⟩
abbrev cX8_feed : ByteArray := prog_1_method_6_code
def yX8_feed : MethodName := ⟨RX8, "feed", "(I)I"⟩
abbrev cX8_text : ByteArray := prog_1_method_7_code
def yX8_text : MethodName := ⟨RX8, "text", "()I"⟩
abbrev cX8_force : ByteArray := prog_1_method_8_code
def yX8_force : MethodName := ⟨RX8, "force", "(I)I"⟩
abbrev cX8_panes : ByteArray := prog_1_method_9_code
def yX8_panes : MethodName := ⟨RX8, "panes", "(IIII)I"⟩
abbrev cX8_cost : ByteArray := prog_1_method_10_code
def yX8_cost : MethodName := ⟨RX8, "cost", "(III)I"⟩
abbrev cX8_earliest : ByteArray := prog_1_method_11_code
def yX8_earliest : MethodName := ⟨RX8, "earliest", "(III)I"⟩
abbrev cX8_loop : ByteArray := prog_1_method_12_code
def yX8_loop : MethodName := ⟨RX8, "loop", "(II)I"⟩
abbrev cX8_spots : ByteArray := prog_1_method_13_code
def yX8_spots : MethodName := ⟨RX8, "spots", "(II)I"⟩
abbrev cX8_brick : ByteArray := prog_1_method_14_code
def yX8_brick : MethodName := ⟨RX8, "brick", "(IIII)I"⟩
abbrev cX8_seen : ByteArray := prog_1_method_15_code
def yX8_seen : MethodName := ⟨RX8, "seen", "(IIII)I"⟩
abbrev cX8_lookNext : ByteArray := prog_1_method_16_code
def yX8_lookNext : MethodName := ⟨RX8, "lookNext", "(IIII)I"⟩
abbrev cX8_film : ByteArray := prog_1_method_17_code
def yX8_film : MethodName := ⟨RX8, "film", "(IIII)I"⟩
abbrev cX8_water : ByteArray := prog_1_method_18_code
def yX8_water : MethodName := ⟨RX8, "water", "(II)I"⟩
abbrev cX8_wettest : ByteArray := prog_1_method_19_code
def yX8_wettest : MethodName := ⟨RX8, "wettest", "(II)I"⟩
abbrev cX8_views : ByteArray := prog_1_method_20_code
def yX8_views : MethodName := ⟨RX8, "views", "(III)I"⟩
abbrev cX8_drawn : ByteArray := prog_1_method_21_code
def yX8_drawn : MethodName := ⟨RX8, "drawn", "(II)I"⟩
abbrev cX8_chance : ByteArray := prog_1_method_22_code
def yX8_chance : MethodName := ⟨RX8, "chance", "(IIIII)J"⟩
abbrev cX8_image : ByteArray := prog_1_method_23_code
def yX8_image : MethodName := ⟨RX8, "image", "()I"⟩
abbrev cX8_back : ByteArray := prog_1_method_24_code
def yX8_back : MethodName := ⟨RX8, "back", "()I"⟩
abbrev cX8_count : ByteArray := prog_1_method_25_code
def yX8_count : MethodName := ⟨RX8, "count", "(I)I"⟩
abbrev cX8_sheet : ByteArray := prog_1_method_26_code
def yX8_sheet : MethodName := ⟨RX8, "sheet", "(III)I"⟩
abbrev cX8_cell : ByteArray := prog_1_method_27_code
def yX8_cell : MethodName := ⟨RX8, "cell", "(III)I"⟩
abbrev cX8_copy : ByteArray := prog_1_method_28_code
def yX8_copy : MethodName := ⟨RX8, "copy", "(IIIII)I"⟩
abbrev cX8_weathers : ByteArray := prog_1_method_29_code
def yX8_weathers : MethodName := ⟨RX8, "weathers", "(IIII)I"⟩
abbrev cX8_taken : ByteArray := prog_1_method_30_code
def yX8_taken : MethodName := ⟨RX8, "taken", "(II)I"⟩
abbrev cX8_isRoom : ByteArray := prog_1_method_31_code
def yX8_isRoom : MethodName := ⟨RX8, "isRoom", "(I)Z"⟩
abbrev cX8_isDay : ByteArray := prog_1_method_32_code
def yX8_isDay : MethodName := ⟨RX8, "isDay", "(I)Z"⟩
abbrev cX8_isSpot : ByteArray := prog_1_method_33_code
def yX8_isSpot : MethodName := ⟨RX8, "isSpot", "(I)Z"⟩
abbrev cX8_isSort : ByteArray := prog_1_method_34_code
def yX8_isSort : MethodName := ⟨RX8, "isSort", "(I)Z"⟩
abbrev cX8_isKind : ByteArray := prog_1_method_35_code
def yX8_isKind : MethodName := ⟨RX8, "isKind", "(I)Z"⟩
abbrev cX8_isSheet : ByteArray := prog_1_method_36_code
def yX8_isSheet : MethodName := ⟨RX8, "isSheet", "(I)Z"⟩
abbrev cX8_isRowSort : ByteArray := prog_1_method_37_code
def yX8_isRowSort : MethodName := ⟨RX8, "isRowSort", "(I)Z"⟩
abbrev cX8_fits : ByteArray := prog_1_method_38_code
def yX8_fits : MethodName := ⟨RX8, "fits", "(II)Z"⟩
abbrev cX8_isUnder : ByteArray := prog_1_method_39_code
def yX8_isUnder : MethodName := ⟨RX8, "isUnder", "(II)Z"⟩
abbrev cX8_fewestToBrick : ByteArray := prog_1_method_40_code
def yX8_fewestToBrick : MethodName := ⟨RX8, "fewestToBrick", "(III)I"⟩
abbrev cX8_neededAlone : ByteArray := prog_1_method_41_code
def yX8_neededAlone : MethodName := ⟨RX8, "neededAlone", "(III)I"⟩
abbrev cX8_refusalOfLook : ByteArray := prog_1_method_42_code
def yX8_refusalOfLook : MethodName := ⟨RX8, "refusalOfLook", "(IIIII)I"⟩
abbrev cX8_firstOther : ByteArray := prog_1_method_43_code
def yX8_firstOther : MethodName := ⟨RX8, "firstOther", "(LWindowsGive$Sheet;LWindowsGive$Pane;I)I"⟩
abbrev cX8_fittingShifts : ByteArray := prog_1_method_44_code
def yX8_fittingShifts : MethodName := ⟨RX8, "fittingShifts", "(LWindowsGive$Sheet;LWindowsGive$Pane;I)I"⟩
abbrev cX8_fittingKinds : ByteArray := prog_1_method_45_code
def yX8_fittingKinds : MethodName := ⟨RX8, "fittingKinds", "(LWindowsGive$Sheet;LWindowsGive$Pane;I)I"⟩
abbrev cX8_unlikeShown : ByteArray := prog_1_method_46_code
def yX8_unlikeShown : MethodName := ⟨RX8, "unlikeShown", "(LWindowsGive$Pane;II)I"⟩
abbrev cX8_flood : ByteArray := prog_1_method_47_code
def yX8_flood : MethodName := ⟨RX8, "flood", "(I[I)I"⟩
abbrev cX8_drawnWater : ByteArray := prog_1_method_48_code
def yX8_drawnWater : MethodName := ⟨RX8, "drawnWater", "(II)I"⟩
abbrev cX8_commonDivisor : ByteArray := prog_1_method_49_code
def yX8_commonDivisor : MethodName := ⟨RX8, "commonDivisor", "(II)I"⟩
abbrev cX8_fillPrices : ByteArray := prog_1_method_50_code
def yX8_fillPrices : MethodName := ⟨RX8, "fillPrices", "(I)V"⟩
abbrev cX8_holds : ByteArray := prog_1_method_51_code
def yX8_holds : MethodName := ⟨RX8, "holds", "(II)Z"⟩
abbrev cX8_priceTogether : ByteArray := prog_1_method_52_code
def yX8_priceTogether : MethodName := ⟨RX8, "priceTogether", "(I)I"⟩
abbrev cX8_digitsOf : ByteArray := prog_1_method_53_code
def yX8_digitsOf : MethodName := ⟨RX8, "digitsOf", "(I)I"⟩
def RX9 : String := "WindowsGiveModel"
def TX9 : u_T := fun k => match k with
  | 0 => ("WindowsGiveModel", "thrown", "I", false)
  | 1 => ("WindowsGiveModel", "texts", "[I", true)
  | 2 => ("WindowsGiveModel", "textSize", "[I", true)
  | 3 => ("WindowsGiveModel", "textCount", "I", false)
  | 4 => ("WindowsGiveModel", "rule", "I", false)
  | 5 => ("WindowsGiveModel", "tape", "[I", true)
  | 6 => ("WindowsGiveModel", "taped", "I", false)
  | 7 => ("WindowsGiveModel", "weatherOf", "[I", true)
  | 8 => ("WindowsGiveModel", "kinds", "[I", true)
  | 9 => ("WindowsGiveModel", "numbers", "[I", true)
  | 10 => ("WindowsGiveModel", "shifts", "[I", true)
  | 11 => ("WindowsGiveModel", "roomIn", "[I", true)
  | 12 => ("WindowsGiveModel", "roomInto", "[I", true)
  | 13 => ("WindowsGiveModel", "paneMany", "I", false)
  | 14 => ("WindowsGiveModel", "bricks", "I", false)
  | 15 => ("WindowsGiveModel", "ofDay", "I", false)
  | 16 => ("WindowsGiveModel", "ofShift", "I", false)
  | 17 => ("WindowsGiveModel", "ofNumber", "I", false)
  | 18 => ("WindowsGiveModel", "ofWeather", "I", false)
  | 19 => ("WindowsGiveModel", "ofWindow", "I", false)
  | 20 => ("WindowsGiveModel", "ofRoom", "I", false)
  | 21 => ("WindowsGiveModel", "from", "I", false)
  | 22 => ("WindowsGiveModel", "size", "I", false)
  | 23 => ("WindowsGiveModel", "here", "I", false)
  | 24 => ("WindowsGiveModel", "token", "I", false)
  | 25 => ("WindowsGiveModel", "tokenAt", "I", false)
  | 26 => ("WindowsGiveModel", "tokenWorth", "J", false)
  | 27 => ("WindowsGiveModel", "open", "I", false)
  | 28 => ("WindowsGiveModel", "bad", "Z", false)
  | 29 => ("WindowsGiveModel", "fault", "I", false)
  | 30 => ("WindowsGiveModel", "far", "[I", true)
  | 31 => ("WindowsGiveModel", "costRow", "[I", true)
  | 32 => ("WindowsGiveModel", "wet", "[I", true)
  | 33 => ("WindowsGiveModel", "bestPrice", "I", false)
  | 34 => ("WindowsGiveModel", "bestDigits", "I", false)
  | 35 => ("WindowsGiveModel", "weatherWas", "[I", true)
  | 36 => ("WindowsGiveModel", "weatherKept", "[I", true)
  | 37 => ("WindowsGiveModel", "panesKept", "[I", true)
  | 38 => ("WindowsGiveModel", "manyKept", "I", false)
  | 39 => ("WindowsGiveModel", "ruleKept", "I", false)
  | 40 => ("WindowsGiveModel", "isThere", "[Z", true)
  | 41 => ("WindowsGiveModel", "sorts", "[I", true)
  | 42 => ("WindowsGiveModel", "sheetSize", "[I", true)
  | _ => ("WindowsGiveModel", "items", "[I", true)
def tyX9 : Nat → FieldType := fun k => match k with
  | 0 => .int
  | 1 => .array .int
  | 2 => .array .int
  | 3 => .int
  | 4 => .int
  | 5 => .array .int
  | 6 => .int
  | 7 => .array .int
  | 8 => .array .int
  | 9 => .array .int
  | 10 => .array .int
  | 11 => .array .int
  | 12 => .array .int
  | 13 => .int
  | 14 => .int
  | 15 => .int
  | 16 => .int
  | 17 => .int
  | 18 => .int
  | 19 => .int
  | 20 => .int
  | 21 => .int
  | 22 => .int
  | 23 => .int
  | 24 => .int
  | 25 => .int
  | 26 => .long
  | 27 => .int
  | 28 => .boolean
  | 29 => .int
  | 30 => .array .int
  | 31 => .array .int
  | 32 => .array .int
  | 33 => .int
  | 34 => .int
  | 35 => .array .int
  | 36 => .array .int
  | 37 => .array .int
  | 38 => .int
  | 39 => .int
  | 40 => .array .boolean
  | 41 => .array .int
  | 42 => .array .int
  | _ => .array .int
abbrev wsX90 : List Cond := u_ws RX9 TX9 44
theorem nmX9 : ∀ a, a < 44 → ∀ b, b < 44 → a ≠ b → (TX9 a).2.1 ≠ (TX9 b).2.1 := by decide +kernel
theorem tyX9_ok : ∀ k, k < 44 → parseFieldDescriptor (TX9 k).2.2.1 = some (tyX9 k) := by decide +kernel
abbrev cX9_in : ByteArray := prog_11_method_2_code
def yX9_in : MethodName := ⟨RX9, "in", "(JJJ)Z"⟩
abbrev cX9_within : ByteArray := prog_11_method_3_code
def yX9_within : MethodName := ⟨RX9, "within", "(III)I"⟩
abbrev cX9_bitsOf : ByteArray := prog_11_method_4_code
def yX9_bitsOf : MethodName := ⟨RX9, "bitsOf", "(I)I"⟩
abbrev cX9_init : ByteArray := prog_11_method_5_code
def yX9_init : MethodName := ⟨RX9, "<init>", "()V"⟩
abbrev cX9_spell : ByteArray := prog_11_method_6_code
def yX9_spell : MethodName := ⟨RX9, "spell", "(IIIIIIIII)V"⟩
abbrev cX9_isPane : ByteArray := prog_11_method_7_code
def yX9_isPane : MethodName := ⟨RX9, "isPane", "(I)Z"⟩
abbrev cX9_isDay : ByteArray := prog_11_method_8_code
def yX9_isDay : MethodName := ⟨RX9, "isDay", "(I)Z"⟩
abbrev cX9_isRoom : ByteArray := prog_11_method_9_code
def yX9_isRoom : MethodName := ⟨RX9, "isRoom", "(I)Z"⟩
abbrev cX9_isSpot : ByteArray := prog_11_method_10_code
def yX9_isSpot : MethodName := ⟨RX9, "isSpot", "(I)Z"⟩
abbrev cX9_isSort : ByteArray := prog_11_method_11_code
def yX9_isSort : MethodName := ⟨RX9, "isSort", "(I)Z"⟩
abbrev cX9_set : ByteArray := prog_11_method_12_code
def yX9_set : MethodName := ⟨RX9, "set", "(III)I"⟩
abbrev cX9_pane : ByteArray := prog_11_method_13_code
def yX9_pane : MethodName := ⟨RX9, "pane", "(III)I"⟩
abbrev cX9_told : ByteArray := prog_11_method_14_code
def yX9_told : MethodName := ⟨RX9, "told", "(II)I"⟩
abbrev cX9_on : ByteArray := prog_11_method_15_code
def yX9_on : MethodName := ⟨RX9, "on", "(II)I"⟩
abbrev cX9_leads : ByteArray := prog_11_method_16_code
def yX9_leads : MethodName := ⟨RX9, "leads", "(I)I"⟩
abbrev cX9_passes : ByteArray := prog_11_method_17_code
def yX9_passes : MethodName := ⟨RX9, "passes", "(III)Z"⟩
abbrev cX9_gives : ByteArray := prog_11_method_18_code
def yX9_gives : MethodName := ⟨RX9, "gives", "(III)I"⟩
abbrev cX9_feed : ByteArray := prog_11_method_19_code
def yX9_feed : MethodName := ⟨RX9, "feed", "(I)I"⟩
abbrev cX9_byteAt : ByteArray := prog_11_method_20_code
def yX9_byteAt : MethodName := ⟨RX9, "byteAt", "(I)I"⟩
abbrev cX9_next : ByteArray := prog_11_method_21_code
def yX9_next : MethodName := ⟨RX9, "next", "()V"⟩
abbrev cX9_fail : ByteArray := prog_11_method_22_code
def yX9_fail : MethodName := ⟨RX9, "fail", "()V"⟩
abbrev cX9_isLetter : ByteArray := prog_11_method_23_code
def yX9_isLetter : MethodName := ⟨RX9, "isLetter", "(II)Z"⟩
abbrev cX9_isWord : ByteArray := prog_11_method_24_code
def yX9_isWord : MethodName := ⟨RX9, "isWord", "(IIIIIIII)Z"⟩
abbrev cX9_isSign : ByteArray := prog_11_method_25_code
def yX9_isSign : MethodName := ⟨RX9, "isSign", "(I)Z"⟩
abbrev cX9_opens : ByteArray := prog_11_method_26_code
def yX9_opens : MethodName := ⟨RX9, "opens", "()Z"⟩
abbrev cX9_name : ByteArray := prog_11_method_27_code
def yX9_name : MethodName := ⟨RX9, "name", "()I"⟩
abbrev cX9_atom : ByteArray := prog_11_method_28_code
def yX9_atom : MethodName := ⟨RX9, "atom", "()I"⟩
abbrev cX9_term : ByteArray := prog_11_method_29_code
def yX9_term : MethodName := ⟨RX9, "term", "()I"⟩
abbrev cX9_added : ByteArray := prog_11_method_30_code
def yX9_added : MethodName := ⟨RX9, "added", "()I"⟩
abbrev cX9_not : ByteArray := prog_11_method_31_code
def yX9_not : MethodName := ⟨RX9, "not", "()I"⟩
abbrev cX9_both : ByteArray := prog_11_method_32_code
def yX9_both : MethodName := ⟨RX9, "both", "()I"⟩
abbrev cX9_either : ByteArray := prog_11_method_33_code
def yX9_either : MethodName := ⟨RX9, "either", "()I"⟩
abbrev cX9_part : ByteArray := prog_11_method_34_code
def yX9_part : MethodName := ⟨RX9, "part", "(Z)I"⟩
abbrev cX9_read : ByteArray := prog_11_method_35_code
def yX9_read : MethodName := ⟨RX9, "read", "(II)I"⟩
abbrev cX9_text : ByteArray := prog_11_method_36_code
def yX9_text : MethodName := ⟨RX9, "text", "()I"⟩
abbrev cX9_force : ByteArray := prog_11_method_37_code
def yX9_force : MethodName := ⟨RX9, "force", "(I)I"⟩
abbrev cX9_says : ByteArray := prog_11_method_38_code
def yX9_says : MethodName := ⟨RX9, "says", "(III)I"⟩
abbrev cX9_spreads : ByteArray := prog_11_method_39_code
def yX9_spreads : MethodName := ⟨RX9, "spreads", "(IIZ)V"⟩
abbrev cX9_goesOn : ByteArray := prog_11_method_40_code
def yX9_goesOn : MethodName := ⟨RX9, "goesOn", "(IIZ)Z"⟩
abbrev cX9_eases : ByteArray := prog_11_method_41_code
def yX9_eases : MethodName := ⟨RX9, "eases", "(II)Z"⟩
abbrev cX9_panes : ByteArray := prog_11_method_42_code
def yX9_panes : MethodName := ⟨RX9, "panes", "(IIII)I"⟩
abbrev cX9_cost : ByteArray := prog_11_method_43_code
def yX9_cost : MethodName := ⟨RX9, "cost", "(III)I"⟩
abbrev cX9_earliest : ByteArray := prog_11_method_44_code
def yX9_earliest : MethodName := ⟨RX9, "earliest", "(III)I"⟩
abbrev cX9_loop : ByteArray := prog_11_method_45_code
def yX9_loop : MethodName := ⟨RX9, "loop", "(II)I"⟩
abbrev cX9_spots : ByteArray := prog_11_method_46_code
def yX9_spots : MethodName := ⟨RX9, "spots", "(II)I"⟩
abbrev cX9_comesBut : ByteArray := prog_11_method_47_code
def yX9_comesBut : MethodName := ⟨RX9, "comesBut", "(IIII)Z"⟩
abbrev cX9_brick : ByteArray := prog_11_method_48_code
def yX9_brick : MethodName := ⟨RX9, "brick", "(IIII)I"⟩
abbrev cX9_shows : ByteArray := prog_11_method_49_code
def yX9_shows : MethodName := ⟨RX9, "shows", "(II)I"⟩
abbrev cX9_wrongAt : ByteArray := prog_11_method_50_code
def yX9_wrongAt : MethodName := ⟨RX9, "wrongAt", "(III)I"⟩
abbrev cX9_seenBad : ByteArray := prog_11_method_51_code
def yX9_seenBad : MethodName := ⟨RX9, "seenBad", "(III)I"⟩
abbrev cX9_shiftsOf : ByteArray := prog_11_method_52_code
def yX9_shiftsOf : MethodName := ⟨RX9, "shiftsOf", "(III)I"⟩
abbrev cX9_seen : ByteArray := prog_11_method_53_code
def yX9_seen : MethodName := ⟨RX9, "seen", "(IIII)I"⟩
abbrev cX9_unlikeOn : ByteArray := prog_11_method_54_code
def yX9_unlikeOn : MethodName := ⟨RX9, "unlikeOn", "(III)I"⟩
abbrev cX9_lookNext : ByteArray := prog_11_method_55_code
def yX9_lookNext : MethodName := ⟨RX9, "lookNext", "(IIII)I"⟩
abbrev cX9_film : ByteArray := prog_11_method_56_code
def yX9_film : MethodName := ⟨RX9, "film", "(IIII)I"⟩
abbrev cX9_rains : ByteArray := prog_11_method_57_code
def yX9_rains : MethodName := ⟨RX9, "rains", "(I)V"⟩
abbrev cX9_wetAll : ByteArray := prog_11_method_58_code
def yX9_wetAll : MethodName := ⟨RX9, "wetAll", "()I"⟩
abbrev cX9_water : ByteArray := prog_11_method_59_code
def yX9_water : MethodName := ⟨RX9, "water", "(II)I"⟩
abbrev cX9_wettest : ByteArray := prog_11_method_60_code
def yX9_wettest : MethodName := ⟨RX9, "wettest", "(II)I"⟩
abbrev cX9_viewsFrom : ByteArray := prog_11_method_61_code
def yX9_viewsFrom : MethodName := ⟨RX9, "viewsFrom", "(IIIII)V"⟩
abbrev cX9_views : ByteArray := prog_11_method_62_code
def yX9_views : MethodName := ⟨RX9, "views", "(III)I"⟩
abbrev cX9_draws : ByteArray := prog_11_method_63_code
def yX9_draws : MethodName := ⟨RX9, "draws", "(II)I"⟩
abbrev cX9_drawn : ByteArray := prog_11_method_64_code
def yX9_drawn : MethodName := ⟨RX9, "drawn", "(II)I"⟩
abbrev cX9_chance : ByteArray := prog_11_method_65_code
def yX9_chance : MethodName := ⟨RX9, "chance", "(IIIII)J"⟩
abbrev cX9_image : ByteArray := prog_11_method_66_code
def yX9_image : MethodName := ⟨RX9, "image", "()I"⟩
abbrev cX9_back : ByteArray := prog_11_method_67_code
def yX9_back : MethodName := ⟨RX9, "back", "()I"⟩
abbrev cX9_count : ByteArray := prog_11_method_68_code
def yX9_count : MethodName := ⟨RX9, "count", "(I)I"⟩
abbrev cX9_isSheet : ByteArray := prog_11_method_69_code
def yX9_isSheet : MethodName := ⟨RX9, "isSheet", "(I)Z"⟩
abbrev cX9_sheet : ByteArray := prog_11_method_70_code
def yX9_sheet : MethodName := ⟨RX9, "sheet", "(III)I"⟩
abbrev cX9_cell : ByteArray := prog_11_method_71_code
def yX9_cell : MethodName := ⟨RX9, "cell", "(III)I"⟩
abbrev cX9_copy : ByteArray := prog_11_method_72_code
def yX9_copy : MethodName := ⟨RX9, "copy", "(IIIII)I"⟩
abbrev cX9_weathers : ByteArray := prog_11_method_73_code
def yX9_weathers : MethodName := ⟨RX9, "weathers", "(IIII)I"⟩
abbrev cX9_over : ByteArray := prog_11_method_74_code
def yX9_over : MethodName := ⟨RX9, "over", "(I)I"⟩
abbrev cX9_taken : ByteArray := prog_11_method_75_code
def yX9_taken : MethodName := ⟨RX9, "taken", "(II)I"⟩
def RJx145de : String := "java/io/Serializable"
def TJx145de : u_T := fun k => match k with
  | _ => ("", "", "", false)
def tyJx145de : Nat → FieldType := fun k => match k with
  | _ => .int
theorem nmJx145de : ∀ a, a < 0 → ∀ b, b < 0 → a ≠ b → (TJx145de a).2.1 ≠ (TJx145de b).2.1 := by decide +kernel
theorem tyJx145de_ok : ∀ k, k < 0 → parseFieldDescriptor (TJx145de k).2.2.1 = some (tyJx145de k) := by decide +kernel
def RJx9f9b0 : String := "java/lang/CharSequence"
def TJx9f9b0 : u_T := fun k => match k with
  | _ => ("", "", "", false)
def tyJx9f9b0 : Nat → FieldType := fun k => match k with
  | _ => .int
theorem nmJx9f9b0 : ∀ a, a < 0 → ∀ b, b < 0 → a ≠ b → (TJx9f9b0 a).2.1 ≠ (TJx9f9b0 b).2.1 := by decide +kernel
theorem tyJx9f9b0_ok : ∀ k, k < 0 → parseFieldDescriptor (TJx9f9b0 k).2.2.1 = some (tyJx9f9b0 k) := by decide +kernel
def RJx8e188 : String := "java/lang/Cloneable"
def TJx8e188 : u_T := fun k => match k with
  | _ => ("", "", "", false)
def tyJx8e188 : Nat → FieldType := fun k => match k with
  | _ => .int
theorem nmJx8e188 : ∀ a, a < 0 → ∀ b, b < 0 → a ≠ b → (TJx8e188 a).2.1 ≠ (TJx8e188 b).2.1 := by decide +kernel
theorem tyJx8e188_ok : ∀ k, k < 0 → parseFieldDescriptor (TJx8e188 k).2.2.1 = some (tyJx8e188 k) := by decide +kernel
def RJxb160c : String := "java/lang/Comparable"
def TJxb160c : u_T := fun k => match k with
  | _ => ("", "", "", false)
def tyJxb160c : Nat → FieldType := fun k => match k with
  | _ => .int
theorem nmJxb160c : ∀ a, a < 0 → ∀ b, b < 0 → a ≠ b → (TJxb160c a).2.1 ≠ (TJxb160c b).2.1 := by decide +kernel
theorem tyJxb160c_ok : ∀ k, k < 0 → parseFieldDescriptor (TJxb160c k).2.2.1 = some (tyJxb160c k) := by decide +kernel
def RJ6 : String := "java/lang/Integer"
def TJ6 : u_T := fun k => match k with
  | _ => ("", "", "", false)
def tyJ6 : Nat → FieldType := fun k => match k with
  | _ => .int
theorem nmJ6 : ∀ a, a < 0 → ∀ b, b < 0 → a ≠ b → (TJ6 a).2.1 ≠ (TJ6 b).2.1 := by decide +kernel
theorem tyJ6_ok : ∀ k, k < 0 → parseFieldDescriptor (TJ6 k).2.2.1 = some (tyJ6 k) := by decide +kernel
abbrev cJ6_bitCount_0f7a4 : ByteArray := prog_13_method_49_code
def yJ6_bitCount_0f7a4 : MethodName := ⟨RJ6, "bitCount", "(I)I"⟩
def RJ9 : String := "java/lang/Math"
def TJ9 : u_T := fun k => match k with
  | _ => ("", "", "", false)
def tyJ9 : Nat → FieldType := fun k => match k with
  | _ => .int
theorem nmJ9 : ∀ a, a < 0 → ∀ b, b < 0 → a ≠ b → (TJ9 a).2.1 ≠ (TJ9 b).2.1 := by decide +kernel
theorem tyJ9_ok : ∀ k, k < 0 → parseFieldDescriptor (TJ9 k).2.2.1 = some (tyJ9 k) := by decide +kernel
abbrev cJ9_max_7cf53 : ByteArray := prog_14_method_65_code
def yJ9_max_7cf53 : MethodName := ⟨RJ9, "max", "(II)I"⟩
abbrev cJ9_min_7cf53 : ByteArray := prog_14_method_69_code
def yJ9_min_7cf53 : MethodName := ⟨RJ9, "min", "(II)I"⟩
def RJ0 : String := "java/lang/String"
def TJ0 : u_T := fun k => match k with
  | _ => ("", "", "", false)
def tyJ0 : Nat → FieldType := fun k => match k with
  | _ => .int
theorem nmJ0 : ∀ a, a < 0 → ∀ b, b < 0 → a ≠ b → (TJ0 a).2.1 ≠ (TJ0 b).2.1 := by decide +kernel
theorem tyJ0_ok : ∀ k, k < 0 → parseFieldDescriptor (TJ0 k).2.2.1 = some (tyJ0 k) := by decide +kernel
abbrev cJ0_length_8abf5 : ByteArray := prog_15_method_54_code
def yJ0_length_8abf5 : MethodName := ⟨RJ0, "length", "()I"⟩
abbrev cJ0_charAt_5068e : ByteArray := prog_15_method_56_code
def yJ0_charAt_5068e : MethodName := ⟨RJ0, "charAt", "(I)C"⟩
abbrev cJ0_coder_7d493 : ByteArray := prog_15_method_152_code
def yJ0_coder_7d493 : MethodName := ⟨RJ0, "coder", "()B"⟩
abbrev cJ0_isLatin1_aae02 : ByteArray := prog_15_method_154_code
def yJ0_isLatin1_aae02 : MethodName := ⟨RJ0, "isLatin1", "()Z"⟩
abbrev cJ0_checkIndex_df160 : ByteArray := prog_15_method_155_code
def yJ0_checkIndex_df160 : MethodName := ⟨RJ0, "checkIndex", "(II)V"⟩
def RJ1 : String := "java/lang/StringLatin1"
def TJ1 : u_T := fun k => match k with
  | _ => ("", "", "", false)
def tyJ1 : Nat → FieldType := fun k => match k with
  | _ => .int
theorem nmJ1 : ∀ a, a < 0 → ∀ b, b < 0 → a ≠ b → (TJ1 a).2.1 ≠ (TJ1 b).2.1 := by decide +kernel
theorem tyJ1_ok : ∀ k, k < 0 → parseFieldDescriptor (TJ1 k).2.2.1 = some (tyJ1 k) := by decide +kernel
abbrev cJ1_charAt_3b067 : ByteArray := prog_16_method_2_code
def yJ1_charAt_3b067 : MethodName := ⟨RJ1, "charAt", "([BI)C"⟩
def RJ2 : String := "java/lang/StringUTF16"
def TJ2 : u_T := fun k => match k with
  | _ => ("", "", "", false)
def tyJ2 : Nat → FieldType := fun k => match k with
  | _ => .int
theorem nmJ2 : ∀ a, a < 0 → ∀ b, b < 0 → a ≠ b → (TJ2 a).2.1 ≠ (TJ2 b).2.1 := by decide +kernel
theorem tyJ2_ok : ∀ k, k < 0 → parseFieldDescriptor (TJ2 k).2.2.1 = some (tyJ2 k) := by decide +kernel
abbrev cJ2_getChar_3b067 : ByteArray := prog_17_method_5_code
def yJ2_getChar_3b067 : MethodName := ⟨RJ2, "getChar", "([BI)C"⟩
abbrev cJ2_length_9d52b : ByteArray := prog_17_method_6_code
def yJ2_length_9d52b : MethodName := ⟨RJ2, "length", "([B)I"⟩
abbrev cJ2_charAt_3b067 : ByteArray := prog_17_method_83_code
def yJ2_charAt_3b067 : MethodName := ⟨RJ2, "charAt", "([BI)C"⟩
abbrev cJ2_checkIndex_2214a : ByteArray := prog_17_method_91_code
def yJ2_checkIndex_2214a : MethodName := ⟨RJ2, "checkIndex", "(I[B)V"⟩
def RJ10 : String := "java/lang/System"
def TJ10 : u_T := fun k => match k with
  | _ => ("", "", "", false)
def tyJ10 : Nat → FieldType := fun k => match k with
  | _ => .int
theorem nmJ10 : ∀ a, a < 0 → ∀ b, b < 0 → a ≠ b → (TJ10 a).2.1 ≠ (TJ10 b).2.1 := by decide +kernel
theorem tyJ10_ok : ∀ k, k < 0 → parseFieldDescriptor (TJ10 k).2.2.1 = some (tyJ10 k) := by decide +kernel
def RJxfd54e : String := "java/lang/constant/Constable"
def TJxfd54e : u_T := fun k => match k with
  | _ => ("", "", "", false)
def tyJxfd54e : Nat → FieldType := fun k => match k with
  | _ => .int
theorem nmJxfd54e : ∀ a, a < 0 → ∀ b, b < 0 → a ≠ b → (TJxfd54e a).2.1 ≠ (TJxfd54e b).2.1 := by decide +kernel
theorem tyJxfd54e_ok : ∀ k, k < 0 → parseFieldDescriptor (TJxfd54e k).2.2.1 = some (tyJxfd54e k) := by decide +kernel
def RJx3cf43 : String := "java/lang/constant/ConstantDesc"
def TJx3cf43 : u_T := fun k => match k with
  | _ => ("", "", "", false)
def tyJx3cf43 : Nat → FieldType := fun k => match k with
  | _ => .int
theorem nmJx3cf43 : ∀ a, a < 0 → ∀ b, b < 0 → a ≠ b → (TJx3cf43 a).2.1 ≠ (TJx3cf43 b).2.1 := by decide +kernel
theorem tyJx3cf43_ok : ∀ k, k < 0 → parseFieldDescriptor (TJx3cf43 k).2.2.1 = some (tyJx3cf43 k) := by decide +kernel
def RJ7 : String := "java/util/Arrays"
def TJ7 : u_T := fun k => match k with
  | _ => ("", "", "", false)
def tyJ7 : Nat → FieldType := fun k => match k with
  | _ => .int
theorem nmJ7 : ∀ a, a < 0 → ∀ b, b < 0 → a ≠ b → (TJ7 a).2.1 ≠ (TJ7 b).2.1 := by decide +kernel
theorem tyJ7_ok : ∀ k, k < 0 → parseFieldDescriptor (TJ7 k).2.2.1 = some (tyJ7 k) := by decide +kernel
abbrev cJ7_fill_53178 : ByteArray := prog_19_method_103_code
def yJ7_fill_53178 : MethodName := ⟨RJ7, "fill", "([II)V"⟩
abbrev cJ7_copyOf_59c91 : ByteArray := prog_19_method_123_code
def yJ7_copyOf_59c91 : MethodName := ⟨RJ7, "copyOf", "([II)[I"⟩
def RJ3 : String := "jdk/internal/util/Preconditions"
def TJ3 : u_T := fun k => match k with
  | _ => ("", "", "", false)
def tyJ3 : Nat → FieldType := fun k => match k with
  | _ => .int
theorem nmJ3 : ∀ a, a < 0 → ∀ b, b < 0 → a ≠ b → (TJ3 a).2.1 ≠ (TJ3 b).2.1 := by decide +kernel
theorem tyJ3_ok : ∀ k, k < 0 → parseFieldDescriptor (TJ3 k).2.2.1 = some (tyJ3 k) := by decide +kernel
abbrev cJ3_checkIndex_8e157 : ByteArray := prog_20_method_11_code
def yJ3_checkIndex_8e157 : MethodName := ⟨RJ3, "checkIndex", "(IILjava/util/function/BiFunction;)I"⟩
def RL : String := "WindowsGiveLaw"
abbrev cL_law : ByteArray := code
def yL_law : MethodName := ⟨RL, "law", "([I)Z"⟩
abbrev vwCl : List vw_C := [(RX0, TX0, 4), (RX1, TX1, 6), (RX2, TX2, 6), (RX3, TX3, 4), (RX4, TX4, 3), (RX5, TX5, 7), (RX6, TX6, 2), (RX7, TX7, 3), (RX8, TX8, 12), (RX9, TX9, 44)]
end
section
theorem dX0_init_0 : decode cX0_init 0 = .ok (.aload_n 0, 1) := by decide +kernel
theorem dX0_init_1 : decode cX0_init 1 = .ok (.invokespecial 3, 3) := by decide +kernel
theorem dX0_init_4 : decode cX0_init 4 = .ok (.aload_n 0, 1) := by decide +kernel
theorem dX0_init_5 : decode cX0_init 5 = .ok (.bipush 32, 2) := by decide +kernel
theorem dX0_init_7 : decode cX0_init 7 = .ok (.newarray .int, 2) := by decide +kernel
theorem dX0_init_9 : decode cX0_init 9 = .ok (.putfield 9, 3) := by decide +kernel
theorem dX0_init_12 : decode cX0_init 12 = .ok (.aload_n 0, 1) := by decide +kernel
theorem dX0_init_13 : decode cX0_init 13 = .ok (.bipush 8, 2) := by decide +kernel
theorem dX0_init_15 : decode cX0_init 15 = .ok (.anewarray 15, 3) := by decide +kernel
theorem dX0_init_18 : decode cX0_init 18 = .ok (.putfield 17, 3) := by decide +kernel
theorem dX0_init_21 : decode cX0_init 21 = .ok (.iconst 0, 1) := by decide +kernel
theorem dX0_init_22 : decode cX0_init 22 = .ok (.istore_n 1, 1) := by decide +kernel
theorem dX0_init_23 : decode cX0_init 23 = .ok (.iload_n 1, 1) := by decide +kernel
theorem dX0_init_24 : decode cX0_init 24 = .ok (.bipush 8, 2) := by decide +kernel
theorem dX0_init_26 : decode cX0_init 26 = .ok (.if_icmp .ge 23, 3) := by decide +kernel
theorem dX0_init_29 : decode cX0_init 29 = .ok (.aload_n 0, 1) := by decide +kernel
theorem dX0_init_30 : decode cX0_init 30 = .ok (.getfield 17, 3) := by decide +kernel
theorem dX0_init_33 : decode cX0_init 33 = .ok (.iload_n 1, 1) := by decide +kernel
theorem dX0_init_34 : decode cX0_init 34 = .ok (.new 15, 3) := by decide +kernel
theorem dX0_init_37 : decode cX0_init 37 = .ok (.dup, 1) := by decide +kernel
theorem dX0_init_38 : decode cX0_init 38 = .ok (.iload_n 1, 1) := by decide +kernel
theorem dX0_init_39 : decode cX0_init 39 = .ok (.invokespecial 21, 3) := by decide +kernel
theorem dX0_init_42 : decode cX0_init 42 = .ok (.aastore, 1) := by decide +kernel
theorem dX0_init_43 : decode cX0_init 43 = .ok (.iinc 1 1, 3) := by decide +kernel
theorem dX0_init_46 : decode cX0_init 46 = .ok (.goto (-23), 3) := by decide +kernel
theorem dX0_init_49 : decode cX0_init 49 = .ok (.return_, 1) := by decide +kernel
theorem dX0_has_0 : decode cX0_has 0 = .ok (.iload_n 1, 1) := by decide +kernel
theorem dX0_has_1 : decode cX0_has 1 = .ok (.ifCond .lt 15, 3) := by decide +kernel
theorem dX0_has_4 : decode cX0_has 4 = .ok (.iload_n 1, 1) := by decide +kernel
theorem dX0_has_5 : decode cX0_has 5 = .ok (.aload_n 0, 1) := by decide +kernel
theorem dX0_has_6 : decode cX0_has 6 = .ok (.getfield 24, 3) := by decide +kernel
theorem dX0_has_9 : decode cX0_has 9 = .ok (.if_icmp .ge 7, 3) := by decide +kernel
theorem dX0_has_12 : decode cX0_has 12 = .ok (.iconst 1, 1) := by decide +kernel
theorem dX0_has_13 : decode cX0_has 13 = .ok (.goto 4, 3) := by decide +kernel
theorem dX0_has_16 : decode cX0_has 16 = .ok (.iconst 0, 1) := by decide +kernel
theorem dX0_has_17 : decode cX0_has 17 = .ok (.ireturn, 1) := by decide +kernel
theorem dX0_become_0 : decode cX0_become 0 = .ok (.aload_n 1, 1) := by decide +kernel
theorem dX0_become_1 : decode cX0_become 1 = .ok (.getfield 9, 3) := by decide +kernel
theorem dX0_become_4 : decode cX0_become 4 = .ok (.iconst 0, 1) := by decide +kernel
theorem dX0_become_5 : decode cX0_become 5 = .ok (.aload_n 0, 1) := by decide +kernel
theorem dX0_become_6 : decode cX0_become 6 = .ok (.getfield 9, 3) := by decide +kernel
theorem dX0_become_9 : decode cX0_become 9 = .ok (.iconst 0, 1) := by decide +kernel
theorem dX0_become_10 : decode cX0_become 10 = .ok (.bipush 32, 2) := by decide +kernel
theorem dX0_become_12 : decode cX0_become 12 = .ok (.invokestatic 28, 3) := by decide +kernel
theorem dX0_become_15 : decode cX0_become 15 = .ok (.iconst 0, 1) := by decide +kernel
theorem dX0_become_16 : decode cX0_become 16 = .ok (.istore_n 2, 1) := by decide +kernel
theorem dX0_become_17 : decode cX0_become 17 = .ok (.iload_n 2, 1) := by decide +kernel
theorem dX0_become_18 : decode cX0_become 18 = .ok (.bipush 8, 2) := by decide +kernel
theorem dX0_become_20 : decode cX0_become 20 = .ok (.if_icmp .ge 24, 3) := by decide +kernel
theorem dX0_become_23 : decode cX0_become 23 = .ok (.aload_n 0, 1) := by decide +kernel
theorem dX0_become_24 : decode cX0_become 24 = .ok (.getfield 17, 3) := by decide +kernel
theorem dX0_become_27 : decode cX0_become 27 = .ok (.iload_n 2, 1) := by decide +kernel
theorem dX0_become_28 : decode cX0_become 28 = .ok (.aaload, 1) := by decide +kernel
theorem dX0_become_29 : decode cX0_become 29 = .ok (.aload_n 1, 1) := by decide +kernel
theorem dX0_become_30 : decode cX0_become 30 = .ok (.getfield 17, 3) := by decide +kernel
theorem dX0_become_33 : decode cX0_become 33 = .ok (.iload_n 2, 1) := by decide +kernel
theorem dX0_become_34 : decode cX0_become 34 = .ok (.aaload, 1) := by decide +kernel
theorem dX0_become_35 : decode cX0_become 35 = .ok (.invokevirtual 34, 3) := by decide +kernel
theorem dX0_become_38 : decode cX0_become 38 = .ok (.iinc 2 1, 3) := by decide +kernel
theorem dX0_become_41 : decode cX0_become 41 = .ok (.goto (-24), 3) := by decide +kernel
theorem dX0_become_44 : decode cX0_become 44 = .ok (.aload_n 0, 1) := by decide +kernel
theorem dX0_become_45 : decode cX0_become 45 = .ok (.aload_n 1, 1) := by decide +kernel
theorem dX0_become_46 : decode cX0_become 46 = .ok (.getfield 24, 3) := by decide +kernel
theorem dX0_become_49 : decode cX0_become 49 = .ok (.putfield 24, 3) := by decide +kernel
theorem dX0_become_52 : decode cX0_become 52 = .ok (.aload_n 0, 1) := by decide +kernel
theorem dX0_become_53 : decode cX0_become 53 = .ok (.aload_n 1, 1) := by decide +kernel
theorem dX0_become_54 : decode cX0_become 54 = .ok (.getfield 38, 3) := by decide +kernel
theorem dX0_become_57 : decode cX0_become 57 = .ok (.putfield 38, 3) := by decide +kernel
theorem dX0_become_60 : decode cX0_become 60 = .ok (.return_, 1) := by decide +kernel
theorem dX0_shows_0 : decode cX0_shows 0 = .ok (.iload_n 2, 1) := by decide +kernel
theorem dX0_shows_1 : decode cX0_shows 1 = .ok (.invokestatic 41, 3) := by decide +kernel
theorem dX0_shows_4 : decode cX0_shows 4 = .ok (.ifCond .eq 25, 3) := by decide +kernel
theorem dX0_shows_7 : decode cX0_shows 7 = .ok (.aload_n 1, 1) := by decide +kernel
theorem dX0_shows_8 : decode cX0_shows 8 = .ok (.iload_n 2, 1) := by decide +kernel
theorem dX0_shows_9 : decode cX0_shows 9 = .ok (.iconst 0, 1) := by decide +kernel
theorem dX0_shows_10 : decode cX0_shows 10 = .ok (.invokevirtual 45, 3) := by decide +kernel
theorem dX0_shows_13 : decode cX0_shows 13 = .ok (.ifCond .eq 16, 3) := by decide +kernel
theorem dX0_shows_16 : decode cX0_shows 16 = .ok (.aload_n 0, 1) := by decide +kernel
theorem dX0_shows_17 : decode cX0_shows 17 = .ok (.getfield 9, 3) := by decide +kernel
theorem dX0_shows_20 : decode cX0_shows 20 = .ok (.aload_n 1, 1) := by decide +kernel
theorem dX0_shows_21 : decode cX0_shows 21 = .ok (.iload_n 2, 1) := by decide +kernel
theorem dX0_shows_22 : decode cX0_shows 22 = .ok (.invokevirtual 49, 3) := by decide +kernel
theorem dX0_shows_25 : decode cX0_shows 25 = .ok (.iaload, 1) := by decide +kernel
theorem dX0_shows_26 : decode cX0_shows 26 = .ok (.goto 4, 3) := by decide +kernel
theorem dX0_shows_29 : decode cX0_shows 29 = .ok (.iconst (-1), 1) := by decide +kernel
theorem dX0_shows_30 : decode cX0_shows 30 = .ok (.ireturn, 1) := by decide +kernel
theorem dX0_weatherTogether_0 : decode cX0_weatherTogether 0 = .ok (.iconst 0, 1) := by decide +kernel
theorem dX0_weatherTogether_1 : decode cX0_weatherTogether 1 = .ok (.istore_n 1, 1) := by decide +kernel
theorem dX0_weatherTogether_2 : decode cX0_weatherTogether 2 = .ok (.iconst 0, 1) := by decide +kernel
theorem dX0_weatherTogether_3 : decode cX0_weatherTogether 3 = .ok (.istore_n 2, 1) := by decide +kernel
theorem dX0_weatherTogether_4 : decode cX0_weatherTogether 4 = .ok (.iload_n 2, 1) := by decide +kernel
theorem dX0_weatherTogether_5 : decode cX0_weatherTogether 5 = .ok (.bipush 32, 2) := by decide +kernel
theorem dX0_weatherTogether_7 : decode cX0_weatherTogether 7 = .ok (.if_icmp .ge 18, 3) := by decide +kernel
theorem dX0_weatherTogether_10 : decode cX0_weatherTogether 10 = .ok (.iload_n 1, 1) := by decide +kernel
theorem dX0_weatherTogether_11 : decode cX0_weatherTogether 11 = .ok (.aload_n 0, 1) := by decide +kernel
theorem dX0_weatherTogether_12 : decode cX0_weatherTogether 12 = .ok (.getfield 9, 3) := by decide +kernel
theorem dX0_weatherTogether_15 : decode cX0_weatherTogether 15 = .ok (.iload_n 2, 1) := by decide +kernel
theorem dX0_weatherTogether_16 : decode cX0_weatherTogether 16 = .ok (.iaload, 1) := by decide +kernel
theorem dX0_weatherTogether_17 : decode cX0_weatherTogether 17 = .ok (.iadd, 1) := by decide +kernel
theorem dX0_weatherTogether_18 : decode cX0_weatherTogether 18 = .ok (.istore_n 1, 1) := by decide +kernel
theorem dX0_weatherTogether_19 : decode cX0_weatherTogether 19 = .ok (.iinc 2 1, 3) := by decide +kernel
theorem dX0_weatherTogether_22 : decode cX0_weatherTogether 22 = .ok (.goto (-18), 3) := by decide +kernel
theorem dX0_weatherTogether_25 : decode cX0_weatherTogether 25 = .ok (.iload_n 1, 1) := by decide +kernel
theorem dX0_weatherTogether_26 : decode cX0_weatherTogether 26 = .ok (.ireturn, 1) := by decide +kernel
theorem dX1_init_0 : decode cX1_init 0 = .ok (.aload_n 0, 1) := by decide +kernel
theorem dX1_init_1 : decode cX1_init 1 = .ok (.invokespecial 3, 3) := by decide +kernel
theorem dX1_init_4 : decode cX1_init 4 = .ok (.aload_n 0, 1) := by decide +kernel
theorem dX1_init_5 : decode cX1_init 5 = .ok (.iload_n 1, 1) := by decide +kernel
theorem dX1_init_6 : decode cX1_init 6 = .ok (.putfield 9, 3) := by decide +kernel
theorem dX1_init_9 : decode cX1_init 9 = .ok (.return_, 1) := by decide +kernel
theorem dX1_become_0 : decode cX1_become 0 = .ok (.aload_n 0, 1) := by decide +kernel
theorem dX1_become_1 : decode cX1_become 1 = .ok (.aload_n 1, 1) := by decide +kernel
theorem dX1_become_2 : decode cX1_become 2 = .ok (.getfield 15, 3) := by decide +kernel
theorem dX1_become_5 : decode cX1_become 5 = .ok (.putfield 15, 3) := by decide +kernel
theorem dX1_become_8 : decode cX1_become 8 = .ok (.aload_n 0, 1) := by decide +kernel
theorem dX1_become_9 : decode cX1_become 9 = .ok (.aload_n 1, 1) := by decide +kernel
theorem dX1_become_10 : decode cX1_become 10 = .ok (.getfield 18, 3) := by decide +kernel
theorem dX1_become_13 : decode cX1_become 13 = .ok (.putfield 18, 3) := by decide +kernel
theorem dX1_become_16 : decode cX1_become 16 = .ok (.aload_n 0, 1) := by decide +kernel
theorem dX1_become_17 : decode cX1_become 17 = .ok (.aload_n 1, 1) := by decide +kernel
theorem dX1_become_18 : decode cX1_become 18 = .ok (.getfield 21, 3) := by decide +kernel
theorem dX1_become_21 : decode cX1_become 21 = .ok (.putfield 21, 3) := by decide +kernel
theorem dX1_become_24 : decode cX1_become 24 = .ok (.aload_n 0, 1) := by decide +kernel
theorem dX1_become_25 : decode cX1_become 25 = .ok (.aload_n 1, 1) := by decide +kernel
theorem dX1_become_26 : decode cX1_become 26 = .ok (.getfield 24, 3) := by decide +kernel
theorem dX1_become_29 : decode cX1_become 29 = .ok (.putfield 24, 3) := by decide +kernel
theorem dX1_become_32 : decode cX1_become 32 = .ok (.aload_n 0, 1) := by decide +kernel
theorem dX1_become_33 : decode cX1_become 33 = .ok (.aload_n 1, 1) := by decide +kernel
theorem dX1_become_34 : decode cX1_become 34 = .ok (.getfield 27, 3) := by decide +kernel
theorem dX1_become_37 : decode cX1_become 37 = .ok (.putfield 27, 3) := by decide +kernel
theorem dX1_become_40 : decode cX1_become 40 = .ok (.return_, 1) := by decide +kernel
theorem dX1_change_0 : decode cX1_change 0 = .ok (.iload_n 1, 1) := by decide +kernel
theorem dX1_change_1 : decode cX1_change 1 = .ok (.tableswitch 63 1 4 #[31, 39, 47, 55], 31) := by decide +kernel
theorem dX1_change_32 : decode cX1_change 32 = .ok (.aload_n 0, 1) := by decide +kernel
theorem dX1_change_33 : decode cX1_change 33 = .ok (.iload_n 2, 1) := by decide +kernel
theorem dX1_change_34 : decode cX1_change 34 = .ok (.putfield 18, 3) := by decide +kernel
theorem dX1_change_37 : decode cX1_change 37 = .ok (.goto 27, 3) := by decide +kernel
theorem dX1_change_40 : decode cX1_change 40 = .ok (.aload_n 0, 1) := by decide +kernel
theorem dX1_change_41 : decode cX1_change 41 = .ok (.iload_n 2, 1) := by decide +kernel
theorem dX1_change_42 : decode cX1_change 42 = .ok (.putfield 21, 3) := by decide +kernel
theorem dX1_change_45 : decode cX1_change 45 = .ok (.goto 19, 3) := by decide +kernel
theorem dX1_change_48 : decode cX1_change 48 = .ok (.aload_n 0, 1) := by decide +kernel
theorem dX1_change_49 : decode cX1_change 49 = .ok (.iload_n 2, 1) := by decide +kernel
theorem dX1_change_50 : decode cX1_change 50 = .ok (.putfield 24, 3) := by decide +kernel
theorem dX1_change_53 : decode cX1_change 53 = .ok (.goto 11, 3) := by decide +kernel
theorem dX1_change_56 : decode cX1_change 56 = .ok (.aload_n 0, 1) := by decide +kernel
theorem dX1_change_57 : decode cX1_change 57 = .ok (.iload_n 2, 1) := by decide +kernel
theorem dX1_change_58 : decode cX1_change 58 = .ok (.putfield 27, 3) := by decide +kernel
theorem dX1_change_61 : decode cX1_change 61 = .ok (.goto 3, 3) := by decide +kernel
theorem dX1_change_64 : decode cX1_change 64 = .ok (.return_, 1) := by decide +kernel
theorem dX1_tell_0 : decode cX1_tell 0 = .ok (.iload_n 1, 1) := by decide +kernel
theorem dX1_tell_1 : decode cX1_tell 1 = .ok (.tableswitch 69 1 6 #[39, 44, 49, 54, 59, 64], 39) := by decide +kernel
theorem dX1_tell_40 : decode cX1_tell 40 = .ok (.aload_n 0, 1) := by decide +kernel
theorem dX1_tell_41 : decode cX1_tell 41 = .ok (.getfield 18, 3) := by decide +kernel
theorem dX1_tell_44 : decode cX1_tell 44 = .ok (.ireturn, 1) := by decide +kernel
theorem dX1_tell_45 : decode cX1_tell 45 = .ok (.aload_n 0, 1) := by decide +kernel
theorem dX1_tell_46 : decode cX1_tell 46 = .ok (.getfield 21, 3) := by decide +kernel
theorem dX1_tell_49 : decode cX1_tell 49 = .ok (.ireturn, 1) := by decide +kernel
theorem dX1_tell_50 : decode cX1_tell 50 = .ok (.aload_n 0, 1) := by decide +kernel
theorem dX1_tell_51 : decode cX1_tell 51 = .ok (.getfield 24, 3) := by decide +kernel
theorem dX1_tell_54 : decode cX1_tell 54 = .ok (.ireturn, 1) := by decide +kernel
theorem dX1_tell_55 : decode cX1_tell 55 = .ok (.aload_n 0, 1) := by decide +kernel
theorem dX1_tell_56 : decode cX1_tell 56 = .ok (.getfield 27, 3) := by decide +kernel
theorem dX1_tell_59 : decode cX1_tell 59 = .ok (.ireturn, 1) := by decide +kernel
theorem dX1_tell_60 : decode cX1_tell 60 = .ok (.aload_n 0, 1) := by decide +kernel
theorem dX1_tell_61 : decode cX1_tell 61 = .ok (.getfield 15, 3) := by decide +kernel
theorem dX1_tell_64 : decode cX1_tell 64 = .ok (.ireturn, 1) := by decide +kernel
theorem dX1_tell_65 : decode cX1_tell 65 = .ok (.aload_n 0, 1) := by decide +kernel
theorem dX1_tell_66 : decode cX1_tell 66 = .ok (.invokevirtual 30, 3) := by decide +kernel
theorem dX1_tell_69 : decode cX1_tell 69 = .ok (.ireturn, 1) := by decide +kernel
theorem dX1_tell_70 : decode cX1_tell 70 = .ok (.bipush (-100), 2) := by decide +kernel
theorem dX1_tell_72 : decode cX1_tell 72 = .ok (.ireturn, 1) := by decide +kernel
theorem dX1_on_0 : decode cX1_on 0 = .ok (.aload_n 0, 1) := by decide +kernel
theorem dX1_on_1 : decode cX1_on 1 = .ok (.getfield 15, 3) := by decide +kernel
theorem dX1_on_4 : decode cX1_on 4 = .ok (.tableswitch 64 1 5 #[36, 64, 36, 48, 50], 36) := by decide +kernel
theorem dX1_on_40 : decode cX1_on 40 = .ok (.iload_n 1, 1) := by decide +kernel
theorem dX1_on_41 : decode cX1_on 41 = .ok (.aload_n 0, 1) := by decide +kernel
theorem dX1_on_42 : decode cX1_on 42 = .ok (.getfield 21, 3) := by decide +kernel
theorem dX1_on_45 : decode cX1_on 45 = .ok (.iadd, 1) := by decide +kernel
theorem dX1_on_46 : decode cX1_on 46 = .ok (.aload_n 0, 1) := by decide +kernel
theorem dX1_on_47 : decode cX1_on 47 = .ok (.getfield 18, 3) := by decide +kernel
theorem dX1_on_50 : decode cX1_on 50 = .ok (.isub, 1) := by decide +kernel
theorem dX1_on_51 : decode cX1_on 51 = .ok (.ireturn, 1) := by decide +kernel
theorem dX1_on_52 : decode cX1_on 52 = .ok (.iload_n 1, 1) := by decide +kernel
theorem dX1_on_53 : decode cX1_on 53 = .ok (.ireturn, 1) := by decide +kernel
theorem dX1_on_54 : decode cX1_on 54 = .ok (.iload_n 1, 1) := by decide +kernel
theorem dX1_on_55 : decode cX1_on 55 = .ok (.aload_n 0, 1) := by decide +kernel
theorem dX1_on_56 : decode cX1_on 56 = .ok (.getfield 21, 3) := by decide +kernel
theorem dX1_on_59 : decode cX1_on 59 = .ok (.aload_n 0, 1) := by decide +kernel
theorem dX1_on_60 : decode cX1_on 60 = .ok (.getfield 18, 3) := by decide +kernel
theorem dX1_on_63 : decode cX1_on 63 = .ok (.iconst 1, 1) := by decide +kernel
theorem dX1_on_64 : decode cX1_on 64 = .ok (.iadd, 1) := by decide +kernel
theorem dX1_on_65 : decode cX1_on 65 = .ok (.imul, 1) := by decide +kernel
theorem dX1_on_66 : decode cX1_on 66 = .ok (.iadd, 1) := by decide +kernel
theorem dX1_on_67 : decode cX1_on 67 = .ok (.ireturn, 1) := by decide +kernel
theorem dX1_on_68 : decode cX1_on 68 = .ok (.iload_n 1, 1) := by decide +kernel
theorem dX1_on_69 : decode cX1_on 69 = .ok (.aload_n 0, 1) := by decide +kernel
theorem dX1_on_70 : decode cX1_on 70 = .ok (.getfield 21, 3) := by decide +kernel
theorem dX1_on_73 : decode cX1_on 73 = .ok (.iadd, 1) := by decide +kernel
theorem dX1_on_74 : decode cX1_on 74 = .ok (.ireturn, 1) := by decide +kernel
theorem dX1_passes_0 : decode cX1_passes 0 = .ok (.aload_n 0, 1) := by decide +kernel
theorem dX1_passes_1 : decode cX1_passes 1 = .ok (.iload_n 1, 1) := by decide +kernel
theorem dX1_passes_2 : decode cX1_passes 2 = .ok (.invokevirtual 34, 3) := by decide +kernel
theorem dX1_passes_5 : decode cX1_passes 5 = .ok (.invokestatic 38, 3) := by decide +kernel
theorem dX1_passes_8 : decode cX1_passes 8 = .ok (.ifCond .eq 16, 3) := by decide +kernel
theorem dX1_passes_11 : decode cX1_passes 11 = .ok (.aload_n 0, 1) := by decide +kernel
theorem dX1_passes_12 : decode cX1_passes 12 = .ok (.iload_n 1, 1) := by decide +kernel
theorem dX1_passes_13 : decode cX1_passes 13 = .ok (.iload_n 2, 1) := by decide +kernel
theorem dX1_passes_14 : decode cX1_passes 14 = .ok (.invokevirtual 42, 3) := by decide +kernel
theorem dX1_passes_17 : decode cX1_passes 17 = .ok (.ifCond .eq 7, 3) := by decide +kernel
theorem dX1_passes_20 : decode cX1_passes 20 = .ok (.iconst 1, 1) := by decide +kernel
theorem dX1_passes_21 : decode cX1_passes 21 = .ok (.goto 4, 3) := by decide +kernel
theorem dX1_passes_24 : decode cX1_passes 24 = .ok (.iconst 0, 1) := by decide +kernel
theorem dX1_passes_25 : decode cX1_passes 25 = .ok (.ireturn, 1) := by decide +kernel
theorem dX1_lets_0 : decode cX1_lets 0 = .ok (.aload_n 0, 1) := by decide +kernel
theorem dX1_lets_1 : decode cX1_lets 1 = .ok (.getfield 15, 3) := by decide +kernel
theorem dX1_lets_4 : decode cX1_lets 4 = .ok (.tableswitch 79 2 5 #[32, 43, 45, 55], 32) := by decide +kernel
theorem dX1_lets_36 : decode cX1_lets 36 = .ok (.iload_n 2, 1) := by decide +kernel
theorem dX1_lets_37 : decode cX1_lets 37 = .ok (.iconst 1, 1) := by decide +kernel
theorem dX1_lets_38 : decode cX1_lets 38 = .ok (.if_icmp .ne 7, 3) := by decide +kernel
theorem dX1_lets_41 : decode cX1_lets 41 = .ok (.iconst 1, 1) := by decide +kernel
theorem dX1_lets_42 : decode cX1_lets 42 = .ok (.goto 4, 3) := by decide +kernel
theorem dX1_lets_45 : decode cX1_lets 45 = .ok (.iconst 0, 1) := by decide +kernel
theorem dX1_lets_46 : decode cX1_lets 46 = .ok (.ireturn, 1) := by decide +kernel
theorem dX1_lets_47 : decode cX1_lets 47 = .ok (.iconst 1, 1) := by decide +kernel
theorem dX1_lets_48 : decode cX1_lets 48 = .ok (.ireturn, 1) := by decide +kernel
theorem dX1_lets_49 : decode cX1_lets 49 = .ok (.iload_n 2, 1) := by decide +kernel
theorem dX1_lets_50 : decode cX1_lets 50 = .ok (.ifCond .ne 7, 3) := by decide +kernel
theorem dX1_lets_53 : decode cX1_lets 53 = .ok (.iconst 1, 1) := by decide +kernel
theorem dX1_lets_54 : decode cX1_lets 54 = .ok (.goto 4, 3) := by decide +kernel
theorem dX1_lets_57 : decode cX1_lets 57 = .ok (.iconst 0, 1) := by decide +kernel
theorem dX1_lets_58 : decode cX1_lets 58 = .ok (.ireturn, 1) := by decide +kernel
theorem dX1_lets_59 : decode cX1_lets 59 = .ok (.aload_n 0, 1) := by decide +kernel
theorem dX1_lets_60 : decode cX1_lets 60 = .ok (.getfield 18, 3) := by decide +kernel
theorem dX1_lets_63 : decode cX1_lets 63 = .ok (.ifCond .lt 18, 3) := by decide +kernel
theorem dX1_lets_66 : decode cX1_lets 66 = .ok (.iload_n 1, 1) := by decide +kernel
theorem dX1_lets_67 : decode cX1_lets 67 = .ok (.aload_n 0, 1) := by decide +kernel
theorem dX1_lets_68 : decode cX1_lets 68 = .ok (.getfield 18, 3) := by decide +kernel
theorem dX1_lets_71 : decode cX1_lets 71 = .ok (.iconst 1, 1) := by decide +kernel
theorem dX1_lets_72 : decode cX1_lets 72 = .ok (.iadd, 1) := by decide +kernel
theorem dX1_lets_73 : decode cX1_lets 73 = .ok (.irem, 1) := by decide +kernel
theorem dX1_lets_74 : decode cX1_lets 74 = .ok (.ifCond .ne 7, 3) := by decide +kernel
theorem dX1_lets_77 : decode cX1_lets 77 = .ok (.iconst 1, 1) := by decide +kernel
theorem dX1_lets_78 : decode cX1_lets 78 = .ok (.goto 4, 3) := by decide +kernel
theorem dX1_lets_81 : decode cX1_lets 81 = .ok (.iconst 0, 1) := by decide +kernel
theorem dX1_lets_82 : decode cX1_lets 82 = .ok (.ireturn, 1) := by decide +kernel
theorem dX1_lets_83 : decode cX1_lets 83 = .ok (.iload_n 2, 1) := by decide +kernel
theorem dX1_lets_84 : decode cX1_lets 84 = .ok (.ifCond .eq 8, 3) := by decide +kernel
theorem dX1_lets_87 : decode cX1_lets 87 = .ok (.iload_n 2, 1) := by decide +kernel
theorem dX1_lets_88 : decode cX1_lets 88 = .ok (.iconst 1, 1) := by decide +kernel
theorem dX1_lets_89 : decode cX1_lets 89 = .ok (.if_icmp .ne 7, 3) := by decide +kernel
theorem dX1_lets_92 : decode cX1_lets 92 = .ok (.iconst 1, 1) := by decide +kernel
theorem dX1_lets_93 : decode cX1_lets 93 = .ok (.goto 4, 3) := by decide +kernel
theorem dX1_lets_96 : decode cX1_lets 96 = .ok (.iconst 0, 1) := by decide +kernel
theorem dX1_lets_97 : decode cX1_lets 97 = .ok (.ireturn, 1) := by decide +kernel
theorem dX1_leads_0 : decode cX1_leads 0 = .ok (.aload_n 0, 1) := by decide +kernel
theorem dX1_leads_1 : decode cX1_leads 1 = .ok (.getfield 15, 3) := by decide +kernel
theorem dX1_leads_4 : decode cX1_leads 4 = .ok (.iconst 4, 1) := by decide +kernel
theorem dX1_leads_5 : decode cX1_leads 5 = .ok (.if_icmp .ne 10, 3) := by decide +kernel
theorem dX1_leads_8 : decode cX1_leads 8 = .ok (.aload_n 0, 1) := by decide +kernel
theorem dX1_leads_9 : decode cX1_leads 9 = .ok (.getfield 24, 3) := by decide +kernel
theorem dX1_leads_12 : decode cX1_leads 12 = .ok (.goto 7, 3) := by decide +kernel
theorem dX1_leads_15 : decode cX1_leads 15 = .ok (.aload_n 0, 1) := by decide +kernel
theorem dX1_leads_16 : decode cX1_leads 16 = .ok (.getfield 27, 3) := by decide +kernel
theorem dX1_leads_19 : decode cX1_leads 19 = .ok (.ireturn, 1) := by decide +kernel
theorem dX1_firstOut_0 : decode cX1_firstOut 0 = .ok (.iload_n 1, 1) := by decide +kernel
theorem dX1_firstOut_1 : decode cX1_firstOut 1 = .ok (.istore_n 3, 1) := by decide +kernel
theorem dX1_firstOut_2 : decode cX1_firstOut 2 = .ok (.iload_n 3, 1) := by decide +kernel
theorem dX1_firstOut_3 : decode cX1_firstOut 3 = .ok (.bipush 32, 2) := by decide +kernel
theorem dX1_firstOut_5 : decode cX1_firstOut 5 = .ok (.if_icmp .ge 24, 3) := by decide +kernel
theorem dX1_firstOut_8 : decode cX1_firstOut 8 = .ok (.aload_n 0, 1) := by decide +kernel
theorem dX1_firstOut_9 : decode cX1_firstOut 9 = .ok (.iload_n 3, 1) := by decide +kernel
theorem dX1_firstOut_10 : decode cX1_firstOut 10 = .ok (.iload_n 2, 1) := by decide +kernel
theorem dX1_firstOut_11 : decode cX1_firstOut 11 = .ok (.invokevirtual 46, 3) := by decide +kernel
theorem dX1_firstOut_14 : decode cX1_firstOut 14 = .ok (.ifCond .eq 9, 3) := by decide +kernel
theorem dX1_firstOut_17 : decode cX1_firstOut 17 = .ok (.aload_n 0, 1) := by decide +kernel
theorem dX1_firstOut_18 : decode cX1_firstOut 18 = .ok (.iload_n 3, 1) := by decide +kernel
theorem dX1_firstOut_19 : decode cX1_firstOut 19 = .ok (.invokevirtual 34, 3) := by decide +kernel
theorem dX1_firstOut_22 : decode cX1_firstOut 22 = .ok (.ireturn, 1) := by decide +kernel
theorem dX1_firstOut_23 : decode cX1_firstOut 23 = .ok (.iinc 3 1, 3) := by decide +kernel
theorem dX1_firstOut_26 : decode cX1_firstOut 26 = .ok (.goto (-24), 3) := by decide +kernel
theorem dX1_firstOut_29 : decode cX1_firstOut 29 = .ok (.bipush 32, 2) := by decide +kernel
theorem dX1_firstOut_31 : decode cX1_firstOut 31 = .ok (.ireturn, 1) := by decide +kernel
theorem dX2_init_0 : decode cX2_init 0 = .ok (.aload_n 0, 1) := by decide +kernel
theorem dX2_init_1 : decode cX2_init 1 = .ok (.invokespecial 3, 3) := by decide +kernel
theorem dX2_init_4 : decode cX2_init 4 = .ok (.aload_n 0, 1) := by decide +kernel
theorem dX2_init_5 : decode cX2_init 5 = .ok (.sipush 160, 3) := by decide +kernel
theorem dX2_init_8 : decode cX2_init 8 = .ok (.newarray .int, 2) := by decide +kernel
theorem dX2_init_10 : decode cX2_init 10 = .ok (.putfield 9, 3) := by decide +kernel
theorem dX2_init_13 : decode cX2_init 13 = .ok (.aload_n 0, 1) := by decide +kernel
theorem dX2_init_14 : decode cX2_init 14 = .ok (.iconst 3, 1) := by decide +kernel
theorem dX2_init_15 : decode cX2_init 15 = .ok (.newarray .int, 2) := by decide +kernel
theorem dX2_init_17 : decode cX2_init 17 = .ok (.putfield 15, 3) := by decide +kernel
theorem dX2_init_20 : decode cX2_init 20 = .ok (.return_, 1) := by decide +kernel
theorem dX2_read_0 : decode cX2_read 0 = .ok (.aload_n 1, 1) := by decide +kernel
theorem dX2_read_1 : decode cX2_read 1 = .ok (.invokevirtual 18, 3) := by decide +kernel
theorem dX2_read_4 : decode cX2_read 4 = .ok (.aload_n 0, 1) := by decide +kernel
theorem dX2_read_5 : decode cX2_read 5 = .ok (.iconst 0, 1) := by decide +kernel
theorem dX2_read_6 : decode cX2_read 6 = .ok (.putfield 23, 3) := by decide +kernel
theorem dX2_read_9 : decode cX2_read 9 = .ok (.aload_n 0, 1) := by decide +kernel
theorem dX2_read_10 : decode cX2_read 10 = .ok (.iconst 0, 1) := by decide +kernel
theorem dX2_read_11 : decode cX2_read 11 = .ok (.putfield 27, 3) := by decide +kernel
theorem dX2_read_14 : decode cX2_read 14 = .ok (.aload_n 0, 1) := by decide +kernel
theorem dX2_read_15 : decode cX2_read 15 = .ok (.iconst (-1), 1) := by decide +kernel
theorem dX2_read_16 : decode cX2_read 16 = .ok (.putfield 30, 3) := by decide +kernel
theorem dX2_read_19 : decode cX2_read 19 = .ok (.aload_n 0, 1) := by decide +kernel
theorem dX2_read_20 : decode cX2_read 20 = .ok (.aload_n 1, 1) := by decide +kernel
theorem dX2_read_21 : decode cX2_read 21 = .ok (.getfield 33, 3) := by decide +kernel
theorem dX2_read_24 : decode cX2_read 24 = .ok (.iconst 0, 1) := by decide +kernel
theorem dX2_read_25 : decode cX2_read 25 = .ok (.iaload, 1) := by decide +kernel
theorem dX2_read_26 : decode cX2_read 26 = .ok (.putfield 36, 3) := by decide +kernel
theorem dX2_read_29 : decode cX2_read 29 = .ok (.aload_n 0, 1) := by decide +kernel
theorem dX2_read_30 : decode cX2_read 30 = .ok (.aload_n 1, 1) := by decide +kernel
theorem dX2_read_31 : decode cX2_read 31 = .ok (.iconst 3, 1) := by decide +kernel
theorem dX2_read_32 : decode cX2_read 32 = .ok (.iconst 0, 1) := by decide +kernel
theorem dX2_read_33 : decode cX2_read 33 = .ok (.invokevirtual 39, 3) := by decide +kernel
theorem dX2_read_36 : decode cX2_read 36 = .ok (.aload_n 0, 1) := by decide +kernel
theorem dX2_read_37 : decode cX2_read 37 = .ok (.aload_n 1, 1) := by decide +kernel
theorem dX2_read_38 : decode cX2_read 38 = .ok (.iconst 4, 1) := by decide +kernel
theorem dX2_read_39 : decode cX2_read 39 = .ok (.iconst 1, 1) := by decide +kernel
theorem dX2_read_40 : decode cX2_read 40 = .ok (.invokevirtual 39, 3) := by decide +kernel
theorem dX2_read_43 : decode cX2_read 43 = .ok (.aload_n 0, 1) := by decide +kernel
theorem dX2_read_44 : decode cX2_read 44 = .ok (.aload_n 1, 1) := by decide +kernel
theorem dX2_read_45 : decode cX2_read 45 = .ok (.iconst 5, 1) := by decide +kernel
theorem dX2_read_46 : decode cX2_read 46 = .ok (.iconst 2, 1) := by decide +kernel
theorem dX2_read_47 : decode cX2_read 47 = .ok (.invokevirtual 39, 3) := by decide +kernel
theorem dX2_read_50 : decode cX2_read 50 = .ok (.aload_n 0, 1) := by decide +kernel
theorem dX2_read_51 : decode cX2_read 51 = .ok (.aload_n 1, 1) := by decide +kernel
theorem dX2_read_52 : decode cX2_read 52 = .ok (.iconst (-1), 1) := by decide +kernel
theorem dX2_read_53 : decode cX2_read 53 = .ok (.invokevirtual 43, 3) := by decide +kernel
theorem dX2_read_56 : decode cX2_read 56 = .ok (.aload_n 0, 1) := by decide +kernel
theorem dX2_read_57 : decode cX2_read 57 = .ok (.getfield 30, 3) := by decide +kernel
theorem dX2_read_60 : decode cX2_read 60 = .ok (.iconst (-1), 1) := by decide +kernel
theorem dX2_read_61 : decode cX2_read 61 = .ok (.if_icmp .ne 32, 3) := by decide +kernel
theorem dX2_read_64 : decode cX2_read 64 = .ok (.new 47, 3) := by decide +kernel
theorem dX2_read_67 : decode cX2_read 67 = .ok (.dup, 1) := by decide +kernel
theorem dX2_read_68 : decode cX2_read 68 = .ok (.aload_n 0, 1) := by decide +kernel
theorem dX2_read_69 : decode cX2_read 69 = .ok (.getfield 9, 3) := by decide +kernel
theorem dX2_read_72 : decode cX2_read 72 = .ok (.aload_n 0, 1) := by decide +kernel
theorem dX2_read_73 : decode cX2_read 73 = .ok (.getfield 27, 3) := by decide +kernel
theorem dX2_read_76 : decode cX2_read 76 = .ok (.invokestatic 49, 3) := by decide +kernel
theorem dX2_read_79 : decode cX2_read 79 = .ok (.aload_n 0, 1) := by decide +kernel
theorem dX2_read_80 : decode cX2_read 80 = .ok (.getfield 15, 3) := by decide +kernel
theorem dX2_read_83 : decode cX2_read 83 = .ok (.iconst 3, 1) := by decide +kernel
theorem dX2_read_84 : decode cX2_read 84 = .ok (.invokestatic 49, 3) := by decide +kernel
theorem dX2_read_87 : decode cX2_read 87 = .ok (.invokespecial 55, 3) := by decide +kernel
theorem dX2_read_90 : decode cX2_read 90 = .ok (.goto 4, 3) := by decide +kernel
theorem dX2_read_93 : decode cX2_read 93 = .ok (.aconst_null, 1) := by decide +kernel
theorem dX2_read_94 : decode cX2_read 94 = .ok (.areturn, 1) := by decide +kernel
theorem dX2_readPart_0 : decode cX2_readPart 0 = .ok (.aload_n 0, 1) := by decide +kernel
theorem dX2_readPart_1 : decode cX2_readPart 1 = .ok (.aload_n 1, 1) := by decide +kernel
theorem dX2_readPart_2 : decode cX2_readPart 2 = .ok (.iload_n 2, 1) := by decide +kernel
theorem dX2_readPart_3 : decode cX2_readPart 3 = .ok (.invokevirtual 43, 3) := by decide +kernel
theorem dX2_readPart_6 : decode cX2_readPart 6 = .ok (.aload_n 0, 1) := by decide +kernel
theorem dX2_readPart_7 : decode cX2_readPart 7 = .ok (.aload_n 1, 1) := by decide +kernel
theorem dX2_readPart_8 : decode cX2_readPart 8 = .ok (.iconst 0, 1) := by decide +kernel
theorem dX2_readPart_9 : decode cX2_readPart 9 = .ok (.invokevirtual 58, 3) := by decide +kernel
theorem dX2_readPart_12 : decode cX2_readPart 12 = .ok (.aload_n 0, 1) := by decide +kernel
theorem dX2_readPart_13 : decode cX2_readPart 13 = .ok (.aload_n 1, 1) := by decide +kernel
theorem dX2_readPart_14 : decode cX2_readPart 14 = .ok (.bipush 59, 2) := by decide +kernel
theorem dX2_readPart_16 : decode cX2_readPart 16 = .ok (.invokevirtual 43, 3) := by decide +kernel
theorem dX2_readPart_19 : decode cX2_readPart 19 = .ok (.aload_n 0, 1) := by decide +kernel
theorem dX2_readPart_20 : decode cX2_readPart 20 = .ok (.getfield 15, 3) := by decide +kernel
theorem dX2_readPart_23 : decode cX2_readPart 23 = .ok (.iload_n 3, 1) := by decide +kernel
theorem dX2_readPart_24 : decode cX2_readPart 24 = .ok (.aload_n 0, 1) := by decide +kernel
theorem dX2_readPart_25 : decode cX2_readPart 25 = .ok (.getfield 27, 3) := by decide +kernel
theorem dX2_readPart_28 : decode cX2_readPart 28 = .ok (.iastore, 1) := by decide +kernel
theorem dX2_readPart_29 : decode cX2_readPart 29 = .ok (.return_, 1) := by decide +kernel
theorem dX2_readOr_0 : decode cX2_readOr 0 = .ok (.aload_n 0, 1) := by decide +kernel
theorem dX2_readOr_1 : decode cX2_readOr 1 = .ok (.aload_n 1, 1) := by decide +kernel
theorem dX2_readOr_2 : decode cX2_readOr 2 = .ok (.iload_n 2, 1) := by decide +kernel
theorem dX2_readOr_3 : decode cX2_readOr 3 = .ok (.invokevirtual 61, 3) := by decide +kernel
theorem dX2_readOr_6 : decode cX2_readOr 6 = .ok (.iconst 0, 1) := by decide +kernel
theorem dX2_readOr_7 : decode cX2_readOr 7 = .ok (.istore_n 3, 1) := by decide +kernel
theorem dX2_readOr_8 : decode cX2_readOr 8 = .ok (.iload_n 3, 1) := by decide +kernel
theorem dX2_readOr_9 : decode cX2_readOr 9 = .ok (.sipush 160, 3) := by decide +kernel
theorem dX2_readOr_12 : decode cX2_readOr 12 = .ok (.if_icmp .ge 36, 3) := by decide +kernel
theorem dX2_readOr_15 : decode cX2_readOr 15 = .ok (.aload_n 0, 1) := by decide +kernel
theorem dX2_readOr_16 : decode cX2_readOr 16 = .ok (.getfield 36, 3) := by decide +kernel
theorem dX2_readOr_19 : decode cX2_readOr 19 = .ok (.bipush 6, 2) := by decide +kernel
theorem dX2_readOr_21 : decode cX2_readOr 21 = .ok (.if_icmp .ne 27, 3) := by decide +kernel
theorem dX2_readOr_24 : decode cX2_readOr 24 = .ok (.aload_n 0, 1) := by decide +kernel
theorem dX2_readOr_25 : decode cX2_readOr 25 = .ok (.aload_n 1, 1) := by decide +kernel
theorem dX2_readOr_26 : decode cX2_readOr 26 = .ok (.invokevirtual 64, 3) := by decide +kernel
theorem dX2_readOr_29 : decode cX2_readOr 29 = .ok (.aload_n 0, 1) := by decide +kernel
theorem dX2_readOr_30 : decode cX2_readOr 30 = .ok (.aload_n 1, 1) := by decide +kernel
theorem dX2_readOr_31 : decode cX2_readOr 31 = .ok (.iload_n 2, 1) := by decide +kernel
theorem dX2_readOr_32 : decode cX2_readOr 32 = .ok (.invokevirtual 61, 3) := by decide +kernel
theorem dX2_readOr_35 : decode cX2_readOr 35 = .ok (.aload_n 0, 1) := by decide +kernel
theorem dX2_readOr_36 : decode cX2_readOr 36 = .ok (.bipush 10, 2) := by decide +kernel
theorem dX2_readOr_38 : decode cX2_readOr 38 = .ok (.iconst 0, 1) := by decide +kernel
theorem dX2_readOr_39 : decode cX2_readOr 39 = .ok (.invokevirtual 70, 3) := by decide +kernel
theorem dX2_readOr_42 : decode cX2_readOr 42 = .ok (.iinc 3 1, 3) := by decide +kernel
theorem dX2_readOr_45 : decode cX2_readOr 45 = .ok (.goto (-37), 3) := by decide +kernel
theorem dX2_readOr_48 : decode cX2_readOr 48 = .ok (.return_, 1) := by decide +kernel
theorem dX2_readAnd_0 : decode cX2_readAnd 0 = .ok (.aload_n 0, 1) := by decide +kernel
theorem dX2_readAnd_1 : decode cX2_readAnd 1 = .ok (.aload_n 1, 1) := by decide +kernel
theorem dX2_readAnd_2 : decode cX2_readAnd 2 = .ok (.iload_n 2, 1) := by decide +kernel
theorem dX2_readAnd_3 : decode cX2_readAnd 3 = .ok (.invokevirtual 74, 3) := by decide +kernel
theorem dX2_readAnd_6 : decode cX2_readAnd 6 = .ok (.iconst 0, 1) := by decide +kernel
theorem dX2_readAnd_7 : decode cX2_readAnd 7 = .ok (.istore_n 3, 1) := by decide +kernel
theorem dX2_readAnd_8 : decode cX2_readAnd 8 = .ok (.iload_n 3, 1) := by decide +kernel
theorem dX2_readAnd_9 : decode cX2_readAnd 9 = .ok (.sipush 160, 3) := by decide +kernel
theorem dX2_readAnd_12 : decode cX2_readAnd 12 = .ok (.if_icmp .ge 36, 3) := by decide +kernel
theorem dX2_readAnd_15 : decode cX2_readAnd 15 = .ok (.aload_n 0, 1) := by decide +kernel
theorem dX2_readAnd_16 : decode cX2_readAnd 16 = .ok (.getfield 36, 3) := by decide +kernel
theorem dX2_readAnd_19 : decode cX2_readAnd 19 = .ok (.bipush 7, 2) := by decide +kernel
theorem dX2_readAnd_21 : decode cX2_readAnd 21 = .ok (.if_icmp .ne 27, 3) := by decide +kernel
theorem dX2_readAnd_24 : decode cX2_readAnd 24 = .ok (.aload_n 0, 1) := by decide +kernel
theorem dX2_readAnd_25 : decode cX2_readAnd 25 = .ok (.aload_n 1, 1) := by decide +kernel
theorem dX2_readAnd_26 : decode cX2_readAnd 26 = .ok (.invokevirtual 64, 3) := by decide +kernel
theorem dX2_readAnd_29 : decode cX2_readAnd 29 = .ok (.aload_n 0, 1) := by decide +kernel
theorem dX2_readAnd_30 : decode cX2_readAnd 30 = .ok (.aload_n 1, 1) := by decide +kernel
theorem dX2_readAnd_31 : decode cX2_readAnd 31 = .ok (.iload_n 2, 1) := by decide +kernel
theorem dX2_readAnd_32 : decode cX2_readAnd 32 = .ok (.invokevirtual 74, 3) := by decide +kernel
theorem dX2_readAnd_35 : decode cX2_readAnd 35 = .ok (.aload_n 0, 1) := by decide +kernel
theorem dX2_readAnd_36 : decode cX2_readAnd 36 = .ok (.bipush 9, 2) := by decide +kernel
theorem dX2_readAnd_38 : decode cX2_readAnd 38 = .ok (.iconst 0, 1) := by decide +kernel
theorem dX2_readAnd_39 : decode cX2_readAnd 39 = .ok (.invokevirtual 70, 3) := by decide +kernel
theorem dX2_readAnd_42 : decode cX2_readAnd 42 = .ok (.iinc 3 1, 3) := by decide +kernel
theorem dX2_readAnd_45 : decode cX2_readAnd 45 = .ok (.goto (-37), 3) := by decide +kernel
theorem dX2_readAnd_48 : decode cX2_readAnd 48 = .ok (.return_, 1) := by decide +kernel
theorem dX2_readNot_0 : decode cX2_readNot 0 = .ok (.aload_n 0, 1) := by decide +kernel
theorem dX2_readNot_1 : decode cX2_readNot 1 = .ok (.getfield 36, 3) := by decide +kernel
theorem dX2_readNot_4 : decode cX2_readNot 4 = .ok (.bipush 8, 2) := by decide +kernel
theorem dX2_readNot_6 : decode cX2_readNot 6 = .ok (.if_icmp .ne 28, 3) := by decide +kernel
theorem dX2_readNot_9 : decode cX2_readNot 9 = .ok (.iload_n 2, 1) := by decide +kernel
theorem dX2_readNot_10 : decode cX2_readNot 10 = .ok (.iconst 5, 1) := by decide +kernel
theorem dX2_readNot_11 : decode cX2_readNot 11 = .ok (.if_icmp .ge 23, 3) := by decide +kernel
theorem dX2_readNot_14 : decode cX2_readNot 14 = .ok (.aload_n 0, 1) := by decide +kernel
theorem dX2_readNot_15 : decode cX2_readNot 15 = .ok (.aload_n 1, 1) := by decide +kernel
theorem dX2_readNot_16 : decode cX2_readNot 16 = .ok (.invokevirtual 64, 3) := by decide +kernel
theorem dX2_readNot_19 : decode cX2_readNot 19 = .ok (.aload_n 0, 1) := by decide +kernel
theorem dX2_readNot_20 : decode cX2_readNot 20 = .ok (.aload_n 1, 1) := by decide +kernel
theorem dX2_readNot_21 : decode cX2_readNot 21 = .ok (.iload_n 2, 1) := by decide +kernel
theorem dX2_readNot_22 : decode cX2_readNot 22 = .ok (.iconst 1, 1) := by decide +kernel
theorem dX2_readNot_23 : decode cX2_readNot 23 = .ok (.iadd, 1) := by decide +kernel
theorem dX2_readNot_24 : decode cX2_readNot 24 = .ok (.invokevirtual 74, 3) := by decide +kernel
theorem dX2_readNot_27 : decode cX2_readNot 27 = .ok (.aload_n 0, 1) := by decide +kernel
theorem dX2_readNot_28 : decode cX2_readNot 28 = .ok (.iconst 3, 1) := by decide +kernel
theorem dX2_readNot_29 : decode cX2_readNot 29 = .ok (.iconst 0, 1) := by decide +kernel
theorem dX2_readNot_30 : decode cX2_readNot 30 = .ok (.invokevirtual 70, 3) := by decide +kernel
theorem dX2_readNot_33 : decode cX2_readNot 33 = .ok (.return_, 1) := by decide +kernel
theorem dX2_readNot_34 : decode cX2_readNot 34 = .ok (.aload_n 0, 1) := by decide +kernel
theorem dX2_readNot_35 : decode cX2_readNot 35 = .ok (.aload_n 1, 1) := by decide +kernel
theorem dX2_readNot_36 : decode cX2_readNot 36 = .ok (.iload_n 2, 1) := by decide +kernel
theorem dX2_readNot_37 : decode cX2_readNot 37 = .ok (.invokevirtual 77, 3) := by decide +kernel
theorem dX2_readNot_40 : decode cX2_readNot 40 = .ok (.aload_n 0, 1) := by decide +kernel
theorem dX2_readNot_41 : decode cX2_readNot 41 = .ok (.getfield 36, 3) := by decide +kernel
theorem dX2_readNot_44 : decode cX2_readNot 44 = .ok (.bipush 60, 2) := by decide +kernel
theorem dX2_readNot_46 : decode cX2_readNot 46 = .ok (.if_icmp .eq 12, 3) := by decide +kernel
theorem dX2_readNot_49 : decode cX2_readNot 49 = .ok (.aload_n 0, 1) := by decide +kernel
theorem dX2_readNot_50 : decode cX2_readNot 50 = .ok (.getfield 36, 3) := by decide +kernel
theorem dX2_readNot_53 : decode cX2_readNot 53 = .ok (.bipush 61, 2) := by decide +kernel
theorem dX2_readNot_55 : decode cX2_readNot 55 = .ok (.if_icmp .ne 37, 3) := by decide +kernel
theorem dX2_readNot_58 : decode cX2_readNot 58 = .ok (.aload_n 0, 1) := by decide +kernel
theorem dX2_readNot_59 : decode cX2_readNot 59 = .ok (.getfield 36, 3) := by decide +kernel
theorem dX2_readNot_62 : decode cX2_readNot 62 = .ok (.bipush 60, 2) := by decide +kernel
theorem dX2_readNot_64 : decode cX2_readNot 64 = .ok (.if_icmp .ne 8, 3) := by decide +kernel
theorem dX2_readNot_67 : decode cX2_readNot 67 = .ok (.bipush 7, 2) := by decide +kernel
theorem dX2_readNot_69 : decode cX2_readNot 69 = .ok (.goto 5, 3) := by decide +kernel
theorem dX2_readNot_72 : decode cX2_readNot 72 = .ok (.bipush 8, 2) := by decide +kernel
theorem dX2_readNot_74 : decode cX2_readNot 74 = .ok (.istore_n 3, 1) := by decide +kernel
theorem dX2_readNot_75 : decode cX2_readNot 75 = .ok (.aload_n 0, 1) := by decide +kernel
theorem dX2_readNot_76 : decode cX2_readNot 76 = .ok (.aload_n 1, 1) := by decide +kernel
theorem dX2_readNot_77 : decode cX2_readNot 77 = .ok (.invokevirtual 64, 3) := by decide +kernel
theorem dX2_readNot_80 : decode cX2_readNot 80 = .ok (.aload_n 0, 1) := by decide +kernel
theorem dX2_readNot_81 : decode cX2_readNot 81 = .ok (.aload_n 1, 1) := by decide +kernel
theorem dX2_readNot_82 : decode cX2_readNot 82 = .ok (.iload_n 2, 1) := by decide +kernel
theorem dX2_readNot_83 : decode cX2_readNot 83 = .ok (.invokevirtual 77, 3) := by decide +kernel
theorem dX2_readNot_86 : decode cX2_readNot 86 = .ok (.aload_n 0, 1) := by decide +kernel
theorem dX2_readNot_87 : decode cX2_readNot 87 = .ok (.iload_n 3, 1) := by decide +kernel
theorem dX2_readNot_88 : decode cX2_readNot 88 = .ok (.iconst 0, 1) := by decide +kernel
theorem dX2_readNot_89 : decode cX2_readNot 89 = .ok (.invokevirtual 70, 3) := by decide +kernel
theorem dX2_readNot_92 : decode cX2_readNot 92 = .ok (.return_, 1) := by decide +kernel
theorem dX2_readSum_0 : decode cX2_readSum 0 = .ok (.aload_n 0, 1) := by decide +kernel
theorem dX2_readSum_1 : decode cX2_readSum 1 = .ok (.aload_n 1, 1) := by decide +kernel
theorem dX2_readSum_2 : decode cX2_readSum 2 = .ok (.iload_n 2, 1) := by decide +kernel
theorem dX2_readSum_3 : decode cX2_readSum 3 = .ok (.invokevirtual 80, 3) := by decide +kernel
theorem dX2_readSum_6 : decode cX2_readSum 6 = .ok (.iconst 0, 1) := by decide +kernel
theorem dX2_readSum_7 : decode cX2_readSum 7 = .ok (.istore_n 3, 1) := by decide +kernel
theorem dX2_readSum_8 : decode cX2_readSum 8 = .ok (.iload_n 3, 1) := by decide +kernel
theorem dX2_readSum_9 : decode cX2_readSum 9 = .ok (.sipush 160, 3) := by decide +kernel
theorem dX2_readSum_12 : decode cX2_readSum 12 = .ok (.if_icmp .ge 61, 3) := by decide +kernel
theorem dX2_readSum_15 : decode cX2_readSum 15 = .ok (.aload_n 0, 1) := by decide +kernel
theorem dX2_readSum_16 : decode cX2_readSum 16 = .ok (.getfield 36, 3) := by decide +kernel
theorem dX2_readSum_19 : decode cX2_readSum 19 = .ok (.bipush 43, 2) := by decide +kernel
theorem dX2_readSum_21 : decode cX2_readSum 21 = .ok (.if_icmp .eq 12, 3) := by decide +kernel
theorem dX2_readSum_24 : decode cX2_readSum 24 = .ok (.aload_n 0, 1) := by decide +kernel
theorem dX2_readSum_25 : decode cX2_readSum 25 = .ok (.getfield 36, 3) := by decide +kernel
theorem dX2_readSum_28 : decode cX2_readSum 28 = .ok (.bipush 45, 2) := by decide +kernel
theorem dX2_readSum_30 : decode cX2_readSum 30 = .ok (.if_icmp .ne 43, 3) := by decide +kernel
theorem dX2_readSum_33 : decode cX2_readSum 33 = .ok (.aload_n 0, 1) := by decide +kernel
theorem dX2_readSum_34 : decode cX2_readSum 34 = .ok (.getfield 36, 3) := by decide +kernel
theorem dX2_readSum_37 : decode cX2_readSum 37 = .ok (.bipush 43, 2) := by decide +kernel
theorem dX2_readSum_39 : decode cX2_readSum 39 = .ok (.if_icmp .ne 7, 3) := by decide +kernel
theorem dX2_readSum_42 : decode cX2_readSum 42 = .ok (.iconst 4, 1) := by decide +kernel
theorem dX2_readSum_43 : decode cX2_readSum 43 = .ok (.goto 4, 3) := by decide +kernel
theorem dX2_readSum_46 : decode cX2_readSum 46 = .ok (.iconst 5, 1) := by decide +kernel
theorem dX2_readSum_47 : decode cX2_readSum 47 = .ok (.istore 4, 2) := by decide +kernel
theorem dX2_readSum_49 : decode cX2_readSum 49 = .ok (.aload_n 0, 1) := by decide +kernel
theorem dX2_readSum_50 : decode cX2_readSum 50 = .ok (.aload_n 1, 1) := by decide +kernel
theorem dX2_readSum_51 : decode cX2_readSum 51 = .ok (.invokevirtual 64, 3) := by decide +kernel
theorem dX2_readSum_54 : decode cX2_readSum 54 = .ok (.aload_n 0, 1) := by decide +kernel
theorem dX2_readSum_55 : decode cX2_readSum 55 = .ok (.aload_n 1, 1) := by decide +kernel
theorem dX2_readSum_56 : decode cX2_readSum 56 = .ok (.iload_n 2, 1) := by decide +kernel
theorem dX2_readSum_57 : decode cX2_readSum 57 = .ok (.invokevirtual 80, 3) := by decide +kernel
theorem dX2_readSum_60 : decode cX2_readSum 60 = .ok (.aload_n 0, 1) := by decide +kernel
theorem dX2_readSum_61 : decode cX2_readSum 61 = .ok (.iload 4, 2) := by decide +kernel
theorem dX2_readSum_63 : decode cX2_readSum 63 = .ok (.iconst 0, 1) := by decide +kernel
theorem dX2_readSum_64 : decode cX2_readSum 64 = .ok (.invokevirtual 70, 3) := by decide +kernel
theorem dX2_readSum_67 : decode cX2_readSum 67 = .ok (.iinc 3 1, 3) := by decide +kernel
theorem dX2_readSum_70 : decode cX2_readSum 70 = .ok (.goto (-62), 3) := by decide +kernel
theorem dX2_readSum_73 : decode cX2_readSum 73 = .ok (.return_, 1) := by decide +kernel
theorem dX2_readTerm_0 : decode cX2_readTerm 0 = .ok (.aload_n 0, 1) := by decide +kernel
theorem dX2_readTerm_1 : decode cX2_readTerm 1 = .ok (.aload_n 1, 1) := by decide +kernel
theorem dX2_readTerm_2 : decode cX2_readTerm 2 = .ok (.iload_n 2, 1) := by decide +kernel
theorem dX2_readTerm_3 : decode cX2_readTerm 3 = .ok (.invokevirtual 83, 3) := by decide +kernel
theorem dX2_readTerm_6 : decode cX2_readTerm 6 = .ok (.iconst 0, 1) := by decide +kernel
theorem dX2_readTerm_7 : decode cX2_readTerm 7 = .ok (.istore_n 3, 1) := by decide +kernel
theorem dX2_readTerm_8 : decode cX2_readTerm 8 = .ok (.iload_n 3, 1) := by decide +kernel
theorem dX2_readTerm_9 : decode cX2_readTerm 9 = .ok (.sipush 160, 3) := by decide +kernel
theorem dX2_readTerm_12 : decode cX2_readTerm 12 = .ok (.if_icmp .ge 36, 3) := by decide +kernel
theorem dX2_readTerm_15 : decode cX2_readTerm 15 = .ok (.aload_n 0, 1) := by decide +kernel
theorem dX2_readTerm_16 : decode cX2_readTerm 16 = .ok (.getfield 36, 3) := by decide +kernel
theorem dX2_readTerm_19 : decode cX2_readTerm 19 = .ok (.bipush 42, 2) := by decide +kernel
theorem dX2_readTerm_21 : decode cX2_readTerm 21 = .ok (.if_icmp .ne 27, 3) := by decide +kernel
theorem dX2_readTerm_24 : decode cX2_readTerm 24 = .ok (.aload_n 0, 1) := by decide +kernel
theorem dX2_readTerm_25 : decode cX2_readTerm 25 = .ok (.aload_n 1, 1) := by decide +kernel
theorem dX2_readTerm_26 : decode cX2_readTerm 26 = .ok (.invokevirtual 64, 3) := by decide +kernel
theorem dX2_readTerm_29 : decode cX2_readTerm 29 = .ok (.aload_n 0, 1) := by decide +kernel
theorem dX2_readTerm_30 : decode cX2_readTerm 30 = .ok (.aload_n 1, 1) := by decide +kernel
theorem dX2_readTerm_31 : decode cX2_readTerm 31 = .ok (.iload_n 2, 1) := by decide +kernel
theorem dX2_readTerm_32 : decode cX2_readTerm 32 = .ok (.invokevirtual 83, 3) := by decide +kernel
theorem dX2_readTerm_35 : decode cX2_readTerm 35 = .ok (.aload_n 0, 1) := by decide +kernel
theorem dX2_readTerm_36 : decode cX2_readTerm 36 = .ok (.bipush 6, 2) := by decide +kernel
theorem dX2_readTerm_38 : decode cX2_readTerm 38 = .ok (.iconst 0, 1) := by decide +kernel
theorem dX2_readTerm_39 : decode cX2_readTerm 39 = .ok (.invokevirtual 70, 3) := by decide +kernel
theorem dX2_readTerm_42 : decode cX2_readTerm 42 = .ok (.iinc 3 1, 3) := by decide +kernel
theorem dX2_readTerm_45 : decode cX2_readTerm 45 = .ok (.goto (-37), 3) := by decide +kernel
theorem dX2_readTerm_48 : decode cX2_readTerm 48 = .ok (.return_, 1) := by decide +kernel
theorem dX2_readOne_0 : decode cX2_readOne 0 = .ok (.aload_n 0, 1) := by decide +kernel
theorem dX2_readOne_1 : decode cX2_readOne 1 = .ok (.getfield 36, 3) := by decide +kernel
theorem dX2_readOne_4 : decode cX2_readOne 4 = .ok (.iconst 1, 1) := by decide +kernel
theorem dX2_readOne_5 : decode cX2_readOne 5 = .ok (.if_icmp .eq 11, 3) := by decide +kernel
theorem dX2_readOne_8 : decode cX2_readOne 8 = .ok (.aload_n 0, 1) := by decide +kernel
theorem dX2_readOne_9 : decode cX2_readOne 9 = .ok (.getfield 36, 3) := by decide +kernel
theorem dX2_readOne_12 : decode cX2_readOne 12 = .ok (.iconst 2, 1) := by decide +kernel
theorem dX2_readOne_13 : decode cX2_readOne 13 = .ok (.if_icmp .ne 37, 3) := by decide +kernel
theorem dX2_readOne_16 : decode cX2_readOne 16 = .ok (.aload_n 0, 1) := by decide +kernel
theorem dX2_readOne_17 : decode cX2_readOne 17 = .ok (.aload_n 0, 1) := by decide +kernel
theorem dX2_readOne_18 : decode cX2_readOne 18 = .ok (.getfield 36, 3) := by decide +kernel
theorem dX2_readOne_21 : decode cX2_readOne 21 = .ok (.iconst 1, 1) := by decide +kernel
theorem dX2_readOne_22 : decode cX2_readOne 22 = .ok (.if_icmp .ne 7, 3) := by decide +kernel
theorem dX2_readOne_25 : decode cX2_readOne 25 = .ok (.iconst 0, 1) := by decide +kernel
theorem dX2_readOne_26 : decode cX2_readOne 26 = .ok (.goto 4, 3) := by decide +kernel
theorem dX2_readOne_29 : decode cX2_readOne 29 = .ok (.iconst 1, 1) := by decide +kernel
theorem dX2_readOne_30 : decode cX2_readOne 30 = .ok (.aload_n 1, 1) := by decide +kernel
theorem dX2_readOne_31 : decode cX2_readOne 31 = .ok (.getfield 86, 3) := by decide +kernel
theorem dX2_readOne_34 : decode cX2_readOne 34 = .ok (.aload_n 0, 1) := by decide +kernel
theorem dX2_readOne_35 : decode cX2_readOne 35 = .ok (.getfield 23, 3) := by decide +kernel
theorem dX2_readOne_38 : decode cX2_readOne 38 = .ok (.iaload, 1) := by decide +kernel
theorem dX2_readOne_39 : decode cX2_readOne 39 = .ok (.invokevirtual 70, 3) := by decide +kernel
theorem dX2_readOne_42 : decode cX2_readOne 42 = .ok (.aload_n 0, 1) := by decide +kernel
theorem dX2_readOne_43 : decode cX2_readOne 43 = .ok (.aload_n 1, 1) := by decide +kernel
theorem dX2_readOne_44 : decode cX2_readOne 44 = .ok (.invokevirtual 64, 3) := by decide +kernel
theorem dX2_readOne_47 : decode cX2_readOne 47 = .ok (.goto 81, 3) := by decide +kernel
theorem dX2_readOne_50 : decode cX2_readOne 50 = .ok (.aload_n 0, 1) := by decide +kernel
theorem dX2_readOne_51 : decode cX2_readOne 51 = .ok (.getfield 36, 3) := by decide +kernel
theorem dX2_readOne_54 : decode cX2_readOne 54 = .ok (.bipush 45, 2) := by decide +kernel
theorem dX2_readOne_56 : decode cX2_readOne 56 = .ok (.if_icmp .ne 30, 3) := by decide +kernel
theorem dX2_readOne_59 : decode cX2_readOne 59 = .ok (.iload_n 2, 1) := by decide +kernel
theorem dX2_readOne_60 : decode cX2_readOne 60 = .ok (.iconst 5, 1) := by decide +kernel
theorem dX2_readOne_61 : decode cX2_readOne 61 = .ok (.if_icmp .ge 25, 3) := by decide +kernel
theorem dX2_readOne_64 : decode cX2_readOne 64 = .ok (.aload_n 0, 1) := by decide +kernel
theorem dX2_readOne_65 : decode cX2_readOne 65 = .ok (.aload_n 1, 1) := by decide +kernel
theorem dX2_readOne_66 : decode cX2_readOne 66 = .ok (.invokevirtual 64, 3) := by decide +kernel
theorem dX2_readOne_69 : decode cX2_readOne 69 = .ok (.aload_n 0, 1) := by decide +kernel
theorem dX2_readOne_70 : decode cX2_readOne 70 = .ok (.aload_n 1, 1) := by decide +kernel
theorem dX2_readOne_71 : decode cX2_readOne 71 = .ok (.iload_n 2, 1) := by decide +kernel
theorem dX2_readOne_72 : decode cX2_readOne 72 = .ok (.iconst 1, 1) := by decide +kernel
theorem dX2_readOne_73 : decode cX2_readOne 73 = .ok (.iadd, 1) := by decide +kernel
theorem dX2_readOne_74 : decode cX2_readOne 74 = .ok (.invokevirtual 83, 3) := by decide +kernel
theorem dX2_readOne_77 : decode cX2_readOne 77 = .ok (.aload_n 0, 1) := by decide +kernel
theorem dX2_readOne_78 : decode cX2_readOne 78 = .ok (.iconst 2, 1) := by decide +kernel
theorem dX2_readOne_79 : decode cX2_readOne 79 = .ok (.iconst 0, 1) := by decide +kernel
theorem dX2_readOne_80 : decode cX2_readOne 80 = .ok (.invokevirtual 70, 3) := by decide +kernel
theorem dX2_readOne_83 : decode cX2_readOne 83 = .ok (.goto 45, 3) := by decide +kernel
theorem dX2_readOne_86 : decode cX2_readOne 86 = .ok (.aload_n 0, 1) := by decide +kernel
theorem dX2_readOne_87 : decode cX2_readOne 87 = .ok (.getfield 36, 3) := by decide +kernel
theorem dX2_readOne_90 : decode cX2_readOne 90 = .ok (.bipush 40, 2) := by decide +kernel
theorem dX2_readOne_92 : decode cX2_readOne 92 = .ok (.if_icmp .ne 31, 3) := by decide +kernel
theorem dX2_readOne_95 : decode cX2_readOne 95 = .ok (.iload_n 2, 1) := by decide +kernel
theorem dX2_readOne_96 : decode cX2_readOne 96 = .ok (.iconst 5, 1) := by decide +kernel
theorem dX2_readOne_97 : decode cX2_readOne 97 = .ok (.if_icmp .ge 26, 3) := by decide +kernel
theorem dX2_readOne_100 : decode cX2_readOne 100 = .ok (.aload_n 0, 1) := by decide +kernel
theorem dX2_readOne_101 : decode cX2_readOne 101 = .ok (.aload_n 1, 1) := by decide +kernel
theorem dX2_readOne_102 : decode cX2_readOne 102 = .ok (.invokevirtual 64, 3) := by decide +kernel
theorem dX2_readOne_105 : decode cX2_readOne 105 = .ok (.aload_n 0, 1) := by decide +kernel
theorem dX2_readOne_106 : decode cX2_readOne 106 = .ok (.aload_n 1, 1) := by decide +kernel
theorem dX2_readOne_107 : decode cX2_readOne 107 = .ok (.iload_n 2, 1) := by decide +kernel
theorem dX2_readOne_108 : decode cX2_readOne 108 = .ok (.iconst 1, 1) := by decide +kernel
theorem dX2_readOne_109 : decode cX2_readOne 109 = .ok (.iadd, 1) := by decide +kernel
theorem dX2_readOne_110 : decode cX2_readOne 110 = .ok (.invokevirtual 58, 3) := by decide +kernel
theorem dX2_readOne_113 : decode cX2_readOne 113 = .ok (.aload_n 0, 1) := by decide +kernel
theorem dX2_readOne_114 : decode cX2_readOne 114 = .ok (.aload_n 1, 1) := by decide +kernel
theorem dX2_readOne_115 : decode cX2_readOne 115 = .ok (.bipush 41, 2) := by decide +kernel
theorem dX2_readOne_117 : decode cX2_readOne 117 = .ok (.invokevirtual 43, 3) := by decide +kernel
theorem dX2_readOne_120 : decode cX2_readOne 120 = .ok (.goto 8, 3) := by decide +kernel
theorem dX2_readOne_123 : decode cX2_readOne 123 = .ok (.aload_n 0, 1) := by decide +kernel
theorem dX2_readOne_124 : decode cX2_readOne 124 = .ok (.aload_n 1, 1) := by decide +kernel
theorem dX2_readOne_125 : decode cX2_readOne 125 = .ok (.invokevirtual 89, 3) := by decide +kernel
theorem dX2_readOne_128 : decode cX2_readOne 128 = .ok (.return_, 1) := by decide +kernel
theorem dX2_expect_0 : decode cX2_expect 0 = .ok (.aload_n 0, 1) := by decide +kernel
theorem dX2_expect_1 : decode cX2_expect 1 = .ok (.getfield 36, 3) := by decide +kernel
theorem dX2_expect_4 : decode cX2_expect 4 = .ok (.iload_n 2, 1) := by decide +kernel
theorem dX2_expect_5 : decode cX2_expect 5 = .ok (.if_icmp .ne 11, 3) := by decide +kernel
theorem dX2_expect_8 : decode cX2_expect 8 = .ok (.aload_n 0, 1) := by decide +kernel
theorem dX2_expect_9 : decode cX2_expect 9 = .ok (.aload_n 1, 1) := by decide +kernel
theorem dX2_expect_10 : decode cX2_expect 10 = .ok (.invokevirtual 64, 3) := by decide +kernel
theorem dX2_expect_13 : decode cX2_expect 13 = .ok (.goto 8, 3) := by decide +kernel
theorem dX2_expect_16 : decode cX2_expect 16 = .ok (.aload_n 0, 1) := by decide +kernel
theorem dX2_expect_17 : decode cX2_expect 17 = .ok (.aload_n 1, 1) := by decide +kernel
theorem dX2_expect_18 : decode cX2_expect 18 = .ok (.invokevirtual 89, 3) := by decide +kernel
theorem dX2_expect_21 : decode cX2_expect 21 = .ok (.return_, 1) := by decide +kernel
theorem dX2_advance_0 : decode cX2_advance 0 = .ok (.aload_n 0, 1) := by decide +kernel
theorem dX2_advance_1 : decode cX2_advance 1 = .ok (.getfield 23, 3) := by decide +kernel
theorem dX2_advance_4 : decode cX2_advance 4 = .ok (.iconst 1, 1) := by decide +kernel
theorem dX2_advance_5 : decode cX2_advance 5 = .ok (.iadd, 1) := by decide +kernel
theorem dX2_advance_6 : decode cX2_advance 6 = .ok (.aload_n 1, 1) := by decide +kernel
theorem dX2_advance_7 : decode cX2_advance 7 = .ok (.getfield 92, 3) := by decide +kernel
theorem dX2_advance_10 : decode cX2_advance 10 = .ok (.if_icmp .ge 13, 3) := by decide +kernel
theorem dX2_advance_13 : decode cX2_advance 13 = .ok (.aload_n 0, 1) := by decide +kernel
theorem dX2_advance_14 : decode cX2_advance 14 = .ok (.dup, 1) := by decide +kernel
theorem dX2_advance_15 : decode cX2_advance 15 = .ok (.getfield 23, 3) := by decide +kernel
theorem dX2_advance_18 : decode cX2_advance 18 = .ok (.iconst 1, 1) := by decide +kernel
theorem dX2_advance_19 : decode cX2_advance 19 = .ok (.iadd, 1) := by decide +kernel
theorem dX2_advance_20 : decode cX2_advance 20 = .ok (.putfield 23, 3) := by decide +kernel
theorem dX2_advance_23 : decode cX2_advance 23 = .ok (.aload_n 0, 1) := by decide +kernel
theorem dX2_advance_24 : decode cX2_advance 24 = .ok (.aload_n 1, 1) := by decide +kernel
theorem dX2_advance_25 : decode cX2_advance 25 = .ok (.getfield 33, 3) := by decide +kernel
theorem dX2_advance_28 : decode cX2_advance 28 = .ok (.aload_n 0, 1) := by decide +kernel
theorem dX2_advance_29 : decode cX2_advance 29 = .ok (.getfield 23, 3) := by decide +kernel
theorem dX2_advance_32 : decode cX2_advance 32 = .ok (.iaload, 1) := by decide +kernel
theorem dX2_advance_33 : decode cX2_advance 33 = .ok (.putfield 36, 3) := by decide +kernel
theorem dX2_advance_36 : decode cX2_advance 36 = .ok (.return_, 1) := by decide +kernel
theorem dX2_fail_0 : decode cX2_fail 0 = .ok (.aload_n 0, 1) := by decide +kernel
theorem dX2_fail_1 : decode cX2_fail 1 = .ok (.getfield 30, 3) := by decide +kernel
theorem dX2_fail_4 : decode cX2_fail 4 = .ok (.iconst (-1), 1) := by decide +kernel
theorem dX2_fail_5 : decode cX2_fail 5 = .ok (.if_icmp .ne 16, 3) := by decide +kernel
theorem dX2_fail_8 : decode cX2_fail 8 = .ok (.aload_n 0, 1) := by decide +kernel
theorem dX2_fail_9 : decode cX2_fail 9 = .ok (.aload_n 1, 1) := by decide +kernel
theorem dX2_fail_10 : decode cX2_fail 10 = .ok (.getfield 95, 3) := by decide +kernel
theorem dX2_fail_13 : decode cX2_fail 13 = .ok (.aload_n 0, 1) := by decide +kernel
theorem dX2_fail_14 : decode cX2_fail 14 = .ok (.getfield 23, 3) := by decide +kernel
theorem dX2_fail_17 : decode cX2_fail 17 = .ok (.iaload, 1) := by decide +kernel
theorem dX2_fail_18 : decode cX2_fail 18 = .ok (.putfield 30, 3) := by decide +kernel
theorem dX2_fail_21 : decode cX2_fail 21 = .ok (.aload_n 0, 1) := by decide +kernel
theorem dX2_fail_22 : decode cX2_fail 22 = .ok (.bipush (-2), 2) := by decide +kernel
theorem dX2_fail_24 : decode cX2_fail 24 = .ok (.putfield 36, 3) := by decide +kernel
theorem dX2_fail_27 : decode cX2_fail 27 = .ok (.return_, 1) := by decide +kernel
theorem dX2_emit_0 : decode cX2_emit 0 = .ok (.aload_n 0, 1) := by decide +kernel
theorem dX2_emit_1 : decode cX2_emit 1 = .ok (.getfield 27, 3) := by decide +kernel
theorem dX2_emit_4 : decode cX2_emit 4 = .ok (.aload_n 0, 1) := by decide +kernel
theorem dX2_emit_5 : decode cX2_emit 5 = .ok (.getfield 9, 3) := by decide +kernel
theorem dX2_emit_8 : decode cX2_emit 8 = .ok (.arraylength, 1) := by decide +kernel
theorem dX2_emit_9 : decode cX2_emit 9 = .ok (.if_icmp .ge 28, 3) := by decide +kernel
theorem dX2_emit_12 : decode cX2_emit 12 = .ok (.aload_n 0, 1) := by decide +kernel
theorem dX2_emit_13 : decode cX2_emit 13 = .ok (.getfield 9, 3) := by decide +kernel
theorem dX2_emit_16 : decode cX2_emit 16 = .ok (.aload_n 0, 1) := by decide +kernel
theorem dX2_emit_17 : decode cX2_emit 17 = .ok (.getfield 27, 3) := by decide +kernel
theorem dX2_emit_20 : decode cX2_emit 20 = .ok (.iload_n 2, 1) := by decide +kernel
theorem dX2_emit_21 : decode cX2_emit 21 = .ok (.bipush 16, 2) := by decide +kernel
theorem dX2_emit_23 : decode cX2_emit 23 = .ok (.imul, 1) := by decide +kernel
theorem dX2_emit_24 : decode cX2_emit 24 = .ok (.iload_n 1, 1) := by decide +kernel
theorem dX2_emit_25 : decode cX2_emit 25 = .ok (.iadd, 1) := by decide +kernel
theorem dX2_emit_26 : decode cX2_emit 26 = .ok (.iastore, 1) := by decide +kernel
theorem dX2_emit_27 : decode cX2_emit 27 = .ok (.aload_n 0, 1) := by decide +kernel
theorem dX2_emit_28 : decode cX2_emit 28 = .ok (.dup, 1) := by decide +kernel
theorem dX2_emit_29 : decode cX2_emit 29 = .ok (.getfield 27, 3) := by decide +kernel
theorem dX2_emit_32 : decode cX2_emit 32 = .ok (.iconst 1, 1) := by decide +kernel
theorem dX2_emit_33 : decode cX2_emit 33 = .ok (.iadd, 1) := by decide +kernel
theorem dX2_emit_34 : decode cX2_emit 34 = .ok (.putfield 27, 3) := by decide +kernel
theorem dX2_emit_37 : decode cX2_emit 37 = .ok (.return_, 1) := by decide +kernel
theorem dX3_init_0 : decode cX3_init 0 = .ok (.aload_n 0, 1) := by decide +kernel
theorem dX3_init_1 : decode cX3_init 1 = .ok (.invokespecial 3, 3) := by decide +kernel
theorem dX3_init_4 : decode cX3_init 4 = .ok (.aload_n 0, 1) := by decide +kernel
theorem dX3_init_5 : decode cX3_init 5 = .ok (.bipush 6, 2) := by decide +kernel
theorem dX3_init_7 : decode cX3_init 7 = .ok (.anewarray 9, 3) := by decide +kernel
theorem dX3_init_10 : decode cX3_init 10 = .ok (.putfield 11, 3) := by decide +kernel
theorem dX3_init_13 : decode cX3_init 13 = .ok (.aload_n 0, 1) := by decide +kernel
theorem dX3_init_14 : decode cX3_init 14 = .ok (.bipush 6, 2) := by decide +kernel
theorem dX3_init_16 : decode cX3_init 16 = .ok (.newarray .int, 2) := by decide +kernel
theorem dX3_init_18 : decode cX3_init 18 = .ok (.putfield 17, 3) := by decide +kernel
theorem dX3_init_21 : decode cX3_init 21 = .ok (.aload_n 0, 1) := by decide +kernel
theorem dX3_init_22 : decode cX3_init 22 = .ok (.sipush 160, 3) := by decide +kernel
theorem dX3_init_25 : decode cX3_init 25 = .ok (.newarray .int, 2) := by decide +kernel
theorem dX3_init_27 : decode cX3_init 27 = .ok (.putfield 21, 3) := by decide +kernel
theorem dX3_init_30 : decode cX3_init 30 = .ok (.return_, 1) := by decide +kernel
theorem dX3_add_0 : decode cX3_add 0 = .ok (.aload_n 0, 1) := by decide +kernel
theorem dX3_add_1 : decode cX3_add 1 = .ok (.getfield 24, 3) := by decide +kernel
theorem dX3_add_4 : decode cX3_add 4 = .ok (.bipush 6, 2) := by decide +kernel
theorem dX3_add_6 : decode cX3_add 6 = .ok (.if_icmp .lt 6, 3) := by decide +kernel
theorem dX3_add_9 : decode cX3_add 9 = .ok (.bipush (-4), 2) := by decide +kernel
theorem dX3_add_11 : decode cX3_add 11 = .ok (.ireturn, 1) := by decide +kernel
theorem dX3_add_12 : decode cX3_add 12 = .ok (.aload_n 0, 1) := by decide +kernel
theorem dX3_add_13 : decode cX3_add 13 = .ok (.getfield 11, 3) := by decide +kernel
theorem dX3_add_16 : decode cX3_add 16 = .ok (.aload_n 0, 1) := by decide +kernel
theorem dX3_add_17 : decode cX3_add 17 = .ok (.getfield 24, 3) := by decide +kernel
theorem dX3_add_20 : decode cX3_add 20 = .ok (.aload_n 1, 1) := by decide +kernel
theorem dX3_add_21 : decode cX3_add 21 = .ok (.aastore, 1) := by decide +kernel
theorem dX3_add_22 : decode cX3_add 22 = .ok (.aload_n 0, 1) := by decide +kernel
theorem dX3_add_23 : decode cX3_add 23 = .ok (.dup, 1) := by decide +kernel
theorem dX3_add_24 : decode cX3_add 24 = .ok (.getfield 24, 3) := by decide +kernel
theorem dX3_add_27 : decode cX3_add 27 = .ok (.iconst 1, 1) := by decide +kernel
theorem dX3_add_28 : decode cX3_add 28 = .ok (.iadd, 1) := by decide +kernel
theorem dX3_add_29 : decode cX3_add 29 = .ok (.putfield 24, 3) := by decide +kernel
theorem dX3_add_32 : decode cX3_add 32 = .ok (.aload_n 0, 1) := by decide +kernel
theorem dX3_add_33 : decode cX3_add 33 = .ok (.getfield 24, 3) := by decide +kernel
theorem dX3_add_36 : decode cX3_add 36 = .ok (.iconst 1, 1) := by decide +kernel
theorem dX3_add_37 : decode cX3_add 37 = .ok (.isub, 1) := by decide +kernel
theorem dX3_add_38 : decode cX3_add 38 = .ok (.ireturn, 1) := by decide +kernel
theorem dX3_worth_0 : decode cX3_worth 0 = .ok (.iload_n 1, 1) := by decide +kernel
theorem dX3_worth_1 : decode cX3_worth 1 = .ok (.ifCond .lt 20, 3) := by decide +kernel
theorem dX3_worth_4 : decode cX3_worth 4 = .ok (.iload_n 1, 1) := by decide +kernel
theorem dX3_worth_5 : decode cX3_worth 5 = .ok (.aload_n 0, 1) := by decide +kernel
theorem dX3_worth_6 : decode cX3_worth 6 = .ok (.getfield 24, 3) := by decide +kernel
theorem dX3_worth_9 : decode cX3_worth 9 = .ok (.if_icmp .ge 12, 3) := by decide +kernel
theorem dX3_worth_12 : decode cX3_worth 12 = .ok (.aload_n 0, 1) := by decide +kernel
theorem dX3_worth_13 : decode cX3_worth 13 = .ok (.getfield 11, 3) := by decide +kernel
theorem dX3_worth_16 : decode cX3_worth 16 = .ok (.iload_n 1, 1) := by decide +kernel
theorem dX3_worth_17 : decode cX3_worth 17 = .ok (.aaload, 1) := by decide +kernel
theorem dX3_worth_18 : decode cX3_worth 18 = .ok (.ifnonnull 5, 3) := by decide +kernel
theorem dX3_worth_21 : decode cX3_worth 21 = .ok (.iconst 0, 1) := by decide +kernel
theorem dX3_worth_22 : decode cX3_worth 22 = .ok (.ireturn, 1) := by decide +kernel
theorem dX3_worth_23 : decode cX3_worth 23 = .ok (.aload_n 3, 1) := by decide +kernel
theorem dX3_worth_24 : decode cX3_worth 24 = .ok (.iload 4, 2) := by decide +kernel
theorem dX3_worth_26 : decode cX3_worth 26 = .ok (.invokevirtual 28, 3) := by decide +kernel
theorem dX3_worth_29 : decode cX3_worth 29 = .ok (.istore 6, 2) := by decide +kernel
theorem dX3_worth_31 : decode cX3_worth 31 = .ok (.aload_n 0, 1) := by decide +kernel
theorem dX3_worth_32 : decode cX3_worth 32 = .ok (.getfield 17, 3) := by decide +kernel
theorem dX3_worth_35 : decode cX3_worth 35 = .ok (.iconst 0, 1) := by decide +kernel
theorem dX3_worth_36 : decode cX3_worth 36 = .ok (.iload 4, 2) := by decide +kernel
theorem dX3_worth_38 : decode cX3_worth 38 = .ok (.iastore, 1) := by decide +kernel
theorem dX3_worth_39 : decode cX3_worth 39 = .ok (.aload_n 0, 1) := by decide +kernel
theorem dX3_worth_40 : decode cX3_worth 40 = .ok (.getfield 17, 3) := by decide +kernel
theorem dX3_worth_43 : decode cX3_worth 43 = .ok (.iconst 1, 1) := by decide +kernel
theorem dX3_worth_44 : decode cX3_worth 44 = .ok (.aload_n 3, 1) := by decide +kernel
theorem dX3_worth_45 : decode cX3_worth 45 = .ok (.getfield 34, 3) := by decide +kernel
theorem dX3_worth_48 : decode cX3_worth 48 = .ok (.iastore, 1) := by decide +kernel
theorem dX3_worth_49 : decode cX3_worth 49 = .ok (.aload_n 0, 1) := by decide +kernel
theorem dX3_worth_50 : decode cX3_worth 50 = .ok (.getfield 17, 3) := by decide +kernel
theorem dX3_worth_53 : decode cX3_worth 53 = .ok (.iconst 2, 1) := by decide +kernel
theorem dX3_worth_54 : decode cX3_worth 54 = .ok (.aload_n 3, 1) := by decide +kernel
theorem dX3_worth_55 : decode cX3_worth 55 = .ok (.getfield 37, 3) := by decide +kernel
theorem dX3_worth_58 : decode cX3_worth 58 = .ok (.iastore, 1) := by decide +kernel
theorem dX3_worth_59 : decode cX3_worth 59 = .ok (.aload_n 0, 1) := by decide +kernel
theorem dX3_worth_60 : decode cX3_worth 60 = .ok (.getfield 17, 3) := by decide +kernel
theorem dX3_worth_63 : decode cX3_worth 63 = .ok (.iconst 3, 1) := by decide +kernel
theorem dX3_worth_64 : decode cX3_worth 64 = .ok (.iload 6, 2) := by decide +kernel
theorem dX3_worth_66 : decode cX3_worth 66 = .ok (.invokestatic 40, 3) := by decide +kernel
theorem dX3_worth_69 : decode cX3_worth 69 = .ok (.ifCond .eq 11, 3) := by decide +kernel
theorem dX3_worth_72 : decode cX3_worth 72 = .ok (.aload 5, 2) := by decide +kernel
theorem dX3_worth_74 : decode cX3_worth 74 = .ok (.iload 6, 2) := by decide +kernel
theorem dX3_worth_76 : decode cX3_worth 76 = .ok (.iaload, 1) := by decide +kernel
theorem dX3_worth_77 : decode cX3_worth 77 = .ok (.goto 4, 3) := by decide +kernel
theorem dX3_worth_80 : decode cX3_worth 80 = .ok (.iconst 0, 1) := by decide +kernel
theorem dX3_worth_81 : decode cX3_worth 81 = .ok (.iastore, 1) := by decide +kernel
theorem dX3_worth_82 : decode cX3_worth 82 = .ok (.aload_n 0, 1) := by decide +kernel
theorem dX3_worth_83 : decode cX3_worth 83 = .ok (.getfield 17, 3) := by decide +kernel
theorem dX3_worth_86 : decode cX3_worth 86 = .ok (.iconst 4, 1) := by decide +kernel
theorem dX3_worth_87 : decode cX3_worth 87 = .ok (.aload_n 3, 1) := by decide +kernel
theorem dX3_worth_88 : decode cX3_worth 88 = .ok (.getfield 44, 3) := by decide +kernel
theorem dX3_worth_91 : decode cX3_worth 91 = .ok (.iastore, 1) := by decide +kernel
theorem dX3_worth_92 : decode cX3_worth 92 = .ok (.aload_n 0, 1) := by decide +kernel
theorem dX3_worth_93 : decode cX3_worth 93 = .ok (.getfield 17, 3) := by decide +kernel
theorem dX3_worth_96 : decode cX3_worth 96 = .ok (.iconst 5, 1) := by decide +kernel
theorem dX3_worth_97 : decode cX3_worth 97 = .ok (.aload_n 3, 1) := by decide +kernel
theorem dX3_worth_98 : decode cX3_worth 98 = .ok (.getfield 47, 3) := by decide +kernel
theorem dX3_worth_101 : decode cX3_worth 101 = .ok (.iastore, 1) := by decide +kernel
theorem dX3_worth_102 : decode cX3_worth 102 = .ok (.iload_n 2, 1) := by decide +kernel
theorem dX3_worth_103 : decode cX3_worth 103 = .ok (.ifCond .ne 7, 3) := by decide +kernel
theorem dX3_worth_106 : decode cX3_worth 106 = .ok (.iconst 1, 1) := by decide +kernel
theorem dX3_worth_107 : decode cX3_worth 107 = .ok (.goto 4, 3) := by decide +kernel
theorem dX3_worth_110 : decode cX3_worth 110 = .ok (.iconst 0, 1) := by decide +kernel
theorem dX3_worth_111 : decode cX3_worth 111 = .ok (.istore 7, 2) := by decide +kernel
theorem dX3_worth_113 : decode cX3_worth 113 = .ok (.iload 7, 2) := by decide +kernel
theorem dX3_worth_115 : decode cX3_worth 115 = .ok (.bipush 99, 2) := by decide +kernel
theorem dX3_worth_117 : decode cX3_worth 117 = .ok (.aload_n 0, 1) := by decide +kernel
theorem dX3_worth_118 : decode cX3_worth 118 = .ok (.aload_n 0, 1) := by decide +kernel
theorem dX3_worth_119 : decode cX3_worth 119 = .ok (.getfield 11, 3) := by decide +kernel
theorem dX3_worth_122 : decode cX3_worth 122 = .ok (.iload_n 1, 1) := by decide +kernel
theorem dX3_worth_123 : decode cX3_worth 123 = .ok (.aaload, 1) := by decide +kernel
theorem dX3_worth_124 : decode cX3_worth 124 = .ok (.iload_n 2, 1) := by decide +kernel
theorem dX3_worth_125 : decode cX3_worth 125 = .ok (.invokevirtual 50, 3) := by decide +kernel
theorem dX3_worth_128 : decode cX3_worth 128 = .ok (.invokestatic 54, 3) := by decide +kernel
theorem dX3_worth_131 : decode cX3_worth 131 = .ok (.invokestatic 60, 3) := by decide +kernel
theorem dX3_worth_134 : decode cX3_worth 134 = .ok (.ireturn, 1) := by decide +kernel
theorem dX3_reckon_0 : decode cX3_reckon 0 = .ok (.iconst 0, 1) := by decide +kernel
theorem dX3_reckon_1 : decode cX3_reckon 1 = .ok (.istore_n 3, 1) := by decide +kernel
theorem dX3_reckon_2 : decode cX3_reckon 2 = .ok (.aload_n 1, 1) := by decide +kernel
theorem dX3_reckon_3 : decode cX3_reckon 3 = .ok (.iload_n 2, 1) := by decide +kernel
theorem dX3_reckon_4 : decode cX3_reckon 4 = .ok (.invokevirtual 63, 3) := by decide +kernel
theorem dX3_reckon_7 : decode cX3_reckon 7 = .ok (.istore 4, 2) := by decide +kernel
theorem dX3_reckon_9 : decode cX3_reckon 9 = .ok (.iload 4, 2) := by decide +kernel
theorem dX3_reckon_11 : decode cX3_reckon 11 = .ok (.aload_n 1, 1) := by decide +kernel
theorem dX3_reckon_12 : decode cX3_reckon 12 = .ok (.iload_n 2, 1) := by decide +kernel
theorem dX3_reckon_13 : decode cX3_reckon 13 = .ok (.invokevirtual 66, 3) := by decide +kernel
theorem dX3_reckon_16 : decode cX3_reckon 16 = .ok (.if_icmp .ge 185, 3) := by decide +kernel
theorem dX3_reckon_19 : decode cX3_reckon 19 = .ok (.aload_n 1, 1) := by decide +kernel
theorem dX3_reckon_20 : decode cX3_reckon 20 = .ok (.getfield 69, 3) := by decide +kernel
theorem dX3_reckon_23 : decode cX3_reckon 23 = .ok (.iload 4, 2) := by decide +kernel
theorem dX3_reckon_25 : decode cX3_reckon 25 = .ok (.iaload, 1) := by decide +kernel
theorem dX3_reckon_26 : decode cX3_reckon 26 = .ok (.bipush 16, 2) := by decide +kernel
theorem dX3_reckon_28 : decode cX3_reckon 28 = .ok (.irem, 1) := by decide +kernel
theorem dX3_reckon_29 : decode cX3_reckon 29 = .ok (.istore 5, 2) := by decide +kernel
theorem dX3_reckon_31 : decode cX3_reckon 31 = .ok (.aload_n 1, 1) := by decide +kernel
theorem dX3_reckon_32 : decode cX3_reckon 32 = .ok (.getfield 69, 3) := by decide +kernel
theorem dX3_reckon_35 : decode cX3_reckon 35 = .ok (.iload 4, 2) := by decide +kernel
theorem dX3_reckon_37 : decode cX3_reckon 37 = .ok (.iaload, 1) := by decide +kernel
theorem dX3_reckon_38 : decode cX3_reckon 38 = .ok (.bipush 16, 2) := by decide +kernel
theorem dX3_reckon_40 : decode cX3_reckon 40 = .ok (.idiv, 1) := by decide +kernel
theorem dX3_reckon_41 : decode cX3_reckon 41 = .ok (.istore 6, 2) := by decide +kernel
theorem dX3_reckon_43 : decode cX3_reckon 43 = .ok (.iload 5, 2) := by decide +kernel
theorem dX3_reckon_45 : decode cX3_reckon 45 = .ok (.ifCond .eq 9, 3) := by decide +kernel
theorem dX3_reckon_48 : decode cX3_reckon 48 = .ok (.iload 5, 2) := by decide +kernel
theorem dX3_reckon_50 : decode cX3_reckon 50 = .ok (.iconst 1, 1) := by decide +kernel
theorem dX3_reckon_51 : decode cX3_reckon 51 = .ok (.if_icmp .ne 42, 3) := by decide +kernel
theorem dX3_reckon_54 : decode cX3_reckon 54 = .ok (.iload_n 3, 1) := by decide +kernel
theorem dX3_reckon_55 : decode cX3_reckon 55 = .ok (.aload_n 0, 1) := by decide +kernel
theorem dX3_reckon_56 : decode cX3_reckon 56 = .ok (.getfield 21, 3) := by decide +kernel
theorem dX3_reckon_59 : decode cX3_reckon 59 = .ok (.arraylength, 1) := by decide +kernel
theorem dX3_reckon_60 : decode cX3_reckon 60 = .ok (.if_icmp .lt 5, 3) := by decide +kernel
theorem dX3_reckon_63 : decode cX3_reckon 63 = .ok (.iconst 0, 1) := by decide +kernel
theorem dX3_reckon_64 : decode cX3_reckon 64 = .ok (.ireturn, 1) := by decide +kernel
theorem dX3_reckon_65 : decode cX3_reckon 65 = .ok (.aload_n 0, 1) := by decide +kernel
theorem dX3_reckon_66 : decode cX3_reckon 66 = .ok (.getfield 21, 3) := by decide +kernel
theorem dX3_reckon_69 : decode cX3_reckon 69 = .ok (.iload_n 3, 1) := by decide +kernel
theorem dX3_reckon_70 : decode cX3_reckon 70 = .ok (.iload 5, 2) := by decide +kernel
theorem dX3_reckon_72 : decode cX3_reckon 72 = .ok (.ifCond .ne 8, 3) := by decide +kernel
theorem dX3_reckon_75 : decode cX3_reckon 75 = .ok (.iload 6, 2) := by decide +kernel
theorem dX3_reckon_77 : decode cX3_reckon 77 = .ok (.goto 9, 3) := by decide +kernel
theorem dX3_reckon_80 : decode cX3_reckon 80 = .ok (.aload_n 0, 1) := by decide +kernel
theorem dX3_reckon_81 : decode cX3_reckon 81 = .ok (.iload 6, 2) := by decide +kernel
theorem dX3_reckon_83 : decode cX3_reckon 83 = .ok (.invokevirtual 72, 3) := by decide +kernel
theorem dX3_reckon_86 : decode cX3_reckon 86 = .ok (.iastore, 1) := by decide +kernel
theorem dX3_reckon_87 : decode cX3_reckon 87 = .ok (.iinc 3 1, 3) := by decide +kernel
theorem dX3_reckon_90 : decode cX3_reckon 90 = .ok (.goto 105, 3) := by decide +kernel
theorem dX3_reckon_93 : decode cX3_reckon 93 = .ok (.iload 5, 2) := by decide +kernel
theorem dX3_reckon_95 : decode cX3_reckon 95 = .ok (.iconst 2, 1) := by decide +kernel
theorem dX3_reckon_96 : decode cX3_reckon 96 = .ok (.if_icmp .eq 9, 3) := by decide +kernel
theorem dX3_reckon_99 : decode cX3_reckon 99 = .ok (.iload 5, 2) := by decide +kernel
theorem dX3_reckon_101 : decode cX3_reckon 101 = .ok (.iconst 3, 1) := by decide +kernel
theorem dX3_reckon_102 : decode cX3_reckon 102 = .ok (.if_icmp .ne 56, 3) := by decide +kernel
theorem dX3_reckon_105 : decode cX3_reckon 105 = .ok (.iload_n 3, 1) := by decide +kernel
theorem dX3_reckon_106 : decode cX3_reckon 106 = .ok (.iconst 1, 1) := by decide +kernel
theorem dX3_reckon_107 : decode cX3_reckon 107 = .ok (.if_icmp .ge 5, 3) := by decide +kernel
theorem dX3_reckon_110 : decode cX3_reckon 110 = .ok (.iconst 0, 1) := by decide +kernel
theorem dX3_reckon_111 : decode cX3_reckon 111 = .ok (.ireturn, 1) := by decide +kernel
theorem dX3_reckon_112 : decode cX3_reckon 112 = .ok (.aload_n 0, 1) := by decide +kernel
theorem dX3_reckon_113 : decode cX3_reckon 113 = .ok (.getfield 21, 3) := by decide +kernel
theorem dX3_reckon_116 : decode cX3_reckon 116 = .ok (.iload_n 3, 1) := by decide +kernel
theorem dX3_reckon_117 : decode cX3_reckon 117 = .ok (.iconst 1, 1) := by decide +kernel
theorem dX3_reckon_118 : decode cX3_reckon 118 = .ok (.isub, 1) := by decide +kernel
theorem dX3_reckon_119 : decode cX3_reckon 119 = .ok (.iaload, 1) := by decide +kernel
theorem dX3_reckon_120 : decode cX3_reckon 120 = .ok (.istore 7, 2) := by decide +kernel
theorem dX3_reckon_122 : decode cX3_reckon 122 = .ok (.aload_n 0, 1) := by decide +kernel
theorem dX3_reckon_123 : decode cX3_reckon 123 = .ok (.getfield 21, 3) := by decide +kernel
theorem dX3_reckon_126 : decode cX3_reckon 126 = .ok (.iload_n 3, 1) := by decide +kernel
theorem dX3_reckon_127 : decode cX3_reckon 127 = .ok (.iconst 1, 1) := by decide +kernel
theorem dX3_reckon_128 : decode cX3_reckon 128 = .ok (.isub, 1) := by decide +kernel
theorem dX3_reckon_129 : decode cX3_reckon 129 = .ok (.iload 5, 2) := by decide +kernel
theorem dX3_reckon_131 : decode cX3_reckon 131 = .ok (.iconst 2, 1) := by decide +kernel
theorem dX3_reckon_132 : decode cX3_reckon 132 = .ok (.if_icmp .ne 9, 3) := by decide +kernel
theorem dX3_reckon_135 : decode cX3_reckon 135 = .ok (.iload 7, 2) := by decide +kernel
theorem dX3_reckon_137 : decode cX3_reckon 137 = .ok (.ineg, 1) := by decide +kernel
theorem dX3_reckon_138 : decode cX3_reckon 138 = .ok (.goto 16, 3) := by decide +kernel
theorem dX3_reckon_141 : decode cX3_reckon 141 = .ok (.iload 7, 2) := by decide +kernel
theorem dX3_reckon_143 : decode cX3_reckon 143 = .ok (.ifCond .ne 7, 3) := by decide +kernel
theorem dX3_reckon_146 : decode cX3_reckon 146 = .ok (.iconst 1, 1) := by decide +kernel
theorem dX3_reckon_147 : decode cX3_reckon 147 = .ok (.goto 4, 3) := by decide +kernel
theorem dX3_reckon_150 : decode cX3_reckon 150 = .ok (.iconst 0, 1) := by decide +kernel
theorem dX3_reckon_151 : decode cX3_reckon 151 = .ok (.invokestatic 75, 3) := by decide +kernel
theorem dX3_reckon_154 : decode cX3_reckon 154 = .ok (.iastore, 1) := by decide +kernel
theorem dX3_reckon_155 : decode cX3_reckon 155 = .ok (.goto 40, 3) := by decide +kernel
theorem dX3_reckon_158 : decode cX3_reckon 158 = .ok (.iload_n 3, 1) := by decide +kernel
theorem dX3_reckon_159 : decode cX3_reckon 159 = .ok (.iconst 2, 1) := by decide +kernel
theorem dX3_reckon_160 : decode cX3_reckon 160 = .ok (.if_icmp .ge 5, 3) := by decide +kernel
theorem dX3_reckon_163 : decode cX3_reckon 163 = .ok (.iconst 0, 1) := by decide +kernel
theorem dX3_reckon_164 : decode cX3_reckon 164 = .ok (.ireturn, 1) := by decide +kernel
theorem dX3_reckon_165 : decode cX3_reckon 165 = .ok (.iinc 3 (-1), 3) := by decide +kernel
theorem dX3_reckon_168 : decode cX3_reckon 168 = .ok (.aload_n 0, 1) := by decide +kernel
theorem dX3_reckon_169 : decode cX3_reckon 169 = .ok (.getfield 21, 3) := by decide +kernel
theorem dX3_reckon_172 : decode cX3_reckon 172 = .ok (.iload_n 3, 1) := by decide +kernel
theorem dX3_reckon_173 : decode cX3_reckon 173 = .ok (.iconst 1, 1) := by decide +kernel
theorem dX3_reckon_174 : decode cX3_reckon 174 = .ok (.isub, 1) := by decide +kernel
theorem dX3_reckon_175 : decode cX3_reckon 175 = .ok (.iload 5, 2) := by decide +kernel
theorem dX3_reckon_177 : decode cX3_reckon 177 = .ok (.aload_n 0, 1) := by decide +kernel
theorem dX3_reckon_178 : decode cX3_reckon 178 = .ok (.getfield 21, 3) := by decide +kernel
theorem dX3_reckon_181 : decode cX3_reckon 181 = .ok (.iload_n 3, 1) := by decide +kernel
theorem dX3_reckon_182 : decode cX3_reckon 182 = .ok (.iconst 1, 1) := by decide +kernel
theorem dX3_reckon_183 : decode cX3_reckon 183 = .ok (.isub, 1) := by decide +kernel
theorem dX3_reckon_184 : decode cX3_reckon 184 = .ok (.iaload, 1) := by decide +kernel
theorem dX3_reckon_185 : decode cX3_reckon 185 = .ok (.aload_n 0, 1) := by decide +kernel
theorem dX3_reckon_186 : decode cX3_reckon 186 = .ok (.getfield 21, 3) := by decide +kernel
theorem dX3_reckon_189 : decode cX3_reckon 189 = .ok (.iload_n 3, 1) := by decide +kernel
theorem dX3_reckon_190 : decode cX3_reckon 190 = .ok (.iaload, 1) := by decide +kernel
theorem dX3_reckon_191 : decode cX3_reckon 191 = .ok (.invokestatic 79, 3) := by decide +kernel
theorem dX3_reckon_194 : decode cX3_reckon 194 = .ok (.iastore, 1) := by decide +kernel
theorem dX3_reckon_195 : decode cX3_reckon 195 = .ok (.iinc 4 1, 3) := by decide +kernel
theorem dX3_reckon_198 : decode cX3_reckon 198 = .ok (.goto (-189), 3) := by decide +kernel
theorem dX3_reckon_201 : decode cX3_reckon 201 = .ok (.iload_n 3, 1) := by decide +kernel
theorem dX3_reckon_202 : decode cX3_reckon 202 = .ok (.ifCond .le 14, 3) := by decide +kernel
theorem dX3_reckon_205 : decode cX3_reckon 205 = .ok (.aload_n 0, 1) := by decide +kernel
theorem dX3_reckon_206 : decode cX3_reckon 206 = .ok (.getfield 21, 3) := by decide +kernel
theorem dX3_reckon_209 : decode cX3_reckon 209 = .ok (.iload_n 3, 1) := by decide +kernel
theorem dX3_reckon_210 : decode cX3_reckon 210 = .ok (.iconst 1, 1) := by decide +kernel
theorem dX3_reckon_211 : decode cX3_reckon 211 = .ok (.isub, 1) := by decide +kernel
theorem dX3_reckon_212 : decode cX3_reckon 212 = .ok (.iaload, 1) := by decide +kernel
theorem dX3_reckon_213 : decode cX3_reckon 213 = .ok (.goto 4, 3) := by decide +kernel
theorem dX3_reckon_216 : decode cX3_reckon 216 = .ok (.iconst 0, 1) := by decide +kernel
theorem dX3_reckon_217 : decode cX3_reckon 217 = .ok (.ireturn, 1) := by decide +kernel
theorem dX3_nameOf_0 : decode cX3_nameOf 0 = .ok (.iload_n 1, 1) := by decide +kernel
theorem dX3_nameOf_1 : decode cX3_nameOf 1 = .ok (.ifCond .lt 21, 3) := by decide +kernel
theorem dX3_nameOf_4 : decode cX3_nameOf 4 = .ok (.iload_n 1, 1) := by decide +kernel
theorem dX3_nameOf_5 : decode cX3_nameOf 5 = .ok (.aload_n 0, 1) := by decide +kernel
theorem dX3_nameOf_6 : decode cX3_nameOf 6 = .ok (.getfield 17, 3) := by decide +kernel
theorem dX3_nameOf_9 : decode cX3_nameOf 9 = .ok (.arraylength, 1) := by decide +kernel
theorem dX3_nameOf_10 : decode cX3_nameOf 10 = .ok (.if_icmp .ge 12, 3) := by decide +kernel
theorem dX3_nameOf_13 : decode cX3_nameOf 13 = .ok (.aload_n 0, 1) := by decide +kernel
theorem dX3_nameOf_14 : decode cX3_nameOf 14 = .ok (.getfield 17, 3) := by decide +kernel
theorem dX3_nameOf_17 : decode cX3_nameOf 17 = .ok (.iload_n 1, 1) := by decide +kernel
theorem dX3_nameOf_18 : decode cX3_nameOf 18 = .ok (.iaload, 1) := by decide +kernel
theorem dX3_nameOf_19 : decode cX3_nameOf 19 = .ok (.goto 4, 3) := by decide +kernel
theorem dX3_nameOf_22 : decode cX3_nameOf 22 = .ok (.iconst 0, 1) := by decide +kernel
theorem dX3_nameOf_23 : decode cX3_nameOf 23 = .ok (.ireturn, 1) := by decide +kernel
theorem dX3_joined_0 : decode cX3_joined 0 = .ok (.iload_n 0, 1) := by decide +kernel
theorem dX3_joined_1 : decode cX3_joined 1 = .ok (.tableswitch 96 4 9 #[39, 43, 47, 51, 65, 79], 39) := by decide +kernel
theorem dX3_joined_40 : decode cX3_joined 40 = .ok (.iload_n 1, 1) := by decide +kernel
theorem dX3_joined_41 : decode cX3_joined 41 = .ok (.iload_n 2, 1) := by decide +kernel
theorem dX3_joined_42 : decode cX3_joined 42 = .ok (.iadd, 1) := by decide +kernel
theorem dX3_joined_43 : decode cX3_joined 43 = .ok (.ireturn, 1) := by decide +kernel
theorem dX3_joined_44 : decode cX3_joined 44 = .ok (.iload_n 1, 1) := by decide +kernel
theorem dX3_joined_45 : decode cX3_joined 45 = .ok (.iload_n 2, 1) := by decide +kernel
theorem dX3_joined_46 : decode cX3_joined 46 = .ok (.isub, 1) := by decide +kernel
theorem dX3_joined_47 : decode cX3_joined 47 = .ok (.ireturn, 1) := by decide +kernel
theorem dX3_joined_48 : decode cX3_joined 48 = .ok (.iload_n 1, 1) := by decide +kernel
theorem dX3_joined_49 : decode cX3_joined 49 = .ok (.iload_n 2, 1) := by decide +kernel
theorem dX3_joined_50 : decode cX3_joined 50 = .ok (.imul, 1) := by decide +kernel
theorem dX3_joined_51 : decode cX3_joined 51 = .ok (.ireturn, 1) := by decide +kernel
theorem dX3_joined_52 : decode cX3_joined 52 = .ok (.iload_n 1, 1) := by decide +kernel
theorem dX3_joined_53 : decode cX3_joined 53 = .ok (.iload_n 2, 1) := by decide +kernel
theorem dX3_joined_54 : decode cX3_joined 54 = .ok (.if_icmp .ge 7, 3) := by decide +kernel
theorem dX3_joined_57 : decode cX3_joined 57 = .ok (.iconst 1, 1) := by decide +kernel
theorem dX3_joined_58 : decode cX3_joined 58 = .ok (.goto 4, 3) := by decide +kernel
theorem dX3_joined_61 : decode cX3_joined 61 = .ok (.iconst 0, 1) := by decide +kernel
theorem dX3_joined_62 : decode cX3_joined 62 = .ok (.invokestatic 75, 3) := by decide +kernel
theorem dX3_joined_65 : decode cX3_joined 65 = .ok (.ireturn, 1) := by decide +kernel
theorem dX3_joined_66 : decode cX3_joined 66 = .ok (.iload_n 1, 1) := by decide +kernel
theorem dX3_joined_67 : decode cX3_joined 67 = .ok (.iload_n 2, 1) := by decide +kernel
theorem dX3_joined_68 : decode cX3_joined 68 = .ok (.if_icmp .ne 7, 3) := by decide +kernel
theorem dX3_joined_71 : decode cX3_joined 71 = .ok (.iconst 1, 1) := by decide +kernel
theorem dX3_joined_72 : decode cX3_joined 72 = .ok (.goto 4, 3) := by decide +kernel
theorem dX3_joined_75 : decode cX3_joined 75 = .ok (.iconst 0, 1) := by decide +kernel
theorem dX3_joined_76 : decode cX3_joined 76 = .ok (.invokestatic 75, 3) := by decide +kernel
theorem dX3_joined_79 : decode cX3_joined 79 = .ok (.ireturn, 1) := by decide +kernel
theorem dX3_joined_80 : decode cX3_joined 80 = .ok (.iload_n 1, 1) := by decide +kernel
theorem dX3_joined_81 : decode cX3_joined 81 = .ok (.ifCond .eq 11, 3) := by decide +kernel
theorem dX3_joined_84 : decode cX3_joined 84 = .ok (.iload_n 2, 1) := by decide +kernel
theorem dX3_joined_85 : decode cX3_joined 85 = .ok (.ifCond .eq 7, 3) := by decide +kernel
theorem dX3_joined_88 : decode cX3_joined 88 = .ok (.iconst 1, 1) := by decide +kernel
theorem dX3_joined_89 : decode cX3_joined 89 = .ok (.goto 4, 3) := by decide +kernel
theorem dX3_joined_92 : decode cX3_joined 92 = .ok (.iconst 0, 1) := by decide +kernel
theorem dX3_joined_93 : decode cX3_joined 93 = .ok (.invokestatic 75, 3) := by decide +kernel
theorem dX3_joined_96 : decode cX3_joined 96 = .ok (.ireturn, 1) := by decide +kernel
theorem dX3_joined_97 : decode cX3_joined 97 = .ok (.iload_n 1, 1) := by decide +kernel
theorem dX3_joined_98 : decode cX3_joined 98 = .ok (.ifCond .ne 7, 3) := by decide +kernel
theorem dX3_joined_101 : decode cX3_joined 101 = .ok (.iload_n 2, 1) := by decide +kernel
theorem dX3_joined_102 : decode cX3_joined 102 = .ok (.ifCond .eq 7, 3) := by decide +kernel
theorem dX3_joined_105 : decode cX3_joined 105 = .ok (.iconst 1, 1) := by decide +kernel
theorem dX3_joined_106 : decode cX3_joined 106 = .ok (.goto 4, 3) := by decide +kernel
theorem dX3_joined_109 : decode cX3_joined 109 = .ok (.iconst 0, 1) := by decide +kernel
theorem dX3_joined_110 : decode cX3_joined 110 = .ok (.invokestatic 75, 3) := by decide +kernel
theorem dX3_joined_113 : decode cX3_joined 113 = .ok (.ireturn, 1) := by decide +kernel
theorem dX3_truth_0 : decode cX3_truth 0 = .ok (.iload_n 0, 1) := by decide +kernel
theorem dX3_truth_1 : decode cX3_truth 1 = .ok (.ifCond .eq 7, 3) := by decide +kernel
theorem dX3_truth_4 : decode cX3_truth 4 = .ok (.iconst 1, 1) := by decide +kernel
theorem dX3_truth_5 : decode cX3_truth 5 = .ok (.goto 4, 3) := by decide +kernel
theorem dX3_truth_8 : decode cX3_truth 8 = .ok (.iconst 0, 1) := by decide +kernel
theorem dX3_truth_9 : decode cX3_truth 9 = .ok (.ireturn, 1) := by decide +kernel
theorem dX4_init_0 : decode cX4_init 0 = .ok (.aload_n 0, 1) := by decide +kernel
theorem dX4_init_1 : decode cX4_init 1 = .ok (.invokespecial 3, 3) := by decide +kernel
theorem dX4_init_4 : decode cX4_init 4 = .ok (.aload_n 0, 1) := by decide +kernel
theorem dX4_init_5 : decode cX4_init 5 = .ok (.bipush 40, 2) := by decide +kernel
theorem dX4_init_7 : decode cX4_init 7 = .ok (.newarray .int, 2) := by decide +kernel
theorem dX4_init_9 : decode cX4_init 9 = .ok (.putfield 9, 3) := by decide +kernel
theorem dX4_init_12 : decode cX4_init 12 = .ok (.aload_n 0, 1) := by decide +kernel
theorem dX4_init_13 : decode cX4_init 13 = .ok (.iconst (-1), 1) := by decide +kernel
theorem dX4_init_14 : decode cX4_init 14 = .ok (.putfield 15, 3) := by decide +kernel
theorem dX4_init_17 : decode cX4_init 17 = .ok (.return_, 1) := by decide +kernel
theorem dX4_isMissing_0 : decode cX4_isMissing 0 = .ok (.aload_n 0, 1) := by decide +kernel
theorem dX4_isMissing_1 : decode cX4_isMissing 1 = .ok (.getfield 15, 3) := by decide +kernel
theorem dX4_isMissing_4 : decode cX4_isMissing 4 = .ok (.iconst (-1), 1) := by decide +kernel
theorem dX4_isMissing_5 : decode cX4_isMissing 5 = .ok (.if_icmp .ne 7, 3) := by decide +kernel
theorem dX4_isMissing_8 : decode cX4_isMissing 8 = .ok (.iconst 1, 1) := by decide +kernel
theorem dX4_isMissing_9 : decode cX4_isMissing 9 = .ok (.goto 4, 3) := by decide +kernel
theorem dX4_isMissing_12 : decode cX4_isMissing 12 = .ok (.iconst 0, 1) := by decide +kernel
theorem dX4_isMissing_13 : decode cX4_isMissing 13 = .ok (.ireturn, 1) := by decide +kernel
theorem dX4_has_0 : decode cX4_has 0 = .ok (.iload_n 1, 1) := by decide +kernel
theorem dX4_has_1 : decode cX4_has 1 = .ok (.ifCond .lt 15, 3) := by decide +kernel
theorem dX4_has_4 : decode cX4_has 4 = .ok (.iload_n 1, 1) := by decide +kernel
theorem dX4_has_5 : decode cX4_has 5 = .ok (.aload_n 0, 1) := by decide +kernel
theorem dX4_has_6 : decode cX4_has 6 = .ok (.getfield 19, 3) := by decide +kernel
theorem dX4_has_9 : decode cX4_has 9 = .ok (.if_icmp .ge 7, 3) := by decide +kernel
theorem dX4_has_12 : decode cX4_has 12 = .ok (.iconst 1, 1) := by decide +kernel
theorem dX4_has_13 : decode cX4_has 13 = .ok (.goto 4, 3) := by decide +kernel
theorem dX4_has_16 : decode cX4_has 16 = .ok (.iconst 0, 1) := by decide +kernel
theorem dX4_has_17 : decode cX4_has 17 = .ok (.ireturn, 1) := by decide +kernel
theorem dX4_hasRun_0 : decode cX4_hasRun 0 = .ok (.iload_n 1, 1) := by decide +kernel
theorem dX4_hasRun_1 : decode cX4_hasRun 1 = .ok (.ifCond .lt 29, 3) := by decide +kernel
theorem dX4_hasRun_4 : decode cX4_hasRun 4 = .ok (.iload_n 2, 1) := by decide +kernel
theorem dX4_hasRun_5 : decode cX4_hasRun 5 = .ok (.ifCond .lt 25, 3) := by decide +kernel
theorem dX4_hasRun_8 : decode cX4_hasRun 8 = .ok (.iload_n 1, 1) := by decide +kernel
theorem dX4_hasRun_9 : decode cX4_hasRun 9 = .ok (.aload_n 0, 1) := by decide +kernel
theorem dX4_hasRun_10 : decode cX4_hasRun 10 = .ok (.getfield 19, 3) := by decide +kernel
theorem dX4_hasRun_13 : decode cX4_hasRun 13 = .ok (.if_icmp .gt 17, 3) := by decide +kernel
theorem dX4_hasRun_16 : decode cX4_hasRun 16 = .ok (.iload_n 2, 1) := by decide +kernel
theorem dX4_hasRun_17 : decode cX4_hasRun 17 = .ok (.aload_n 0, 1) := by decide +kernel
theorem dX4_hasRun_18 : decode cX4_hasRun 18 = .ok (.getfield 19, 3) := by decide +kernel
theorem dX4_hasRun_21 : decode cX4_hasRun 21 = .ok (.iload_n 1, 1) := by decide +kernel
theorem dX4_hasRun_22 : decode cX4_hasRun 22 = .ok (.isub, 1) := by decide +kernel
theorem dX4_hasRun_23 : decode cX4_hasRun 23 = .ok (.if_icmp .gt 7, 3) := by decide +kernel
theorem dX4_hasRun_26 : decode cX4_hasRun 26 = .ok (.iconst 1, 1) := by decide +kernel
theorem dX4_hasRun_27 : decode cX4_hasRun 27 = .ok (.goto 4, 3) := by decide +kernel
theorem dX4_hasRun_30 : decode cX4_hasRun 30 = .ok (.iconst 0, 1) := by decide +kernel
theorem dX4_hasRun_31 : decode cX4_hasRun 31 = .ok (.ireturn, 1) := by decide +kernel
theorem dX4_become_0 : decode cX4_become 0 = .ok (.aload_n 0, 1) := by decide +kernel
theorem dX4_become_1 : decode cX4_become 1 = .ok (.getfield 9, 3) := by decide +kernel
theorem dX4_become_4 : decode cX4_become 4 = .ok (.iconst 0, 1) := by decide +kernel
theorem dX4_become_5 : decode cX4_become 5 = .ok (.invokestatic 22, 3) := by decide +kernel
theorem dX4_become_8 : decode cX4_become 8 = .ok (.aload_n 0, 1) := by decide +kernel
theorem dX4_become_9 : decode cX4_become 9 = .ok (.iload_n 1, 1) := by decide +kernel
theorem dX4_become_10 : decode cX4_become 10 = .ok (.putfield 15, 3) := by decide +kernel
theorem dX4_become_13 : decode cX4_become 13 = .ok (.aload_n 0, 1) := by decide +kernel
theorem dX4_become_14 : decode cX4_become 14 = .ok (.iload_n 2, 1) := by decide +kernel
theorem dX4_become_15 : decode cX4_become 15 = .ok (.putfield 19, 3) := by decide +kernel
theorem dX4_become_18 : decode cX4_become 18 = .ok (.return_, 1) := by decide +kernel
theorem dX4_put_0 : decode cX4_put 0 = .ok (.aload_n 0, 1) := by decide +kernel
theorem dX4_put_1 : decode cX4_put 1 = .ok (.getfield 15, 3) := by decide +kernel
theorem dX4_put_4 : decode cX4_put 4 = .ok (.ifCond .ne 14, 3) := by decide +kernel
theorem dX4_put_7 : decode cX4_put 7 = .ok (.aload_n 0, 1) := by decide +kernel
theorem dX4_put_8 : decode cX4_put 8 = .ok (.getfield 9, 3) := by decide +kernel
theorem dX4_put_11 : decode cX4_put 11 = .ok (.iload_n 1, 1) := by decide +kernel
theorem dX4_put_12 : decode cX4_put 12 = .ok (.iload_n 2, 1) := by decide +kernel
theorem dX4_put_13 : decode cX4_put 13 = .ok (.i2b, 1) := by decide +kernel
theorem dX4_put_14 : decode cX4_put 14 = .ok (.iastore, 1) := by decide +kernel
theorem dX4_put_15 : decode cX4_put 15 = .ok (.goto 23, 3) := by decide +kernel
theorem dX4_put_18 : decode cX4_put 18 = .ok (.aload_n 0, 1) := by decide +kernel
theorem dX4_put_19 : decode cX4_put 19 = .ok (.getfield 9, 3) := by decide +kernel
theorem dX4_put_22 : decode cX4_put 22 = .ok (.iload_n 1, 1) := by decide +kernel
theorem dX4_put_23 : decode cX4_put 23 = .ok (.aload_n 0, 1) := by decide +kernel
theorem dX4_put_24 : decode cX4_put 24 = .ok (.getfield 15, 3) := by decide +kernel
theorem dX4_put_27 : decode cX4_put 27 = .ok (.iconst 1, 1) := by decide +kernel
theorem dX4_put_28 : decode cX4_put 28 = .ok (.if_icmp .ne 8, 3) := by decide +kernel
theorem dX4_put_31 : decode cX4_put 31 = .ok (.iload_n 2, 1) := by decide +kernel
theorem dX4_put_32 : decode cX4_put 32 = .ok (.i2s, 1) := by decide +kernel
theorem dX4_put_33 : decode cX4_put 33 = .ok (.goto 4, 3) := by decide +kernel
theorem dX4_put_36 : decode cX4_put 36 = .ok (.iload_n 2, 1) := by decide +kernel
theorem dX4_put_37 : decode cX4_put 37 = .ok (.iastore, 1) := by decide +kernel
theorem dX4_put_38 : decode cX4_put 38 = .ok (.return_, 1) := by decide +kernel
theorem dX5_init_0 : decode cX5_init 0 = .ok (.aload_n 0, 1) := by decide +kernel
theorem dX5_init_1 : decode cX5_init 1 = .ok (.invokespecial 3, 3) := by decide +kernel
theorem dX5_init_4 : decode cX5_init 4 = .ok (.aload_n 0, 1) := by decide +kernel
theorem dX5_init_5 : decode cX5_init 5 = .ok (.sipush 160, 3) := by decide +kernel
theorem dX5_init_8 : decode cX5_init 8 = .ok (.newarray .int, 2) := by decide +kernel
theorem dX5_init_10 : decode cX5_init 10 = .ok (.putfield 9, 3) := by decide +kernel
theorem dX5_init_13 : decode cX5_init 13 = .ok (.aload_n 0, 1) := by decide +kernel
theorem dX5_init_14 : decode cX5_init 14 = .ok (.sipush 161, 3) := by decide +kernel
theorem dX5_init_17 : decode cX5_init 17 = .ok (.newarray .int, 2) := by decide +kernel
theorem dX5_init_19 : decode cX5_init 19 = .ok (.putfield 15, 3) := by decide +kernel
theorem dX5_init_22 : decode cX5_init 22 = .ok (.aload_n 0, 1) := by decide +kernel
theorem dX5_init_23 : decode cX5_init 23 = .ok (.sipush 161, 3) := by decide +kernel
theorem dX5_init_26 : decode cX5_init 26 = .ok (.newarray .int, 2) := by decide +kernel
theorem dX5_init_28 : decode cX5_init 28 = .ok (.putfield 18, 3) := by decide +kernel
theorem dX5_init_31 : decode cX5_init 31 = .ok (.aload_n 0, 1) := by decide +kernel
theorem dX5_init_32 : decode cX5_init 32 = .ok (.sipush 161, 3) := by decide +kernel
theorem dX5_init_35 : decode cX5_init 35 = .ok (.newarray .int, 2) := by decide +kernel
theorem dX5_init_37 : decode cX5_init 37 = .ok (.putfield 21, 3) := by decide +kernel
theorem dX5_init_40 : decode cX5_init 40 = .ok (.return_, 1) := by decide +kernel
theorem dX5_put_0 : decode cX5_put 0 = .ok (.aload_n 0, 1) := by decide +kernel
theorem dX5_put_1 : decode cX5_put 1 = .ok (.getfield 24, 3) := by decide +kernel
theorem dX5_put_4 : decode cX5_put 4 = .ok (.sipush 160, 3) := by decide +kernel
theorem dX5_put_7 : decode cX5_put 7 = .ok (.if_icmp .lt 5, 3) := by decide +kernel
theorem dX5_put_10 : decode cX5_put 10 = .ok (.iconst 0, 1) := by decide +kernel
theorem dX5_put_11 : decode cX5_put 11 = .ok (.ireturn, 1) := by decide +kernel
theorem dX5_put_12 : decode cX5_put 12 = .ok (.aload_n 0, 1) := by decide +kernel
theorem dX5_put_13 : decode cX5_put 13 = .ok (.getfield 9, 3) := by decide +kernel
theorem dX5_put_16 : decode cX5_put 16 = .ok (.aload_n 0, 1) := by decide +kernel
theorem dX5_put_17 : decode cX5_put 17 = .ok (.getfield 24, 3) := by decide +kernel
theorem dX5_put_20 : decode cX5_put 20 = .ok (.iload_n 1, 1) := by decide +kernel
theorem dX5_put_21 : decode cX5_put 21 = .ok (.iastore, 1) := by decide +kernel
theorem dX5_put_22 : decode cX5_put 22 = .ok (.aload_n 0, 1) := by decide +kernel
theorem dX5_put_23 : decode cX5_put 23 = .ok (.dup, 1) := by decide +kernel
theorem dX5_put_24 : decode cX5_put 24 = .ok (.getfield 24, 3) := by decide +kernel
theorem dX5_put_27 : decode cX5_put 27 = .ok (.iconst 1, 1) := by decide +kernel
theorem dX5_put_28 : decode cX5_put 28 = .ok (.iadd, 1) := by decide +kernel
theorem dX5_put_29 : decode cX5_put 29 = .ok (.putfield 24, 3) := by decide +kernel
theorem dX5_put_32 : decode cX5_put 32 = .ok (.iconst 1, 1) := by decide +kernel
theorem dX5_put_33 : decode cX5_put 33 = .ok (.ireturn, 1) := by decide +kernel
theorem dX5_empty_0 : decode cX5_empty 0 = .ok (.aload_n 0, 1) := by decide +kernel
theorem dX5_empty_1 : decode cX5_empty 1 = .ok (.iconst 0, 1) := by decide +kernel
theorem dX5_empty_2 : decode cX5_empty 2 = .ok (.putfield 24, 3) := by decide +kernel
theorem dX5_empty_5 : decode cX5_empty 5 = .ok (.return_, 1) := by decide +kernel
theorem dX5_cut_0 : decode cX5_cut 0 = .ok (.aload_n 0, 1) := by decide +kernel
theorem dX5_cut_1 : decode cX5_cut 1 = .ok (.iconst 0, 1) := by decide +kernel
theorem dX5_cut_2 : decode cX5_cut 2 = .ok (.putfield 28, 3) := by decide +kernel
theorem dX5_cut_5 : decode cX5_cut 5 = .ok (.iconst 0, 1) := by decide +kernel
theorem dX5_cut_6 : decode cX5_cut 6 = .ok (.istore_n 1, 1) := by decide +kernel
theorem dX5_cut_7 : decode cX5_cut 7 = .ok (.aload_n 0, 1) := by decide +kernel
theorem dX5_cut_8 : decode cX5_cut 8 = .ok (.iconst 0, 1) := by decide +kernel
theorem dX5_cut_9 : decode cX5_cut 9 = .ok (.putfield 31, 3) := by decide +kernel
theorem dX5_cut_12 : decode cX5_cut 12 = .ok (.aload_n 0, 1) := by decide +kernel
theorem dX5_cut_13 : decode cX5_cut 13 = .ok (.getfield 31, 3) := by decide +kernel
theorem dX5_cut_16 : decode cX5_cut 16 = .ok (.sipush 160, 3) := by decide +kernel
theorem dX5_cut_19 : decode cX5_cut 19 = .ok (.if_icmp .gt 69, 3) := by decide +kernel
theorem dX5_cut_22 : decode cX5_cut 22 = .ok (.iload_n 1, 1) := by decide +kernel
theorem dX5_cut_23 : decode cX5_cut 23 = .ok (.iconst (-1), 1) := by decide +kernel
theorem dX5_cut_24 : decode cX5_cut 24 = .ok (.if_icmp .eq 64, 3) := by decide +kernel
theorem dX5_cut_27 : decode cX5_cut 27 = .ok (.iload_n 1, 1) := by decide +kernel
theorem dX5_cut_28 : decode cX5_cut 28 = .ok (.bipush (-2), 2) := by decide +kernel
theorem dX5_cut_30 : decode cX5_cut 30 = .ok (.if_icmp .eq 58, 3) := by decide +kernel
theorem dX5_cut_33 : decode cX5_cut 33 = .ok (.aload_n 0, 1) := by decide +kernel
theorem dX5_cut_34 : decode cX5_cut 34 = .ok (.invokevirtual 34, 3) := by decide +kernel
theorem dX5_cut_37 : decode cX5_cut 37 = .ok (.aload_n 0, 1) := by decide +kernel
theorem dX5_cut_38 : decode cX5_cut 38 = .ok (.getfield 21, 3) := by decide +kernel
theorem dX5_cut_41 : decode cX5_cut 41 = .ok (.aload_n 0, 1) := by decide +kernel
theorem dX5_cut_42 : decode cX5_cut 42 = .ok (.getfield 31, 3) := by decide +kernel
theorem dX5_cut_45 : decode cX5_cut 45 = .ok (.aload_n 0, 1) := by decide +kernel
theorem dX5_cut_46 : decode cX5_cut 46 = .ok (.getfield 28, 3) := by decide +kernel
theorem dX5_cut_49 : decode cX5_cut 49 = .ok (.iastore, 1) := by decide +kernel
theorem dX5_cut_50 : decode cX5_cut 50 = .ok (.aload_n 0, 1) := by decide +kernel
theorem dX5_cut_51 : decode cX5_cut 51 = .ok (.getfield 18, 3) := by decide +kernel
theorem dX5_cut_54 : decode cX5_cut 54 = .ok (.aload_n 0, 1) := by decide +kernel
theorem dX5_cut_55 : decode cX5_cut 55 = .ok (.getfield 31, 3) := by decide +kernel
theorem dX5_cut_58 : decode cX5_cut 58 = .ok (.iconst 0, 1) := by decide +kernel
theorem dX5_cut_59 : decode cX5_cut 59 = .ok (.iastore, 1) := by decide +kernel
theorem dX5_cut_60 : decode cX5_cut 60 = .ok (.aload_n 0, 1) := by decide +kernel
theorem dX5_cut_61 : decode cX5_cut 61 = .ok (.invokevirtual 37, 3) := by decide +kernel
theorem dX5_cut_64 : decode cX5_cut 64 = .ok (.istore_n 1, 1) := by decide +kernel
theorem dX5_cut_65 : decode cX5_cut 65 = .ok (.aload_n 0, 1) := by decide +kernel
theorem dX5_cut_66 : decode cX5_cut 66 = .ok (.getfield 15, 3) := by decide +kernel
theorem dX5_cut_69 : decode cX5_cut 69 = .ok (.aload_n 0, 1) := by decide +kernel
theorem dX5_cut_70 : decode cX5_cut 70 = .ok (.getfield 31, 3) := by decide +kernel
theorem dX5_cut_73 : decode cX5_cut 73 = .ok (.iload_n 1, 1) := by decide +kernel
theorem dX5_cut_74 : decode cX5_cut 74 = .ok (.iastore, 1) := by decide +kernel
theorem dX5_cut_75 : decode cX5_cut 75 = .ok (.aload_n 0, 1) := by decide +kernel
theorem dX5_cut_76 : decode cX5_cut 76 = .ok (.dup, 1) := by decide +kernel
theorem dX5_cut_77 : decode cX5_cut 77 = .ok (.getfield 31, 3) := by decide +kernel
theorem dX5_cut_80 : decode cX5_cut 80 = .ok (.iconst 1, 1) := by decide +kernel
theorem dX5_cut_81 : decode cX5_cut 81 = .ok (.iadd, 1) := by decide +kernel
theorem dX5_cut_82 : decode cX5_cut 82 = .ok (.putfield 31, 3) := by decide +kernel
theorem dX5_cut_85 : decode cX5_cut 85 = .ok (.goto (-73), 3) := by decide +kernel
theorem dX5_cut_88 : decode cX5_cut 88 = .ok (.return_, 1) := by decide +kernel
theorem dX5_skipBlanks_0 : decode cX5_skipBlanks 0 = .ok (.aload_n 0, 1) := by decide +kernel
theorem dX5_skipBlanks_1 : decode cX5_skipBlanks 1 = .ok (.getfield 28, 3) := by decide +kernel
theorem dX5_skipBlanks_4 : decode cX5_skipBlanks 4 = .ok (.aload_n 0, 1) := by decide +kernel
theorem dX5_skipBlanks_5 : decode cX5_skipBlanks 5 = .ok (.getfield 24, 3) := by decide +kernel
theorem dX5_skipBlanks_8 : decode cX5_skipBlanks 8 = .ok (.if_icmp .ge 44, 3) := by decide +kernel
theorem dX5_skipBlanks_11 : decode cX5_skipBlanks 11 = .ok (.aload_n 0, 1) := by decide +kernel
theorem dX5_skipBlanks_12 : decode cX5_skipBlanks 12 = .ok (.getfield 9, 3) := by decide +kernel
theorem dX5_skipBlanks_15 : decode cX5_skipBlanks 15 = .ok (.aload_n 0, 1) := by decide +kernel
theorem dX5_skipBlanks_16 : decode cX5_skipBlanks 16 = .ok (.getfield 28, 3) := by decide +kernel
theorem dX5_skipBlanks_19 : decode cX5_skipBlanks 19 = .ok (.iaload, 1) := by decide +kernel
theorem dX5_skipBlanks_20 : decode cX5_skipBlanks 20 = .ok (.bipush 32, 2) := by decide +kernel
theorem dX5_skipBlanks_22 : decode cX5_skipBlanks 22 = .ok (.if_icmp .eq 17, 3) := by decide +kernel
theorem dX5_skipBlanks_25 : decode cX5_skipBlanks 25 = .ok (.aload_n 0, 1) := by decide +kernel
theorem dX5_skipBlanks_26 : decode cX5_skipBlanks 26 = .ok (.getfield 9, 3) := by decide +kernel
theorem dX5_skipBlanks_29 : decode cX5_skipBlanks 29 = .ok (.aload_n 0, 1) := by decide +kernel
theorem dX5_skipBlanks_30 : decode cX5_skipBlanks 30 = .ok (.getfield 28, 3) := by decide +kernel
theorem dX5_skipBlanks_33 : decode cX5_skipBlanks 33 = .ok (.iaload, 1) := by decide +kernel
theorem dX5_skipBlanks_34 : decode cX5_skipBlanks 34 = .ok (.bipush 10, 2) := by decide +kernel
theorem dX5_skipBlanks_36 : decode cX5_skipBlanks 36 = .ok (.if_icmp .ne 16, 3) := by decide +kernel
theorem dX5_skipBlanks_39 : decode cX5_skipBlanks 39 = .ok (.aload_n 0, 1) := by decide +kernel
theorem dX5_skipBlanks_40 : decode cX5_skipBlanks 40 = .ok (.dup, 1) := by decide +kernel
theorem dX5_skipBlanks_41 : decode cX5_skipBlanks 41 = .ok (.getfield 28, 3) := by decide +kernel
theorem dX5_skipBlanks_44 : decode cX5_skipBlanks 44 = .ok (.iconst 1, 1) := by decide +kernel
theorem dX5_skipBlanks_45 : decode cX5_skipBlanks 45 = .ok (.iadd, 1) := by decide +kernel
theorem dX5_skipBlanks_46 : decode cX5_skipBlanks 46 = .ok (.putfield 28, 3) := by decide +kernel
theorem dX5_skipBlanks_49 : decode cX5_skipBlanks 49 = .ok (.goto (-49), 3) := by decide +kernel
theorem dX5_skipBlanks_52 : decode cX5_skipBlanks 52 = .ok (.return_, 1) := by decide +kernel
theorem dX5_cutOne_0 : decode cX5_cutOne 0 = .ok (.aload_n 0, 1) := by decide +kernel
theorem dX5_cutOne_1 : decode cX5_cutOne 1 = .ok (.getfield 28, 3) := by decide +kernel
theorem dX5_cutOne_4 : decode cX5_cutOne 4 = .ok (.aload_n 0, 1) := by decide +kernel
theorem dX5_cutOne_5 : decode cX5_cutOne 5 = .ok (.getfield 24, 3) := by decide +kernel
theorem dX5_cutOne_8 : decode cX5_cutOne 8 = .ok (.if_icmp .lt 5, 3) := by decide +kernel
theorem dX5_cutOne_11 : decode cX5_cutOne 11 = .ok (.iconst (-1), 1) := by decide +kernel
theorem dX5_cutOne_12 : decode cX5_cutOne 12 = .ok (.ireturn, 1) := by decide +kernel
theorem dX5_cutOne_13 : decode cX5_cutOne 13 = .ok (.aload_n 0, 1) := by decide +kernel
theorem dX5_cutOne_14 : decode cX5_cutOne 14 = .ok (.getfield 9, 3) := by decide +kernel
theorem dX5_cutOne_17 : decode cX5_cutOne 17 = .ok (.aload_n 0, 1) := by decide +kernel
theorem dX5_cutOne_18 : decode cX5_cutOne 18 = .ok (.getfield 28, 3) := by decide +kernel
theorem dX5_cutOne_21 : decode cX5_cutOne 21 = .ok (.iaload, 1) := by decide +kernel
theorem dX5_cutOne_22 : decode cX5_cutOne 22 = .ok (.invokestatic 41, 3) := by decide +kernel
theorem dX5_cutOne_25 : decode cX5_cutOne 25 = .ok (.ifCond .eq 8, 3) := by decide +kernel
theorem dX5_cutOne_28 : decode cX5_cutOne 28 = .ok (.aload_n 0, 1) := by decide +kernel
theorem dX5_cutOne_29 : decode cX5_cutOne 29 = .ok (.invokevirtual 45, 3) := by decide +kernel
theorem dX5_cutOne_32 : decode cX5_cutOne 32 = .ok (.ireturn, 1) := by decide +kernel
theorem dX5_cutOne_33 : decode cX5_cutOne 33 = .ok (.aload_n 0, 1) := by decide +kernel
theorem dX5_cutOne_34 : decode cX5_cutOne 34 = .ok (.getfield 9, 3) := by decide +kernel
theorem dX5_cutOne_37 : decode cX5_cutOne 37 = .ok (.aload_n 0, 1) := by decide +kernel
theorem dX5_cutOne_38 : decode cX5_cutOne 38 = .ok (.getfield 28, 3) := by decide +kernel
theorem dX5_cutOne_41 : decode cX5_cutOne 41 = .ok (.iaload, 1) := by decide +kernel
theorem dX5_cutOne_42 : decode cX5_cutOne 42 = .ok (.invokestatic 48, 3) := by decide +kernel
theorem dX5_cutOne_45 : decode cX5_cutOne 45 = .ok (.ifCond .eq 8, 3) := by decide +kernel
theorem dX5_cutOne_48 : decode cX5_cutOne 48 = .ok (.aload_n 0, 1) := by decide +kernel
theorem dX5_cutOne_49 : decode cX5_cutOne 49 = .ok (.invokevirtual 51, 3) := by decide +kernel
theorem dX5_cutOne_52 : decode cX5_cutOne 52 = .ok (.ireturn, 1) := by decide +kernel
theorem dX5_cutOne_53 : decode cX5_cutOne 53 = .ok (.aload_n 0, 1) := by decide +kernel
theorem dX5_cutOne_54 : decode cX5_cutOne 54 = .ok (.getfield 9, 3) := by decide +kernel
theorem dX5_cutOne_57 : decode cX5_cutOne 57 = .ok (.aload_n 0, 1) := by decide +kernel
theorem dX5_cutOne_58 : decode cX5_cutOne 58 = .ok (.getfield 28, 3) := by decide +kernel
theorem dX5_cutOne_61 : decode cX5_cutOne 61 = .ok (.iaload, 1) := by decide +kernel
theorem dX5_cutOne_62 : decode cX5_cutOne 62 = .ok (.istore_n 1, 1) := by decide +kernel
theorem dX5_cutOne_63 : decode cX5_cutOne 63 = .ok (.aload_n 0, 1) := by decide +kernel
theorem dX5_cutOne_64 : decode cX5_cutOne 64 = .ok (.dup, 1) := by decide +kernel
theorem dX5_cutOne_65 : decode cX5_cutOne 65 = .ok (.getfield 28, 3) := by decide +kernel
theorem dX5_cutOne_68 : decode cX5_cutOne 68 = .ok (.iconst 1, 1) := by decide +kernel
theorem dX5_cutOne_69 : decode cX5_cutOne 69 = .ok (.iadd, 1) := by decide +kernel
theorem dX5_cutOne_70 : decode cX5_cutOne 70 = .ok (.putfield 28, 3) := by decide +kernel
theorem dX5_cutOne_73 : decode cX5_cutOne 73 = .ok (.iload_n 1, 1) := by decide +kernel
theorem dX5_cutOne_74 : decode cX5_cutOne 74 = .ok (.invokestatic 54, 3) := by decide +kernel
theorem dX5_cutOne_77 : decode cX5_cutOne 77 = .ok (.ifCond .eq 7, 3) := by decide +kernel
theorem dX5_cutOne_80 : decode cX5_cutOne 80 = .ok (.iload_n 1, 1) := by decide +kernel
theorem dX5_cutOne_81 : decode cX5_cutOne 81 = .ok (.goto 5, 3) := by decide +kernel
theorem dX5_cutOne_84 : decode cX5_cutOne 84 = .ok (.bipush (-2), 2) := by decide +kernel
theorem dX5_cutOne_86 : decode cX5_cutOne 86 = .ok (.ireturn, 1) := by decide +kernel
theorem dX5_cutNumber_0 : decode cX5_cutNumber 0 = .ok (.aload_n 0, 1) := by decide +kernel
theorem dX5_cutNumber_1 : decode cX5_cutNumber 1 = .ok (.getfield 28, 3) := by decide +kernel
theorem dX5_cutNumber_4 : decode cX5_cutNumber 4 = .ok (.istore_n 1, 1) := by decide +kernel
theorem dX5_cutNumber_5 : decode cX5_cutNumber 5 = .ok (.iconst 0, 1) := by decide +kernel
theorem dX5_cutNumber_6 : decode cX5_cutNumber 6 = .ok (.istore_n 2, 1) := by decide +kernel
theorem dX5_cutNumber_7 : decode cX5_cutNumber 7 = .ok (.aload_n 0, 1) := by decide +kernel
theorem dX5_cutNumber_8 : decode cX5_cutNumber 8 = .ok (.getfield 28, 3) := by decide +kernel
theorem dX5_cutNumber_11 : decode cX5_cutNumber 11 = .ok (.aload_n 0, 1) := by decide +kernel
theorem dX5_cutNumber_12 : decode cX5_cutNumber 12 = .ok (.getfield 24, 3) := by decide +kernel
theorem dX5_cutNumber_15 : decode cX5_cutNumber 15 = .ok (.if_icmp .ge 49, 3) := by decide +kernel
theorem dX5_cutNumber_18 : decode cX5_cutNumber 18 = .ok (.aload_n 0, 1) := by decide +kernel
theorem dX5_cutNumber_19 : decode cX5_cutNumber 19 = .ok (.getfield 9, 3) := by decide +kernel
theorem dX5_cutNumber_22 : decode cX5_cutNumber 22 = .ok (.aload_n 0, 1) := by decide +kernel
theorem dX5_cutNumber_23 : decode cX5_cutNumber 23 = .ok (.getfield 28, 3) := by decide +kernel
theorem dX5_cutNumber_26 : decode cX5_cutNumber 26 = .ok (.iaload, 1) := by decide +kernel
theorem dX5_cutNumber_27 : decode cX5_cutNumber 27 = .ok (.invokestatic 48, 3) := by decide +kernel
theorem dX5_cutNumber_30 : decode cX5_cutNumber 30 = .ok (.ifCond .eq 34, 3) := by decide +kernel
theorem dX5_cutNumber_33 : decode cX5_cutNumber 33 = .ok (.iload_n 2, 1) := by decide +kernel
theorem dX5_cutNumber_34 : decode cX5_cutNumber 34 = .ok (.bipush 10, 2) := by decide +kernel
theorem dX5_cutNumber_36 : decode cX5_cutNumber 36 = .ok (.imul, 1) := by decide +kernel
theorem dX5_cutNumber_37 : decode cX5_cutNumber 37 = .ok (.aload_n 0, 1) := by decide +kernel
theorem dX5_cutNumber_38 : decode cX5_cutNumber 38 = .ok (.getfield 9, 3) := by decide +kernel
theorem dX5_cutNumber_41 : decode cX5_cutNumber 41 = .ok (.aload_n 0, 1) := by decide +kernel
theorem dX5_cutNumber_42 : decode cX5_cutNumber 42 = .ok (.getfield 28, 3) := by decide +kernel
theorem dX5_cutNumber_45 : decode cX5_cutNumber 45 = .ok (.iaload, 1) := by decide +kernel
theorem dX5_cutNumber_46 : decode cX5_cutNumber 46 = .ok (.iadd, 1) := by decide +kernel
theorem dX5_cutNumber_47 : decode cX5_cutNumber 47 = .ok (.bipush 48, 2) := by decide +kernel
theorem dX5_cutNumber_49 : decode cX5_cutNumber 49 = .ok (.isub, 1) := by decide +kernel
theorem dX5_cutNumber_50 : decode cX5_cutNumber 50 = .ok (.istore_n 2, 1) := by decide +kernel
theorem dX5_cutNumber_51 : decode cX5_cutNumber 51 = .ok (.aload_n 0, 1) := by decide +kernel
theorem dX5_cutNumber_52 : decode cX5_cutNumber 52 = .ok (.dup, 1) := by decide +kernel
theorem dX5_cutNumber_53 : decode cX5_cutNumber 53 = .ok (.getfield 28, 3) := by decide +kernel
theorem dX5_cutNumber_56 : decode cX5_cutNumber 56 = .ok (.iconst 1, 1) := by decide +kernel
theorem dX5_cutNumber_57 : decode cX5_cutNumber 57 = .ok (.iadd, 1) := by decide +kernel
theorem dX5_cutNumber_58 : decode cX5_cutNumber 58 = .ok (.putfield 28, 3) := by decide +kernel
theorem dX5_cutNumber_61 : decode cX5_cutNumber 61 = .ok (.goto (-54), 3) := by decide +kernel
theorem dX5_cutNumber_64 : decode cX5_cutNumber 64 = .ok (.aload_n 0, 1) := by decide +kernel
theorem dX5_cutNumber_65 : decode cX5_cutNumber 65 = .ok (.getfield 18, 3) := by decide +kernel
theorem dX5_cutNumber_68 : decode cX5_cutNumber 68 = .ok (.aload_n 0, 1) := by decide +kernel
theorem dX5_cutNumber_69 : decode cX5_cutNumber 69 = .ok (.getfield 31, 3) := by decide +kernel
theorem dX5_cutNumber_72 : decode cX5_cutNumber 72 = .ok (.iload_n 2, 1) := by decide +kernel
theorem dX5_cutNumber_73 : decode cX5_cutNumber 73 = .ok (.iastore, 1) := by decide +kernel
theorem dX5_cutNumber_74 : decode cX5_cutNumber 74 = .ok (.aload_n 0, 1) := by decide +kernel
theorem dX5_cutNumber_75 : decode cX5_cutNumber 75 = .ok (.getfield 28, 3) := by decide +kernel
theorem dX5_cutNumber_78 : decode cX5_cutNumber 78 = .ok (.iload_n 1, 1) := by decide +kernel
theorem dX5_cutNumber_79 : decode cX5_cutNumber 79 = .ok (.isub, 1) := by decide +kernel
theorem dX5_cutNumber_80 : decode cX5_cutNumber 80 = .ok (.iconst 4, 1) := by decide +kernel
theorem dX5_cutNumber_81 : decode cX5_cutNumber 81 = .ok (.if_icmp .gt 7, 3) := by decide +kernel
theorem dX5_cutNumber_84 : decode cX5_cutNumber 84 = .ok (.iconst 1, 1) := by decide +kernel
theorem dX5_cutNumber_85 : decode cX5_cutNumber 85 = .ok (.goto 5, 3) := by decide +kernel
theorem dX5_cutNumber_88 : decode cX5_cutNumber 88 = .ok (.bipush (-2), 2) := by decide +kernel
theorem dX5_cutNumber_90 : decode cX5_cutNumber 90 = .ok (.ireturn, 1) := by decide +kernel
theorem dX5_cutWord_0 : decode cX5_cutWord 0 = .ok (.aload_n 0, 1) := by decide +kernel
theorem dX5_cutWord_1 : decode cX5_cutWord 1 = .ok (.getfield 28, 3) := by decide +kernel
theorem dX5_cutWord_4 : decode cX5_cutWord 4 = .ok (.istore_n 1, 1) := by decide +kernel
theorem dX5_cutWord_5 : decode cX5_cutWord 5 = .ok (.aload_n 0, 1) := by decide +kernel
theorem dX5_cutWord_6 : decode cX5_cutWord 6 = .ok (.getfield 28, 3) := by decide +kernel
theorem dX5_cutWord_9 : decode cX5_cutWord 9 = .ok (.aload_n 0, 1) := by decide +kernel
theorem dX5_cutWord_10 : decode cX5_cutWord 10 = .ok (.getfield 24, 3) := by decide +kernel
theorem dX5_cutWord_13 : decode cX5_cutWord 13 = .ok (.if_icmp .ge 31, 3) := by decide +kernel
theorem dX5_cutWord_16 : decode cX5_cutWord 16 = .ok (.aload_n 0, 1) := by decide +kernel
theorem dX5_cutWord_17 : decode cX5_cutWord 17 = .ok (.getfield 9, 3) := by decide +kernel
theorem dX5_cutWord_20 : decode cX5_cutWord 20 = .ok (.aload_n 0, 1) := by decide +kernel
theorem dX5_cutWord_21 : decode cX5_cutWord 21 = .ok (.getfield 28, 3) := by decide +kernel
theorem dX5_cutWord_24 : decode cX5_cutWord 24 = .ok (.iaload, 1) := by decide +kernel
theorem dX5_cutWord_25 : decode cX5_cutWord 25 = .ok (.invokestatic 41, 3) := by decide +kernel
theorem dX5_cutWord_28 : decode cX5_cutWord 28 = .ok (.ifCond .eq 16, 3) := by decide +kernel
theorem dX5_cutWord_31 : decode cX5_cutWord 31 = .ok (.aload_n 0, 1) := by decide +kernel
theorem dX5_cutWord_32 : decode cX5_cutWord 32 = .ok (.dup, 1) := by decide +kernel
theorem dX5_cutWord_33 : decode cX5_cutWord 33 = .ok (.getfield 28, 3) := by decide +kernel
theorem dX5_cutWord_36 : decode cX5_cutWord 36 = .ok (.iconst 1, 1) := by decide +kernel
theorem dX5_cutWord_37 : decode cX5_cutWord 37 = .ok (.iadd, 1) := by decide +kernel
theorem dX5_cutWord_38 : decode cX5_cutWord 38 = .ok (.putfield 28, 3) := by decide +kernel
theorem dX5_cutWord_41 : decode cX5_cutWord 41 = .ok (.goto (-36), 3) := by decide +kernel
theorem dX5_cutWord_44 : decode cX5_cutWord 44 = .ok (.iconst 0, 1) := by decide +kernel
theorem dX5_cutWord_45 : decode cX5_cutWord 45 = .ok (.istore_n 2, 1) := by decide +kernel
theorem dX5_cutWord_46 : decode cX5_cutWord 46 = .ok (.iload_n 2, 1) := by decide +kernel
theorem dX5_cutWord_47 : decode cX5_cutWord 47 = .ok (.bipush 12, 2) := by decide +kernel
theorem dX5_cutWord_49 : decode cX5_cutWord 49 = .ok (.if_icmp .ge 48, 3) := by decide +kernel
theorem dX5_cutWord_52 : decode cX5_cutWord 52 = .ok (.aload_n 0, 1) := by decide +kernel
theorem dX5_cutWord_53 : decode cX5_cutWord 53 = .ok (.iload_n 2, 1) := by decide +kernel
theorem dX5_cutWord_54 : decode cX5_cutWord 54 = .ok (.invokestatic 57, 3) := by decide +kernel
theorem dX5_cutWord_57 : decode cX5_cutWord 57 = .ok (.iload_n 1, 1) := by decide +kernel
theorem dX5_cutWord_58 : decode cX5_cutWord 58 = .ok (.invokevirtual 61, 3) := by decide +kernel
theorem dX5_cutWord_61 : decode cX5_cutWord 61 = .ok (.ifCond .eq 30, 3) := by decide +kernel
theorem dX5_cutWord_64 : decode cX5_cutWord 64 = .ok (.aload_n 0, 1) := by decide +kernel
theorem dX5_cutWord_65 : decode cX5_cutWord 65 = .ok (.getfield 18, 3) := by decide +kernel
theorem dX5_cutWord_68 : decode cX5_cutWord 68 = .ok (.aload_n 0, 1) := by decide +kernel
theorem dX5_cutWord_69 : decode cX5_cutWord 69 = .ok (.getfield 31, 3) := by decide +kernel
theorem dX5_cutWord_72 : decode cX5_cutWord 72 = .ok (.iload_n 2, 1) := by decide +kernel
theorem dX5_cutWord_73 : decode cX5_cutWord 73 = .ok (.iastore, 1) := by decide +kernel
theorem dX5_cutWord_74 : decode cX5_cutWord 74 = .ok (.iload_n 2, 1) := by decide +kernel
theorem dX5_cutWord_75 : decode cX5_cutWord 75 = .ok (.bipush 6, 2) := by decide +kernel
theorem dX5_cutWord_77 : decode cX5_cutWord 77 = .ok (.if_icmp .ge 7, 3) := by decide +kernel
theorem dX5_cutWord_80 : decode cX5_cutWord 80 = .ok (.iconst 2, 1) := by decide +kernel
theorem dX5_cutWord_81 : decode cX5_cutWord 81 = .ok (.goto 9, 3) := by decide +kernel
theorem dX5_cutWord_84 : decode cX5_cutWord 84 = .ok (.iconst 3, 1) := by decide +kernel
theorem dX5_cutWord_85 : decode cX5_cutWord 85 = .ok (.iload_n 2, 1) := by decide +kernel
theorem dX5_cutWord_86 : decode cX5_cutWord 86 = .ok (.iadd, 1) := by decide +kernel
theorem dX5_cutWord_87 : decode cX5_cutWord 87 = .ok (.bipush 6, 2) := by decide +kernel
theorem dX5_cutWord_89 : decode cX5_cutWord 89 = .ok (.isub, 1) := by decide +kernel
theorem dX5_cutWord_90 : decode cX5_cutWord 90 = .ok (.ireturn, 1) := by decide +kernel
theorem dX5_cutWord_91 : decode cX5_cutWord 91 = .ok (.iinc 2 1, 3) := by decide +kernel
theorem dX5_cutWord_94 : decode cX5_cutWord 94 = .ok (.goto (-48), 3) := by decide +kernel
theorem dX5_cutWord_97 : decode cX5_cutWord 97 = .ok (.bipush (-2), 2) := by decide +kernel
theorem dX5_cutWord_99 : decode cX5_cutWord 99 = .ok (.ireturn, 1) := by decide +kernel
theorem dX5_stands_0 : decode cX5_stands 0 = .ok (.aload_n 0, 1) := by decide +kernel
theorem dX5_stands_1 : decode cX5_stands 1 = .ok (.getfield 28, 3) := by decide +kernel
theorem dX5_stands_4 : decode cX5_stands 4 = .ok (.iload_n 2, 1) := by decide +kernel
theorem dX5_stands_5 : decode cX5_stands 5 = .ok (.isub, 1) := by decide +kernel
theorem dX5_stands_6 : decode cX5_stands 6 = .ok (.aload_n 1, 1) := by decide +kernel
theorem dX5_stands_7 : decode cX5_stands 7 = .ok (.invokevirtual 65, 3) := by decide +kernel
theorem dX5_stands_10 : decode cX5_stands 10 = .ok (.if_icmp .eq 5, 3) := by decide +kernel
theorem dX5_stands_13 : decode cX5_stands 13 = .ok (.iconst 0, 1) := by decide +kernel
theorem dX5_stands_14 : decode cX5_stands 14 = .ok (.ireturn, 1) := by decide +kernel
theorem dX5_stands_15 : decode cX5_stands 15 = .ok (.iconst 0, 1) := by decide +kernel
theorem dX5_stands_16 : decode cX5_stands 16 = .ok (.istore_n 3, 1) := by decide +kernel
theorem dX5_stands_17 : decode cX5_stands 17 = .ok (.iload_n 3, 1) := by decide +kernel
theorem dX5_stands_18 : decode cX5_stands 18 = .ok (.aload_n 1, 1) := by decide +kernel
theorem dX5_stands_19 : decode cX5_stands 19 = .ok (.invokevirtual 65, 3) := by decide +kernel
theorem dX5_stands_22 : decode cX5_stands 22 = .ok (.if_icmp .ge 27, 3) := by decide +kernel
theorem dX5_stands_25 : decode cX5_stands 25 = .ok (.aload_n 0, 1) := by decide +kernel
theorem dX5_stands_26 : decode cX5_stands 26 = .ok (.getfield 9, 3) := by decide +kernel
theorem dX5_stands_29 : decode cX5_stands 29 = .ok (.iload_n 2, 1) := by decide +kernel
theorem dX5_stands_30 : decode cX5_stands 30 = .ok (.iload_n 3, 1) := by decide +kernel
theorem dX5_stands_31 : decode cX5_stands 31 = .ok (.iadd, 1) := by decide +kernel
theorem dX5_stands_32 : decode cX5_stands 32 = .ok (.iaload, 1) := by decide +kernel
theorem dX5_stands_33 : decode cX5_stands 33 = .ok (.aload_n 1, 1) := by decide +kernel
theorem dX5_stands_34 : decode cX5_stands 34 = .ok (.iload_n 3, 1) := by decide +kernel
theorem dX5_stands_35 : decode cX5_stands 35 = .ok (.invokevirtual 70, 3) := by decide +kernel
theorem dX5_stands_38 : decode cX5_stands 38 = .ok (.if_icmp .eq 5, 3) := by decide +kernel
theorem dX5_stands_41 : decode cX5_stands 41 = .ok (.iconst 0, 1) := by decide +kernel
theorem dX5_stands_42 : decode cX5_stands 42 = .ok (.ireturn, 1) := by decide +kernel
theorem dX5_stands_43 : decode cX5_stands 43 = .ok (.iinc 3 1, 3) := by decide +kernel
theorem dX5_stands_46 : decode cX5_stands 46 = .ok (.goto (-29), 3) := by decide +kernel
theorem dX5_stands_49 : decode cX5_stands 49 = .ok (.iconst 1, 1) := by decide +kernel
theorem dX5_stands_50 : decode cX5_stands 50 = .ok (.ireturn, 1) := by decide +kernel
theorem dX5_isLetter_0 : decode cX5_isLetter 0 = .ok (.iload_n 0, 1) := by decide +kernel
theorem dX5_isLetter_1 : decode cX5_isLetter 1 = .ok (.bipush 97, 2) := by decide +kernel
theorem dX5_isLetter_3 : decode cX5_isLetter 3 = .ok (.if_icmp .lt 13, 3) := by decide +kernel
theorem dX5_isLetter_6 : decode cX5_isLetter 6 = .ok (.iload_n 0, 1) := by decide +kernel
theorem dX5_isLetter_7 : decode cX5_isLetter 7 = .ok (.bipush 122, 2) := by decide +kernel
theorem dX5_isLetter_9 : decode cX5_isLetter 9 = .ok (.if_icmp .gt 7, 3) := by decide +kernel
theorem dX5_isLetter_12 : decode cX5_isLetter 12 = .ok (.iconst 1, 1) := by decide +kernel
theorem dX5_isLetter_13 : decode cX5_isLetter 13 = .ok (.goto 4, 3) := by decide +kernel
theorem dX5_isLetter_16 : decode cX5_isLetter 16 = .ok (.iconst 0, 1) := by decide +kernel
theorem dX5_isLetter_17 : decode cX5_isLetter 17 = .ok (.ireturn, 1) := by decide +kernel
theorem dX5_isDigit_0 : decode cX5_isDigit 0 = .ok (.iload_n 0, 1) := by decide +kernel
theorem dX5_isDigit_1 : decode cX5_isDigit 1 = .ok (.bipush 48, 2) := by decide +kernel
theorem dX5_isDigit_3 : decode cX5_isDigit 3 = .ok (.if_icmp .lt 13, 3) := by decide +kernel
theorem dX5_isDigit_6 : decode cX5_isDigit 6 = .ok (.iload_n 0, 1) := by decide +kernel
theorem dX5_isDigit_7 : decode cX5_isDigit 7 = .ok (.bipush 57, 2) := by decide +kernel
theorem dX5_isDigit_9 : decode cX5_isDigit 9 = .ok (.if_icmp .gt 7, 3) := by decide +kernel
theorem dX5_isDigit_12 : decode cX5_isDigit 12 = .ok (.iconst 1, 1) := by decide +kernel
theorem dX5_isDigit_13 : decode cX5_isDigit 13 = .ok (.goto 4, 3) := by decide +kernel
theorem dX5_isDigit_16 : decode cX5_isDigit 16 = .ok (.iconst 0, 1) := by decide +kernel
theorem dX5_isDigit_17 : decode cX5_isDigit 17 = .ok (.ireturn, 1) := by decide +kernel
theorem dX5_isSign_0 : decode cX5_isSign 0 = .ok (.iload_n 0, 1) := by decide +kernel
theorem dX5_isSign_1 : decode cX5_isSign 1 = .ok (.tableswitch 105 40 61 #[103, 103, 103, 103, 105, 103, 105, 105, 105, 105, 105, 105, 105, 105, 105, 105, 105, 105, 105, 103, 103, 103], 103) := by decide +kernel
theorem dX5_isSign_104 : decode cX5_isSign 104 = .ok (.iconst 1, 1) := by decide +kernel
theorem dX5_isSign_105 : decode cX5_isSign 105 = .ok (.ireturn, 1) := by decide +kernel
theorem dX5_isSign_106 : decode cX5_isSign 106 = .ok (.iconst 0, 1) := by decide +kernel
theorem dX5_isSign_107 : decode cX5_isSign 107 = .ok (.ireturn, 1) := by decide +kernel
theorem dX5_spelling_0 : decode cX5_spelling 0 = .ok (.iload_n 0, 1) := by decide +kernel
theorem dX5_spelling_1 : decode cX5_spelling 1 = .ok (.tableswitch 92 0 10 #[59, 62, 65, 68, 71, 74, 77, 80, 83, 86, 89], 59) := by decide +kernel
theorem dX5_spelling_60 : decode cX5_spelling 60 = .ok (.ldc 74, 2) := by decide +kernel
theorem dX5_spelling_62 : decode cX5_spelling 62 = .ok (.areturn, 1) := by decide +kernel
theorem dX5_spelling_63 : decode cX5_spelling 63 = .ok (.ldc 76, 2) := by decide +kernel
theorem dX5_spelling_65 : decode cX5_spelling 65 = .ok (.areturn, 1) := by decide +kernel
theorem dX5_spelling_66 : decode cX5_spelling 66 = .ok (.ldc 78, 2) := by decide +kernel
theorem dX5_spelling_68 : decode cX5_spelling 68 = .ok (.areturn, 1) := by decide +kernel
theorem dX5_spelling_69 : decode cX5_spelling 69 = .ok (.ldc 80, 2) := by decide +kernel
theorem dX5_spelling_71 : decode cX5_spelling 71 = .ok (.areturn, 1) := by decide +kernel
theorem dX5_spelling_72 : decode cX5_spelling 72 = .ok (.ldc 82, 2) := by decide +kernel
theorem dX5_spelling_74 : decode cX5_spelling 74 = .ok (.areturn, 1) := by decide +kernel
theorem dX5_spelling_75 : decode cX5_spelling 75 = .ok (.ldc 84, 2) := by decide +kernel
theorem dX5_spelling_77 : decode cX5_spelling 77 = .ok (.areturn, 1) := by decide +kernel
theorem dX5_spelling_78 : decode cX5_spelling 78 = .ok (.ldc 86, 2) := by decide +kernel
theorem dX5_spelling_80 : decode cX5_spelling 80 = .ok (.areturn, 1) := by decide +kernel
theorem dX5_spelling_81 : decode cX5_spelling 81 = .ok (.ldc 88, 2) := by decide +kernel
theorem dX5_spelling_83 : decode cX5_spelling 83 = .ok (.areturn, 1) := by decide +kernel
theorem dX5_spelling_84 : decode cX5_spelling 84 = .ok (.ldc 90, 2) := by decide +kernel
theorem dX5_spelling_86 : decode cX5_spelling 86 = .ok (.areturn, 1) := by decide +kernel
theorem dX5_spelling_87 : decode cX5_spelling 87 = .ok (.ldc 92, 2) := by decide +kernel
theorem dX5_spelling_89 : decode cX5_spelling 89 = .ok (.areturn, 1) := by decide +kernel
theorem dX5_spelling_90 : decode cX5_spelling 90 = .ok (.ldc 94, 2) := by decide +kernel
theorem dX5_spelling_92 : decode cX5_spelling 92 = .ok (.areturn, 1) := by decide +kernel
theorem dX5_spelling_93 : decode cX5_spelling 93 = .ok (.ldc 96, 2) := by decide +kernel
theorem dX5_spelling_95 : decode cX5_spelling 95 = .ok (.areturn, 1) := by decide +kernel
theorem dX6_init_0 : decode cX6_init 0 = .ok (.aload_n 0, 1) := by decide +kernel
theorem dX6_init_1 : decode cX6_init 1 = .ok (.invokespecial 1, 3) := by decide +kernel
theorem dX6_init_4 : decode cX6_init 4 = .ok (.aload_n 0, 1) := by decide +kernel
theorem dX6_init_5 : decode cX6_init 5 = .ok (.aload_n 1, 1) := by decide +kernel
theorem dX6_init_6 : decode cX6_init 6 = .ok (.putfield 7, 3) := by decide +kernel
theorem dX6_init_9 : decode cX6_init 9 = .ok (.aload_n 0, 1) := by decide +kernel
theorem dX6_init_10 : decode cX6_init 10 = .ok (.aload_n 2, 1) := by decide +kernel
theorem dX6_init_11 : decode cX6_init 11 = .ok (.putfield 13, 3) := by decide +kernel
theorem dX6_init_14 : decode cX6_init 14 = .ok (.return_, 1) := by decide +kernel
theorem dX6_start_0 : decode cX6_start 0 = .ok (.iload_n 1, 1) := by decide +kernel
theorem dX6_start_1 : decode cX6_start 1 = .ok (.ifCond .le 23, 3) := by decide +kernel
theorem dX6_start_4 : decode cX6_start 4 = .ok (.iload_n 1, 1) := by decide +kernel
theorem dX6_start_5 : decode cX6_start 5 = .ok (.aload_n 0, 1) := by decide +kernel
theorem dX6_start_6 : decode cX6_start 6 = .ok (.getfield 13, 3) := by decide +kernel
theorem dX6_start_9 : decode cX6_start 9 = .ok (.arraylength, 1) := by decide +kernel
theorem dX6_start_10 : decode cX6_start 10 = .ok (.if_icmp .ge 14, 3) := by decide +kernel
theorem dX6_start_13 : decode cX6_start 13 = .ok (.aload_n 0, 1) := by decide +kernel
theorem dX6_start_14 : decode cX6_start 14 = .ok (.getfield 13, 3) := by decide +kernel
theorem dX6_start_17 : decode cX6_start 17 = .ok (.iload_n 1, 1) := by decide +kernel
theorem dX6_start_18 : decode cX6_start 18 = .ok (.iconst 1, 1) := by decide +kernel
theorem dX6_start_19 : decode cX6_start 19 = .ok (.isub, 1) := by decide +kernel
theorem dX6_start_20 : decode cX6_start 20 = .ok (.iaload, 1) := by decide +kernel
theorem dX6_start_21 : decode cX6_start 21 = .ok (.goto 4, 3) := by decide +kernel
theorem dX6_start_24 : decode cX6_start 24 = .ok (.iconst 0, 1) := by decide +kernel
theorem dX6_start_25 : decode cX6_start 25 = .ok (.ireturn, 1) := by decide +kernel
theorem dX6_end_0 : decode cX6_end 0 = .ok (.iload_n 1, 1) := by decide +kernel
theorem dX6_end_1 : decode cX6_end 1 = .ok (.ifCond .lt 21, 3) := by decide +kernel
theorem dX6_end_4 : decode cX6_end 4 = .ok (.iload_n 1, 1) := by decide +kernel
theorem dX6_end_5 : decode cX6_end 5 = .ok (.aload_n 0, 1) := by decide +kernel
theorem dX6_end_6 : decode cX6_end 6 = .ok (.getfield 13, 3) := by decide +kernel
theorem dX6_end_9 : decode cX6_end 9 = .ok (.arraylength, 1) := by decide +kernel
theorem dX6_end_10 : decode cX6_end 10 = .ok (.if_icmp .ge 12, 3) := by decide +kernel
theorem dX6_end_13 : decode cX6_end 13 = .ok (.aload_n 0, 1) := by decide +kernel
theorem dX6_end_14 : decode cX6_end 14 = .ok (.getfield 13, 3) := by decide +kernel
theorem dX6_end_17 : decode cX6_end 17 = .ok (.iload_n 1, 1) := by decide +kernel
theorem dX6_end_18 : decode cX6_end 18 = .ok (.iaload, 1) := by decide +kernel
theorem dX6_end_19 : decode cX6_end 19 = .ok (.goto 4, 3) := by decide +kernel
theorem dX6_end_22 : decode cX6_end 22 = .ok (.iconst 0, 1) := by decide +kernel
theorem dX6_end_23 : decode cX6_end 23 = .ok (.ireturn, 1) := by decide +kernel
theorem dX7_init_0 : decode cX7_init 0 = .ok (.aload_n 0, 1) := by decide +kernel
theorem dX7_init_1 : decode cX7_init 1 = .ok (.invokespecial 3, 3) := by decide +kernel
theorem dX7_init_4 : decode cX7_init 4 = .ok (.aload_n 0, 1) := by decide +kernel
theorem dX7_init_5 : decode cX7_init 5 = .ok (.bipush 6, 2) := by decide +kernel
theorem dX7_init_7 : decode cX7_init 7 = .ok (.newarray .int, 2) := by decide +kernel
theorem dX7_init_9 : decode cX7_init 9 = .ok (.putfield 9, 3) := by decide +kernel
theorem dX7_init_12 : decode cX7_init 12 = .ok (.aload_n 0, 1) := by decide +kernel
theorem dX7_init_13 : decode cX7_init 13 = .ok (.sipush 192, 3) := by decide +kernel
theorem dX7_init_16 : decode cX7_init 16 = .ok (.newarray .int, 2) := by decide +kernel
theorem dX7_init_18 : decode cX7_init 18 = .ok (.putfield 15, 3) := by decide +kernel
theorem dX7_init_21 : decode cX7_init 21 = .ok (.aload_n 0, 1) := by decide +kernel
theorem dX7_init_22 : decode cX7_init 22 = .ok (.sipush 192, 3) := by decide +kernel
theorem dX7_init_25 : decode cX7_init 25 = .ok (.newarray .int, 2) := by decide +kernel
theorem dX7_init_27 : decode cX7_init 27 = .ok (.putfield 18, 3) := by decide +kernel
theorem dX7_init_30 : decode cX7_init 30 = .ok (.return_, 1) := by decide +kernel
theorem dX7_reach_0 : decode cX7_reach 0 = .ok (.aload_n 0, 1) := by decide +kernel
theorem dX7_reach_1 : decode cX7_reach 1 = .ok (.getfield 9, 3) := by decide +kernel
theorem dX7_reach_4 : decode cX7_reach 4 = .ok (.bipush 32, 2) := by decide +kernel
theorem dX7_reach_6 : decode cX7_reach 6 = .ok (.invokestatic 21, 3) := by decide +kernel
theorem dX7_reach_9 : decode cX7_reach 9 = .ok (.aload_n 0, 1) := by decide +kernel
theorem dX7_reach_10 : decode cX7_reach 10 = .ok (.getfield 9, 3) := by decide +kernel
theorem dX7_reach_13 : decode cX7_reach 13 = .ok (.iload_n 2, 1) := by decide +kernel
theorem dX7_reach_14 : decode cX7_reach 14 = .ok (.bipush 32, 2) := by decide +kernel
theorem dX7_reach_16 : decode cX7_reach 16 = .ok (.idiv, 1) := by decide +kernel
theorem dX7_reach_17 : decode cX7_reach 17 = .ok (.iload_n 2, 1) := by decide +kernel
theorem dX7_reach_18 : decode cX7_reach 18 = .ok (.bipush 32, 2) := by decide +kernel
theorem dX7_reach_20 : decode cX7_reach 20 = .ok (.irem, 1) := by decide +kernel
theorem dX7_reach_21 : decode cX7_reach 21 = .ok (.iastore, 1) := by decide +kernel
theorem dX7_reach_22 : decode cX7_reach 22 = .ok (.iconst 1, 1) := by decide +kernel
theorem dX7_reach_23 : decode cX7_reach 23 = .ok (.istore 5, 2) := by decide +kernel
theorem dX7_reach_25 : decode cX7_reach 25 = .ok (.iconst 0, 1) := by decide +kernel
theorem dX7_reach_26 : decode cX7_reach 26 = .ok (.istore 6, 2) := by decide +kernel
theorem dX7_reach_28 : decode cX7_reach 28 = .ok (.iload 6, 2) := by decide +kernel
theorem dX7_reach_30 : decode cX7_reach 30 = .ok (.sipush 192, 3) := by decide +kernel
theorem dX7_reach_33 : decode cX7_reach 33 = .ok (.if_icmp .gt 24, 3) := by decide +kernel
theorem dX7_reach_36 : decode cX7_reach 36 = .ok (.iload 5, 2) := by decide +kernel
theorem dX7_reach_38 : decode cX7_reach 38 = .ok (.ifCond .eq 19, 3) := by decide +kernel
theorem dX7_reach_41 : decode cX7_reach 41 = .ok (.aload_n 0, 1) := by decide +kernel
theorem dX7_reach_42 : decode cX7_reach 42 = .ok (.aload_n 1, 1) := by decide +kernel
theorem dX7_reach_43 : decode cX7_reach 43 = .ok (.iload_n 3, 1) := by decide +kernel
theorem dX7_reach_44 : decode cX7_reach 44 = .ok (.iload 4, 2) := by decide +kernel
theorem dX7_reach_46 : decode cX7_reach 46 = .ok (.invokevirtual 27, 3) := by decide +kernel
theorem dX7_reach_49 : decode cX7_reach 49 = .ok (.istore 5, 2) := by decide +kernel
theorem dX7_reach_51 : decode cX7_reach 51 = .ok (.iinc 6 1, 3) := by decide +kernel
theorem dX7_reach_54 : decode cX7_reach 54 = .ok (.goto (-26), 3) := by decide +kernel
theorem dX7_reach_57 : decode cX7_reach 57 = .ok (.return_, 1) := by decide +kernel
theorem dX7_comes_0 : decode cX7_comes 0 = .ok (.aload_n 0, 1) := by decide +kernel
theorem dX7_comes_1 : decode cX7_comes 1 = .ok (.aload_n 1, 1) := by decide +kernel
theorem dX7_comes_2 : decode cX7_comes 2 = .ok (.iload_n 2, 1) := by decide +kernel
theorem dX7_comes_3 : decode cX7_comes 3 = .ok (.iload 4, 2) := by decide +kernel
theorem dX7_comes_5 : decode cX7_comes 5 = .ok (.iload 5, 2) := by decide +kernel
theorem dX7_comes_7 : decode cX7_comes 7 = .ok (.invokevirtual 31, 3) := by decide +kernel
theorem dX7_comes_10 : decode cX7_comes 10 = .ok (.aload_n 0, 1) := by decide +kernel
theorem dX7_comes_11 : decode cX7_comes 11 = .ok (.getfield 9, 3) := by decide +kernel
theorem dX7_comes_14 : decode cX7_comes 14 = .ok (.iload_n 3, 1) := by decide +kernel
theorem dX7_comes_15 : decode cX7_comes 15 = .ok (.bipush 32, 2) := by decide +kernel
theorem dX7_comes_17 : decode cX7_comes 17 = .ok (.idiv, 1) := by decide +kernel
theorem dX7_comes_18 : decode cX7_comes 18 = .ok (.iaload, 1) := by decide +kernel
theorem dX7_comes_19 : decode cX7_comes 19 = .ok (.iload_n 3, 1) := by decide +kernel
theorem dX7_comes_20 : decode cX7_comes 20 = .ok (.bipush 32, 2) := by decide +kernel
theorem dX7_comes_22 : decode cX7_comes 22 = .ok (.irem, 1) := by decide +kernel
theorem dX7_comes_23 : decode cX7_comes 23 = .ok (.if_icmp .gt 7, 3) := by decide +kernel
theorem dX7_comes_26 : decode cX7_comes 26 = .ok (.iconst 1, 1) := by decide +kernel
theorem dX7_comes_27 : decode cX7_comes 27 = .ok (.goto 4, 3) := by decide +kernel
theorem dX7_comes_30 : decode cX7_comes 30 = .ok (.iconst 0, 1) := by decide +kernel
theorem dX7_comes_31 : decode cX7_comes 31 = .ok (.ireturn, 1) := by decide +kernel
theorem dX7_passAll_0 : decode cX7_passAll 0 = .ok (.iconst 0, 1) := by decide +kernel
theorem dX7_passAll_1 : decode cX7_passAll 1 = .ok (.istore 4, 2) := by decide +kernel
theorem dX7_passAll_3 : decode cX7_passAll 3 = .ok (.iconst 0, 1) := by decide +kernel
theorem dX7_passAll_4 : decode cX7_passAll 4 = .ok (.istore 5, 2) := by decide +kernel
theorem dX7_passAll_6 : decode cX7_passAll 6 = .ok (.iload 5, 2) := by decide +kernel
theorem dX7_passAll_8 : decode cX7_passAll 8 = .ok (.aload_n 1, 1) := by decide +kernel
theorem dX7_passAll_9 : decode cX7_passAll 9 = .ok (.getfield 35, 3) := by decide +kernel
theorem dX7_passAll_12 : decode cX7_passAll 12 = .ok (.if_icmp .ge 75, 3) := by decide +kernel
theorem dX7_passAll_15 : decode cX7_passAll 15 = .ok (.aload_n 1, 1) := by decide +kernel
theorem dX7_passAll_16 : decode cX7_passAll 16 = .ok (.getfield 41, 3) := by decide +kernel
theorem dX7_passAll_19 : decode cX7_passAll 19 = .ok (.iload 5, 2) := by decide +kernel
theorem dX7_passAll_21 : decode cX7_passAll 21 = .ok (.aaload, 1) := by decide +kernel
theorem dX7_passAll_22 : decode cX7_passAll 22 = .ok (.astore 6, 2) := by decide +kernel
theorem dX7_passAll_24 : decode cX7_passAll 24 = .ok (.iload_n 3, 1) := by decide +kernel
theorem dX7_passAll_25 : decode cX7_passAll 25 = .ok (.iload 5, 2) := by decide +kernel
theorem dX7_passAll_27 : decode cX7_passAll 27 = .ok (.ishr, 1) := by decide +kernel
theorem dX7_passAll_28 : decode cX7_passAll 28 = .ok (.iconst 1, 1) := by decide +kernel
theorem dX7_passAll_29 : decode cX7_passAll 29 = .ok (.iand, 1) := by decide +kernel
theorem dX7_passAll_30 : decode cX7_passAll 30 = .ok (.ifCond .ne 51, 3) := by decide +kernel
theorem dX7_passAll_33 : decode cX7_passAll 33 = .ok (.aload 6, 2) := by decide +kernel
theorem dX7_passAll_35 : decode cX7_passAll 35 = .ok (.aload_n 0, 1) := by decide +kernel
theorem dX7_passAll_36 : decode cX7_passAll 36 = .ok (.getfield 9, 3) := by decide +kernel
theorem dX7_passAll_39 : decode cX7_passAll 39 = .ok (.aload 6, 2) := by decide +kernel
theorem dX7_passAll_41 : decode cX7_passAll 41 = .ok (.getfield 45, 3) := by decide +kernel
theorem dX7_passAll_44 : decode cX7_passAll 44 = .ok (.iaload, 1) := by decide +kernel
theorem dX7_passAll_45 : decode cX7_passAll 45 = .ok (.iload_n 2, 1) := by decide +kernel
theorem dX7_passAll_46 : decode cX7_passAll 46 = .ok (.invokevirtual 50, 3) := by decide +kernel
theorem dX7_passAll_49 : decode cX7_passAll 49 = .ok (.istore 7, 2) := by decide +kernel
theorem dX7_passAll_51 : decode cX7_passAll 51 = .ok (.iload 7, 2) := by decide +kernel
theorem dX7_passAll_53 : decode cX7_passAll 53 = .ok (.aload_n 0, 1) := by decide +kernel
theorem dX7_passAll_54 : decode cX7_passAll 54 = .ok (.getfield 9, 3) := by decide +kernel
theorem dX7_passAll_57 : decode cX7_passAll 57 = .ok (.aload 6, 2) := by decide +kernel
theorem dX7_passAll_59 : decode cX7_passAll 59 = .ok (.invokevirtual 54, 3) := by decide +kernel
theorem dX7_passAll_62 : decode cX7_passAll 62 = .ok (.iaload, 1) := by decide +kernel
theorem dX7_passAll_63 : decode cX7_passAll 63 = .ok (.if_icmp .ge 18, 3) := by decide +kernel
theorem dX7_passAll_66 : decode cX7_passAll 66 = .ok (.aload_n 0, 1) := by decide +kernel
theorem dX7_passAll_67 : decode cX7_passAll 67 = .ok (.getfield 9, 3) := by decide +kernel
theorem dX7_passAll_70 : decode cX7_passAll 70 = .ok (.aload 6, 2) := by decide +kernel
theorem dX7_passAll_72 : decode cX7_passAll 72 = .ok (.invokevirtual 54, 3) := by decide +kernel
theorem dX7_passAll_75 : decode cX7_passAll 75 = .ok (.iload 7, 2) := by decide +kernel
theorem dX7_passAll_77 : decode cX7_passAll 77 = .ok (.iastore, 1) := by decide +kernel
theorem dX7_passAll_78 : decode cX7_passAll 78 = .ok (.iconst 1, 1) := by decide +kernel
theorem dX7_passAll_79 : decode cX7_passAll 79 = .ok (.istore 4, 2) := by decide +kernel
theorem dX7_passAll_81 : decode cX7_passAll 81 = .ok (.iinc 5 1, 3) := by decide +kernel
theorem dX7_passAll_84 : decode cX7_passAll 84 = .ok (.goto (-78), 3) := by decide +kernel
theorem dX7_passAll_87 : decode cX7_passAll 87 = .ok (.iload 4, 2) := by decide +kernel
theorem dX7_passAll_89 : decode cX7_passAll 89 = .ok (.ireturn, 1) := by decide +kernel
theorem dX7_search_0 : decode cX7_search 0 = .ok (.aload_n 0, 1) := by decide +kernel
theorem dX7_search_1 : decode cX7_search 1 = .ok (.getfield 15, 3) := by decide +kernel
theorem dX7_search_4 : decode cX7_search 4 = .ok (.ldc 58, 2) := by decide +kernel
theorem dX7_search_6 : decode cX7_search 6 = .ok (.invokestatic 21, 3) := by decide +kernel
theorem dX7_search_9 : decode cX7_search 9 = .ok (.aload_n 0, 1) := by decide +kernel
theorem dX7_search_10 : decode cX7_search 10 = .ok (.getfield 18, 3) := by decide +kernel
theorem dX7_search_13 : decode cX7_search 13 = .ok (.iconst 0, 1) := by decide +kernel
theorem dX7_search_14 : decode cX7_search 14 = .ok (.invokestatic 21, 3) := by decide +kernel
theorem dX7_search_17 : decode cX7_search 17 = .ok (.aload_n 0, 1) := by decide +kernel
theorem dX7_search_18 : decode cX7_search 18 = .ok (.getfield 15, 3) := by decide +kernel
theorem dX7_search_21 : decode cX7_search 21 = .ok (.iload_n 3, 1) := by decide +kernel
theorem dX7_search_22 : decode cX7_search 22 = .ok (.iconst 0, 1) := by decide +kernel
theorem dX7_search_23 : decode cX7_search 23 = .ok (.iastore, 1) := by decide +kernel
theorem dX7_search_24 : decode cX7_search 24 = .ok (.iconst 0, 1) := by decide +kernel
theorem dX7_search_25 : decode cX7_search 25 = .ok (.istore 5, 2) := by decide +kernel
theorem dX7_search_27 : decode cX7_search 27 = .ok (.iload 5, 2) := by decide +kernel
theorem dX7_search_29 : decode cX7_search 29 = .ok (.sipush 192, 3) := by decide +kernel
theorem dX7_search_32 : decode cX7_search 32 = .ok (.if_icmp .ge 40, 3) := by decide +kernel
theorem dX7_search_35 : decode cX7_search 35 = .ok (.aload_n 0, 1) := by decide +kernel
theorem dX7_search_36 : decode cX7_search 36 = .ok (.invokevirtual 59, 3) := by decide +kernel
theorem dX7_search_39 : decode cX7_search 39 = .ok (.istore 6, 2) := by decide +kernel
theorem dX7_search_41 : decode cX7_search 41 = .ok (.iload 6, 2) := by decide +kernel
theorem dX7_search_43 : decode cX7_search 43 = .ok (.iconst (-1), 1) := by decide +kernel
theorem dX7_search_44 : decode cX7_search 44 = .ok (.if_icmp .ne 4, 3) := by decide +kernel
theorem dX7_search_47 : decode cX7_search 47 = .ok (.return_, 1) := by decide +kernel
theorem dX7_search_48 : decode cX7_search 48 = .ok (.aload_n 0, 1) := by decide +kernel
theorem dX7_search_49 : decode cX7_search 49 = .ok (.getfield 18, 3) := by decide +kernel
theorem dX7_search_52 : decode cX7_search 52 = .ok (.iload 6, 2) := by decide +kernel
theorem dX7_search_54 : decode cX7_search 54 = .ok (.iconst 1, 1) := by decide +kernel
theorem dX7_search_55 : decode cX7_search 55 = .ok (.iastore, 1) := by decide +kernel
theorem dX7_search_56 : decode cX7_search 56 = .ok (.aload_n 0, 1) := by decide +kernel
theorem dX7_search_57 : decode cX7_search 57 = .ok (.aload_n 1, 1) := by decide +kernel
theorem dX7_search_58 : decode cX7_search 58 = .ok (.aload_n 2, 1) := by decide +kernel
theorem dX7_search_59 : decode cX7_search 59 = .ok (.iload 6, 2) := by decide +kernel
theorem dX7_search_61 : decode cX7_search 61 = .ok (.iload 4, 2) := by decide +kernel
theorem dX7_search_63 : decode cX7_search 63 = .ok (.invokevirtual 62, 3) := by decide +kernel
theorem dX7_search_66 : decode cX7_search 66 = .ok (.iinc 5 1, 3) := by decide +kernel
theorem dX7_search_69 : decode cX7_search 69 = .ok (.goto (-42), 3) := by decide +kernel
theorem dX7_search_72 : decode cX7_search 72 = .ok (.return_, 1) := by decide +kernel
theorem dX7_nearest_0 : decode cX7_nearest 0 = .ok (.iconst (-1), 1) := by decide +kernel
theorem dX7_nearest_1 : decode cX7_nearest 1 = .ok (.istore_n 1, 1) := by decide +kernel
theorem dX7_nearest_2 : decode cX7_nearest 2 = .ok (.ldc 58, 2) := by decide +kernel
theorem dX7_nearest_4 : decode cX7_nearest 4 = .ok (.istore_n 2, 1) := by decide +kernel
theorem dX7_nearest_5 : decode cX7_nearest 5 = .ok (.iconst 0, 1) := by decide +kernel
theorem dX7_nearest_6 : decode cX7_nearest 6 = .ok (.istore_n 3, 1) := by decide +kernel
theorem dX7_nearest_7 : decode cX7_nearest 7 = .ok (.iload_n 3, 1) := by decide +kernel
theorem dX7_nearest_8 : decode cX7_nearest 8 = .ok (.sipush 192, 3) := by decide +kernel
theorem dX7_nearest_11 : decode cX7_nearest 11 = .ok (.if_icmp .ge 37, 3) := by decide +kernel
theorem dX7_nearest_14 : decode cX7_nearest 14 = .ok (.aload_n 0, 1) := by decide +kernel
theorem dX7_nearest_15 : decode cX7_nearest 15 = .ok (.getfield 18, 3) := by decide +kernel
theorem dX7_nearest_18 : decode cX7_nearest 18 = .ok (.iload_n 3, 1) := by decide +kernel
theorem dX7_nearest_19 : decode cX7_nearest 19 = .ok (.iaload, 1) := by decide +kernel
theorem dX7_nearest_20 : decode cX7_nearest 20 = .ok (.ifCond .ne 22, 3) := by decide +kernel
theorem dX7_nearest_23 : decode cX7_nearest 23 = .ok (.aload_n 0, 1) := by decide +kernel
theorem dX7_nearest_24 : decode cX7_nearest 24 = .ok (.getfield 15, 3) := by decide +kernel
theorem dX7_nearest_27 : decode cX7_nearest 27 = .ok (.iload_n 3, 1) := by decide +kernel
theorem dX7_nearest_28 : decode cX7_nearest 28 = .ok (.iaload, 1) := by decide +kernel
theorem dX7_nearest_29 : decode cX7_nearest 29 = .ok (.iload_n 2, 1) := by decide +kernel
theorem dX7_nearest_30 : decode cX7_nearest 30 = .ok (.if_icmp .ge 12, 3) := by decide +kernel
theorem dX7_nearest_33 : decode cX7_nearest 33 = .ok (.aload_n 0, 1) := by decide +kernel
theorem dX7_nearest_34 : decode cX7_nearest 34 = .ok (.getfield 15, 3) := by decide +kernel
theorem dX7_nearest_37 : decode cX7_nearest 37 = .ok (.iload_n 3, 1) := by decide +kernel
theorem dX7_nearest_38 : decode cX7_nearest 38 = .ok (.iaload, 1) := by decide +kernel
theorem dX7_nearest_39 : decode cX7_nearest 39 = .ok (.istore_n 2, 1) := by decide +kernel
theorem dX7_nearest_40 : decode cX7_nearest 40 = .ok (.iload_n 3, 1) := by decide +kernel
theorem dX7_nearest_41 : decode cX7_nearest 41 = .ok (.istore_n 1, 1) := by decide +kernel
theorem dX7_nearest_42 : decode cX7_nearest 42 = .ok (.iinc 3 1, 3) := by decide +kernel
theorem dX7_nearest_45 : decode cX7_nearest 45 = .ok (.goto (-38), 3) := by decide +kernel
theorem dX7_nearest_48 : decode cX7_nearest 48 = .ok (.iload_n 1, 1) := by decide +kernel
theorem dX7_nearest_49 : decode cX7_nearest 49 = .ok (.ireturn, 1) := by decide +kernel
theorem dX7_leave_0 : decode cX7_leave 0 = .ok (.iload_n 3, 1) := by decide +kernel
theorem dX7_leave_1 : decode cX7_leave 1 = .ok (.bipush 32, 2) := by decide +kernel
theorem dX7_leave_3 : decode cX7_leave 3 = .ok (.idiv, 1) := by decide +kernel
theorem dX7_leave_4 : decode cX7_leave 4 = .ok (.istore 5, 2) := by decide +kernel
theorem dX7_leave_6 : decode cX7_leave 6 = .ok (.iload_n 3, 1) := by decide +kernel
theorem dX7_leave_7 : decode cX7_leave 7 = .ok (.bipush 32, 2) := by decide +kernel
theorem dX7_leave_9 : decode cX7_leave 9 = .ok (.irem, 1) := by decide +kernel
theorem dX7_leave_10 : decode cX7_leave 10 = .ok (.istore 6, 2) := by decide +kernel
theorem dX7_leave_12 : decode cX7_leave 12 = .ok (.iload 6, 2) := by decide +kernel
theorem dX7_leave_14 : decode cX7_leave 14 = .ok (.iconst 1, 1) := by decide +kernel
theorem dX7_leave_15 : decode cX7_leave 15 = .ok (.iadd, 1) := by decide +kernel
theorem dX7_leave_16 : decode cX7_leave 16 = .ok (.bipush 32, 2) := by decide +kernel
theorem dX7_leave_18 : decode cX7_leave 18 = .ok (.if_icmp .ge 18, 3) := by decide +kernel
theorem dX7_leave_21 : decode cX7_leave 21 = .ok (.aload_n 0, 1) := by decide +kernel
theorem dX7_leave_22 : decode cX7_leave 22 = .ok (.iload_n 3, 1) := by decide +kernel
theorem dX7_leave_23 : decode cX7_leave 23 = .ok (.iconst 1, 1) := by decide +kernel
theorem dX7_leave_24 : decode cX7_leave 24 = .ok (.iadd, 1) := by decide +kernel
theorem dX7_leave_25 : decode cX7_leave 25 = .ok (.aload_n 0, 1) := by decide +kernel
theorem dX7_leave_26 : decode cX7_leave 26 = .ok (.getfield 15, 3) := by decide +kernel
theorem dX7_leave_29 : decode cX7_leave 29 = .ok (.iload_n 3, 1) := by decide +kernel
theorem dX7_leave_30 : decode cX7_leave 30 = .ok (.iaload, 1) := by decide +kernel
theorem dX7_leave_31 : decode cX7_leave 31 = .ok (.iconst 1, 1) := by decide +kernel
theorem dX7_leave_32 : decode cX7_leave 32 = .ok (.iadd, 1) := by decide +kernel
theorem dX7_leave_33 : decode cX7_leave 33 = .ok (.invokevirtual 66, 3) := by decide +kernel
theorem dX7_leave_36 : decode cX7_leave 36 = .ok (.iconst 0, 1) := by decide +kernel
theorem dX7_leave_37 : decode cX7_leave 37 = .ok (.istore 7, 2) := by decide +kernel
theorem dX7_leave_39 : decode cX7_leave 39 = .ok (.iload 7, 2) := by decide +kernel
theorem dX7_leave_41 : decode cX7_leave 41 = .ok (.aload_n 1, 1) := by decide +kernel
theorem dX7_leave_42 : decode cX7_leave 42 = .ok (.getfield 35, 3) := by decide +kernel
theorem dX7_leave_45 : decode cX7_leave 45 = .ok (.if_icmp .ge 98, 3) := by decide +kernel
theorem dX7_leave_48 : decode cX7_leave 48 = .ok (.aload_n 1, 1) := by decide +kernel
theorem dX7_leave_49 : decode cX7_leave 49 = .ok (.getfield 41, 3) := by decide +kernel
theorem dX7_leave_52 : decode cX7_leave 52 = .ok (.iload 7, 2) := by decide +kernel
theorem dX7_leave_54 : decode cX7_leave 54 = .ok (.aaload, 1) := by decide +kernel
theorem dX7_leave_55 : decode cX7_leave 55 = .ok (.astore 8, 2) := by decide +kernel
theorem dX7_leave_57 : decode cX7_leave 57 = .ok (.aload 8, 2) := by decide +kernel
theorem dX7_leave_59 : decode cX7_leave 59 = .ok (.getfield 45, 3) := by decide +kernel
theorem dX7_leave_62 : decode cX7_leave 62 = .ok (.iload 5, 2) := by decide +kernel
theorem dX7_leave_64 : decode cX7_leave 64 = .ok (.if_icmp .ne 73, 3) := by decide +kernel
theorem dX7_leave_67 : decode cX7_leave 67 = .ok (.aload 8, 2) := by decide +kernel
theorem dX7_leave_69 : decode cX7_leave 69 = .ok (.iload 6, 2) := by decide +kernel
theorem dX7_leave_71 : decode cX7_leave 71 = .ok (.iload 4, 2) := by decide +kernel
theorem dX7_leave_73 : decode cX7_leave 73 = .ok (.invokevirtual 70, 3) := by decide +kernel
theorem dX7_leave_76 : decode cX7_leave 76 = .ok (.ifCond .eq 61, 3) := by decide +kernel
theorem dX7_leave_79 : decode cX7_leave 79 = .ok (.aload_n 2, 1) := by decide +kernel
theorem dX7_leave_80 : decode cX7_leave 80 = .ok (.ifnonnull 9, 3) := by decide +kernel
theorem dX7_leave_83 : decode cX7_leave 83 = .ok (.sipush 1000, 3) := by decide +kernel
theorem dX7_leave_86 : decode cX7_leave 86 = .ok (.goto 20, 3) := by decide +kernel
theorem dX7_leave_89 : decode cX7_leave 89 = .ok (.aload_n 2, 1) := by decide +kernel
theorem dX7_leave_90 : decode cX7_leave 90 = .ok (.aload_n 1, 1) := by decide +kernel
theorem dX7_leave_91 : decode cX7_leave 91 = .ok (.getfield 74, 3) := by decide +kernel
theorem dX7_leave_94 : decode cX7_leave 94 = .ok (.iconst 0, 1) := by decide +kernel
theorem dX7_leave_95 : decode cX7_leave 95 = .ok (.aload 8, 2) := by decide +kernel
theorem dX7_leave_97 : decode cX7_leave 97 = .ok (.iload 6, 2) := by decide +kernel
theorem dX7_leave_99 : decode cX7_leave 99 = .ok (.aload_n 1, 1) := by decide +kernel
theorem dX7_leave_100 : decode cX7_leave 100 = .ok (.getfield 77, 3) := by decide +kernel
theorem dX7_leave_103 : decode cX7_leave 103 = .ok (.invokevirtual 80, 3) := by decide +kernel
theorem dX7_leave_106 : decode cX7_leave 106 = .ok (.istore 9, 2) := by decide +kernel
theorem dX7_leave_108 : decode cX7_leave 108 = .ok (.aload_n 0, 1) := by decide +kernel
theorem dX7_leave_109 : decode cX7_leave 109 = .ok (.aload 8, 2) := by decide +kernel
theorem dX7_leave_111 : decode cX7_leave 111 = .ok (.invokevirtual 54, 3) := by decide +kernel
theorem dX7_leave_114 : decode cX7_leave 114 = .ok (.bipush 32, 2) := by decide +kernel
theorem dX7_leave_116 : decode cX7_leave 116 = .ok (.imul, 1) := by decide +kernel
theorem dX7_leave_117 : decode cX7_leave 117 = .ok (.aload 8, 2) := by decide +kernel
theorem dX7_leave_119 : decode cX7_leave 119 = .ok (.iload 6, 2) := by decide +kernel
theorem dX7_leave_121 : decode cX7_leave 121 = .ok (.invokevirtual 86, 3) := by decide +kernel
theorem dX7_leave_124 : decode cX7_leave 124 = .ok (.iadd, 1) := by decide +kernel
theorem dX7_leave_125 : decode cX7_leave 125 = .ok (.aload_n 0, 1) := by decide +kernel
theorem dX7_leave_126 : decode cX7_leave 126 = .ok (.getfield 15, 3) := by decide +kernel
theorem dX7_leave_129 : decode cX7_leave 129 = .ok (.iload_n 3, 1) := by decide +kernel
theorem dX7_leave_130 : decode cX7_leave 130 = .ok (.iaload, 1) := by decide +kernel
theorem dX7_leave_131 : decode cX7_leave 131 = .ok (.iload 9, 2) := by decide +kernel
theorem dX7_leave_133 : decode cX7_leave 133 = .ok (.iadd, 1) := by decide +kernel
theorem dX7_leave_134 : decode cX7_leave 134 = .ok (.invokevirtual 66, 3) := by decide +kernel
theorem dX7_leave_137 : decode cX7_leave 137 = .ok (.iinc 7 1, 3) := by decide +kernel
theorem dX7_leave_140 : decode cX7_leave 140 = .ok (.goto (-101), 3) := by decide +kernel
theorem dX7_leave_143 : decode cX7_leave 143 = .ok (.return_, 1) := by decide +kernel
theorem dX7_shorten_0 : decode cX7_shorten 0 = .ok (.iload_n 2, 1) := by decide +kernel
theorem dX7_shorten_1 : decode cX7_shorten 1 = .ok (.aload_n 0, 1) := by decide +kernel
theorem dX7_shorten_2 : decode cX7_shorten 2 = .ok (.getfield 15, 3) := by decide +kernel
theorem dX7_shorten_5 : decode cX7_shorten 5 = .ok (.iload_n 1, 1) := by decide +kernel
theorem dX7_shorten_6 : decode cX7_shorten 6 = .ok (.iaload, 1) := by decide +kernel
theorem dX7_shorten_7 : decode cX7_shorten 7 = .ok (.if_icmp .ge 10, 3) := by decide +kernel
theorem dX7_shorten_10 : decode cX7_shorten 10 = .ok (.aload_n 0, 1) := by decide +kernel
theorem dX7_shorten_11 : decode cX7_shorten 11 = .ok (.getfield 15, 3) := by decide +kernel
theorem dX7_shorten_14 : decode cX7_shorten 14 = .ok (.iload_n 1, 1) := by decide +kernel
theorem dX7_shorten_15 : decode cX7_shorten 15 = .ok (.iload_n 2, 1) := by decide +kernel
theorem dX7_shorten_16 : decode cX7_shorten 16 = .ok (.iastore, 1) := by decide +kernel
theorem dX7_shorten_17 : decode cX7_shorten 17 = .ok (.return_, 1) := by decide +kernel
theorem dX7_fewestBackTo_0 : decode cX7_fewestBackTo 0 = .ok (.ldc 58, 2) := by decide +kernel
theorem dX7_fewestBackTo_2 : decode cX7_fewestBackTo 2 = .ok (.istore 4, 2) := by decide +kernel
theorem dX7_fewestBackTo_4 : decode cX7_fewestBackTo 4 = .ok (.iload_n 2, 1) := by decide +kernel
theorem dX7_fewestBackTo_5 : decode cX7_fewestBackTo 5 = .ok (.bipush 32, 2) := by decide +kernel
theorem dX7_fewestBackTo_7 : decode cX7_fewestBackTo 7 = .ok (.irem, 1) := by decide +kernel
theorem dX7_fewestBackTo_8 : decode cX7_fewestBackTo 8 = .ok (.ifCond .le 30, 3) := by decide +kernel
theorem dX7_fewestBackTo_11 : decode cX7_fewestBackTo 11 = .ok (.aload_n 0, 1) := by decide +kernel
theorem dX7_fewestBackTo_12 : decode cX7_fewestBackTo 12 = .ok (.getfield 15, 3) := by decide +kernel
theorem dX7_fewestBackTo_15 : decode cX7_fewestBackTo 15 = .ok (.iload_n 2, 1) := by decide +kernel
theorem dX7_fewestBackTo_16 : decode cX7_fewestBackTo 16 = .ok (.iconst 1, 1) := by decide +kernel
theorem dX7_fewestBackTo_17 : decode cX7_fewestBackTo 17 = .ok (.isub, 1) := by decide +kernel
theorem dX7_fewestBackTo_18 : decode cX7_fewestBackTo 18 = .ok (.iaload, 1) := by decide +kernel
theorem dX7_fewestBackTo_19 : decode cX7_fewestBackTo 19 = .ok (.ldc 58, 2) := by decide +kernel
theorem dX7_fewestBackTo_21 : decode cX7_fewestBackTo 21 = .ok (.if_icmp .ge 17, 3) := by decide +kernel
theorem dX7_fewestBackTo_24 : decode cX7_fewestBackTo 24 = .ok (.aload_n 0, 1) := by decide +kernel
theorem dX7_fewestBackTo_25 : decode cX7_fewestBackTo 25 = .ok (.getfield 15, 3) := by decide +kernel
theorem dX7_fewestBackTo_28 : decode cX7_fewestBackTo 28 = .ok (.iload_n 2, 1) := by decide +kernel
theorem dX7_fewestBackTo_29 : decode cX7_fewestBackTo 29 = .ok (.iconst 1, 1) := by decide +kernel
theorem dX7_fewestBackTo_30 : decode cX7_fewestBackTo 30 = .ok (.isub, 1) := by decide +kernel
theorem dX7_fewestBackTo_31 : decode cX7_fewestBackTo 31 = .ok (.iaload, 1) := by decide +kernel
theorem dX7_fewestBackTo_32 : decode cX7_fewestBackTo 32 = .ok (.sipush 1000, 3) := by decide +kernel
theorem dX7_fewestBackTo_35 : decode cX7_fewestBackTo 35 = .ok (.idiv, 1) := by decide +kernel
theorem dX7_fewestBackTo_36 : decode cX7_fewestBackTo 36 = .ok (.istore 4, 2) := by decide +kernel
theorem dX7_fewestBackTo_38 : decode cX7_fewestBackTo 38 = .ok (.iconst 0, 1) := by decide +kernel
theorem dX7_fewestBackTo_39 : decode cX7_fewestBackTo 39 = .ok (.istore 5, 2) := by decide +kernel
theorem dX7_fewestBackTo_41 : decode cX7_fewestBackTo 41 = .ok (.iload 5, 2) := by decide +kernel
theorem dX7_fewestBackTo_43 : decode cX7_fewestBackTo 43 = .ok (.aload_n 1, 1) := by decide +kernel
theorem dX7_fewestBackTo_44 : decode cX7_fewestBackTo 44 = .ok (.getfield 35, 3) := by decide +kernel
theorem dX7_fewestBackTo_47 : decode cX7_fewestBackTo 47 = .ok (.if_icmp .ge 105, 3) := by decide +kernel
theorem dX7_fewestBackTo_50 : decode cX7_fewestBackTo 50 = .ok (.aload_n 1, 1) := by decide +kernel
theorem dX7_fewestBackTo_51 : decode cX7_fewestBackTo 51 = .ok (.getfield 41, 3) := by decide +kernel
theorem dX7_fewestBackTo_54 : decode cX7_fewestBackTo 54 = .ok (.iload 5, 2) := by decide +kernel
theorem dX7_fewestBackTo_56 : decode cX7_fewestBackTo 56 = .ok (.aaload, 1) := by decide +kernel
theorem dX7_fewestBackTo_57 : decode cX7_fewestBackTo 57 = .ok (.astore 6, 2) := by decide +kernel
theorem dX7_fewestBackTo_59 : decode cX7_fewestBackTo 59 = .ok (.iconst 0, 1) := by decide +kernel
theorem dX7_fewestBackTo_60 : decode cX7_fewestBackTo 60 = .ok (.istore 7, 2) := by decide +kernel
theorem dX7_fewestBackTo_62 : decode cX7_fewestBackTo 62 = .ok (.iload 7, 2) := by decide +kernel
theorem dX7_fewestBackTo_64 : decode cX7_fewestBackTo 64 = .ok (.bipush 32, 2) := by decide +kernel
theorem dX7_fewestBackTo_66 : decode cX7_fewestBackTo 66 = .ok (.if_icmp .ge 80, 3) := by decide +kernel
theorem dX7_fewestBackTo_69 : decode cX7_fewestBackTo 69 = .ok (.aload_n 0, 1) := by decide +kernel
theorem dX7_fewestBackTo_70 : decode cX7_fewestBackTo 70 = .ok (.getfield 15, 3) := by decide +kernel
theorem dX7_fewestBackTo_73 : decode cX7_fewestBackTo 73 = .ok (.aload 6, 2) := by decide +kernel
theorem dX7_fewestBackTo_75 : decode cX7_fewestBackTo 75 = .ok (.getfield 45, 3) := by decide +kernel
theorem dX7_fewestBackTo_78 : decode cX7_fewestBackTo 78 = .ok (.bipush 32, 2) := by decide +kernel
theorem dX7_fewestBackTo_80 : decode cX7_fewestBackTo 80 = .ok (.imul, 1) := by decide +kernel
theorem dX7_fewestBackTo_81 : decode cX7_fewestBackTo 81 = .ok (.iload 7, 2) := by decide +kernel
theorem dX7_fewestBackTo_83 : decode cX7_fewestBackTo 83 = .ok (.iadd, 1) := by decide +kernel
theorem dX7_fewestBackTo_84 : decode cX7_fewestBackTo 84 = .ok (.iaload, 1) := by decide +kernel
theorem dX7_fewestBackTo_85 : decode cX7_fewestBackTo 85 = .ok (.istore 8, 2) := by decide +kernel
theorem dX7_fewestBackTo_87 : decode cX7_fewestBackTo 87 = .ok (.iload 8, 2) := by decide +kernel
theorem dX7_fewestBackTo_89 : decode cX7_fewestBackTo 89 = .ok (.ldc 58, 2) := by decide +kernel
theorem dX7_fewestBackTo_91 : decode cX7_fewestBackTo 91 = .ok (.if_icmp .ge 49, 3) := by decide +kernel
theorem dX7_fewestBackTo_94 : decode cX7_fewestBackTo 94 = .ok (.aload 6, 2) := by decide +kernel
theorem dX7_fewestBackTo_96 : decode cX7_fewestBackTo 96 = .ok (.iload 7, 2) := by decide +kernel
theorem dX7_fewestBackTo_98 : decode cX7_fewestBackTo 98 = .ok (.iload_n 3, 1) := by decide +kernel
theorem dX7_fewestBackTo_99 : decode cX7_fewestBackTo 99 = .ok (.invokevirtual 70, 3) := by decide +kernel
theorem dX7_fewestBackTo_102 : decode cX7_fewestBackTo 102 = .ok (.ifCond .eq 38, 3) := by decide +kernel
theorem dX7_fewestBackTo_105 : decode cX7_fewestBackTo 105 = .ok (.aload 6, 2) := by decide +kernel
theorem dX7_fewestBackTo_107 : decode cX7_fewestBackTo 107 = .ok (.invokevirtual 54, 3) := by decide +kernel
theorem dX7_fewestBackTo_110 : decode cX7_fewestBackTo 110 = .ok (.bipush 32, 2) := by decide +kernel
theorem dX7_fewestBackTo_112 : decode cX7_fewestBackTo 112 = .ok (.imul, 1) := by decide +kernel
theorem dX7_fewestBackTo_113 : decode cX7_fewestBackTo 113 = .ok (.aload 6, 2) := by decide +kernel
theorem dX7_fewestBackTo_115 : decode cX7_fewestBackTo 115 = .ok (.iload 7, 2) := by decide +kernel
theorem dX7_fewestBackTo_117 : decode cX7_fewestBackTo 117 = .ok (.invokevirtual 86, 3) := by decide +kernel
theorem dX7_fewestBackTo_120 : decode cX7_fewestBackTo 120 = .ok (.iadd, 1) := by decide +kernel
theorem dX7_fewestBackTo_121 : decode cX7_fewestBackTo 121 = .ok (.iload_n 2, 1) := by decide +kernel
theorem dX7_fewestBackTo_122 : decode cX7_fewestBackTo 122 = .ok (.if_icmp .ne 18, 3) := by decide +kernel
theorem dX7_fewestBackTo_125 : decode cX7_fewestBackTo 125 = .ok (.iload 4, 2) := by decide +kernel
theorem dX7_fewestBackTo_127 : decode cX7_fewestBackTo 127 = .ok (.iload 8, 2) := by decide +kernel
theorem dX7_fewestBackTo_129 : decode cX7_fewestBackTo 129 = .ok (.sipush 1000, 3) := by decide +kernel
theorem dX7_fewestBackTo_132 : decode cX7_fewestBackTo 132 = .ok (.idiv, 1) := by decide +kernel
theorem dX7_fewestBackTo_133 : decode cX7_fewestBackTo 133 = .ok (.iconst 1, 1) := by decide +kernel
theorem dX7_fewestBackTo_134 : decode cX7_fewestBackTo 134 = .ok (.iadd, 1) := by decide +kernel
theorem dX7_fewestBackTo_135 : decode cX7_fewestBackTo 135 = .ok (.invokestatic 90, 3) := by decide +kernel
theorem dX7_fewestBackTo_138 : decode cX7_fewestBackTo 138 = .ok (.istore 4, 2) := by decide +kernel
theorem dX7_fewestBackTo_140 : decode cX7_fewestBackTo 140 = .ok (.iinc 7 1, 3) := by decide +kernel
theorem dX7_fewestBackTo_143 : decode cX7_fewestBackTo 143 = .ok (.goto (-81), 3) := by decide +kernel
theorem dX7_fewestBackTo_146 : decode cX7_fewestBackTo 146 = .ok (.iinc 5 1, 3) := by decide +kernel
theorem dX7_fewestBackTo_149 : decode cX7_fewestBackTo 149 = .ok (.goto (-108), 3) := by decide +kernel
theorem dX7_fewestBackTo_152 : decode cX7_fewestBackTo 152 = .ok (.iload 4, 2) := by decide +kernel
theorem dX7_fewestBackTo_154 : decode cX7_fewestBackTo 154 = .ok (.ireturn, 1) := by decide +kernel
theorem dX8_init_0 : decode cX8_init 0 = .ok (.aload_n 0, 1) := by decide +kernel
theorem dX8_init_1 : decode cX8_init 1 = .ok (.invokespecial 3, 3) := by decide +kernel
theorem dX8_init_4 : decode cX8_init 4 = .ok (.aload_n 0, 1) := by decide +kernel
theorem dX8_init_5 : decode cX8_init 5 = .ok (.new 9, 3) := by decide +kernel
theorem dX8_init_8 : decode cX8_init 8 = .ok (.dup, 1) := by decide +kernel
theorem dX8_init_9 : decode cX8_init 9 = .ok (.invokespecial 11, 3) := by decide +kernel
theorem dX8_init_12 : decode cX8_init 12 = .ok (.putfield 12, 3) := by decide +kernel
theorem dX8_init_15 : decode cX8_init 15 = .ok (.aload_n 0, 1) := by decide +kernel
theorem dX8_init_16 : decode cX8_init 16 = .ok (.new 9, 3) := by decide +kernel
theorem dX8_init_19 : decode cX8_init 19 = .ok (.dup, 1) := by decide +kernel
theorem dX8_init_20 : decode cX8_init 20 = .ok (.invokespecial 11, 3) := by decide +kernel
theorem dX8_init_23 : decode cX8_init 23 = .ok (.putfield 16, 3) := by decide +kernel
theorem dX8_init_26 : decode cX8_init 26 = .ok (.aload_n 0, 1) := by decide +kernel
theorem dX8_init_27 : decode cX8_init 27 = .ok (.new 19, 3) := by decide +kernel
theorem dX8_init_30 : decode cX8_init 30 = .ok (.dup, 1) := by decide +kernel
theorem dX8_init_31 : decode cX8_init 31 = .ok (.invokespecial 21, 3) := by decide +kernel
theorem dX8_init_34 : decode cX8_init 34 = .ok (.putfield 22, 3) := by decide +kernel
theorem dX8_init_37 : decode cX8_init 37 = .ok (.aload_n 0, 1) := by decide +kernel
theorem dX8_init_38 : decode cX8_init 38 = .ok (.new 26, 3) := by decide +kernel
theorem dX8_init_41 : decode cX8_init 41 = .ok (.dup, 1) := by decide +kernel
theorem dX8_init_42 : decode cX8_init 42 = .ok (.invokespecial 28, 3) := by decide +kernel
theorem dX8_init_45 : decode cX8_init 45 = .ok (.putfield 29, 3) := by decide +kernel
theorem dX8_init_48 : decode cX8_init 48 = .ok (.aload_n 0, 1) := by decide +kernel
theorem dX8_init_49 : decode cX8_init 49 = .ok (.new 33, 3) := by decide +kernel
theorem dX8_init_52 : decode cX8_init 52 = .ok (.dup, 1) := by decide +kernel
theorem dX8_init_53 : decode cX8_init 53 = .ok (.invokespecial 35, 3) := by decide +kernel
theorem dX8_init_56 : decode cX8_init 56 = .ok (.putfield 36, 3) := by decide +kernel
theorem dX8_init_59 : decode cX8_init 59 = .ok (.aload_n 0, 1) := by decide +kernel
theorem dX8_init_60 : decode cX8_init 60 = .ok (.new 40, 3) := by decide +kernel
theorem dX8_init_63 : decode cX8_init 63 = .ok (.dup, 1) := by decide +kernel
theorem dX8_init_64 : decode cX8_init 64 = .ok (.invokespecial 42, 3) := by decide +kernel
theorem dX8_init_67 : decode cX8_init 67 = .ok (.putfield 43, 3) := by decide +kernel
theorem dX8_init_70 : decode cX8_init 70 = .ok (.aload_n 0, 1) := by decide +kernel
theorem dX8_init_71 : decode cX8_init 71 = .ok (.iconst 4, 1) := by decide +kernel
theorem dX8_init_72 : decode cX8_init 72 = .ok (.anewarray 47, 3) := by decide +kernel
theorem dX8_init_75 : decode cX8_init 75 = .ok (.putfield 49, 3) := by decide +kernel
theorem dX8_init_78 : decode cX8_init 78 = .ok (.aload_n 0, 1) := by decide +kernel
theorem dX8_init_79 : decode cX8_init 79 = .ok (.new 53, 3) := by decide +kernel
theorem dX8_init_82 : decode cX8_init 82 = .ok (.dup, 1) := by decide +kernel
theorem dX8_init_83 : decode cX8_init 83 = .ok (.iconst 0, 1) := by decide +kernel
theorem dX8_init_84 : decode cX8_init 84 = .ok (.invokespecial 55, 3) := by decide +kernel
theorem dX8_init_87 : decode cX8_init 87 = .ok (.putfield 58, 3) := by decide +kernel
theorem dX8_init_90 : decode cX8_init 90 = .ok (.aload_n 0, 1) := by decide +kernel
theorem dX8_init_91 : decode cX8_init 91 = .ok (.bipush 32, 2) := by decide +kernel
theorem dX8_init_93 : decode cX8_init 93 = .ok (.newarray .int, 2) := by decide +kernel
theorem dX8_init_95 : decode cX8_init 95 = .ok (.putfield 62, 3) := by decide +kernel
theorem dX8_init_98 : decode cX8_init 98 = .ok (.aload_n 0, 1) := by decide +kernel
theorem dX8_init_99 : decode cX8_init 99 = .ok (.bipush 32, 2) := by decide +kernel
theorem dX8_init_101 : decode cX8_init 101 = .ok (.newarray .int, 2) := by decide +kernel
theorem dX8_init_103 : decode cX8_init 103 = .ok (.putfield 66, 3) := by decide +kernel
theorem dX8_init_106 : decode cX8_init 106 = .ok (.aload_n 0, 1) := by decide +kernel
theorem dX8_init_107 : decode cX8_init 107 = .ok (.bipush 8, 2) := by decide +kernel
theorem dX8_init_109 : decode cX8_init 109 = .ok (.newarray .int, 2) := by decide +kernel
theorem dX8_init_111 : decode cX8_init 111 = .ok (.putfield 69, 3) := by decide +kernel
theorem dX8_init_114 : decode cX8_init 114 = .ok (.iconst 0, 1) := by decide +kernel
theorem dX8_init_115 : decode cX8_init 115 = .ok (.istore_n 1, 1) := by decide +kernel
theorem dX8_init_116 : decode cX8_init 116 = .ok (.iload_n 1, 1) := by decide +kernel
theorem dX8_init_117 : decode cX8_init 117 = .ok (.iconst 4, 1) := by decide +kernel
theorem dX8_init_118 : decode cX8_init 118 = .ok (.if_icmp .ge 22, 3) := by decide +kernel
theorem dX8_init_121 : decode cX8_init 121 = .ok (.aload_n 0, 1) := by decide +kernel
theorem dX8_init_122 : decode cX8_init 122 = .ok (.getfield 49, 3) := by decide +kernel
theorem dX8_init_125 : decode cX8_init 125 = .ok (.iload_n 1, 1) := by decide +kernel
theorem dX8_init_126 : decode cX8_init 126 = .ok (.new 47, 3) := by decide +kernel
theorem dX8_init_129 : decode cX8_init 129 = .ok (.dup, 1) := by decide +kernel
theorem dX8_init_130 : decode cX8_init 130 = .ok (.invokespecial 72, 3) := by decide +kernel
theorem dX8_init_133 : decode cX8_init 133 = .ok (.aastore, 1) := by decide +kernel
theorem dX8_init_134 : decode cX8_init 134 = .ok (.iinc 1 1, 3) := by decide +kernel
theorem dX8_init_137 : decode cX8_init 137 = .ok (.goto (-21), 3) := by decide +kernel
theorem dX8_init_140 : decode cX8_init 140 = .ok (.iconst 0, 1) := by decide +kernel
theorem dX8_init_141 : decode cX8_init 141 = .ok (.istore_n 1, 1) := by decide +kernel
theorem dX8_init_142 : decode cX8_init 142 = .ok (.iload_n 1, 1) := by decide +kernel
theorem dX8_init_143 : decode cX8_init 143 = .ok (.ldc 73, 2) := by decide +kernel
theorem dX8_init_145 : decode cX8_init 145 = .ok (.invokevirtual 75, 3) := by decide +kernel
theorem dX8_init_148 : decode cX8_init 148 = .ok (.if_icmp .ge 23, 3) := by decide +kernel
theorem dX8_init_151 : decode cX8_init 151 = .ok (.aload_n 0, 1) := by decide +kernel
theorem dX8_init_152 : decode cX8_init 152 = .ok (.getfield 22, 3) := by decide +kernel
theorem dX8_init_155 : decode cX8_init 155 = .ok (.ldc 73, 2) := by decide +kernel
theorem dX8_init_157 : decode cX8_init 157 = .ok (.iload_n 1, 1) := by decide +kernel
theorem dX8_init_158 : decode cX8_init 158 = .ok (.invokevirtual 81, 3) := by decide +kernel
theorem dX8_init_161 : decode cX8_init 161 = .ok (.invokevirtual 85, 3) := by decide +kernel
theorem dX8_init_164 : decode cX8_init 164 = .ok (.pop, 1) := by decide +kernel
theorem dX8_init_165 : decode cX8_init 165 = .ok (.iinc 1 1, 3) := by decide +kernel
theorem dX8_init_168 : decode cX8_init 168 = .ok (.goto (-26), 3) := by decide +kernel
theorem dX8_init_171 : decode cX8_init 171 = .ok (.aload_n 0, 1) := by decide +kernel
theorem dX8_init_172 : decode cX8_init 172 = .ok (.getfield 36, 3) := by decide +kernel
theorem dX8_init_175 : decode cX8_init 175 = .ok (.aload_n 0, 1) := by decide +kernel
theorem dX8_init_176 : decode cX8_init 176 = .ok (.getfield 29, 3) := by decide +kernel
theorem dX8_init_179 : decode cX8_init 179 = .ok (.aload_n 0, 1) := by decide +kernel
theorem dX8_init_180 : decode cX8_init 180 = .ok (.getfield 22, 3) := by decide +kernel
theorem dX8_init_183 : decode cX8_init 183 = .ok (.invokevirtual 89, 3) := by decide +kernel
theorem dX8_init_186 : decode cX8_init 186 = .ok (.invokevirtual 93, 3) := by decide +kernel
theorem dX8_init_189 : decode cX8_init 189 = .ok (.pop, 1) := by decide +kernel
theorem dX8_init_190 : decode cX8_init 190 = .ok (.aload_n 0, 1) := by decide +kernel
theorem dX8_init_191 : decode cX8_init 191 = .ok (.getfield 22, 3) := by decide +kernel
theorem dX8_init_194 : decode cX8_init 194 = .ok (.invokevirtual 97, 3) := by decide +kernel
theorem dX8_init_197 : decode cX8_init 197 = .ok (.return_, 1) := by decide +kernel
theorem dX8_set_0 : decode cX8_set 0 = .ok (.aload_n 0, 1) := by decide +kernel
theorem dX8_set_1 : decode cX8_set 1 = .ok (.iload_n 2, 1) := by decide +kernel
theorem dX8_set_2 : decode cX8_set 2 = .ok (.iload_n 1, 1) := by decide +kernel
theorem dX8_set_3 : decode cX8_set 3 = .ok (.invokevirtual 100, 3) := by decide +kernel
theorem dX8_set_6 : decode cX8_set 6 = .ok (.istore 4, 2) := by decide +kernel
theorem dX8_set_8 : decode cX8_set 8 = .ok (.iload 4, 2) := by decide +kernel
theorem dX8_set_10 : decode cX8_set 10 = .ok (.bipush (-100), 2) := by decide +kernel
theorem dX8_set_12 : decode cX8_set 12 = .ok (.if_icmp .eq 11, 3) := by decide +kernel
theorem dX8_set_15 : decode cX8_set 15 = .ok (.iload_n 1, 1) := by decide +kernel
theorem dX8_set_16 : decode cX8_set 16 = .ok (.iload_n 3, 1) := by decide +kernel
theorem dX8_set_17 : decode cX8_set 17 = .ok (.invokestatic 104, 3) := by decide +kernel
theorem dX8_set_20 : decode cX8_set 20 = .ok (.ifCond .ne 6, 3) := by decide +kernel
theorem dX8_set_23 : decode cX8_set 23 = .ok (.bipush (-100), 2) := by decide +kernel
theorem dX8_set_25 : decode cX8_set 25 = .ok (.ireturn, 1) := by decide +kernel
theorem dX8_set_26 : decode cX8_set 26 = .ok (.iload_n 1, 1) := by decide +kernel
theorem dX8_set_27 : decode cX8_set 27 = .ok (.ifCond .ne 16, 3) := by decide +kernel
theorem dX8_set_30 : decode cX8_set 30 = .ok (.aload_n 0, 1) := by decide +kernel
theorem dX8_set_31 : decode cX8_set 31 = .ok (.getfield 12, 3) := by decide +kernel
theorem dX8_set_34 : decode cX8_set 34 = .ok (.getfield 108, 3) := by decide +kernel
theorem dX8_set_37 : decode cX8_set 37 = .ok (.iload_n 2, 1) := by decide +kernel
theorem dX8_set_38 : decode cX8_set 38 = .ok (.iload_n 3, 1) := by decide +kernel
theorem dX8_set_39 : decode cX8_set 39 = .ok (.iastore, 1) := by decide +kernel
theorem dX8_set_40 : decode cX8_set 40 = .ok (.goto 17, 3) := by decide +kernel
theorem dX8_set_43 : decode cX8_set 43 = .ok (.aload_n 0, 1) := by decide +kernel
theorem dX8_set_44 : decode cX8_set 44 = .ok (.getfield 12, 3) := by decide +kernel
theorem dX8_set_47 : decode cX8_set 47 = .ok (.getfield 111, 3) := by decide +kernel
theorem dX8_set_50 : decode cX8_set 50 = .ok (.iload_n 2, 1) := by decide +kernel
theorem dX8_set_51 : decode cX8_set 51 = .ok (.aaload, 1) := by decide +kernel
theorem dX8_set_52 : decode cX8_set 52 = .ok (.iload_n 1, 1) := by decide +kernel
theorem dX8_set_53 : decode cX8_set 53 = .ok (.iload_n 3, 1) := by decide +kernel
theorem dX8_set_54 : decode cX8_set 54 = .ok (.invokevirtual 115, 3) := by decide +kernel
theorem dX8_set_57 : decode cX8_set 57 = .ok (.iload 4, 2) := by decide +kernel
theorem dX8_set_59 : decode cX8_set 59 = .ok (.ireturn, 1) := by decide +kernel
theorem dX8_pane_0 : decode cX8_pane 0 = .ok (.iload_n 2, 1) := by decide +kernel
theorem dX8_pane_1 : decode cX8_pane 1 = .ok (.bipush 100, 2) := by decide +kernel
theorem dX8_pane_3 : decode cX8_pane 3 = .ok (.idiv, 1) := by decide +kernel
theorem dX8_pane_4 : decode cX8_pane 4 = .ok (.istore 4, 2) := by decide +kernel
theorem dX8_pane_6 : decode cX8_pane 6 = .ok (.iload_n 2, 1) := by decide +kernel
theorem dX8_pane_7 : decode cX8_pane 7 = .ok (.bipush 100, 2) := by decide +kernel
theorem dX8_pane_9 : decode cX8_pane 9 = .ok (.irem, 1) := by decide +kernel
theorem dX8_pane_10 : decode cX8_pane 10 = .ok (.bipush 9, 2) := by decide +kernel
theorem dX8_pane_12 : decode cX8_pane 12 = .ok (.isub, 1) := by decide +kernel
theorem dX8_pane_13 : decode cX8_pane 13 = .ok (.istore 5, 2) := by decide +kernel
theorem dX8_pane_15 : decode cX8_pane 15 = .ok (.iload_n 3, 1) := by decide +kernel
theorem dX8_pane_16 : decode cX8_pane 16 = .ok (.bipush 10, 2) := by decide +kernel
theorem dX8_pane_18 : decode cX8_pane 18 = .ok (.idiv, 1) := by decide +kernel
theorem dX8_pane_19 : decode cX8_pane 19 = .ok (.istore 6, 2) := by decide +kernel
theorem dX8_pane_21 : decode cX8_pane 21 = .ok (.iload_n 3, 1) := by decide +kernel
theorem dX8_pane_22 : decode cX8_pane 22 = .ok (.bipush 10, 2) := by decide +kernel
theorem dX8_pane_24 : decode cX8_pane 24 = .ok (.irem, 1) := by decide +kernel
theorem dX8_pane_25 : decode cX8_pane 25 = .ok (.istore 7, 2) := by decide +kernel
theorem dX8_pane_27 : decode cX8_pane 27 = .ok (.iload_n 1, 1) := by decide +kernel
theorem dX8_pane_28 : decode cX8_pane 28 = .ok (.invokestatic 119, 3) := by decide +kernel
theorem dX8_pane_31 : decode cX8_pane 31 = .ok (.ifCond .eq 25, 3) := by decide +kernel
theorem dX8_pane_34 : decode cX8_pane 34 = .ok (.iload_n 2, 1) := by decide +kernel
theorem dX8_pane_35 : decode cX8_pane 35 = .ok (.ifCond .lt 21, 3) := by decide +kernel
theorem dX8_pane_38 : decode cX8_pane 38 = .ok (.iconst 1, 1) := by decide +kernel
theorem dX8_pane_39 : decode cX8_pane 39 = .ok (.iload 4, 2) := by decide +kernel
theorem dX8_pane_41 : decode cX8_pane 41 = .ok (.invokestatic 104, 3) := by decide +kernel
theorem dX8_pane_44 : decode cX8_pane 44 = .ok (.ifCond .eq 12, 3) := by decide +kernel
theorem dX8_pane_47 : decode cX8_pane 47 = .ok (.iconst 2, 1) := by decide +kernel
theorem dX8_pane_48 : decode cX8_pane 48 = .ok (.iload 5, 2) := by decide +kernel
theorem dX8_pane_50 : decode cX8_pane 50 = .ok (.invokestatic 104, 3) := by decide +kernel
theorem dX8_pane_53 : decode cX8_pane 53 = .ok (.ifCond .ne 6, 3) := by decide +kernel
theorem dX8_pane_56 : decode cX8_pane 56 = .ok (.bipush (-2), 2) := by decide +kernel
theorem dX8_pane_58 : decode cX8_pane 58 = .ok (.ireturn, 1) := by decide +kernel
theorem dX8_pane_59 : decode cX8_pane 59 = .ok (.iload_n 3, 1) := by decide +kernel
theorem dX8_pane_60 : decode cX8_pane 60 = .ok (.ifCond .lt 19, 3) := by decide +kernel
theorem dX8_pane_63 : decode cX8_pane 63 = .ok (.iload 6, 2) := by decide +kernel
theorem dX8_pane_65 : decode cX8_pane 65 = .ok (.invokestatic 122, 3) := by decide +kernel
theorem dX8_pane_68 : decode cX8_pane 68 = .ok (.ifCond .eq 11, 3) := by decide +kernel
theorem dX8_pane_71 : decode cX8_pane 71 = .ok (.iload 7, 2) := by decide +kernel
theorem dX8_pane_73 : decode cX8_pane 73 = .ok (.invokestatic 122, 3) := by decide +kernel
theorem dX8_pane_76 : decode cX8_pane 76 = .ok (.ifCond .ne 6, 3) := by decide +kernel
theorem dX8_pane_79 : decode cX8_pane 79 = .ok (.bipush (-2), 2) := by decide +kernel
theorem dX8_pane_81 : decode cX8_pane 81 = .ok (.ireturn, 1) := by decide +kernel
theorem dX8_pane_82 : decode cX8_pane 82 = .ok (.aload_n 0, 1) := by decide +kernel
theorem dX8_pane_83 : decode cX8_pane 83 = .ok (.getfield 12, 3) := by decide +kernel
theorem dX8_pane_86 : decode cX8_pane 86 = .ok (.getfield 125, 3) := by decide +kernel
theorem dX8_pane_89 : decode cX8_pane 89 = .ok (.bipush 8, 2) := by decide +kernel
theorem dX8_pane_91 : decode cX8_pane 91 = .ok (.if_icmp .lt 6, 3) := by decide +kernel
theorem dX8_pane_94 : decode cX8_pane 94 = .ok (.bipush (-4), 2) := by decide +kernel
theorem dX8_pane_96 : decode cX8_pane 96 = .ok (.ireturn, 1) := by decide +kernel
theorem dX8_pane_97 : decode cX8_pane 97 = .ok (.aload_n 0, 1) := by decide +kernel
theorem dX8_pane_98 : decode cX8_pane 98 = .ok (.getfield 12, 3) := by decide +kernel
theorem dX8_pane_101 : decode cX8_pane 101 = .ok (.getfield 111, 3) := by decide +kernel
theorem dX8_pane_104 : decode cX8_pane 104 = .ok (.aload_n 0, 1) := by decide +kernel
theorem dX8_pane_105 : decode cX8_pane 105 = .ok (.getfield 12, 3) := by decide +kernel
theorem dX8_pane_108 : decode cX8_pane 108 = .ok (.getfield 125, 3) := by decide +kernel
theorem dX8_pane_111 : decode cX8_pane 111 = .ok (.aaload, 1) := by decide +kernel
theorem dX8_pane_112 : decode cX8_pane 112 = .ok (.astore 8, 2) := by decide +kernel
theorem dX8_pane_114 : decode cX8_pane 114 = .ok (.aload 8, 2) := by decide +kernel
theorem dX8_pane_116 : decode cX8_pane 116 = .ok (.iload_n 1, 1) := by decide +kernel
theorem dX8_pane_117 : decode cX8_pane 117 = .ok (.putfield 129, 3) := by decide +kernel
theorem dX8_pane_120 : decode cX8_pane 120 = .ok (.aload 8, 2) := by decide +kernel
theorem dX8_pane_122 : decode cX8_pane 122 = .ok (.iload 4, 2) := by decide +kernel
theorem dX8_pane_124 : decode cX8_pane 124 = .ok (.putfield 132, 3) := by decide +kernel
theorem dX8_pane_127 : decode cX8_pane 127 = .ok (.aload 8, 2) := by decide +kernel
theorem dX8_pane_129 : decode cX8_pane 129 = .ok (.iload 5, 2) := by decide +kernel
theorem dX8_pane_131 : decode cX8_pane 131 = .ok (.putfield 135, 3) := by decide +kernel
theorem dX8_pane_134 : decode cX8_pane 134 = .ok (.aload 8, 2) := by decide +kernel
theorem dX8_pane_136 : decode cX8_pane 136 = .ok (.iload 6, 2) := by decide +kernel
theorem dX8_pane_138 : decode cX8_pane 138 = .ok (.putfield 138, 3) := by decide +kernel
theorem dX8_pane_141 : decode cX8_pane 141 = .ok (.aload 8, 2) := by decide +kernel
theorem dX8_pane_143 : decode cX8_pane 143 = .ok (.iload 7, 2) := by decide +kernel
theorem dX8_pane_145 : decode cX8_pane 145 = .ok (.putfield 141, 3) := by decide +kernel
theorem dX8_pane_148 : decode cX8_pane 148 = .ok (.aload_n 0, 1) := by decide +kernel
theorem dX8_pane_149 : decode cX8_pane 149 = .ok (.getfield 12, 3) := by decide +kernel
theorem dX8_pane_152 : decode cX8_pane 152 = .ok (.dup, 1) := by decide +kernel
theorem dX8_pane_153 : decode cX8_pane 153 = .ok (.getfield 125, 3) := by decide +kernel
theorem dX8_pane_156 : decode cX8_pane 156 = .ok (.iconst 1, 1) := by decide +kernel
theorem dX8_pane_157 : decode cX8_pane 157 = .ok (.iadd, 1) := by decide +kernel
theorem dX8_pane_158 : decode cX8_pane 158 = .ok (.putfield 125, 3) := by decide +kernel
theorem dX8_pane_161 : decode cX8_pane 161 = .ok (.aload 8, 2) := by decide +kernel
theorem dX8_pane_163 : decode cX8_pane 163 = .ok (.getfield 144, 3) := by decide +kernel
theorem dX8_pane_166 : decode cX8_pane 166 = .ok (.ireturn, 1) := by decide +kernel
theorem dX8_told_0 : decode cX8_told 0 = .ok (.iload_n 2, 1) := by decide +kernel
theorem dX8_told_1 : decode cX8_told 1 = .ok (.ifCond .ne 25, 3) := by decide +kernel
theorem dX8_told_4 : decode cX8_told 4 = .ok (.iload_n 1, 1) := by decide +kernel
theorem dX8_told_5 : decode cX8_told 5 = .ok (.invokestatic 147, 3) := by decide +kernel
theorem dX8_told_8 : decode cX8_told 8 = .ok (.ifCond .eq 15, 3) := by decide +kernel
theorem dX8_told_11 : decode cX8_told 11 = .ok (.aload_n 0, 1) := by decide +kernel
theorem dX8_told_12 : decode cX8_told 12 = .ok (.getfield 12, 3) := by decide +kernel
theorem dX8_told_15 : decode cX8_told 15 = .ok (.getfield 108, 3) := by decide +kernel
theorem dX8_told_18 : decode cX8_told 18 = .ok (.iload_n 1, 1) := by decide +kernel
theorem dX8_told_19 : decode cX8_told 19 = .ok (.iaload, 1) := by decide +kernel
theorem dX8_told_20 : decode cX8_told 20 = .ok (.goto 5, 3) := by decide +kernel
theorem dX8_told_23 : decode cX8_told 23 = .ok (.bipush (-100), 2) := by decide +kernel
theorem dX8_told_25 : decode cX8_told 25 = .ok (.ireturn, 1) := by decide +kernel
theorem dX8_told_26 : decode cX8_told 26 = .ok (.aload_n 0, 1) := by decide +kernel
theorem dX8_told_27 : decode cX8_told 27 = .ok (.getfield 12, 3) := by decide +kernel
theorem dX8_told_30 : decode cX8_told 30 = .ok (.iload_n 1, 1) := by decide +kernel
theorem dX8_told_31 : decode cX8_told 31 = .ok (.invokevirtual 150, 3) := by decide +kernel
theorem dX8_told_34 : decode cX8_told 34 = .ok (.ifCond .eq 19, 3) := by decide +kernel
theorem dX8_told_37 : decode cX8_told 37 = .ok (.aload_n 0, 1) := by decide +kernel
theorem dX8_told_38 : decode cX8_told 38 = .ok (.getfield 12, 3) := by decide +kernel
theorem dX8_told_41 : decode cX8_told 41 = .ok (.getfield 111, 3) := by decide +kernel
theorem dX8_told_44 : decode cX8_told 44 = .ok (.iload_n 1, 1) := by decide +kernel
theorem dX8_told_45 : decode cX8_told 45 = .ok (.aaload, 1) := by decide +kernel
theorem dX8_told_46 : decode cX8_told 46 = .ok (.iload_n 2, 1) := by decide +kernel
theorem dX8_told_47 : decode cX8_told 47 = .ok (.invokevirtual 153, 3) := by decide +kernel
theorem dX8_told_50 : decode cX8_told 50 = .ok (.goto 5, 3) := by decide +kernel
theorem dX8_told_53 : decode cX8_told 53 = .ok (.bipush (-100), 2) := by decide +kernel
theorem dX8_told_55 : decode cX8_told 55 = .ok (.ireturn, 1) := by decide +kernel
theorem dX8_gives_0 : decode cX8_gives 0 = .ok (.aload_n 0, 1) := by decide +kernel
theorem dX8_gives_1 : decode cX8_gives 1 = .ok (.getfield 12, 3) := by decide +kernel
theorem dX8_gives_4 : decode cX8_gives 4 = .ok (.iload_n 1, 1) := by decide +kernel
theorem dX8_gives_5 : decode cX8_gives 5 = .ok (.invokevirtual 150, 3) := by decide +kernel
theorem dX8_gives_8 : decode cX8_gives 8 = .ok (.ifCond .eq 22, 3) := by decide +kernel
theorem dX8_gives_11 : decode cX8_gives 11 = .ok (.iload_n 2, 1) := by decide +kernel
theorem dX8_gives_12 : decode cX8_gives 12 = .ok (.invokestatic 147, 3) := by decide +kernel
theorem dX8_gives_15 : decode cX8_gives 15 = .ok (.ifCond .eq 15, 3) := by decide +kernel
theorem dX8_gives_18 : decode cX8_gives 18 = .ok (.iload_n 3, 1) := by decide +kernel
theorem dX8_gives_19 : decode cX8_gives 19 = .ok (.iconst (-1), 1) := by decide +kernel
theorem dX8_gives_20 : decode cX8_gives 20 = .ok (.if_icmp .eq 14, 3) := by decide +kernel
theorem dX8_gives_23 : decode cX8_gives 23 = .ok (.iload_n 3, 1) := by decide +kernel
theorem dX8_gives_24 : decode cX8_gives 24 = .ok (.invokestatic 157, 3) := by decide +kernel
theorem dX8_gives_27 : decode cX8_gives 27 = .ok (.ifCond .ne 7, 3) := by decide +kernel
theorem dX8_gives_30 : decode cX8_gives 30 = .ok (.sipush (-1000), 3) := by decide +kernel
theorem dX8_gives_33 : decode cX8_gives 33 = .ok (.ireturn, 1) := by decide +kernel
theorem dX8_gives_34 : decode cX8_gives 34 = .ok (.aload_n 0, 1) := by decide +kernel
theorem dX8_gives_35 : decode cX8_gives 35 = .ok (.getfield 12, 3) := by decide +kernel
theorem dX8_gives_38 : decode cX8_gives 38 = .ok (.getfield 111, 3) := by decide +kernel
theorem dX8_gives_41 : decode cX8_gives 41 = .ok (.iload_n 1, 1) := by decide +kernel
theorem dX8_gives_42 : decode cX8_gives 42 = .ok (.aaload, 1) := by decide +kernel
theorem dX8_gives_43 : decode cX8_gives 43 = .ok (.astore 4, 2) := by decide +kernel
theorem dX8_gives_45 : decode cX8_gives 45 = .ok (.iload_n 3, 1) := by decide +kernel
theorem dX8_gives_46 : decode cX8_gives 46 = .ok (.iconst (-1), 1) := by decide +kernel
theorem dX8_gives_47 : decode cX8_gives 47 = .ok (.if_icmp .ne 10, 3) := by decide +kernel
theorem dX8_gives_50 : decode cX8_gives 50 = .ok (.aload 4, 2) := by decide +kernel
theorem dX8_gives_52 : decode cX8_gives 52 = .ok (.iload_n 2, 1) := by decide +kernel
theorem dX8_gives_53 : decode cX8_gives 53 = .ok (.invokevirtual 160, 3) := by decide +kernel
theorem dX8_gives_56 : decode cX8_gives 56 = .ok (.ireturn, 1) := by decide +kernel
theorem dX8_gives_57 : decode cX8_gives 57 = .ok (.aload 4, 2) := by decide +kernel
theorem dX8_gives_59 : decode cX8_gives 59 = .ok (.iload_n 2, 1) := by decide +kernel
theorem dX8_gives_60 : decode cX8_gives 60 = .ok (.iload_n 3, 1) := by decide +kernel
theorem dX8_gives_61 : decode cX8_gives 61 = .ok (.invokevirtual 163, 3) := by decide +kernel
theorem dX8_gives_64 : decode cX8_gives 64 = .ok (.ifCond .eq 7, 3) := by decide +kernel
theorem dX8_gives_67 : decode cX8_gives 67 = .ok (.iconst 1, 1) := by decide +kernel
theorem dX8_gives_68 : decode cX8_gives 68 = .ok (.goto 4, 3) := by decide +kernel
theorem dX8_gives_71 : decode cX8_gives 71 = .ok (.iconst 0, 1) := by decide +kernel
theorem dX8_gives_72 : decode cX8_gives 72 = .ok (.ireturn, 1) := by decide +kernel
theorem dX8_feed_0 : decode cX8_feed 0 = .ok (.iload_n 1, 1) := by decide +kernel
theorem dX8_feed_1 : decode cX8_feed 1 = .ok (.ifCond .lt 10, 3) := by decide +kernel
theorem dX8_feed_4 : decode cX8_feed 4 = .ok (.iload_n 1, 1) := by decide +kernel
theorem dX8_feed_5 : decode cX8_feed 5 = .ok (.sipush 255, 3) := by decide +kernel
theorem dX8_feed_8 : decode cX8_feed 8 = .ok (.if_icmp .le 6, 3) := by decide +kernel
theorem dX8_feed_11 : decode cX8_feed 11 = .ok (.bipush (-2), 2) := by decide +kernel
theorem dX8_feed_13 : decode cX8_feed 13 = .ok (.ireturn, 1) := by decide +kernel
theorem dX8_feed_14 : decode cX8_feed 14 = .ok (.aload_n 0, 1) := by decide +kernel
theorem dX8_feed_15 : decode cX8_feed 15 = .ok (.getfield 22, 3) := by decide +kernel
theorem dX8_feed_18 : decode cX8_feed 18 = .ok (.iload_n 1, 1) := by decide +kernel
theorem dX8_feed_19 : decode cX8_feed 19 = .ok (.invokevirtual 85, 3) := by decide +kernel
theorem dX8_feed_22 : decode cX8_feed 22 = .ok (.ifCond .eq 13, 3) := by decide +kernel
theorem dX8_feed_25 : decode cX8_feed 25 = .ok (.aload_n 0, 1) := by decide +kernel
theorem dX8_feed_26 : decode cX8_feed 26 = .ok (.getfield 22, 3) := by decide +kernel
theorem dX8_feed_29 : decode cX8_feed 29 = .ok (.getfield 166, 3) := by decide +kernel
theorem dX8_feed_32 : decode cX8_feed 32 = .ok (.goto 5, 3) := by decide +kernel
theorem dX8_feed_35 : decode cX8_feed 35 = .ok (.bipush (-4), 2) := by decide +kernel
theorem dX8_feed_37 : decode cX8_feed 37 = .ok (.ireturn, 1) := by decide +kernel
theorem dX8_text_0 : decode cX8_text 0 = .ok (.aload_n 0, 1) := by decide +kernel
theorem dX8_text_1 : decode cX8_text 1 = .ok (.getfield 36, 3) := by decide +kernel
theorem dX8_text_4 : decode cX8_text 4 = .ok (.getfield 167, 3) := by decide +kernel
theorem dX8_text_7 : decode cX8_text 7 = .ok (.bipush 6, 2) := by decide +kernel
theorem dX8_text_9 : decode cX8_text 9 = .ok (.if_icmp .lt 6, 3) := by decide +kernel
theorem dX8_text_12 : decode cX8_text 12 = .ok (.bipush (-4), 2) := by decide +kernel
theorem dX8_text_14 : decode cX8_text 14 = .ok (.ireturn, 1) := by decide +kernel
theorem dX8_text_15 : decode cX8_text 15 = .ok (.aload_n 0, 1) := by decide +kernel
theorem dX8_text_16 : decode cX8_text 16 = .ok (.getfield 29, 3) := by decide +kernel
theorem dX8_text_19 : decode cX8_text 19 = .ok (.aload_n 0, 1) := by decide +kernel
theorem dX8_text_20 : decode cX8_text 20 = .ok (.getfield 22, 3) := by decide +kernel
theorem dX8_text_23 : decode cX8_text 23 = .ok (.invokevirtual 89, 3) := by decide +kernel
theorem dX8_text_26 : decode cX8_text 26 = .ok (.astore_n 1, 1) := by decide +kernel
theorem dX8_text_27 : decode cX8_text 27 = .ok (.aload_n 0, 1) := by decide +kernel
theorem dX8_text_28 : decode cX8_text 28 = .ok (.getfield 22, 3) := by decide +kernel
theorem dX8_text_31 : decode cX8_text 31 = .ok (.invokevirtual 97, 3) := by decide +kernel
theorem dX8_text_34 : decode cX8_text 34 = .ok (.aload_n 1, 1) := by decide +kernel
theorem dX8_text_35 : decode cX8_text 35 = .ok (.ifnonnull 16, 3) := by decide +kernel
theorem dX8_text_38 : decode cX8_text 38 = .ok (.bipush (-100), 2) := by decide +kernel
theorem dX8_text_40 : decode cX8_text 40 = .ok (.aload_n 0, 1) := by decide +kernel
theorem dX8_text_41 : decode cX8_text 41 = .ok (.getfield 29, 3) := by decide +kernel
theorem dX8_text_44 : decode cX8_text 44 = .ok (.getfield 168, 3) := by decide +kernel
theorem dX8_text_47 : decode cX8_text 47 = .ok (.isub, 1) := by decide +kernel
theorem dX8_text_48 : decode cX8_text 48 = .ok (.goto 11, 3) := by decide +kernel
theorem dX8_text_51 : decode cX8_text 51 = .ok (.aload_n 0, 1) := by decide +kernel
theorem dX8_text_52 : decode cX8_text 52 = .ok (.getfield 36, 3) := by decide +kernel
theorem dX8_text_55 : decode cX8_text 55 = .ok (.aload_n 1, 1) := by decide +kernel
theorem dX8_text_56 : decode cX8_text 56 = .ok (.invokevirtual 93, 3) := by decide +kernel
theorem dX8_text_59 : decode cX8_text 59 = .ok (.ireturn, 1) := by decide +kernel
theorem dX8_force_0 : decode cX8_force 0 = .ok (.iload_n 1, 1) := by decide +kernel
theorem dX8_force_1 : decode cX8_force 1 = .ok (.ifCond .lt 14, 3) := by decide +kernel
theorem dX8_force_4 : decode cX8_force 4 = .ok (.iload_n 1, 1) := by decide +kernel
theorem dX8_force_5 : decode cX8_force 5 = .ok (.aload_n 0, 1) := by decide +kernel
theorem dX8_force_6 : decode cX8_force 6 = .ok (.getfield 36, 3) := by decide +kernel
theorem dX8_force_9 : decode cX8_force 9 = .ok (.getfield 167, 3) := by decide +kernel
theorem dX8_force_12 : decode cX8_force 12 = .ok (.if_icmp .lt 6, 3) := by decide +kernel
theorem dX8_force_15 : decode cX8_force 15 = .ok (.bipush (-2), 2) := by decide +kernel
theorem dX8_force_17 : decode cX8_force 17 = .ok (.ireturn, 1) := by decide +kernel
theorem dX8_force_18 : decode cX8_force 18 = .ok (.aload_n 0, 1) := by decide +kernel
theorem dX8_force_19 : decode cX8_force 19 = .ok (.getfield 12, 3) := by decide +kernel
theorem dX8_force_22 : decode cX8_force 22 = .ok (.getfield 171, 3) := by decide +kernel
theorem dX8_force_25 : decode cX8_force 25 = .ok (.istore_n 2, 1) := by decide +kernel
theorem dX8_force_26 : decode cX8_force 26 = .ok (.aload_n 0, 1) := by decide +kernel
theorem dX8_force_27 : decode cX8_force 27 = .ok (.getfield 12, 3) := by decide +kernel
theorem dX8_force_30 : decode cX8_force 30 = .ok (.iload_n 1, 1) := by decide +kernel
theorem dX8_force_31 : decode cX8_force 31 = .ok (.putfield 171, 3) := by decide +kernel
theorem dX8_force_34 : decode cX8_force 34 = .ok (.iload_n 2, 1) := by decide +kernel
theorem dX8_force_35 : decode cX8_force 35 = .ok (.ireturn, 1) := by decide +kernel
theorem dX8_panes_0 : decode cX8_panes 0 = .ok (.iload_n 1, 1) := by decide +kernel
theorem dX8_panes_1 : decode cX8_panes 1 = .ok (.invokestatic 174, 3) := by decide +kernel
theorem dX8_panes_4 : decode cX8_panes 4 = .ok (.ifCond .eq 28, 3) := by decide +kernel
theorem dX8_panes_7 : decode cX8_panes 7 = .ok (.iload_n 2, 1) := by decide +kernel
theorem dX8_panes_8 : decode cX8_panes 8 = .ok (.invokestatic 174, 3) := by decide +kernel
theorem dX8_panes_11 : decode cX8_panes 11 = .ok (.ifCond .eq 21, 3) := by decide +kernel
theorem dX8_panes_14 : decode cX8_panes 14 = .ok (.iload_n 3, 1) := by decide +kernel
theorem dX8_panes_15 : decode cX8_panes 15 = .ok (.invokestatic 157, 3) := by decide +kernel
theorem dX8_panes_18 : decode cX8_panes 18 = .ok (.ifCond .eq 14, 3) := by decide +kernel
theorem dX8_panes_21 : decode cX8_panes 21 = .ok (.iload 4, 2) := by decide +kernel
theorem dX8_panes_23 : decode cX8_panes 23 = .ok (.ifCond .lt 9, 3) := by decide +kernel
theorem dX8_panes_26 : decode cX8_panes 26 = .ok (.iload 4, 2) := by decide +kernel
theorem dX8_panes_28 : decode cX8_panes 28 = .ok (.iconst 1, 1) := by decide +kernel
theorem dX8_panes_29 : decode cX8_panes 29 = .ok (.if_icmp .le 6, 3) := by decide +kernel
theorem dX8_panes_32 : decode cX8_panes 32 = .ok (.bipush (-2), 2) := by decide +kernel
theorem dX8_panes_34 : decode cX8_panes 34 = .ok (.ireturn, 1) := by decide +kernel
theorem dX8_panes_35 : decode cX8_panes 35 = .ok (.aload_n 0, 1) := by decide +kernel
theorem dX8_panes_36 : decode cX8_panes 36 = .ok (.getfield 43, 3) := by decide +kernel
theorem dX8_panes_39 : decode cX8_panes 39 = .ok (.aload_n 0, 1) := by decide +kernel
theorem dX8_panes_40 : decode cX8_panes 40 = .ok (.getfield 12, 3) := by decide +kernel
theorem dX8_panes_43 : decode cX8_panes 43 = .ok (.aconst_null, 1) := by decide +kernel
theorem dX8_panes_44 : decode cX8_panes 44 = .ok (.iload_n 1, 1) := by decide +kernel
theorem dX8_panes_45 : decode cX8_panes 45 = .ok (.iload_n 3, 1) := by decide +kernel
theorem dX8_panes_46 : decode cX8_panes 46 = .ok (.invokevirtual 177, 3) := by decide +kernel
theorem dX8_panes_49 : decode cX8_panes 49 = .ok (.aload_n 0, 1) := by decide +kernel
theorem dX8_panes_50 : decode cX8_panes 50 = .ok (.getfield 43, 3) := by decide +kernel
theorem dX8_panes_53 : decode cX8_panes 53 = .ok (.getfield 181, 3) := by decide +kernel
theorem dX8_panes_56 : decode cX8_panes 56 = .ok (.iload_n 2, 1) := by decide +kernel
theorem dX8_panes_57 : decode cX8_panes 57 = .ok (.iaload, 1) := by decide +kernel
theorem dX8_panes_58 : decode cX8_panes 58 = .ok (.istore 5, 2) := by decide +kernel
theorem dX8_panes_60 : decode cX8_panes 60 = .ok (.iload 5, 2) := by decide +kernel
theorem dX8_panes_62 : decode cX8_panes 62 = .ok (.ldc 184, 2) := by decide +kernel
theorem dX8_panes_64 : decode cX8_panes 64 = .ok (.if_icmp .lt 5, 3) := by decide +kernel
theorem dX8_panes_67 : decode cX8_panes 67 = .ok (.iconst (-1), 1) := by decide +kernel
theorem dX8_panes_68 : decode cX8_panes 68 = .ok (.ireturn, 1) := by decide +kernel
theorem dX8_panes_69 : decode cX8_panes 69 = .ok (.iload 4, 2) := by decide +kernel
theorem dX8_panes_71 : decode cX8_panes 71 = .ok (.ifCond .ne 12, 3) := by decide +kernel
theorem dX8_panes_74 : decode cX8_panes 74 = .ok (.iload 5, 2) := by decide +kernel
theorem dX8_panes_76 : decode cX8_panes 76 = .ok (.sipush 1000, 3) := by decide +kernel
theorem dX8_panes_79 : decode cX8_panes 79 = .ok (.idiv, 1) := by decide +kernel
theorem dX8_panes_80 : decode cX8_panes 80 = .ok (.goto 9, 3) := by decide +kernel
theorem dX8_panes_83 : decode cX8_panes 83 = .ok (.iload 5, 2) := by decide +kernel
theorem dX8_panes_85 : decode cX8_panes 85 = .ok (.sipush 1000, 3) := by decide +kernel
theorem dX8_panes_88 : decode cX8_panes 88 = .ok (.irem, 1) := by decide +kernel
theorem dX8_panes_89 : decode cX8_panes 89 = .ok (.ireturn, 1) := by decide +kernel
theorem dX8_cost_0 : decode cX8_cost 0 = .ok (.iload_n 1, 1) := by decide +kernel
theorem dX8_cost_1 : decode cX8_cost 1 = .ok (.invokestatic 174, 3) := by decide +kernel
theorem dX8_cost_4 : decode cX8_cost 4 = .ok (.ifCond .eq 17, 3) := by decide +kernel
theorem dX8_cost_7 : decode cX8_cost 7 = .ok (.iload_n 2, 1) := by decide +kernel
theorem dX8_cost_8 : decode cX8_cost 8 = .ok (.invokestatic 174, 3) := by decide +kernel
theorem dX8_cost_11 : decode cX8_cost 11 = .ok (.ifCond .eq 10, 3) := by decide +kernel
theorem dX8_cost_14 : decode cX8_cost 14 = .ok (.iload_n 3, 1) := by decide +kernel
theorem dX8_cost_15 : decode cX8_cost 15 = .ok (.invokestatic 157, 3) := by decide +kernel
theorem dX8_cost_18 : decode cX8_cost 18 = .ok (.ifCond .ne 6, 3) := by decide +kernel
theorem dX8_cost_21 : decode cX8_cost 21 = .ok (.bipush (-2), 2) := by decide +kernel
theorem dX8_cost_23 : decode cX8_cost 23 = .ok (.ireturn, 1) := by decide +kernel
theorem dX8_cost_24 : decode cX8_cost 24 = .ok (.aload_n 0, 1) := by decide +kernel
theorem dX8_cost_25 : decode cX8_cost 25 = .ok (.getfield 43, 3) := by decide +kernel
theorem dX8_cost_28 : decode cX8_cost 28 = .ok (.aload_n 0, 1) := by decide +kernel
theorem dX8_cost_29 : decode cX8_cost 29 = .ok (.getfield 12, 3) := by decide +kernel
theorem dX8_cost_32 : decode cX8_cost 32 = .ok (.aload_n 0, 1) := by decide +kernel
theorem dX8_cost_33 : decode cX8_cost 33 = .ok (.getfield 36, 3) := by decide +kernel
theorem dX8_cost_36 : decode cX8_cost 36 = .ok (.iload_n 1, 1) := by decide +kernel
theorem dX8_cost_37 : decode cX8_cost 37 = .ok (.iload_n 3, 1) := by decide +kernel
theorem dX8_cost_38 : decode cX8_cost 38 = .ok (.invokevirtual 177, 3) := by decide +kernel
theorem dX8_cost_41 : decode cX8_cost 41 = .ok (.aload_n 0, 1) := by decide +kernel
theorem dX8_cost_42 : decode cX8_cost 42 = .ok (.getfield 43, 3) := by decide +kernel
theorem dX8_cost_45 : decode cX8_cost 45 = .ok (.getfield 181, 3) := by decide +kernel
theorem dX8_cost_48 : decode cX8_cost 48 = .ok (.iload_n 2, 1) := by decide +kernel
theorem dX8_cost_49 : decode cX8_cost 49 = .ok (.iaload, 1) := by decide +kernel
theorem dX8_cost_50 : decode cX8_cost 50 = .ok (.ldc 184, 2) := by decide +kernel
theorem dX8_cost_52 : decode cX8_cost 52 = .ok (.if_icmp .lt 7, 3) := by decide +kernel
theorem dX8_cost_55 : decode cX8_cost 55 = .ok (.iconst (-1), 1) := by decide +kernel
theorem dX8_cost_56 : decode cX8_cost 56 = .ok (.goto 12, 3) := by decide +kernel
theorem dX8_cost_59 : decode cX8_cost 59 = .ok (.aload_n 0, 1) := by decide +kernel
theorem dX8_cost_60 : decode cX8_cost 60 = .ok (.getfield 43, 3) := by decide +kernel
theorem dX8_cost_63 : decode cX8_cost 63 = .ok (.getfield 181, 3) := by decide +kernel
theorem dX8_cost_66 : decode cX8_cost 66 = .ok (.iload_n 2, 1) := by decide +kernel
theorem dX8_cost_67 : decode cX8_cost 67 = .ok (.iaload, 1) := by decide +kernel
theorem dX8_cost_68 : decode cX8_cost 68 = .ok (.ireturn, 1) := by decide +kernel
theorem dX8_earliest_0 : decode cX8_earliest 0 = .ok (.iload_n 1, 1) := by decide +kernel
theorem dX8_earliest_1 : decode cX8_earliest 1 = .ok (.invokestatic 174, 3) := by decide +kernel
theorem dX8_earliest_4 : decode cX8_earliest 4 = .ok (.ifCond .eq 17, 3) := by decide +kernel
theorem dX8_earliest_7 : decode cX8_earliest 7 = .ok (.iload_n 2, 1) := by decide +kernel
theorem dX8_earliest_8 : decode cX8_earliest 8 = .ok (.invokestatic 122, 3) := by decide +kernel
theorem dX8_earliest_11 : decode cX8_earliest 11 = .ok (.ifCond .eq 10, 3) := by decide +kernel
theorem dX8_earliest_14 : decode cX8_earliest 14 = .ok (.iload_n 3, 1) := by decide +kernel
theorem dX8_earliest_15 : decode cX8_earliest 15 = .ok (.invokestatic 157, 3) := by decide +kernel
theorem dX8_earliest_18 : decode cX8_earliest 18 = .ok (.ifCond .ne 6, 3) := by decide +kernel
theorem dX8_earliest_21 : decode cX8_earliest 21 = .ok (.bipush (-2), 2) := by decide +kernel
theorem dX8_earliest_23 : decode cX8_earliest 23 = .ok (.ireturn, 1) := by decide +kernel
theorem dX8_earliest_24 : decode cX8_earliest 24 = .ok (.aload_n 0, 1) := by decide +kernel
theorem dX8_earliest_25 : decode cX8_earliest 25 = .ok (.getfield 43, 3) := by decide +kernel
theorem dX8_earliest_28 : decode cX8_earliest 28 = .ok (.aload_n 0, 1) := by decide +kernel
theorem dX8_earliest_29 : decode cX8_earliest 29 = .ok (.getfield 12, 3) := by decide +kernel
theorem dX8_earliest_32 : decode cX8_earliest 32 = .ok (.iload_n 1, 1) := by decide +kernel
theorem dX8_earliest_33 : decode cX8_earliest 33 = .ok (.iload_n 3, 1) := by decide +kernel
theorem dX8_earliest_34 : decode cX8_earliest 34 = .ok (.iconst 0, 1) := by decide +kernel
theorem dX8_earliest_35 : decode cX8_earliest 35 = .ok (.invokevirtual 185, 3) := by decide +kernel
theorem dX8_earliest_38 : decode cX8_earliest 38 = .ok (.aload_n 0, 1) := by decide +kernel
theorem dX8_earliest_39 : decode cX8_earliest 39 = .ok (.getfield 43, 3) := by decide +kernel
theorem dX8_earliest_42 : decode cX8_earliest 42 = .ok (.getfield 189, 3) := by decide +kernel
theorem dX8_earliest_45 : decode cX8_earliest 45 = .ok (.iload_n 2, 1) := by decide +kernel
theorem dX8_earliest_46 : decode cX8_earliest 46 = .ok (.iaload, 1) := by decide +kernel
theorem dX8_earliest_47 : decode cX8_earliest 47 = .ok (.bipush 32, 2) := by decide +kernel
theorem dX8_earliest_49 : decode cX8_earliest 49 = .ok (.if_icmp .ge 15, 3) := by decide +kernel
theorem dX8_earliest_52 : decode cX8_earliest 52 = .ok (.aload_n 0, 1) := by decide +kernel
theorem dX8_earliest_53 : decode cX8_earliest 53 = .ok (.getfield 43, 3) := by decide +kernel
theorem dX8_earliest_56 : decode cX8_earliest 56 = .ok (.getfield 189, 3) := by decide +kernel
theorem dX8_earliest_59 : decode cX8_earliest 59 = .ok (.iload_n 2, 1) := by decide +kernel
theorem dX8_earliest_60 : decode cX8_earliest 60 = .ok (.iaload, 1) := by decide +kernel
theorem dX8_earliest_61 : decode cX8_earliest 61 = .ok (.goto 4, 3) := by decide +kernel
theorem dX8_earliest_64 : decode cX8_earliest 64 = .ok (.iconst (-1), 1) := by decide +kernel
theorem dX8_earliest_65 : decode cX8_earliest 65 = .ok (.ireturn, 1) := by decide +kernel
theorem dX8_loop_0 : decode cX8_loop 0 = .ok (.iload_n 1, 1) := by decide +kernel
theorem dX8_loop_1 : decode cX8_loop 1 = .ok (.invokestatic 174, 3) := by decide +kernel
theorem dX8_loop_4 : decode cX8_loop 4 = .ok (.ifCond .eq 10, 3) := by decide +kernel
theorem dX8_loop_7 : decode cX8_loop 7 = .ok (.iload_n 2, 1) := by decide +kernel
theorem dX8_loop_8 : decode cX8_loop 8 = .ok (.invokestatic 157, 3) := by decide +kernel
theorem dX8_loop_11 : decode cX8_loop 11 = .ok (.ifCond .ne 6, 3) := by decide +kernel
theorem dX8_loop_14 : decode cX8_loop 14 = .ok (.bipush (-2), 2) := by decide +kernel
theorem dX8_loop_16 : decode cX8_loop 16 = .ok (.ireturn, 1) := by decide +kernel
theorem dX8_loop_17 : decode cX8_loop 17 = .ok (.aload_n 0, 1) := by decide +kernel
theorem dX8_loop_18 : decode cX8_loop 18 = .ok (.getfield 43, 3) := by decide +kernel
theorem dX8_loop_21 : decode cX8_loop 21 = .ok (.aload_n 0, 1) := by decide +kernel
theorem dX8_loop_22 : decode cX8_loop 22 = .ok (.getfield 12, 3) := by decide +kernel
theorem dX8_loop_25 : decode cX8_loop 25 = .ok (.aconst_null, 1) := by decide +kernel
theorem dX8_loop_26 : decode cX8_loop 26 = .ok (.iload_n 1, 1) := by decide +kernel
theorem dX8_loop_27 : decode cX8_loop 27 = .ok (.iload_n 2, 1) := by decide +kernel
theorem dX8_loop_28 : decode cX8_loop 28 = .ok (.invokevirtual 177, 3) := by decide +kernel
theorem dX8_loop_31 : decode cX8_loop 31 = .ok (.aload_n 0, 1) := by decide +kernel
theorem dX8_loop_32 : decode cX8_loop 32 = .ok (.getfield 43, 3) := by decide +kernel
theorem dX8_loop_35 : decode cX8_loop 35 = .ok (.aload_n 0, 1) := by decide +kernel
theorem dX8_loop_36 : decode cX8_loop 36 = .ok (.getfield 12, 3) := by decide +kernel
theorem dX8_loop_39 : decode cX8_loop 39 = .ok (.iload_n 1, 1) := by decide +kernel
theorem dX8_loop_40 : decode cX8_loop 40 = .ok (.iload_n 2, 1) := by decide +kernel
theorem dX8_loop_41 : decode cX8_loop 41 = .ok (.invokevirtual 192, 3) := by decide +kernel
theorem dX8_loop_44 : decode cX8_loop 44 = .ok (.istore_n 3, 1) := by decide +kernel
theorem dX8_loop_45 : decode cX8_loop 45 = .ok (.iload_n 3, 1) := by decide +kernel
theorem dX8_loop_46 : decode cX8_loop 46 = .ok (.ldc 184, 2) := by decide +kernel
theorem dX8_loop_48 : decode cX8_loop 48 = .ok (.if_icmp .lt 7, 3) := by decide +kernel
theorem dX8_loop_51 : decode cX8_loop 51 = .ok (.iconst (-1), 1) := by decide +kernel
theorem dX8_loop_52 : decode cX8_loop 52 = .ok (.goto 4, 3) := by decide +kernel
theorem dX8_loop_55 : decode cX8_loop 55 = .ok (.iload_n 3, 1) := by decide +kernel
theorem dX8_loop_56 : decode cX8_loop 56 = .ok (.ireturn, 1) := by decide +kernel
theorem dX8_spots_0 : decode cX8_spots 0 = .ok (.iload_n 1, 1) := by decide +kernel
theorem dX8_spots_1 : decode cX8_spots 1 = .ok (.invokestatic 174, 3) := by decide +kernel
theorem dX8_spots_4 : decode cX8_spots 4 = .ok (.ifCond .eq 10, 3) := by decide +kernel
theorem dX8_spots_7 : decode cX8_spots 7 = .ok (.iload_n 2, 1) := by decide +kernel
theorem dX8_spots_8 : decode cX8_spots 8 = .ok (.invokestatic 157, 3) := by decide +kernel
theorem dX8_spots_11 : decode cX8_spots 11 = .ok (.ifCond .ne 6, 3) := by decide +kernel
theorem dX8_spots_14 : decode cX8_spots 14 = .ok (.bipush (-2), 2) := by decide +kernel
theorem dX8_spots_16 : decode cX8_spots 16 = .ok (.ireturn, 1) := by decide +kernel
theorem dX8_spots_17 : decode cX8_spots 17 = .ok (.aload_n 0, 1) := by decide +kernel
theorem dX8_spots_18 : decode cX8_spots 18 = .ok (.getfield 43, 3) := by decide +kernel
theorem dX8_spots_21 : decode cX8_spots 21 = .ok (.aload_n 0, 1) := by decide +kernel
theorem dX8_spots_22 : decode cX8_spots 22 = .ok (.getfield 12, 3) := by decide +kernel
theorem dX8_spots_25 : decode cX8_spots 25 = .ok (.iload_n 1, 1) := by decide +kernel
theorem dX8_spots_26 : decode cX8_spots 26 = .ok (.iload_n 2, 1) := by decide +kernel
theorem dX8_spots_27 : decode cX8_spots 27 = .ok (.iconst 0, 1) := by decide +kernel
theorem dX8_spots_28 : decode cX8_spots 28 = .ok (.invokevirtual 185, 3) := by decide +kernel
theorem dX8_spots_31 : decode cX8_spots 31 = .ok (.iconst 0, 1) := by decide +kernel
theorem dX8_spots_32 : decode cX8_spots 32 = .ok (.istore_n 3, 1) := by decide +kernel
theorem dX8_spots_33 : decode cX8_spots 33 = .ok (.iconst 0, 1) := by decide +kernel
theorem dX8_spots_34 : decode cX8_spots 34 = .ok (.istore 4, 2) := by decide +kernel
theorem dX8_spots_36 : decode cX8_spots 36 = .ok (.iload 4, 2) := by decide +kernel
theorem dX8_spots_38 : decode cX8_spots 38 = .ok (.bipush 6, 2) := by decide +kernel
theorem dX8_spots_40 : decode cX8_spots 40 = .ok (.if_icmp .ge 25, 3) := by decide +kernel
theorem dX8_spots_43 : decode cX8_spots 43 = .ok (.iload_n 3, 1) := by decide +kernel
theorem dX8_spots_44 : decode cX8_spots 44 = .ok (.bipush 32, 2) := by decide +kernel
theorem dX8_spots_46 : decode cX8_spots 46 = .ok (.aload_n 0, 1) := by decide +kernel
theorem dX8_spots_47 : decode cX8_spots 47 = .ok (.getfield 43, 3) := by decide +kernel
theorem dX8_spots_50 : decode cX8_spots 50 = .ok (.getfield 189, 3) := by decide +kernel
theorem dX8_spots_53 : decode cX8_spots 53 = .ok (.iload 4, 2) := by decide +kernel
theorem dX8_spots_55 : decode cX8_spots 55 = .ok (.iaload, 1) := by decide +kernel
theorem dX8_spots_56 : decode cX8_spots 56 = .ok (.isub, 1) := by decide +kernel
theorem dX8_spots_57 : decode cX8_spots 57 = .ok (.iadd, 1) := by decide +kernel
theorem dX8_spots_58 : decode cX8_spots 58 = .ok (.istore_n 3, 1) := by decide +kernel
theorem dX8_spots_59 : decode cX8_spots 59 = .ok (.iinc 4 1, 3) := by decide +kernel
theorem dX8_spots_62 : decode cX8_spots 62 = .ok (.goto (-26), 3) := by decide +kernel
theorem dX8_spots_65 : decode cX8_spots 65 = .ok (.iload_n 3, 1) := by decide +kernel
theorem dX8_spots_66 : decode cX8_spots 66 = .ok (.ireturn, 1) := by decide +kernel
theorem dX8_brick_0 : decode cX8_brick 0 = .ok (.iload_n 1, 1) := by decide +kernel
theorem dX8_brick_1 : decode cX8_brick 1 = .ok (.invokestatic 174, 3) := by decide +kernel
theorem dX8_brick_4 : decode cX8_brick 4 = .ok (.ifCond .eq 28, 3) := by decide +kernel
theorem dX8_brick_7 : decode cX8_brick 7 = .ok (.iload_n 2, 1) := by decide +kernel
theorem dX8_brick_8 : decode cX8_brick 8 = .ok (.invokestatic 174, 3) := by decide +kernel
theorem dX8_brick_11 : decode cX8_brick 11 = .ok (.ifCond .eq 21, 3) := by decide +kernel
theorem dX8_brick_14 : decode cX8_brick 14 = .ok (.iload_n 3, 1) := by decide +kernel
theorem dX8_brick_15 : decode cX8_brick 15 = .ok (.invokestatic 157, 3) := by decide +kernel
theorem dX8_brick_18 : decode cX8_brick 18 = .ok (.ifCond .eq 14, 3) := by decide +kernel
theorem dX8_brick_21 : decode cX8_brick 21 = .ok (.iload 4, 2) := by decide +kernel
theorem dX8_brick_23 : decode cX8_brick 23 = .ok (.ifCond .lt 9, 3) := by decide +kernel
theorem dX8_brick_26 : decode cX8_brick 26 = .ok (.iload 4, 2) := by decide +kernel
theorem dX8_brick_28 : decode cX8_brick 28 = .ok (.iconst 1, 1) := by decide +kernel
theorem dX8_brick_29 : decode cX8_brick 29 = .ok (.if_icmp .le 6, 3) := by decide +kernel
theorem dX8_brick_32 : decode cX8_brick 32 = .ok (.bipush (-2), 2) := by decide +kernel
theorem dX8_brick_34 : decode cX8_brick 34 = .ok (.ireturn, 1) := by decide +kernel
theorem dX8_brick_35 : decode cX8_brick 35 = .ok (.iload 4, 2) := by decide +kernel
theorem dX8_brick_37 : decode cX8_brick 37 = .ok (.ifCond .ne 13, 3) := by decide +kernel
theorem dX8_brick_40 : decode cX8_brick 40 = .ok (.aload_n 0, 1) := by decide +kernel
theorem dX8_brick_41 : decode cX8_brick 41 = .ok (.iload_n 1, 1) := by decide +kernel
theorem dX8_brick_42 : decode cX8_brick 42 = .ok (.iload_n 2, 1) := by decide +kernel
theorem dX8_brick_43 : decode cX8_brick 43 = .ok (.iload_n 3, 1) := by decide +kernel
theorem dX8_brick_44 : decode cX8_brick 44 = .ok (.invokevirtual 196, 3) := by decide +kernel
theorem dX8_brick_47 : decode cX8_brick 47 = .ok (.goto 10, 3) := by decide +kernel
theorem dX8_brick_50 : decode cX8_brick 50 = .ok (.aload_n 0, 1) := by decide +kernel
theorem dX8_brick_51 : decode cX8_brick 51 = .ok (.iload_n 1, 1) := by decide +kernel
theorem dX8_brick_52 : decode cX8_brick 52 = .ok (.iload_n 2, 1) := by decide +kernel
theorem dX8_brick_53 : decode cX8_brick 53 = .ok (.iload_n 3, 1) := by decide +kernel
theorem dX8_brick_54 : decode cX8_brick 54 = .ok (.invokevirtual 200, 3) := by decide +kernel
theorem dX8_brick_57 : decode cX8_brick 57 = .ok (.ireturn, 1) := by decide +kernel
theorem dX8_seen_0 : decode cX8_seen 0 = .ok (.aload_n 0, 1) := by decide +kernel
theorem dX8_seen_1 : decode cX8_seen 1 = .ok (.iload_n 1, 1) := by decide +kernel
theorem dX8_seen_2 : decode cX8_seen 2 = .ok (.iload_n 2, 1) := by decide +kernel
theorem dX8_seen_3 : decode cX8_seen 3 = .ok (.iload_n 3, 1) := by decide +kernel
theorem dX8_seen_4 : decode cX8_seen 4 = .ok (.iload 4, 2) := by decide +kernel
theorem dX8_seen_6 : decode cX8_seen 6 = .ok (.iconst 2, 1) := by decide +kernel
theorem dX8_seen_7 : decode cX8_seen 7 = .ok (.invokevirtual 203, 3) := by decide +kernel
theorem dX8_seen_10 : decode cX8_seen 10 = .ok (.istore 5, 2) := by decide +kernel
theorem dX8_seen_12 : decode cX8_seen 12 = .ok (.iload 5, 2) := by decide +kernel
theorem dX8_seen_14 : decode cX8_seen 14 = .ok (.ifCond .eq 6, 3) := by decide +kernel
theorem dX8_seen_17 : decode cX8_seen 17 = .ok (.iload 5, 2) := by decide +kernel
theorem dX8_seen_19 : decode cX8_seen 19 = .ok (.ireturn, 1) := by decide +kernel
theorem dX8_seen_20 : decode cX8_seen 20 = .ok (.aload_n 0, 1) := by decide +kernel
theorem dX8_seen_21 : decode cX8_seen 21 = .ok (.getfield 49, 3) := by decide +kernel
theorem dX8_seen_24 : decode cX8_seen 24 = .ok (.iload_n 1, 1) := by decide +kernel
theorem dX8_seen_25 : decode cX8_seen 25 = .ok (.aaload, 1) := by decide +kernel
theorem dX8_seen_26 : decode cX8_seen 26 = .ok (.astore 6, 2) := by decide +kernel
theorem dX8_seen_28 : decode cX8_seen 28 = .ok (.aload_n 0, 1) := by decide +kernel
theorem dX8_seen_29 : decode cX8_seen 29 = .ok (.getfield 12, 3) := by decide +kernel
theorem dX8_seen_32 : decode cX8_seen 32 = .ok (.getfield 111, 3) := by decide +kernel
theorem dX8_seen_35 : decode cX8_seen 35 = .ok (.iload_n 2, 1) := by decide +kernel
theorem dX8_seen_36 : decode cX8_seen 36 = .ok (.aaload, 1) := by decide +kernel
theorem dX8_seen_37 : decode cX8_seen 37 = .ok (.astore 7, 2) := by decide +kernel
theorem dX8_seen_39 : decode cX8_seen 39 = .ok (.iload 4, 2) := by decide +kernel
theorem dX8_seen_41 : decode cX8_seen 41 = .ok (.ifCond .ne 13, 3) := by decide +kernel
theorem dX8_seen_44 : decode cX8_seen 44 = .ok (.aload_n 0, 1) := by decide +kernel
theorem dX8_seen_45 : decode cX8_seen 45 = .ok (.aload 6, 2) := by decide +kernel
theorem dX8_seen_47 : decode cX8_seen 47 = .ok (.aload 7, 2) := by decide +kernel
theorem dX8_seen_49 : decode cX8_seen 49 = .ok (.iload_n 3, 1) := by decide +kernel
theorem dX8_seen_50 : decode cX8_seen 50 = .ok (.invokevirtual 207, 3) := by decide +kernel
theorem dX8_seen_53 : decode cX8_seen 53 = .ok (.ireturn, 1) := by decide +kernel
theorem dX8_seen_54 : decode cX8_seen 54 = .ok (.iload 4, 2) := by decide +kernel
theorem dX8_seen_56 : decode cX8_seen 56 = .ok (.iconst 1, 1) := by decide +kernel
theorem dX8_seen_57 : decode cX8_seen 57 = .ok (.if_icmp .ne 15, 3) := by decide +kernel
theorem dX8_seen_60 : decode cX8_seen 60 = .ok (.aload_n 0, 1) := by decide +kernel
theorem dX8_seen_61 : decode cX8_seen 61 = .ok (.aload 6, 2) := by decide +kernel
theorem dX8_seen_63 : decode cX8_seen 63 = .ok (.aload 7, 2) := by decide +kernel
theorem dX8_seen_65 : decode cX8_seen 65 = .ok (.iload_n 3, 1) := by decide +kernel
theorem dX8_seen_66 : decode cX8_seen 66 = .ok (.invokevirtual 211, 3) := by decide +kernel
theorem dX8_seen_69 : decode cX8_seen 69 = .ok (.goto 12, 3) := by decide +kernel
theorem dX8_seen_72 : decode cX8_seen 72 = .ok (.aload_n 0, 1) := by decide +kernel
theorem dX8_seen_73 : decode cX8_seen 73 = .ok (.aload 6, 2) := by decide +kernel
theorem dX8_seen_75 : decode cX8_seen 75 = .ok (.aload 7, 2) := by decide +kernel
theorem dX8_seen_77 : decode cX8_seen 77 = .ok (.iload_n 3, 1) := by decide +kernel
theorem dX8_seen_78 : decode cX8_seen 78 = .ok (.invokevirtual 214, 3) := by decide +kernel
theorem dX8_seen_81 : decode cX8_seen 81 = .ok (.ireturn, 1) := by decide +kernel
theorem dX8_lookNext_0 : decode cX8_lookNext 0 = .ok (.aload_n 0, 1) := by decide +kernel
theorem dX8_lookNext_1 : decode cX8_lookNext 1 = .ok (.iload_n 1, 1) := by decide +kernel
theorem dX8_lookNext_2 : decode cX8_lookNext 2 = .ok (.iload_n 2, 1) := by decide +kernel
theorem dX8_lookNext_3 : decode cX8_lookNext 3 = .ok (.iload_n 3, 1) := by decide +kernel
theorem dX8_lookNext_4 : decode cX8_lookNext 4 = .ok (.iload 4, 2) := by decide +kernel
theorem dX8_lookNext_6 : decode cX8_lookNext 6 = .ok (.iconst 1, 1) := by decide +kernel
theorem dX8_lookNext_7 : decode cX8_lookNext 7 = .ok (.invokevirtual 203, 3) := by decide +kernel
theorem dX8_lookNext_10 : decode cX8_lookNext 10 = .ok (.istore 5, 2) := by decide +kernel
theorem dX8_lookNext_12 : decode cX8_lookNext 12 = .ok (.iload 5, 2) := by decide +kernel
theorem dX8_lookNext_14 : decode cX8_lookNext 14 = .ok (.ifCond .eq 6, 3) := by decide +kernel
theorem dX8_lookNext_17 : decode cX8_lookNext 17 = .ok (.iload 5, 2) := by decide +kernel
theorem dX8_lookNext_19 : decode cX8_lookNext 19 = .ok (.ireturn, 1) := by decide +kernel
theorem dX8_lookNext_20 : decode cX8_lookNext 20 = .ok (.aload_n 0, 1) := by decide +kernel
theorem dX8_lookNext_21 : decode cX8_lookNext 21 = .ok (.getfield 12, 3) := by decide +kernel
theorem dX8_lookNext_24 : decode cX8_lookNext 24 = .ok (.getfield 111, 3) := by decide +kernel
theorem dX8_lookNext_27 : decode cX8_lookNext 27 = .ok (.iload_n 2, 1) := by decide +kernel
theorem dX8_lookNext_28 : decode cX8_lookNext 28 = .ok (.aaload, 1) := by decide +kernel
theorem dX8_lookNext_29 : decode cX8_lookNext 29 = .ok (.astore 6, 2) := by decide +kernel
theorem dX8_lookNext_31 : decode cX8_lookNext 31 = .ok (.aload_n 0, 1) := by decide +kernel
theorem dX8_lookNext_32 : decode cX8_lookNext 32 = .ok (.aload_n 0, 1) := by decide +kernel
theorem dX8_lookNext_33 : decode cX8_lookNext 33 = .ok (.getfield 49, 3) := by decide +kernel
theorem dX8_lookNext_36 : decode cX8_lookNext 36 = .ok (.iload_n 1, 1) := by decide +kernel
theorem dX8_lookNext_37 : decode cX8_lookNext 37 = .ok (.aaload, 1) := by decide +kernel
theorem dX8_lookNext_38 : decode cX8_lookNext 38 = .ok (.aload 6, 2) := by decide +kernel
theorem dX8_lookNext_40 : decode cX8_lookNext 40 = .ok (.iload_n 3, 1) := by decide +kernel
theorem dX8_lookNext_41 : decode cX8_lookNext 41 = .ok (.invokevirtual 211, 3) := by decide +kernel
theorem dX8_lookNext_44 : decode cX8_lookNext 44 = .ok (.istore 7, 2) := by decide +kernel
theorem dX8_lookNext_46 : decode cX8_lookNext 46 = .ok (.iconst 0, 1) := by decide +kernel
theorem dX8_lookNext_47 : decode cX8_lookNext 47 = .ok (.istore 8, 2) := by decide +kernel
theorem dX8_lookNext_49 : decode cX8_lookNext 49 = .ok (.iconst 0, 1) := by decide +kernel
theorem dX8_lookNext_50 : decode cX8_lookNext 50 = .ok (.istore 9, 2) := by decide +kernel
theorem dX8_lookNext_52 : decode cX8_lookNext 52 = .ok (.iconst 0, 1) := by decide +kernel
theorem dX8_lookNext_53 : decode cX8_lookNext 53 = .ok (.istore 10, 2) := by decide +kernel
theorem dX8_lookNext_55 : decode cX8_lookNext 55 = .ok (.iload 10, 2) := by decide +kernel
theorem dX8_lookNext_57 : decode cX8_lookNext 57 = .ok (.bipush 32, 2) := by decide +kernel
theorem dX8_lookNext_59 : decode cX8_lookNext 59 = .ok (.if_icmp .ge 36, 3) := by decide +kernel
theorem dX8_lookNext_62 : decode cX8_lookNext 62 = .ok (.aload_n 0, 1) := by decide +kernel
theorem dX8_lookNext_63 : decode cX8_lookNext 63 = .ok (.aload 6, 2) := by decide +kernel
theorem dX8_lookNext_65 : decode cX8_lookNext 65 = .ok (.iload 7, 2) := by decide +kernel
theorem dX8_lookNext_67 : decode cX8_lookNext 67 = .ok (.iload 10, 2) := by decide +kernel
theorem dX8_lookNext_69 : decode cX8_lookNext 69 = .ok (.invokevirtual 217, 3) := by decide +kernel
theorem dX8_lookNext_72 : decode cX8_lookNext 72 = .ok (.istore 11, 2) := by decide +kernel
theorem dX8_lookNext_74 : decode cX8_lookNext 74 = .ok (.iload 11, 2) := by decide +kernel
theorem dX8_lookNext_76 : decode cX8_lookNext 76 = .ok (.iload 9, 2) := by decide +kernel
theorem dX8_lookNext_78 : decode cX8_lookNext 78 = .ok (.if_icmp .le 11, 3) := by decide +kernel
theorem dX8_lookNext_81 : decode cX8_lookNext 81 = .ok (.iload 11, 2) := by decide +kernel
theorem dX8_lookNext_83 : decode cX8_lookNext 83 = .ok (.istore 9, 2) := by decide +kernel
theorem dX8_lookNext_85 : decode cX8_lookNext 85 = .ok (.iload 10, 2) := by decide +kernel
theorem dX8_lookNext_87 : decode cX8_lookNext 87 = .ok (.istore 8, 2) := by decide +kernel
theorem dX8_lookNext_89 : decode cX8_lookNext 89 = .ok (.iinc 10 1, 3) := by decide +kernel
theorem dX8_lookNext_92 : decode cX8_lookNext 92 = .ok (.goto (-37), 3) := by decide +kernel
theorem dX8_lookNext_95 : decode cX8_lookNext 95 = .ok (.iload 4, 2) := by decide +kernel
theorem dX8_lookNext_97 : decode cX8_lookNext 97 = .ok (.ifCond .ne 8, 3) := by decide +kernel
theorem dX8_lookNext_100 : decode cX8_lookNext 100 = .ok (.iload 8, 2) := by decide +kernel
theorem dX8_lookNext_102 : decode cX8_lookNext 102 = .ok (.goto 5, 3) := by decide +kernel
theorem dX8_lookNext_105 : decode cX8_lookNext 105 = .ok (.iload 9, 2) := by decide +kernel
theorem dX8_lookNext_107 : decode cX8_lookNext 107 = .ok (.ireturn, 1) := by decide +kernel
theorem dX8_film_0 : decode cX8_film 0 = .ok (.iload_n 1, 1) := by decide +kernel
theorem dX8_film_1 : decode cX8_film 1 = .ok (.invokestatic 221, 3) := by decide +kernel
theorem dX8_film_4 : decode cX8_film 4 = .ok (.ifCond .eq 33, 3) := by decide +kernel
theorem dX8_film_7 : decode cX8_film 7 = .ok (.aload_n 0, 1) := by decide +kernel
theorem dX8_film_8 : decode cX8_film 8 = .ok (.getfield 12, 3) := by decide +kernel
theorem dX8_film_11 : decode cX8_film 11 = .ok (.iload_n 2, 1) := by decide +kernel
theorem dX8_film_12 : decode cX8_film 12 = .ok (.invokevirtual 150, 3) := by decide +kernel
theorem dX8_film_15 : decode cX8_film 15 = .ok (.ifCond .eq 22, 3) := by decide +kernel
theorem dX8_film_18 : decode cX8_film 18 = .ok (.iload_n 3, 1) := by decide +kernel
theorem dX8_film_19 : decode cX8_film 19 = .ok (.invokestatic 147, 3) := by decide +kernel
theorem dX8_film_22 : decode cX8_film 22 = .ok (.ifCond .eq 15, 3) := by decide +kernel
theorem dX8_film_25 : decode cX8_film 25 = .ok (.iload 4, 2) := by decide +kernel
theorem dX8_film_27 : decode cX8_film 27 = .ok (.ifCond .lt 10, 3) := by decide +kernel
theorem dX8_film_30 : decode cX8_film 30 = .ok (.iload 4, 2) := by decide +kernel
theorem dX8_film_32 : decode cX8_film 32 = .ok (.bipush 10, 2) := by decide +kernel
theorem dX8_film_34 : decode cX8_film 34 = .ok (.if_icmp .le 6, 3) := by decide +kernel
theorem dX8_film_37 : decode cX8_film 37 = .ok (.bipush (-2), 2) := by decide +kernel
theorem dX8_film_39 : decode cX8_film 39 = .ok (.ireturn, 1) := by decide +kernel
theorem dX8_film_40 : decode cX8_film 40 = .ok (.aload_n 0, 1) := by decide +kernel
theorem dX8_film_41 : decode cX8_film 41 = .ok (.getfield 49, 3) := by decide +kernel
theorem dX8_film_44 : decode cX8_film 44 = .ok (.iload_n 1, 1) := by decide +kernel
theorem dX8_film_45 : decode cX8_film 45 = .ok (.aaload, 1) := by decide +kernel
theorem dX8_film_46 : decode cX8_film 46 = .ok (.astore 5, 2) := by decide +kernel
theorem dX8_film_48 : decode cX8_film 48 = .ok (.aload 5, 2) := by decide +kernel
theorem dX8_film_50 : decode cX8_film 50 = .ok (.iconst 0, 1) := by decide +kernel
theorem dX8_film_51 : decode cX8_film 51 = .ok (.iload 4, 2) := by decide +kernel
theorem dX8_film_53 : decode cX8_film 53 = .ok (.invokevirtual 224, 3) := by decide +kernel
theorem dX8_film_56 : decode cX8_film 56 = .ok (.iconst 0, 1) := by decide +kernel
theorem dX8_film_57 : decode cX8_film 57 = .ok (.istore 6, 2) := by decide +kernel
theorem dX8_film_59 : decode cX8_film 59 = .ok (.iload 6, 2) := by decide +kernel
theorem dX8_film_61 : decode cX8_film 61 = .ok (.iload 4, 2) := by decide +kernel
theorem dX8_film_63 : decode cX8_film 63 = .ok (.if_icmp .ge 36, 3) := by decide +kernel
theorem dX8_film_66 : decode cX8_film 66 = .ok (.aload 5, 2) := by decide +kernel
theorem dX8_film_68 : decode cX8_film 68 = .ok (.iload 6, 2) := by decide +kernel
theorem dX8_film_70 : decode cX8_film 70 = .ok (.aload_n 0, 1) := by decide +kernel
theorem dX8_film_71 : decode cX8_film 71 = .ok (.getfield 12, 3) := by decide +kernel
theorem dX8_film_74 : decode cX8_film 74 = .ok (.aload_n 0, 1) := by decide +kernel
theorem dX8_film_75 : decode cX8_film 75 = .ok (.getfield 12, 3) := by decide +kernel
theorem dX8_film_78 : decode cX8_film 78 = .ok (.getfield 111, 3) := by decide +kernel
theorem dX8_film_81 : decode cX8_film 81 = .ok (.iload_n 2, 1) := by decide +kernel
theorem dX8_film_82 : decode cX8_film 82 = .ok (.aaload, 1) := by decide +kernel
theorem dX8_film_83 : decode cX8_film 83 = .ok (.iload_n 3, 1) := by decide +kernel
theorem dX8_film_84 : decode cX8_film 84 = .ok (.iload 6, 2) := by decide +kernel
theorem dX8_film_86 : decode cX8_film 86 = .ok (.iadd, 1) := by decide +kernel
theorem dX8_film_87 : decode cX8_film 87 = .ok (.invokevirtual 227, 3) := by decide +kernel
theorem dX8_film_90 : decode cX8_film 90 = .ok (.invokevirtual 231, 3) := by decide +kernel
theorem dX8_film_93 : decode cX8_film 93 = .ok (.iinc 6 1, 3) := by decide +kernel
theorem dX8_film_96 : decode cX8_film 96 = .ok (.goto (-37), 3) := by decide +kernel
theorem dX8_film_99 : decode cX8_film 99 = .ok (.iload 4, 2) := by decide +kernel
theorem dX8_film_101 : decode cX8_film 101 = .ok (.ireturn, 1) := by decide +kernel
theorem dX8_water_0 : decode cX8_water 0 = .ok (.iload_n 1, 1) := by decide +kernel
theorem dX8_water_1 : decode cX8_water 1 = .ok (.invokestatic 122, 3) := by decide +kernel
theorem dX8_water_4 : decode cX8_water 4 = .ok (.ifCond .eq 10, 3) := by decide +kernel
theorem dX8_water_7 : decode cX8_water 7 = .ok (.iload_n 2, 1) := by decide +kernel
theorem dX8_water_8 : decode cX8_water 8 = .ok (.invokestatic 147, 3) := by decide +kernel
theorem dX8_water_11 : decode cX8_water 11 = .ok (.ifCond .ne 6, 3) := by decide +kernel
theorem dX8_water_14 : decode cX8_water 14 = .ok (.bipush (-2), 2) := by decide +kernel
theorem dX8_water_16 : decode cX8_water 16 = .ok (.ireturn, 1) := by decide +kernel
theorem dX8_water_17 : decode cX8_water 17 = .ok (.aload_n 0, 1) := by decide +kernel
theorem dX8_water_18 : decode cX8_water 18 = .ok (.iload_n 1, 1) := by decide +kernel
theorem dX8_water_19 : decode cX8_water 19 = .ok (.aload_n 0, 1) := by decide +kernel
theorem dX8_water_20 : decode cX8_water 20 = .ok (.getfield 12, 3) := by decide +kernel
theorem dX8_water_23 : decode cX8_water 23 = .ok (.getfield 108, 3) := by decide +kernel
theorem dX8_water_26 : decode cX8_water 26 = .ok (.invokevirtual 233, 3) := by decide +kernel
theorem dX8_water_29 : decode cX8_water 29 = .ok (.pop, 1) := by decide +kernel
theorem dX8_water_30 : decode cX8_water 30 = .ok (.aload_n 0, 1) := by decide +kernel
theorem dX8_water_31 : decode cX8_water 31 = .ok (.getfield 62, 3) := by decide +kernel
theorem dX8_water_34 : decode cX8_water 34 = .ok (.iload_n 2, 1) := by decide +kernel
theorem dX8_water_35 : decode cX8_water 35 = .ok (.iaload, 1) := by decide +kernel
theorem dX8_water_36 : decode cX8_water 36 = .ok (.ireturn, 1) := by decide +kernel
theorem dX8_wettest_0 : decode cX8_wettest 0 = .ok (.iload_n 1, 1) := by decide +kernel
theorem dX8_wettest_1 : decode cX8_wettest 1 = .ok (.invokestatic 122, 3) := by decide +kernel
theorem dX8_wettest_4 : decode cX8_wettest 4 = .ok (.ifCond .eq 12, 3) := by decide +kernel
theorem dX8_wettest_7 : decode cX8_wettest 7 = .ok (.iload_n 2, 1) := by decide +kernel
theorem dX8_wettest_8 : decode cX8_wettest 8 = .ok (.ifCond .lt 8, 3) := by decide +kernel
theorem dX8_wettest_11 : decode cX8_wettest 11 = .ok (.iload_n 2, 1) := by decide +kernel
theorem dX8_wettest_12 : decode cX8_wettest 12 = .ok (.iconst 1, 1) := by decide +kernel
theorem dX8_wettest_13 : decode cX8_wettest 13 = .ok (.if_icmp .le 6, 3) := by decide +kernel
theorem dX8_wettest_16 : decode cX8_wettest 16 = .ok (.bipush (-2), 2) := by decide +kernel
theorem dX8_wettest_18 : decode cX8_wettest 18 = .ok (.ireturn, 1) := by decide +kernel
theorem dX8_wettest_19 : decode cX8_wettest 19 = .ok (.aload_n 0, 1) := by decide +kernel
theorem dX8_wettest_20 : decode cX8_wettest 20 = .ok (.iload_n 1, 1) := by decide +kernel
theorem dX8_wettest_21 : decode cX8_wettest 21 = .ok (.aload_n 0, 1) := by decide +kernel
theorem dX8_wettest_22 : decode cX8_wettest 22 = .ok (.getfield 12, 3) := by decide +kernel
theorem dX8_wettest_25 : decode cX8_wettest 25 = .ok (.getfield 108, 3) := by decide +kernel
theorem dX8_wettest_28 : decode cX8_wettest 28 = .ok (.invokevirtual 233, 3) := by decide +kernel
theorem dX8_wettest_31 : decode cX8_wettest 31 = .ok (.istore_n 3, 1) := by decide +kernel
theorem dX8_wettest_32 : decode cX8_wettest 32 = .ok (.iload_n 2, 1) := by decide +kernel
theorem dX8_wettest_33 : decode cX8_wettest 33 = .ok (.iconst 1, 1) := by decide +kernel
theorem dX8_wettest_34 : decode cX8_wettest 34 = .ok (.if_icmp .ne 5, 3) := by decide +kernel
theorem dX8_wettest_37 : decode cX8_wettest 37 = .ok (.iload_n 3, 1) := by decide +kernel
theorem dX8_wettest_38 : decode cX8_wettest 38 = .ok (.ireturn, 1) := by decide +kernel
theorem dX8_wettest_39 : decode cX8_wettest 39 = .ok (.iconst 0, 1) := by decide +kernel
theorem dX8_wettest_40 : decode cX8_wettest 40 = .ok (.istore 4, 2) := by decide +kernel
theorem dX8_wettest_42 : decode cX8_wettest 42 = .ok (.iconst 1, 1) := by decide +kernel
theorem dX8_wettest_43 : decode cX8_wettest 43 = .ok (.istore 5, 2) := by decide +kernel
theorem dX8_wettest_45 : decode cX8_wettest 45 = .ok (.iload 5, 2) := by decide +kernel
theorem dX8_wettest_47 : decode cX8_wettest 47 = .ok (.bipush 32, 2) := by decide +kernel
theorem dX8_wettest_49 : decode cX8_wettest 49 = .ok (.if_icmp .ge 30, 3) := by decide +kernel
theorem dX8_wettest_52 : decode cX8_wettest 52 = .ok (.aload_n 0, 1) := by decide +kernel
theorem dX8_wettest_53 : decode cX8_wettest 53 = .ok (.getfield 62, 3) := by decide +kernel
theorem dX8_wettest_56 : decode cX8_wettest 56 = .ok (.iload 5, 2) := by decide +kernel
theorem dX8_wettest_58 : decode cX8_wettest 58 = .ok (.iaload, 1) := by decide +kernel
theorem dX8_wettest_59 : decode cX8_wettest 59 = .ok (.aload_n 0, 1) := by decide +kernel
theorem dX8_wettest_60 : decode cX8_wettest 60 = .ok (.getfield 62, 3) := by decide +kernel
theorem dX8_wettest_63 : decode cX8_wettest 63 = .ok (.iload 4, 2) := by decide +kernel
theorem dX8_wettest_65 : decode cX8_wettest 65 = .ok (.iaload, 1) := by decide +kernel
theorem dX8_wettest_66 : decode cX8_wettest 66 = .ok (.if_icmp .le 7, 3) := by decide +kernel
theorem dX8_wettest_69 : decode cX8_wettest 69 = .ok (.iload 5, 2) := by decide +kernel
theorem dX8_wettest_71 : decode cX8_wettest 71 = .ok (.istore 4, 2) := by decide +kernel
theorem dX8_wettest_73 : decode cX8_wettest 73 = .ok (.iinc 5 1, 3) := by decide +kernel
theorem dX8_wettest_76 : decode cX8_wettest 76 = .ok (.goto (-31), 3) := by decide +kernel
theorem dX8_wettest_79 : decode cX8_wettest 79 = .ok (.iload 4, 2) := by decide +kernel
theorem dX8_wettest_81 : decode cX8_wettest 81 = .ok (.ireturn, 1) := by decide +kernel
theorem dX8_views_0 : decode cX8_views 0 = .ok (.iload_n 1, 1) := by decide +kernel
theorem dX8_views_1 : decode cX8_views 1 = .ok (.invokestatic 147, 3) := by decide +kernel
theorem dX8_views_4 : decode cX8_views 4 = .ok (.ifCond .eq 21, 3) := by decide +kernel
theorem dX8_views_7 : decode cX8_views 7 = .ok (.iload_n 2, 1) := by decide +kernel
theorem dX8_views_8 : decode cX8_views 8 = .ok (.ifCond .lt 17, 3) := by decide +kernel
theorem dX8_views_11 : decode cX8_views 11 = .ok (.iload_n 2, 1) := by decide +kernel
theorem dX8_views_12 : decode cX8_views 12 = .ok (.iconst 4, 1) := by decide +kernel
theorem dX8_views_13 : decode cX8_views 13 = .ok (.if_icmp .gt 12, 3) := by decide +kernel
theorem dX8_views_16 : decode cX8_views 16 = .ok (.iload_n 3, 1) := by decide +kernel
theorem dX8_views_17 : decode cX8_views 17 = .ok (.ifCond .lt 8, 3) := by decide +kernel
theorem dX8_views_20 : decode cX8_views 20 = .ok (.iload_n 3, 1) := by decide +kernel
theorem dX8_views_21 : decode cX8_views 21 = .ok (.iconst 1, 1) := by decide +kernel
theorem dX8_views_22 : decode cX8_views 22 = .ok (.if_icmp .le 6, 3) := by decide +kernel
theorem dX8_views_25 : decode cX8_views 25 = .ok (.bipush (-2), 2) := by decide +kernel
theorem dX8_views_27 : decode cX8_views 27 = .ok (.ireturn, 1) := by decide +kernel
theorem dX8_views_28 : decode cX8_views 28 = .ok (.aload_n 0, 1) := by decide +kernel
theorem dX8_views_29 : decode cX8_views 29 = .ok (.iload_n 1, 1) := by decide +kernel
theorem dX8_views_30 : decode cX8_views 30 = .ok (.invokevirtual 237, 3) := by decide +kernel
theorem dX8_views_33 : decode cX8_views 33 = .ok (.iconst (-1), 1) := by decide +kernel
theorem dX8_views_34 : decode cX8_views 34 = .ok (.istore 4, 2) := by decide +kernel
theorem dX8_views_36 : decode cX8_views 36 = .ok (.iconst 0, 1) := by decide +kernel
theorem dX8_views_37 : decode cX8_views 37 = .ok (.istore 5, 2) := by decide +kernel
theorem dX8_views_39 : decode cX8_views 39 = .ok (.sipush 255, 3) := by decide +kernel
theorem dX8_views_42 : decode cX8_views 42 = .ok (.istore 6, 2) := by decide +kernel
theorem dX8_views_44 : decode cX8_views 44 = .ok (.iload 6, 2) := by decide +kernel
theorem dX8_views_46 : decode cX8_views 46 = .ok (.ifCond .lt 45, 3) := by decide +kernel
theorem dX8_views_49 : decode cX8_views 49 = .ok (.iload 6, 2) := by decide +kernel
theorem dX8_views_51 : decode cX8_views 51 = .ok (.invokestatic 240, 3) := by decide +kernel
theorem dX8_views_54 : decode cX8_views 54 = .ok (.iload_n 2, 1) := by decide +kernel
theorem dX8_views_55 : decode cX8_views 55 = .ok (.if_icmp .ne 12, 3) := by decide +kernel
theorem dX8_views_58 : decode cX8_views 58 = .ok (.aload_n 0, 1) := by decide +kernel
theorem dX8_views_59 : decode cX8_views 59 = .ok (.iload 6, 2) := by decide +kernel
theorem dX8_views_61 : decode cX8_views 61 = .ok (.invokevirtual 245, 3) := by decide +kernel
theorem dX8_views_64 : decode cX8_views 64 = .ok (.goto 4, 3) := by decide +kernel
theorem dX8_views_67 : decode cX8_views 67 = .ok (.iconst (-1), 1) := by decide +kernel
theorem dX8_views_68 : decode cX8_views 68 = .ok (.istore 7, 2) := by decide +kernel
theorem dX8_views_70 : decode cX8_views 70 = .ok (.iload 7, 2) := by decide +kernel
theorem dX8_views_72 : decode cX8_views 72 = .ok (.iload 4, 2) := by decide +kernel
theorem dX8_views_74 : decode cX8_views 74 = .ok (.if_icmp .le 11, 3) := by decide +kernel
theorem dX8_views_77 : decode cX8_views 77 = .ok (.iload 7, 2) := by decide +kernel
theorem dX8_views_79 : decode cX8_views 79 = .ok (.istore 4, 2) := by decide +kernel
theorem dX8_views_81 : decode cX8_views 81 = .ok (.iload 6, 2) := by decide +kernel
theorem dX8_views_83 : decode cX8_views 83 = .ok (.istore 5, 2) := by decide +kernel
theorem dX8_views_85 : decode cX8_views 85 = .ok (.iinc 6 (-1), 3) := by decide +kernel
theorem dX8_views_88 : decode cX8_views 88 = .ok (.goto (-44), 3) := by decide +kernel
theorem dX8_views_91 : decode cX8_views 91 = .ok (.iload_n 3, 1) := by decide +kernel
theorem dX8_views_92 : decode cX8_views 92 = .ok (.ifCond .eq 9, 3) := by decide +kernel
theorem dX8_views_95 : decode cX8_views 95 = .ok (.iload 4, 2) := by decide +kernel
theorem dX8_views_97 : decode cX8_views 97 = .ok (.iconst (-1), 1) := by decide +kernel
theorem dX8_views_98 : decode cX8_views 98 = .ok (.if_icmp .ne 8, 3) := by decide +kernel
theorem dX8_views_101 : decode cX8_views 101 = .ok (.iload 4, 2) := by decide +kernel
theorem dX8_views_103 : decode cX8_views 103 = .ok (.goto 8, 3) := by decide +kernel
theorem dX8_views_106 : decode cX8_views 106 = .ok (.iload 5, 2) := by decide +kernel
theorem dX8_views_108 : decode cX8_views 108 = .ok (.invokestatic 248, 3) := by decide +kernel
theorem dX8_views_111 : decode cX8_views 111 = .ok (.ireturn, 1) := by decide +kernel
theorem dX8_drawn_0 : decode cX8_drawn 0 = .ok (.iload_n 1, 1) := by decide +kernel
theorem dX8_drawn_1 : decode cX8_drawn 1 = .ok (.invokestatic 122, 3) := by decide +kernel
theorem dX8_drawn_4 : decode cX8_drawn 4 = .ok (.ifCond .ne 6, 3) := by decide +kernel
theorem dX8_drawn_7 : decode cX8_drawn 7 = .ok (.bipush (-2), 2) := by decide +kernel
theorem dX8_drawn_9 : decode cX8_drawn 9 = .ok (.ireturn, 1) := by decide +kernel
theorem dX8_drawn_10 : decode cX8_drawn 10 = .ok (.aload_n 0, 1) := by decide +kernel
theorem dX8_drawn_11 : decode cX8_drawn 11 = .ok (.iload_n 1, 1) := by decide +kernel
theorem dX8_drawn_12 : decode cX8_drawn 12 = .ok (.iload_n 2, 1) := by decide +kernel
theorem dX8_drawn_13 : decode cX8_drawn 13 = .ok (.invokevirtual 251, 3) := by decide +kernel
theorem dX8_drawn_16 : decode cX8_drawn 16 = .ok (.ireturn, 1) := by decide +kernel
theorem dX8_chance_0 : decode cX8_chance 0 = .ok (.iload_n 1, 1) := by decide +kernel
theorem dX8_chance_1 : decode cX8_chance 1 = .ok (.invokestatic 122, 3) := by decide +kernel
theorem dX8_chance_4 : decode cX8_chance 4 = .ok (.ifCond .eq 14, 3) := by decide +kernel
theorem dX8_chance_7 : decode cX8_chance 7 = .ok (.iload_n 3, 1) := by decide +kernel
theorem dX8_chance_8 : decode cX8_chance 8 = .ok (.iconst 1, 1) := by decide +kernel
theorem dX8_chance_9 : decode cX8_chance 9 = .ok (.if_icmp .lt 9, 3) := by decide +kernel
theorem dX8_chance_12 : decode cX8_chance 12 = .ok (.iload_n 3, 1) := by decide +kernel
theorem dX8_chance_13 : decode cX8_chance 13 = .ok (.bipush 20, 2) := by decide +kernel
theorem dX8_chance_15 : decode cX8_chance 15 = .ok (.if_icmp .le 7, 3) := by decide +kernel
theorem dX8_chance_18 : decode cX8_chance 18 = .ok (.ldc2_w 254, 3) := by decide +kernel
theorem dX8_chance_21 : decode cX8_chance 21 = .ok (.lreturn, 1) := by decide +kernel
theorem dX8_chance_22 : decode cX8_chance 22 = .ok (.iload 4, 2) := by decide +kernel
theorem dX8_chance_24 : decode cX8_chance 24 = .ok (.ifCond .lt 22, 3) := by decide +kernel
theorem dX8_chance_27 : decode cX8_chance 27 = .ok (.iload 4, 2) := by decide +kernel
theorem dX8_chance_29 : decode cX8_chance 29 = .ok (.ldc_w 256, 3) := by decide +kernel
theorem dX8_chance_32 : decode cX8_chance 32 = .ok (.if_icmp .gt 14, 3) := by decide +kernel
theorem dX8_chance_35 : decode cX8_chance 35 = .ok (.iload 5, 2) := by decide +kernel
theorem dX8_chance_37 : decode cX8_chance 37 = .ok (.ifCond .lt 9, 3) := by decide +kernel
theorem dX8_chance_40 : decode cX8_chance 40 = .ok (.iload 5, 2) := by decide +kernel
theorem dX8_chance_42 : decode cX8_chance 42 = .ok (.iconst 1, 1) := by decide +kernel
theorem dX8_chance_43 : decode cX8_chance 43 = .ok (.if_icmp .le 7, 3) := by decide +kernel
theorem dX8_chance_46 : decode cX8_chance 46 = .ok (.ldc2_w 254, 3) := by decide +kernel
theorem dX8_chance_49 : decode cX8_chance 49 = .ok (.lreturn, 1) := by decide +kernel
theorem dX8_chance_50 : decode cX8_chance 50 = .ok (.iconst 0, 1) := by decide +kernel
theorem dX8_chance_51 : decode cX8_chance 51 = .ok (.istore 6, 2) := by decide +kernel
theorem dX8_chance_53 : decode cX8_chance 53 = .ok (.iconst 0, 1) := by decide +kernel
theorem dX8_chance_54 : decode cX8_chance 54 = .ok (.istore 7, 2) := by decide +kernel
theorem dX8_chance_56 : decode cX8_chance 56 = .ok (.iload 7, 2) := by decide +kernel
theorem dX8_chance_58 : decode cX8_chance 58 = .ok (.iload_n 3, 1) := by decide +kernel
theorem dX8_chance_59 : decode cX8_chance 59 = .ok (.if_icmp .ge 26, 3) := by decide +kernel
theorem dX8_chance_62 : decode cX8_chance 62 = .ok (.aload_n 0, 1) := by decide +kernel
theorem dX8_chance_63 : decode cX8_chance 63 = .ok (.iload_n 1, 1) := by decide +kernel
theorem dX8_chance_64 : decode cX8_chance 64 = .ok (.iload_n 2, 1) := by decide +kernel
theorem dX8_chance_65 : decode cX8_chance 65 = .ok (.iload 7, 2) := by decide +kernel
theorem dX8_chance_67 : decode cX8_chance 67 = .ok (.iadd, 1) := by decide +kernel
theorem dX8_chance_68 : decode cX8_chance 68 = .ok (.invokevirtual 251, 3) := by decide +kernel
theorem dX8_chance_71 : decode cX8_chance 71 = .ok (.iload 4, 2) := by decide +kernel
theorem dX8_chance_73 : decode cX8_chance 73 = .ok (.if_icmp .gt 6, 3) := by decide +kernel
theorem dX8_chance_76 : decode cX8_chance 76 = .ok (.iinc 6 1, 3) := by decide +kernel
theorem dX8_chance_79 : decode cX8_chance 79 = .ok (.iinc 7 1, 3) := by decide +kernel
theorem dX8_chance_82 : decode cX8_chance 82 = .ok (.goto (-26), 3) := by decide +kernel
theorem dX8_chance_85 : decode cX8_chance 85 = .ok (.iload_n 3, 1) := by decide +kernel
theorem dX8_chance_86 : decode cX8_chance 86 = .ok (.iload 6, 2) := by decide +kernel
theorem dX8_chance_88 : decode cX8_chance 88 = .ok (.invokestatic 257, 3) := by decide +kernel
theorem dX8_chance_91 : decode cX8_chance 91 = .ok (.istore 7, 2) := by decide +kernel
theorem dX8_chance_93 : decode cX8_chance 93 = .ok (.iload 5, 2) := by decide +kernel
theorem dX8_chance_95 : decode cX8_chance 95 = .ok (.ifCond .ne 8, 3) := by decide +kernel
theorem dX8_chance_98 : decode cX8_chance 98 = .ok (.iload 6, 2) := by decide +kernel
theorem dX8_chance_100 : decode cX8_chance 100 = .ok (.goto 4, 3) := by decide +kernel
theorem dX8_chance_103 : decode cX8_chance 103 = .ok (.iload_n 3, 1) := by decide +kernel
theorem dX8_chance_104 : decode cX8_chance 104 = .ok (.iload 7, 2) := by decide +kernel
theorem dX8_chance_106 : decode cX8_chance 106 = .ok (.idiv, 1) := by decide +kernel
theorem dX8_chance_107 : decode cX8_chance 107 = .ok (.i2l, 1) := by decide +kernel
theorem dX8_chance_108 : decode cX8_chance 108 = .ok (.lreturn, 1) := by decide +kernel
theorem dX8_image_0 : decode cX8_image 0 = .ok (.aload_n 0, 1) := by decide +kernel
theorem dX8_image_1 : decode cX8_image 1 = .ok (.getfield 16, 3) := by decide +kernel
theorem dX8_image_4 : decode cX8_image 4 = .ok (.aload_n 0, 1) := by decide +kernel
theorem dX8_image_5 : decode cX8_image 5 = .ok (.getfield 12, 3) := by decide +kernel
theorem dX8_image_8 : decode cX8_image 8 = .ok (.invokevirtual 260, 3) := by decide +kernel
theorem dX8_image_11 : decode cX8_image 11 = .ok (.aload_n 0, 1) := by decide +kernel
theorem dX8_image_12 : decode cX8_image 12 = .ok (.iconst 1, 1) := by decide +kernel
theorem dX8_image_13 : decode cX8_image 13 = .ok (.putfield 263, 3) := by decide +kernel
theorem dX8_image_16 : decode cX8_image 16 = .ok (.aload_n 0, 1) := by decide +kernel
theorem dX8_image_17 : decode cX8_image 17 = .ok (.getfield 16, 3) := by decide +kernel
theorem dX8_image_20 : decode cX8_image 20 = .ok (.getfield 125, 3) := by decide +kernel
theorem dX8_image_23 : decode cX8_image 23 = .ok (.ireturn, 1) := by decide +kernel
theorem dX8_back_0 : decode cX8_back 0 = .ok (.aload_n 0, 1) := by decide +kernel
theorem dX8_back_1 : decode cX8_back 1 = .ok (.getfield 263, 3) := by decide +kernel
theorem dX8_back_4 : decode cX8_back 4 = .ok (.ifCond .ne 6, 3) := by decide +kernel
theorem dX8_back_7 : decode cX8_back 7 = .ok (.bipush (-3), 2) := by decide +kernel
theorem dX8_back_9 : decode cX8_back 9 = .ok (.ireturn, 1) := by decide +kernel
theorem dX8_back_10 : decode cX8_back 10 = .ok (.aload_n 0, 1) := by decide +kernel
theorem dX8_back_11 : decode cX8_back 11 = .ok (.getfield 12, 3) := by decide +kernel
theorem dX8_back_14 : decode cX8_back 14 = .ok (.aload_n 0, 1) := by decide +kernel
theorem dX8_back_15 : decode cX8_back 15 = .ok (.getfield 16, 3) := by decide +kernel
theorem dX8_back_18 : decode cX8_back 18 = .ok (.invokevirtual 260, 3) := by decide +kernel
theorem dX8_back_21 : decode cX8_back 21 = .ok (.aload_n 0, 1) := by decide +kernel
theorem dX8_back_22 : decode cX8_back 22 = .ok (.getfield 12, 3) := by decide +kernel
theorem dX8_back_25 : decode cX8_back 25 = .ok (.getfield 125, 3) := by decide +kernel
theorem dX8_back_28 : decode cX8_back 28 = .ok (.ireturn, 1) := by decide +kernel
theorem dX8_count_0 : decode cX8_count 0 = .ok (.iload_n 1, 1) := by decide +kernel
theorem dX8_count_1 : decode cX8_count 1 = .ok (.tableswitch 75 0 4 #[35, 43, 51, 59, 67], 35) := by decide +kernel
theorem dX8_count_36 : decode cX8_count 36 = .ok (.aload_n 0, 1) := by decide +kernel
theorem dX8_count_37 : decode cX8_count 37 = .ok (.getfield 12, 3) := by decide +kernel
theorem dX8_count_40 : decode cX8_count 40 = .ok (.getfield 125, 3) := by decide +kernel
theorem dX8_count_43 : decode cX8_count 43 = .ok (.ireturn, 1) := by decide +kernel
theorem dX8_count_44 : decode cX8_count 44 = .ok (.aload_n 0, 1) := by decide +kernel
theorem dX8_count_45 : decode cX8_count 45 = .ok (.getfield 36, 3) := by decide +kernel
theorem dX8_count_48 : decode cX8_count 48 = .ok (.getfield 167, 3) := by decide +kernel
theorem dX8_count_51 : decode cX8_count 51 = .ok (.ireturn, 1) := by decide +kernel
theorem dX8_count_52 : decode cX8_count 52 = .ok (.aload_n 0, 1) := by decide +kernel
theorem dX8_count_53 : decode cX8_count 53 = .ok (.getfield 22, 3) := by decide +kernel
theorem dX8_count_56 : decode cX8_count 56 = .ok (.getfield 166, 3) := by decide +kernel
theorem dX8_count_59 : decode cX8_count 59 = .ok (.ireturn, 1) := by decide +kernel
theorem dX8_count_60 : decode cX8_count 60 = .ok (.aload_n 0, 1) := by decide +kernel
theorem dX8_count_61 : decode cX8_count 61 = .ok (.getfield 12, 3) := by decide +kernel
theorem dX8_count_64 : decode cX8_count 64 = .ok (.getfield 171, 3) := by decide +kernel
theorem dX8_count_67 : decode cX8_count 67 = .ok (.ireturn, 1) := by decide +kernel
theorem dX8_count_68 : decode cX8_count 68 = .ok (.aload_n 0, 1) := by decide +kernel
theorem dX8_count_69 : decode cX8_count 69 = .ok (.getfield 12, 3) := by decide +kernel
theorem dX8_count_72 : decode cX8_count 72 = .ok (.invokevirtual 267, 3) := by decide +kernel
theorem dX8_count_75 : decode cX8_count 75 = .ok (.ireturn, 1) := by decide +kernel
theorem dX8_count_76 : decode cX8_count 76 = .ok (.bipush (-2), 2) := by decide +kernel
theorem dX8_count_78 : decode cX8_count 78 = .ok (.ireturn, 1) := by decide +kernel
theorem dX8_sheet_0 : decode cX8_sheet 0 = .ok (.iload_n 1, 1) := by decide +kernel
theorem dX8_sheet_1 : decode cX8_sheet 1 = .ok (.invokestatic 221, 3) := by decide +kernel
theorem dX8_sheet_4 : decode cX8_sheet 4 = .ok (.ifCond .eq 15, 3) := by decide +kernel
theorem dX8_sheet_7 : decode cX8_sheet 7 = .ok (.iload_n 2, 1) := by decide +kernel
theorem dX8_sheet_8 : decode cX8_sheet 8 = .ok (.iconst (-1), 1) := by decide +kernel
theorem dX8_sheet_9 : decode cX8_sheet 9 = .ok (.if_icmp .eq 13, 3) := by decide +kernel
theorem dX8_sheet_12 : decode cX8_sheet 12 = .ok (.iload_n 2, 1) := by decide +kernel
theorem dX8_sheet_13 : decode cX8_sheet 13 = .ok (.invokestatic 270, 3) := by decide +kernel
theorem dX8_sheet_16 : decode cX8_sheet 16 = .ok (.ifCond .ne 6, 3) := by decide +kernel
theorem dX8_sheet_19 : decode cX8_sheet 19 = .ok (.bipush (-2), 2) := by decide +kernel
theorem dX8_sheet_21 : decode cX8_sheet 21 = .ok (.ireturn, 1) := by decide +kernel
theorem dX8_sheet_22 : decode cX8_sheet 22 = .ok (.iload_n 2, 1) := by decide +kernel
theorem dX8_sheet_23 : decode cX8_sheet 23 = .ok (.iconst (-1), 1) := by decide +kernel
theorem dX8_sheet_24 : decode cX8_sheet 24 = .ok (.if_icmp .ne 16, 3) := by decide +kernel
theorem dX8_sheet_27 : decode cX8_sheet 27 = .ok (.aload_n 0, 1) := by decide +kernel
theorem dX8_sheet_28 : decode cX8_sheet 28 = .ok (.getfield 49, 3) := by decide +kernel
theorem dX8_sheet_31 : decode cX8_sheet 31 = .ok (.iload_n 1, 1) := by decide +kernel
theorem dX8_sheet_32 : decode cX8_sheet 32 = .ok (.aaload, 1) := by decide +kernel
theorem dX8_sheet_33 : decode cX8_sheet 33 = .ok (.iconst (-1), 1) := by decide +kernel
theorem dX8_sheet_34 : decode cX8_sheet 34 = .ok (.iconst 0, 1) := by decide +kernel
theorem dX8_sheet_35 : decode cX8_sheet 35 = .ok (.invokevirtual 224, 3) := by decide +kernel
theorem dX8_sheet_38 : decode cX8_sheet 38 = .ok (.iconst 1, 1) := by decide +kernel
theorem dX8_sheet_39 : decode cX8_sheet 39 = .ok (.ireturn, 1) := by decide +kernel
theorem dX8_sheet_40 : decode cX8_sheet 40 = .ok (.iload_n 3, 1) := by decide +kernel
theorem dX8_sheet_41 : decode cX8_sheet 41 = .ok (.bipush 40, 2) := by decide +kernel
theorem dX8_sheet_43 : decode cX8_sheet 43 = .ok (.if_icmp .le 6, 3) := by decide +kernel
theorem dX8_sheet_46 : decode cX8_sheet 46 = .ok (.bipush (-2), 2) := by decide +kernel
theorem dX8_sheet_48 : decode cX8_sheet 48 = .ok (.ireturn, 1) := by decide +kernel
theorem dX8_sheet_49 : decode cX8_sheet 49 = .ok (.iload_n 3, 1) := by decide +kernel
theorem dX8_sheet_50 : decode cX8_sheet 50 = .ok (.ifCond .ge 6, 3) := by decide +kernel
theorem dX8_sheet_53 : decode cX8_sheet 53 = .ok (.bipush (-14), 2) := by decide +kernel
theorem dX8_sheet_55 : decode cX8_sheet 55 = .ok (.ireturn, 1) := by decide +kernel
theorem dX8_sheet_56 : decode cX8_sheet 56 = .ok (.aload_n 0, 1) := by decide +kernel
theorem dX8_sheet_57 : decode cX8_sheet 57 = .ok (.getfield 49, 3) := by decide +kernel
theorem dX8_sheet_60 : decode cX8_sheet 60 = .ok (.iload_n 1, 1) := by decide +kernel
theorem dX8_sheet_61 : decode cX8_sheet 61 = .ok (.aaload, 1) := by decide +kernel
theorem dX8_sheet_62 : decode cX8_sheet 62 = .ok (.iload_n 2, 1) := by decide +kernel
theorem dX8_sheet_63 : decode cX8_sheet 63 = .ok (.iload_n 3, 1) := by decide +kernel
theorem dX8_sheet_64 : decode cX8_sheet 64 = .ok (.invokevirtual 224, 3) := by decide +kernel
theorem dX8_sheet_67 : decode cX8_sheet 67 = .ok (.iconst 1, 1) := by decide +kernel
theorem dX8_sheet_68 : decode cX8_sheet 68 = .ok (.ireturn, 1) := by decide +kernel
theorem dX8_cell_0 : decode cX8_cell 0 = .ok (.iload_n 1, 1) := by decide +kernel
theorem dX8_cell_1 : decode cX8_cell 1 = .ok (.invokestatic 221, 3) := by decide +kernel
theorem dX8_cell_4 : decode cX8_cell 4 = .ok (.ifCond .ne 6, 3) := by decide +kernel
theorem dX8_cell_7 : decode cX8_cell 7 = .ok (.bipush (-2), 2) := by decide +kernel
theorem dX8_cell_9 : decode cX8_cell 9 = .ok (.ireturn, 1) := by decide +kernel
theorem dX8_cell_10 : decode cX8_cell 10 = .ok (.aload_n 0, 1) := by decide +kernel
theorem dX8_cell_11 : decode cX8_cell 11 = .ok (.getfield 49, 3) := by decide +kernel
theorem dX8_cell_14 : decode cX8_cell 14 = .ok (.iload_n 1, 1) := by decide +kernel
theorem dX8_cell_15 : decode cX8_cell 15 = .ok (.aaload, 1) := by decide +kernel
theorem dX8_cell_16 : decode cX8_cell 16 = .ok (.astore 4, 2) := by decide +kernel
theorem dX8_cell_18 : decode cX8_cell 18 = .ok (.aload 4, 2) := by decide +kernel
theorem dX8_cell_20 : decode cX8_cell 20 = .ok (.invokevirtual 273, 3) := by decide +kernel
theorem dX8_cell_23 : decode cX8_cell 23 = .ok (.ifCond .eq 6, 3) := by decide +kernel
theorem dX8_cell_26 : decode cX8_cell 26 = .ok (.bipush (-11), 2) := by decide +kernel
theorem dX8_cell_28 : decode cX8_cell 28 = .ok (.ireturn, 1) := by decide +kernel
theorem dX8_cell_29 : decode cX8_cell 29 = .ok (.aload 4, 2) := by decide +kernel
theorem dX8_cell_31 : decode cX8_cell 31 = .ok (.iload_n 2, 1) := by decide +kernel
theorem dX8_cell_32 : decode cX8_cell 32 = .ok (.invokevirtual 277, 3) := by decide +kernel
theorem dX8_cell_35 : decode cX8_cell 35 = .ok (.ifCond .ne 6, 3) := by decide +kernel
theorem dX8_cell_38 : decode cX8_cell 38 = .ok (.bipush (-12), 2) := by decide +kernel
theorem dX8_cell_40 : decode cX8_cell 40 = .ok (.ireturn, 1) := by decide +kernel
theorem dX8_cell_41 : decode cX8_cell 41 = .ok (.aload 4, 2) := by decide +kernel
theorem dX8_cell_43 : decode cX8_cell 43 = .ok (.iload_n 2, 1) := by decide +kernel
theorem dX8_cell_44 : decode cX8_cell 44 = .ok (.iload_n 3, 1) := by decide +kernel
theorem dX8_cell_45 : decode cX8_cell 45 = .ok (.invokevirtual 231, 3) := by decide +kernel
theorem dX8_cell_48 : decode cX8_cell 48 = .ok (.iconst 1, 1) := by decide +kernel
theorem dX8_cell_49 : decode cX8_cell 49 = .ok (.ireturn, 1) := by decide +kernel
theorem dX8_copy_0 : decode cX8_copy 0 = .ok (.iload_n 1, 1) := by decide +kernel
theorem dX8_copy_1 : decode cX8_copy 1 = .ok (.invokestatic 221, 3) := by decide +kernel
theorem dX8_copy_4 : decode cX8_copy 4 = .ok (.ifCond .eq 10, 3) := by decide +kernel
theorem dX8_copy_7 : decode cX8_copy 7 = .ok (.iload_n 3, 1) := by decide +kernel
theorem dX8_copy_8 : decode cX8_copy 8 = .ok (.invokestatic 221, 3) := by decide +kernel
theorem dX8_copy_11 : decode cX8_copy 11 = .ok (.ifCond .ne 6, 3) := by decide +kernel
theorem dX8_copy_14 : decode cX8_copy 14 = .ok (.bipush (-2), 2) := by decide +kernel
theorem dX8_copy_16 : decode cX8_copy 16 = .ok (.ireturn, 1) := by decide +kernel
theorem dX8_copy_17 : decode cX8_copy 17 = .ok (.aload_n 0, 1) := by decide +kernel
theorem dX8_copy_18 : decode cX8_copy 18 = .ok (.getfield 49, 3) := by decide +kernel
theorem dX8_copy_21 : decode cX8_copy 21 = .ok (.iload_n 1, 1) := by decide +kernel
theorem dX8_copy_22 : decode cX8_copy 22 = .ok (.aaload, 1) := by decide +kernel
theorem dX8_copy_23 : decode cX8_copy 23 = .ok (.astore 6, 2) := by decide +kernel
theorem dX8_copy_25 : decode cX8_copy 25 = .ok (.aload_n 0, 1) := by decide +kernel
theorem dX8_copy_26 : decode cX8_copy 26 = .ok (.getfield 49, 3) := by decide +kernel
theorem dX8_copy_29 : decode cX8_copy 29 = .ok (.iload_n 3, 1) := by decide +kernel
theorem dX8_copy_30 : decode cX8_copy 30 = .ok (.aaload, 1) := by decide +kernel
theorem dX8_copy_31 : decode cX8_copy 31 = .ok (.astore 7, 2) := by decide +kernel
theorem dX8_copy_33 : decode cX8_copy 33 = .ok (.aload 6, 2) := by decide +kernel
theorem dX8_copy_35 : decode cX8_copy 35 = .ok (.invokevirtual 273, 3) := by decide +kernel
theorem dX8_copy_38 : decode cX8_copy 38 = .ok (.ifCond .ne 11, 3) := by decide +kernel
theorem dX8_copy_41 : decode cX8_copy 41 = .ok (.aload 7, 2) := by decide +kernel
theorem dX8_copy_43 : decode cX8_copy 43 = .ok (.invokevirtual 273, 3) := by decide +kernel
theorem dX8_copy_46 : decode cX8_copy 46 = .ok (.ifCond .eq 6, 3) := by decide +kernel
theorem dX8_copy_49 : decode cX8_copy 49 = .ok (.bipush (-11), 2) := by decide +kernel
theorem dX8_copy_51 : decode cX8_copy 51 = .ok (.ireturn, 1) := by decide +kernel
theorem dX8_copy_52 : decode cX8_copy 52 = .ok (.aload 6, 2) := by decide +kernel
theorem dX8_copy_54 : decode cX8_copy 54 = .ok (.getfield 278, 3) := by decide +kernel
theorem dX8_copy_57 : decode cX8_copy 57 = .ok (.aload 7, 2) := by decide +kernel
theorem dX8_copy_59 : decode cX8_copy 59 = .ok (.getfield 278, 3) := by decide +kernel
theorem dX8_copy_62 : decode cX8_copy 62 = .ok (.if_icmp .eq 6, 3) := by decide +kernel
theorem dX8_copy_65 : decode cX8_copy 65 = .ok (.bipush (-13), 2) := by decide +kernel
theorem dX8_copy_67 : decode cX8_copy 67 = .ok (.ireturn, 1) := by decide +kernel
theorem dX8_copy_68 : decode cX8_copy 68 = .ok (.aload 6, 2) := by decide +kernel
theorem dX8_copy_70 : decode cX8_copy 70 = .ok (.iload_n 2, 1) := by decide +kernel
theorem dX8_copy_71 : decode cX8_copy 71 = .ok (.iload 5, 2) := by decide +kernel
theorem dX8_copy_73 : decode cX8_copy 73 = .ok (.invokevirtual 281, 3) := by decide +kernel
theorem dX8_copy_76 : decode cX8_copy 76 = .ok (.ifCond .eq 15, 3) := by decide +kernel
theorem dX8_copy_79 : decode cX8_copy 79 = .ok (.aload 7, 2) := by decide +kernel
theorem dX8_copy_81 : decode cX8_copy 81 = .ok (.iload 4, 2) := by decide +kernel
theorem dX8_copy_83 : decode cX8_copy 83 = .ok (.iload 5, 2) := by decide +kernel
theorem dX8_copy_85 : decode cX8_copy 85 = .ok (.invokevirtual 281, 3) := by decide +kernel
theorem dX8_copy_88 : decode cX8_copy 88 = .ok (.ifCond .ne 6, 3) := by decide +kernel
theorem dX8_copy_91 : decode cX8_copy 91 = .ok (.bipush (-12), 2) := by decide +kernel
theorem dX8_copy_93 : decode cX8_copy 93 = .ok (.ireturn, 1) := by decide +kernel
theorem dX8_copy_94 : decode cX8_copy 94 = .ok (.aload 6, 2) := by decide +kernel
theorem dX8_copy_96 : decode cX8_copy 96 = .ok (.getfield 284, 3) := by decide +kernel
theorem dX8_copy_99 : decode cX8_copy 99 = .ok (.iload_n 2, 1) := by decide +kernel
theorem dX8_copy_100 : decode cX8_copy 100 = .ok (.aload 7, 2) := by decide +kernel
theorem dX8_copy_102 : decode cX8_copy 102 = .ok (.getfield 284, 3) := by decide +kernel
theorem dX8_copy_105 : decode cX8_copy 105 = .ok (.iload 4, 2) := by decide +kernel
theorem dX8_copy_107 : decode cX8_copy 107 = .ok (.iload 5, 2) := by decide +kernel
theorem dX8_copy_109 : decode cX8_copy 109 = .ok (.invokestatic 287, 3) := by decide +kernel
theorem dX8_copy_112 : decode cX8_copy 112 = .ok (.iload 5, 2) := by decide +kernel
theorem dX8_copy_114 : decode cX8_copy 114 = .ok (.ireturn, 1) := by decide +kernel
theorem dX8_weathers_0 : decode cX8_weathers 0 = .ok (.iload_n 1, 1) := by decide +kernel
theorem dX8_weathers_1 : decode cX8_weathers 1 = .ok (.invokestatic 221, 3) := by decide +kernel
theorem dX8_weathers_4 : decode cX8_weathers 4 = .ok (.ifCond .eq 22, 3) := by decide +kernel
theorem dX8_weathers_7 : decode cX8_weathers 7 = .ok (.iload_n 2, 1) := by decide +kernel
theorem dX8_weathers_8 : decode cX8_weathers 8 = .ok (.invokestatic 270, 3) := by decide +kernel
theorem dX8_weathers_11 : decode cX8_weathers 11 = .ok (.ifCond .eq 15, 3) := by decide +kernel
theorem dX8_weathers_14 : decode cX8_weathers 14 = .ok (.iload 4, 2) := by decide +kernel
theorem dX8_weathers_16 : decode cX8_weathers 16 = .ok (.ifCond .lt 10, 3) := by decide +kernel
theorem dX8_weathers_19 : decode cX8_weathers 19 = .ok (.iload 4, 2) := by decide +kernel
theorem dX8_weathers_21 : decode cX8_weathers 21 = .ok (.bipush 20, 2) := by decide +kernel
theorem dX8_weathers_23 : decode cX8_weathers 23 = .ok (.if_icmp .le 6, 3) := by decide +kernel
theorem dX8_weathers_26 : decode cX8_weathers 26 = .ok (.bipush (-2), 2) := by decide +kernel
theorem dX8_weathers_28 : decode cX8_weathers 28 = .ok (.ireturn, 1) := by decide +kernel
theorem dX8_weathers_29 : decode cX8_weathers 29 = .ok (.aload_n 0, 1) := by decide +kernel
theorem dX8_weathers_30 : decode cX8_weathers 30 = .ok (.getfield 49, 3) := by decide +kernel
theorem dX8_weathers_33 : decode cX8_weathers 33 = .ok (.iload_n 1, 1) := by decide +kernel
theorem dX8_weathers_34 : decode cX8_weathers 34 = .ok (.aaload, 1) := by decide +kernel
theorem dX8_weathers_35 : decode cX8_weathers 35 = .ok (.astore 5, 2) := by decide +kernel
theorem dX8_weathers_37 : decode cX8_weathers 37 = .ok (.aload 5, 2) := by decide +kernel
theorem dX8_weathers_39 : decode cX8_weathers 39 = .ok (.invokevirtual 273, 3) := by decide +kernel
theorem dX8_weathers_42 : decode cX8_weathers 42 = .ok (.ifCond .ne 15, 3) := by decide +kernel
theorem dX8_weathers_45 : decode cX8_weathers 45 = .ok (.aload 5, 2) := by decide +kernel
theorem dX8_weathers_47 : decode cX8_weathers 47 = .ok (.getfield 278, 3) := by decide +kernel
theorem dX8_weathers_50 : decode cX8_weathers 50 = .ok (.iload_n 2, 1) := by decide +kernel
theorem dX8_weathers_51 : decode cX8_weathers 51 = .ok (.if_icmp .eq 6, 3) := by decide +kernel
theorem dX8_weathers_54 : decode cX8_weathers 54 = .ok (.bipush (-13), 2) := by decide +kernel
theorem dX8_weathers_56 : decode cX8_weathers 56 = .ok (.ireturn, 1) := by decide +kernel
theorem dX8_weathers_57 : decode cX8_weathers 57 = .ok (.aload 5, 2) := by decide +kernel
theorem dX8_weathers_59 : decode cX8_weathers 59 = .ok (.invokevirtual 273, 3) := by decide +kernel
theorem dX8_weathers_62 : decode cX8_weathers 62 = .ok (.ifCond .eq 6, 3) := by decide +kernel
theorem dX8_weathers_65 : decode cX8_weathers 65 = .ok (.bipush (-11), 2) := by decide +kernel
theorem dX8_weathers_67 : decode cX8_weathers 67 = .ok (.ireturn, 1) := by decide +kernel
theorem dX8_weathers_68 : decode cX8_weathers 68 = .ok (.iconst 0, 1) := by decide +kernel
theorem dX8_weathers_69 : decode cX8_weathers 69 = .ok (.istore 6, 2) := by decide +kernel
theorem dX8_weathers_71 : decode cX8_weathers 71 = .ok (.iconst 0, 1) := by decide +kernel
theorem dX8_weathers_72 : decode cX8_weathers 72 = .ok (.istore 7, 2) := by decide +kernel
theorem dX8_weathers_74 : decode cX8_weathers 74 = .ok (.iload 7, 2) := by decide +kernel
theorem dX8_weathers_76 : decode cX8_weathers 76 = .ok (.iload 4, 2) := by decide +kernel
theorem dX8_weathers_78 : decode cX8_weathers 78 = .ok (.if_icmp .ge 73, 3) := by decide +kernel
theorem dX8_weathers_81 : decode cX8_weathers 81 = .ok (.iload_n 3, 1) := by decide +kernel
theorem dX8_weathers_82 : decode cX8_weathers 82 = .ok (.iconst 2, 1) := by decide +kernel
theorem dX8_weathers_83 : decode cX8_weathers 83 = .ok (.iload 7, 2) := by decide +kernel
theorem dX8_weathers_85 : decode cX8_weathers 85 = .ok (.imul, 1) := by decide +kernel
theorem dX8_weathers_86 : decode cX8_weathers 86 = .ok (.iadd, 1) := by decide +kernel
theorem dX8_weathers_87 : decode cX8_weathers 87 = .ok (.istore 8, 2) := by decide +kernel
theorem dX8_weathers_89 : decode cX8_weathers 89 = .ok (.aload 5, 2) := by decide +kernel
theorem dX8_weathers_91 : decode cX8_weathers 91 = .ok (.iload 8, 2) := by decide +kernel
theorem dX8_weathers_93 : decode cX8_weathers 93 = .ok (.invokevirtual 277, 3) := by decide +kernel
theorem dX8_weathers_96 : decode cX8_weathers 96 = .ok (.ifCond .eq 15, 3) := by decide +kernel
theorem dX8_weathers_99 : decode cX8_weathers 99 = .ok (.aload 5, 2) := by decide +kernel
theorem dX8_weathers_101 : decode cX8_weathers 101 = .ok (.iload 8, 2) := by decide +kernel
theorem dX8_weathers_103 : decode cX8_weathers 103 = .ok (.iconst 1, 1) := by decide +kernel
theorem dX8_weathers_104 : decode cX8_weathers 104 = .ok (.iadd, 1) := by decide +kernel
theorem dX8_weathers_105 : decode cX8_weathers 105 = .ok (.invokevirtual 277, 3) := by decide +kernel
theorem dX8_weathers_108 : decode cX8_weathers 108 = .ok (.ifCond .ne 6, 3) := by decide +kernel
theorem dX8_weathers_111 : decode cX8_weathers 111 = .ok (.bipush (-12), 2) := by decide +kernel
theorem dX8_weathers_113 : decode cX8_weathers 113 = .ok (.ireturn, 1) := by decide +kernel
theorem dX8_weathers_114 : decode cX8_weathers 114 = .ok (.aload_n 0, 1) := by decide +kernel
theorem dX8_weathers_115 : decode cX8_weathers 115 = .ok (.iconst 0, 1) := by decide +kernel
theorem dX8_weathers_116 : decode cX8_weathers 116 = .ok (.aload 5, 2) := by decide +kernel
theorem dX8_weathers_118 : decode cX8_weathers 118 = .ok (.getfield 284, 3) := by decide +kernel
theorem dX8_weathers_121 : decode cX8_weathers 121 = .ok (.iload 8, 2) := by decide +kernel
theorem dX8_weathers_123 : decode cX8_weathers 123 = .ok (.iaload, 1) := by decide +kernel
theorem dX8_weathers_124 : decode cX8_weathers 124 = .ok (.aload 5, 2) := by decide +kernel
theorem dX8_weathers_126 : decode cX8_weathers 126 = .ok (.getfield 284, 3) := by decide +kernel
theorem dX8_weathers_129 : decode cX8_weathers 129 = .ok (.iload 8, 2) := by decide +kernel
theorem dX8_weathers_131 : decode cX8_weathers 131 = .ok (.iconst 1, 1) := by decide +kernel
theorem dX8_weathers_132 : decode cX8_weathers 132 = .ok (.iadd, 1) := by decide +kernel
theorem dX8_weathers_133 : decode cX8_weathers 133 = .ok (.iaload, 1) := by decide +kernel
theorem dX8_weathers_134 : decode cX8_weathers 134 = .ok (.invokevirtual 293, 3) := by decide +kernel
theorem dX8_weathers_137 : decode cX8_weathers 137 = .ok (.bipush (-100), 2) := by decide +kernel
theorem dX8_weathers_139 : decode cX8_weathers 139 = .ok (.if_icmp .eq 6, 3) := by decide +kernel
theorem dX8_weathers_142 : decode cX8_weathers 142 = .ok (.iinc 6 1, 3) := by decide +kernel
theorem dX8_weathers_145 : decode cX8_weathers 145 = .ok (.iinc 7 1, 3) := by decide +kernel
theorem dX8_weathers_148 : decode cX8_weathers 148 = .ok (.goto (-74), 3) := by decide +kernel
theorem dX8_weathers_151 : decode cX8_weathers 151 = .ok (.iload 6, 2) := by decide +kernel
theorem dX8_weathers_153 : decode cX8_weathers 153 = .ok (.ireturn, 1) := by decide +kernel
theorem dX8_taken_0 : decode cX8_taken 0 = .ok (.iload_n 2, 1) := by decide +kernel
theorem dX8_taken_1 : decode cX8_taken 1 = .ok (.invokestatic 119, 3) := by decide +kernel
theorem dX8_taken_4 : decode cX8_taken 4 = .ok (.ifCond .ne 6, 3) := by decide +kernel
theorem dX8_taken_7 : decode cX8_taken 7 = .ok (.bipush (-2), 2) := by decide +kernel
theorem dX8_taken_9 : decode cX8_taken 9 = .ok (.ireturn, 1) := by decide +kernel
theorem dX8_taken_10 : decode cX8_taken 10 = .ok (.aload_n 0, 1) := by decide +kernel
theorem dX8_taken_11 : decode cX8_taken 11 = .ok (.getfield 12, 3) := by decide +kernel
theorem dX8_taken_14 : decode cX8_taken 14 = .ok (.iload_n 1, 1) := by decide +kernel
theorem dX8_taken_15 : decode cX8_taken 15 = .ok (.invokevirtual 150, 3) := by decide +kernel
theorem dX8_taken_18 : decode cX8_taken 18 = .ok (.ifCond .ne 6, 3) := by decide +kernel
theorem dX8_taken_21 : decode cX8_taken 21 = .ok (.bipush (-11), 2) := by decide +kernel
theorem dX8_taken_23 : decode cX8_taken 23 = .ok (.ireturn, 1) := by decide +kernel
theorem dX8_taken_24 : decode cX8_taken 24 = .ok (.aload_n 0, 1) := by decide +kernel
theorem dX8_taken_25 : decode cX8_taken 25 = .ok (.getfield 12, 3) := by decide +kernel
theorem dX8_taken_28 : decode cX8_taken 28 = .ok (.getfield 111, 3) := by decide +kernel
theorem dX8_taken_31 : decode cX8_taken 31 = .ok (.iload_n 1, 1) := by decide +kernel
theorem dX8_taken_32 : decode cX8_taken 32 = .ok (.aaload, 1) := by decide +kernel
theorem dX8_taken_33 : decode cX8_taken 33 = .ok (.astore_n 3, 1) := by decide +kernel
theorem dX8_taken_34 : decode cX8_taken 34 = .ok (.aload_n 3, 1) := by decide +kernel
theorem dX8_taken_35 : decode cX8_taken 35 = .ok (.getfield 129, 3) := by decide +kernel
theorem dX8_taken_38 : decode cX8_taken 38 = .ok (.iload_n 2, 1) := by decide +kernel
theorem dX8_taken_39 : decode cX8_taken 39 = .ok (.invokestatic 296, 3) := by decide +kernel
theorem dX8_taken_42 : decode cX8_taken 42 = .ok (.ifCond .eq 10, 3) := by decide +kernel
theorem dX8_taken_45 : decode cX8_taken 45 = .ok (.aload_n 3, 1) := by decide +kernel
theorem dX8_taken_46 : decode cX8_taken 46 = .ok (.getfield 132, 3) := by decide +kernel
theorem dX8_taken_49 : decode cX8_taken 49 = .ok (.goto 5, 3) := by decide +kernel
theorem dX8_taken_52 : decode cX8_taken 52 = .ok (.bipush (-13), 2) := by decide +kernel
theorem dX8_taken_54 : decode cX8_taken 54 = .ok (.ireturn, 1) := by decide +kernel
theorem dX8_isRoom_0 : decode cX8_isRoom 0 = .ok (.iload_n 0, 1) := by decide +kernel
theorem dX8_isRoom_1 : decode cX8_isRoom 1 = .ok (.ifCond .lt 13, 3) := by decide +kernel
theorem dX8_isRoom_4 : decode cX8_isRoom 4 = .ok (.iload_n 0, 1) := by decide +kernel
theorem dX8_isRoom_5 : decode cX8_isRoom 5 = .ok (.bipush 6, 2) := by decide +kernel
theorem dX8_isRoom_7 : decode cX8_isRoom 7 = .ok (.if_icmp .ge 7, 3) := by decide +kernel
theorem dX8_isRoom_10 : decode cX8_isRoom 10 = .ok (.iconst 1, 1) := by decide +kernel
theorem dX8_isRoom_11 : decode cX8_isRoom 11 = .ok (.goto 4, 3) := by decide +kernel
theorem dX8_isRoom_14 : decode cX8_isRoom 14 = .ok (.iconst 0, 1) := by decide +kernel
theorem dX8_isRoom_15 : decode cX8_isRoom 15 = .ok (.ireturn, 1) := by decide +kernel
theorem dX8_isDay_0 : decode cX8_isDay 0 = .ok (.iload_n 0, 1) := by decide +kernel
theorem dX8_isDay_1 : decode cX8_isDay 1 = .ok (.ifCond .lt 13, 3) := by decide +kernel
theorem dX8_isDay_4 : decode cX8_isDay 4 = .ok (.iload_n 0, 1) := by decide +kernel
theorem dX8_isDay_5 : decode cX8_isDay 5 = .ok (.bipush 32, 2) := by decide +kernel
theorem dX8_isDay_7 : decode cX8_isDay 7 = .ok (.if_icmp .ge 7, 3) := by decide +kernel
theorem dX8_isDay_10 : decode cX8_isDay 10 = .ok (.iconst 1, 1) := by decide +kernel
theorem dX8_isDay_11 : decode cX8_isDay 11 = .ok (.goto 4, 3) := by decide +kernel
theorem dX8_isDay_14 : decode cX8_isDay 14 = .ok (.iconst 0, 1) := by decide +kernel
theorem dX8_isDay_15 : decode cX8_isDay 15 = .ok (.ireturn, 1) := by decide +kernel
theorem dX8_isSpot_0 : decode cX8_isSpot 0 = .ok (.iload_n 0, 1) := by decide +kernel
theorem dX8_isSpot_1 : decode cX8_isSpot 1 = .ok (.ifCond .lt 14, 3) := by decide +kernel
theorem dX8_isSpot_4 : decode cX8_isSpot 4 = .ok (.iload_n 0, 1) := by decide +kernel
theorem dX8_isSpot_5 : decode cX8_isSpot 5 = .ok (.sipush 192, 3) := by decide +kernel
theorem dX8_isSpot_8 : decode cX8_isSpot 8 = .ok (.if_icmp .ge 7, 3) := by decide +kernel
theorem dX8_isSpot_11 : decode cX8_isSpot 11 = .ok (.iconst 1, 1) := by decide +kernel
theorem dX8_isSpot_12 : decode cX8_isSpot 12 = .ok (.goto 4, 3) := by decide +kernel
theorem dX8_isSpot_15 : decode cX8_isSpot 15 = .ok (.iconst 0, 1) := by decide +kernel
theorem dX8_isSpot_16 : decode cX8_isSpot 16 = .ok (.ireturn, 1) := by decide +kernel
theorem dX8_isSort_0 : decode cX8_isSort 0 = .ok (.iload_n 0, 1) := by decide +kernel
theorem dX8_isSort_1 : decode cX8_isSort 1 = .ok (.ifCond .lt 12, 3) := by decide +kernel
theorem dX8_isSort_4 : decode cX8_isSort 4 = .ok (.iload_n 0, 1) := by decide +kernel
theorem dX8_isSort_5 : decode cX8_isSort 5 = .ok (.iconst 2, 1) := by decide +kernel
theorem dX8_isSort_6 : decode cX8_isSort 6 = .ok (.if_icmp .gt 7, 3) := by decide +kernel
theorem dX8_isSort_9 : decode cX8_isSort 9 = .ok (.iconst 1, 1) := by decide +kernel
theorem dX8_isSort_10 : decode cX8_isSort 10 = .ok (.goto 4, 3) := by decide +kernel
theorem dX8_isSort_13 : decode cX8_isSort 13 = .ok (.iconst 0, 1) := by decide +kernel
theorem dX8_isSort_14 : decode cX8_isSort 14 = .ok (.ireturn, 1) := by decide +kernel
theorem dX8_isKind_0 : decode cX8_isKind 0 = .ok (.iload_n 0, 1) := by decide +kernel
theorem dX8_isKind_1 : decode cX8_isKind 1 = .ok (.ifCond .lt 12, 3) := by decide +kernel
theorem dX8_isKind_4 : decode cX8_isKind 4 = .ok (.iload_n 0, 1) := by decide +kernel
theorem dX8_isKind_5 : decode cX8_isKind 5 = .ok (.iconst 5, 1) := by decide +kernel
theorem dX8_isKind_6 : decode cX8_isKind 6 = .ok (.if_icmp .gt 7, 3) := by decide +kernel
theorem dX8_isKind_9 : decode cX8_isKind 9 = .ok (.iconst 1, 1) := by decide +kernel
theorem dX8_isKind_10 : decode cX8_isKind 10 = .ok (.goto 4, 3) := by decide +kernel
theorem dX8_isKind_13 : decode cX8_isKind 13 = .ok (.iconst 0, 1) := by decide +kernel
theorem dX8_isKind_14 : decode cX8_isKind 14 = .ok (.ireturn, 1) := by decide +kernel
theorem dX8_isSheet_0 : decode cX8_isSheet 0 = .ok (.iload_n 0, 1) := by decide +kernel
theorem dX8_isSheet_1 : decode cX8_isSheet 1 = .ok (.ifCond .lt 12, 3) := by decide +kernel
theorem dX8_isSheet_4 : decode cX8_isSheet 4 = .ok (.iload_n 0, 1) := by decide +kernel
theorem dX8_isSheet_5 : decode cX8_isSheet 5 = .ok (.iconst 4, 1) := by decide +kernel
theorem dX8_isSheet_6 : decode cX8_isSheet 6 = .ok (.if_icmp .ge 7, 3) := by decide +kernel
theorem dX8_isSheet_9 : decode cX8_isSheet 9 = .ok (.iconst 1, 1) := by decide +kernel
theorem dX8_isSheet_10 : decode cX8_isSheet 10 = .ok (.goto 4, 3) := by decide +kernel
theorem dX8_isSheet_13 : decode cX8_isSheet 13 = .ok (.iconst 0, 1) := by decide +kernel
theorem dX8_isSheet_14 : decode cX8_isSheet 14 = .ok (.ireturn, 1) := by decide +kernel
theorem dX8_isRowSort_0 : decode cX8_isRowSort 0 = .ok (.iload_n 0, 1) := by decide +kernel
theorem dX8_isRowSort_1 : decode cX8_isRowSort 1 = .ok (.ifCond .lt 12, 3) := by decide +kernel
theorem dX8_isRowSort_4 : decode cX8_isRowSort 4 = .ok (.iload_n 0, 1) := by decide +kernel
theorem dX8_isRowSort_5 : decode cX8_isRowSort 5 = .ok (.iconst 2, 1) := by decide +kernel
theorem dX8_isRowSort_6 : decode cX8_isRowSort 6 = .ok (.if_icmp .gt 7, 3) := by decide +kernel
theorem dX8_isRowSort_9 : decode cX8_isRowSort 9 = .ok (.iconst 1, 1) := by decide +kernel
theorem dX8_isRowSort_10 : decode cX8_isRowSort 10 = .ok (.goto 4, 3) := by decide +kernel
theorem dX8_isRowSort_13 : decode cX8_isRowSort 13 = .ok (.iconst 0, 1) := by decide +kernel
theorem dX8_isRowSort_14 : decode cX8_isRowSort 14 = .ok (.ireturn, 1) := by decide +kernel
theorem dX8_fits_0 : decode cX8_fits 0 = .ok (.iload_n 0, 1) := by decide +kernel
theorem dX8_fits_1 : decode cX8_fits 1 = .ok (.tableswitch 90 0 4 #[35, 51, 67, 85, 85], 35) := by decide +kernel
theorem dX8_fits_36 : decode cX8_fits 36 = .ok (.iload_n 1, 1) := by decide +kernel
theorem dX8_fits_37 : decode cX8_fits 37 = .ok (.ifCond .lt 13, 3) := by decide +kernel
theorem dX8_fits_40 : decode cX8_fits 40 = .ok (.iload_n 1, 1) := by decide +kernel
theorem dX8_fits_41 : decode cX8_fits 41 = .ok (.bipush 9, 2) := by decide +kernel
theorem dX8_fits_43 : decode cX8_fits 43 = .ok (.if_icmp .gt 7, 3) := by decide +kernel
theorem dX8_fits_46 : decode cX8_fits 46 = .ok (.iconst 1, 1) := by decide +kernel
theorem dX8_fits_47 : decode cX8_fits 47 = .ok (.goto 4, 3) := by decide +kernel
theorem dX8_fits_50 : decode cX8_fits 50 = .ok (.iconst 0, 1) := by decide +kernel
theorem dX8_fits_51 : decode cX8_fits 51 = .ok (.ireturn, 1) := by decide +kernel
theorem dX8_fits_52 : decode cX8_fits 52 = .ok (.iload_n 1, 1) := by decide +kernel
theorem dX8_fits_53 : decode cX8_fits 53 = .ok (.ifCond .lt 13, 3) := by decide +kernel
theorem dX8_fits_56 : decode cX8_fits 56 = .ok (.iload_n 1, 1) := by decide +kernel
theorem dX8_fits_57 : decode cX8_fits 57 = .ok (.bipush 9, 2) := by decide +kernel
theorem dX8_fits_59 : decode cX8_fits 59 = .ok (.if_icmp .gt 7, 3) := by decide +kernel
theorem dX8_fits_62 : decode cX8_fits 62 = .ok (.iconst 1, 1) := by decide +kernel
theorem dX8_fits_63 : decode cX8_fits 63 = .ok (.goto 4, 3) := by decide +kernel
theorem dX8_fits_66 : decode cX8_fits 66 = .ok (.iconst 0, 1) := by decide +kernel
theorem dX8_fits_67 : decode cX8_fits 67 = .ok (.ireturn, 1) := by decide +kernel
theorem dX8_fits_68 : decode cX8_fits 68 = .ok (.iload_n 1, 1) := by decide +kernel
theorem dX8_fits_69 : decode cX8_fits 69 = .ok (.bipush (-9), 2) := by decide +kernel
theorem dX8_fits_71 : decode cX8_fits 71 = .ok (.if_icmp .lt 13, 3) := by decide +kernel
theorem dX8_fits_74 : decode cX8_fits 74 = .ok (.iload_n 1, 1) := by decide +kernel
theorem dX8_fits_75 : decode cX8_fits 75 = .ok (.bipush 9, 2) := by decide +kernel
theorem dX8_fits_77 : decode cX8_fits 77 = .ok (.if_icmp .gt 7, 3) := by decide +kernel
theorem dX8_fits_80 : decode cX8_fits 80 = .ok (.iconst 1, 1) := by decide +kernel
theorem dX8_fits_81 : decode cX8_fits 81 = .ok (.goto 4, 3) := by decide +kernel
theorem dX8_fits_84 : decode cX8_fits 84 = .ok (.iconst 0, 1) := by decide +kernel
theorem dX8_fits_85 : decode cX8_fits 85 = .ok (.ireturn, 1) := by decide +kernel
theorem dX8_fits_86 : decode cX8_fits 86 = .ok (.iload_n 1, 1) := by decide +kernel
theorem dX8_fits_87 : decode cX8_fits 87 = .ok (.invokestatic 122, 3) := by decide +kernel
theorem dX8_fits_90 : decode cX8_fits 90 = .ok (.ireturn, 1) := by decide +kernel
theorem dX8_fits_91 : decode cX8_fits 91 = .ok (.iconst 0, 1) := by decide +kernel
theorem dX8_fits_92 : decode cX8_fits 92 = .ok (.ireturn, 1) := by decide +kernel
theorem dX8_isUnder_0 : decode cX8_isUnder 0 = .ok (.iload_n 0, 1) := by decide +kernel
theorem dX8_isUnder_1 : decode cX8_isUnder 1 = .ok (.istore_n 2, 1) := by decide +kernel
theorem dX8_isUnder_2 : decode cX8_isUnder 2 = .ok (.iconst 0, 1) := by decide +kernel
theorem dX8_isUnder_3 : decode cX8_isUnder 3 = .ok (.istore_n 3, 1) := by decide +kernel
theorem dX8_isUnder_4 : decode cX8_isUnder 4 = .ok (.iload_n 3, 1) := by decide +kernel
theorem dX8_isUnder_5 : decode cX8_isUnder 5 = .ok (.getstatic 299, 3) := by decide +kernel
theorem dX8_isUnder_8 : decode cX8_isUnder 8 = .ok (.arraylength, 1) := by decide +kernel
theorem dX8_isUnder_9 : decode cX8_isUnder 9 = .ok (.if_icmp .ge 29, 3) := by decide +kernel
theorem dX8_isUnder_12 : decode cX8_isUnder 12 = .ok (.iload_n 2, 1) := by decide +kernel
theorem dX8_isUnder_13 : decode cX8_isUnder 13 = .ok (.invokestatic 119, 3) := by decide +kernel
theorem dX8_isUnder_16 : decode cX8_isUnder 16 = .ok (.ifCond .eq 22, 3) := by decide +kernel
theorem dX8_isUnder_19 : decode cX8_isUnder 19 = .ok (.iload_n 2, 1) := by decide +kernel
theorem dX8_isUnder_20 : decode cX8_isUnder 20 = .ok (.iload_n 1, 1) := by decide +kernel
theorem dX8_isUnder_21 : decode cX8_isUnder 21 = .ok (.if_icmp .ne 5, 3) := by decide +kernel
theorem dX8_isUnder_24 : decode cX8_isUnder 24 = .ok (.iconst 1, 1) := by decide +kernel
theorem dX8_isUnder_25 : decode cX8_isUnder 25 = .ok (.ireturn, 1) := by decide +kernel
theorem dX8_isUnder_26 : decode cX8_isUnder 26 = .ok (.getstatic 299, 3) := by decide +kernel
theorem dX8_isUnder_29 : decode cX8_isUnder 29 = .ok (.iload_n 2, 1) := by decide +kernel
theorem dX8_isUnder_30 : decode cX8_isUnder 30 = .ok (.iaload, 1) := by decide +kernel
theorem dX8_isUnder_31 : decode cX8_isUnder 31 = .ok (.istore_n 2, 1) := by decide +kernel
theorem dX8_isUnder_32 : decode cX8_isUnder 32 = .ok (.iinc 3 1, 3) := by decide +kernel
theorem dX8_isUnder_35 : decode cX8_isUnder 35 = .ok (.goto (-31), 3) := by decide +kernel
theorem dX8_isUnder_38 : decode cX8_isUnder 38 = .ok (.iconst 0, 1) := by decide +kernel
theorem dX8_isUnder_39 : decode cX8_isUnder 39 = .ok (.ireturn, 1) := by decide +kernel
theorem dX8_fewestToBrick_0 : decode cX8_fewestToBrick 0 = .ok (.iconst 1, 1) := by decide +kernel
theorem dX8_fewestToBrick_1 : decode cX8_fewestToBrick 1 = .ok (.aload_n 0, 1) := by decide +kernel
theorem dX8_fewestToBrick_2 : decode cX8_fewestToBrick 2 = .ok (.getfield 12, 3) := by decide +kernel
theorem dX8_fewestToBrick_5 : decode cX8_fewestToBrick 5 = .ok (.getfield 125, 3) := by decide +kernel
theorem dX8_fewestToBrick_8 : decode cX8_fewestToBrick 8 = .ok (.ishl, 1) := by decide +kernel
theorem dX8_fewestToBrick_9 : decode cX8_fewestToBrick 9 = .ok (.istore 4, 2) := by decide +kernel
theorem dX8_fewestToBrick_11 : decode cX8_fewestToBrick 11 = .ok (.aload_n 0, 1) := by decide +kernel
theorem dX8_fewestToBrick_12 : decode cX8_fewestToBrick 12 = .ok (.getfield 43, 3) := by decide +kernel
theorem dX8_fewestToBrick_15 : decode cX8_fewestToBrick 15 = .ok (.aload_n 0, 1) := by decide +kernel
theorem dX8_fewestToBrick_16 : decode cX8_fewestToBrick 16 = .ok (.getfield 12, 3) := by decide +kernel
theorem dX8_fewestToBrick_19 : decode cX8_fewestToBrick 19 = .ok (.iload_n 1, 1) := by decide +kernel
theorem dX8_fewestToBrick_20 : decode cX8_fewestToBrick 20 = .ok (.iload_n 2, 1) := by decide +kernel
theorem dX8_fewestToBrick_21 : decode cX8_fewestToBrick 21 = .ok (.iload_n 3, 1) := by decide +kernel
theorem dX8_fewestToBrick_22 : decode cX8_fewestToBrick 22 = .ok (.iload 4, 2) := by decide +kernel
theorem dX8_fewestToBrick_24 : decode cX8_fewestToBrick 24 = .ok (.iconst 1, 1) := by decide +kernel
theorem dX8_fewestToBrick_25 : decode cX8_fewestToBrick 25 = .ok (.isub, 1) := by decide +kernel
theorem dX8_fewestToBrick_26 : decode cX8_fewestToBrick 26 = .ok (.invokevirtual 302, 3) := by decide +kernel
theorem dX8_fewestToBrick_29 : decode cX8_fewestToBrick 29 = .ok (.ifCond .eq 5, 3) := by decide +kernel
theorem dX8_fewestToBrick_32 : decode cX8_fewestToBrick 32 = .ok (.iconst (-1), 1) := by decide +kernel
theorem dX8_fewestToBrick_33 : decode cX8_fewestToBrick 33 = .ok (.ireturn, 1) := by decide +kernel
theorem dX8_fewestToBrick_34 : decode cX8_fewestToBrick 34 = .ok (.iconst 0, 1) := by decide +kernel
theorem dX8_fewestToBrick_35 : decode cX8_fewestToBrick 35 = .ok (.istore 5, 2) := by decide +kernel
theorem dX8_fewestToBrick_37 : decode cX8_fewestToBrick 37 = .ok (.iload 5, 2) := by decide +kernel
theorem dX8_fewestToBrick_39 : decode cX8_fewestToBrick 39 = .ok (.aload_n 0, 1) := by decide +kernel
theorem dX8_fewestToBrick_40 : decode cX8_fewestToBrick 40 = .ok (.getfield 12, 3) := by decide +kernel
theorem dX8_fewestToBrick_43 : decode cX8_fewestToBrick 43 = .ok (.getfield 125, 3) := by decide +kernel
theorem dX8_fewestToBrick_46 : decode cX8_fewestToBrick 46 = .ok (.if_icmp .gt 57, 3) := by decide +kernel
theorem dX8_fewestToBrick_49 : decode cX8_fewestToBrick 49 = .ok (.iconst 0, 1) := by decide +kernel
theorem dX8_fewestToBrick_50 : decode cX8_fewestToBrick 50 = .ok (.istore 6, 2) := by decide +kernel
theorem dX8_fewestToBrick_52 : decode cX8_fewestToBrick 52 = .ok (.iload 6, 2) := by decide +kernel
theorem dX8_fewestToBrick_54 : decode cX8_fewestToBrick 54 = .ok (.iload 4, 2) := by decide +kernel
theorem dX8_fewestToBrick_56 : decode cX8_fewestToBrick 56 = .ok (.if_icmp .ge 41, 3) := by decide +kernel
theorem dX8_fewestToBrick_59 : decode cX8_fewestToBrick 59 = .ok (.iload 6, 2) := by decide +kernel
theorem dX8_fewestToBrick_61 : decode cX8_fewestToBrick 61 = .ok (.invokestatic 240, 3) := by decide +kernel
theorem dX8_fewestToBrick_64 : decode cX8_fewestToBrick 64 = .ok (.iload 5, 2) := by decide +kernel
theorem dX8_fewestToBrick_66 : decode cX8_fewestToBrick 66 = .ok (.if_icmp .ne 25, 3) := by decide +kernel
theorem dX8_fewestToBrick_69 : decode cX8_fewestToBrick 69 = .ok (.aload_n 0, 1) := by decide +kernel
theorem dX8_fewestToBrick_70 : decode cX8_fewestToBrick 70 = .ok (.getfield 43, 3) := by decide +kernel
theorem dX8_fewestToBrick_73 : decode cX8_fewestToBrick 73 = .ok (.aload_n 0, 1) := by decide +kernel
theorem dX8_fewestToBrick_74 : decode cX8_fewestToBrick 74 = .ok (.getfield 12, 3) := by decide +kernel
theorem dX8_fewestToBrick_77 : decode cX8_fewestToBrick 77 = .ok (.iload_n 1, 1) := by decide +kernel
theorem dX8_fewestToBrick_78 : decode cX8_fewestToBrick 78 = .ok (.iload_n 2, 1) := by decide +kernel
theorem dX8_fewestToBrick_79 : decode cX8_fewestToBrick 79 = .ok (.iload_n 3, 1) := by decide +kernel
theorem dX8_fewestToBrick_80 : decode cX8_fewestToBrick 80 = .ok (.iload 6, 2) := by decide +kernel
theorem dX8_fewestToBrick_82 : decode cX8_fewestToBrick 82 = .ok (.invokevirtual 302, 3) := by decide +kernel
theorem dX8_fewestToBrick_85 : decode cX8_fewestToBrick 85 = .ok (.ifCond .ne 6, 3) := by decide +kernel
theorem dX8_fewestToBrick_88 : decode cX8_fewestToBrick 88 = .ok (.iload 6, 2) := by decide +kernel
theorem dX8_fewestToBrick_90 : decode cX8_fewestToBrick 90 = .ok (.ireturn, 1) := by decide +kernel
theorem dX8_fewestToBrick_91 : decode cX8_fewestToBrick 91 = .ok (.iinc 6 1, 3) := by decide +kernel
theorem dX8_fewestToBrick_94 : decode cX8_fewestToBrick 94 = .ok (.goto (-42), 3) := by decide +kernel
theorem dX8_fewestToBrick_97 : decode cX8_fewestToBrick 97 = .ok (.iinc 5 1, 3) := by decide +kernel
theorem dX8_fewestToBrick_100 : decode cX8_fewestToBrick 100 = .ok (.goto (-63), 3) := by decide +kernel
theorem dX8_fewestToBrick_103 : decode cX8_fewestToBrick 103 = .ok (.iconst (-1), 1) := by decide +kernel
theorem dX8_fewestToBrick_104 : decode cX8_fewestToBrick 104 = .ok (.ireturn, 1) := by decide +kernel
theorem dX8_neededAlone_0 : decode cX8_neededAlone 0 = .ok (.iconst 0, 1) := by decide +kernel
theorem dX8_neededAlone_1 : decode cX8_neededAlone 1 = .ok (.istore 4, 2) := by decide +kernel
theorem dX8_neededAlone_3 : decode cX8_neededAlone 3 = .ok (.iconst 0, 1) := by decide +kernel
theorem dX8_neededAlone_4 : decode cX8_neededAlone 4 = .ok (.istore 5, 2) := by decide +kernel
theorem dX8_neededAlone_6 : decode cX8_neededAlone 6 = .ok (.iload 5, 2) := by decide +kernel
theorem dX8_neededAlone_8 : decode cX8_neededAlone 8 = .ok (.aload_n 0, 1) := by decide +kernel
theorem dX8_neededAlone_9 : decode cX8_neededAlone 9 = .ok (.getfield 12, 3) := by decide +kernel
theorem dX8_neededAlone_12 : decode cX8_neededAlone 12 = .ok (.getfield 125, 3) := by decide +kernel
theorem dX8_neededAlone_15 : decode cX8_neededAlone 15 = .ok (.if_icmp .ge 39, 3) := by decide +kernel
theorem dX8_neededAlone_18 : decode cX8_neededAlone 18 = .ok (.aload_n 0, 1) := by decide +kernel
theorem dX8_neededAlone_19 : decode cX8_neededAlone 19 = .ok (.getfield 43, 3) := by decide +kernel
theorem dX8_neededAlone_22 : decode cX8_neededAlone 22 = .ok (.aload_n 0, 1) := by decide +kernel
theorem dX8_neededAlone_23 : decode cX8_neededAlone 23 = .ok (.getfield 12, 3) := by decide +kernel
theorem dX8_neededAlone_26 : decode cX8_neededAlone 26 = .ok (.iload_n 1, 1) := by decide +kernel
theorem dX8_neededAlone_27 : decode cX8_neededAlone 27 = .ok (.iload_n 2, 1) := by decide +kernel
theorem dX8_neededAlone_28 : decode cX8_neededAlone 28 = .ok (.iload_n 3, 1) := by decide +kernel
theorem dX8_neededAlone_29 : decode cX8_neededAlone 29 = .ok (.iconst 1, 1) := by decide +kernel
theorem dX8_neededAlone_30 : decode cX8_neededAlone 30 = .ok (.iload 5, 2) := by decide +kernel
theorem dX8_neededAlone_32 : decode cX8_neededAlone 32 = .ok (.ishl, 1) := by decide +kernel
theorem dX8_neededAlone_33 : decode cX8_neededAlone 33 = .ok (.invokevirtual 302, 3) := by decide +kernel
theorem dX8_neededAlone_36 : decode cX8_neededAlone 36 = .ok (.ifCond .ne 12, 3) := by decide +kernel
theorem dX8_neededAlone_39 : decode cX8_neededAlone 39 = .ok (.iload 4, 2) := by decide +kernel
theorem dX8_neededAlone_41 : decode cX8_neededAlone 41 = .ok (.iconst 1, 1) := by decide +kernel
theorem dX8_neededAlone_42 : decode cX8_neededAlone 42 = .ok (.iload 5, 2) := by decide +kernel
theorem dX8_neededAlone_44 : decode cX8_neededAlone 44 = .ok (.ishl, 1) := by decide +kernel
theorem dX8_neededAlone_45 : decode cX8_neededAlone 45 = .ok (.ior, 1) := by decide +kernel
theorem dX8_neededAlone_46 : decode cX8_neededAlone 46 = .ok (.istore 4, 2) := by decide +kernel
theorem dX8_neededAlone_48 : decode cX8_neededAlone 48 = .ok (.iinc 5 1, 3) := by decide +kernel
theorem dX8_neededAlone_51 : decode cX8_neededAlone 51 = .ok (.goto (-45), 3) := by decide +kernel
theorem dX8_neededAlone_54 : decode cX8_neededAlone 54 = .ok (.iload 4, 2) := by decide +kernel
theorem dX8_neededAlone_56 : decode cX8_neededAlone 56 = .ok (.ireturn, 1) := by decide +kernel
theorem dX8_refusalOfLook_0 : decode cX8_refusalOfLook 0 = .ok (.iload_n 1, 1) := by decide +kernel
theorem dX8_refusalOfLook_1 : decode cX8_refusalOfLook 1 = .ok (.invokestatic 221, 3) := by decide +kernel
theorem dX8_refusalOfLook_4 : decode cX8_refusalOfLook 4 = .ok (.ifCond .eq 33, 3) := by decide +kernel
theorem dX8_refusalOfLook_7 : decode cX8_refusalOfLook 7 = .ok (.aload_n 0, 1) := by decide +kernel
theorem dX8_refusalOfLook_8 : decode cX8_refusalOfLook 8 = .ok (.getfield 12, 3) := by decide +kernel
theorem dX8_refusalOfLook_11 : decode cX8_refusalOfLook 11 = .ok (.iload_n 2, 1) := by decide +kernel
theorem dX8_refusalOfLook_12 : decode cX8_refusalOfLook 12 = .ok (.invokevirtual 150, 3) := by decide +kernel
theorem dX8_refusalOfLook_15 : decode cX8_refusalOfLook 15 = .ok (.ifCond .eq 22, 3) := by decide +kernel
theorem dX8_refusalOfLook_18 : decode cX8_refusalOfLook 18 = .ok (.iload_n 3, 1) := by decide +kernel
theorem dX8_refusalOfLook_19 : decode cX8_refusalOfLook 19 = .ok (.invokestatic 147, 3) := by decide +kernel
theorem dX8_refusalOfLook_22 : decode cX8_refusalOfLook 22 = .ok (.ifCond .eq 15, 3) := by decide +kernel
theorem dX8_refusalOfLook_25 : decode cX8_refusalOfLook 25 = .ok (.iload 4, 2) := by decide +kernel
theorem dX8_refusalOfLook_27 : decode cX8_refusalOfLook 27 = .ok (.ifCond .lt 10, 3) := by decide +kernel
theorem dX8_refusalOfLook_30 : decode cX8_refusalOfLook 30 = .ok (.iload 4, 2) := by decide +kernel
theorem dX8_refusalOfLook_32 : decode cX8_refusalOfLook 32 = .ok (.iload 5, 2) := by decide +kernel
theorem dX8_refusalOfLook_34 : decode cX8_refusalOfLook 34 = .ok (.if_icmp .le 6, 3) := by decide +kernel
theorem dX8_refusalOfLook_37 : decode cX8_refusalOfLook 37 = .ok (.bipush (-2), 2) := by decide +kernel
theorem dX8_refusalOfLook_39 : decode cX8_refusalOfLook 39 = .ok (.ireturn, 1) := by decide +kernel
theorem dX8_refusalOfLook_40 : decode cX8_refusalOfLook 40 = .ok (.aload_n 0, 1) := by decide +kernel
theorem dX8_refusalOfLook_41 : decode cX8_refusalOfLook 41 = .ok (.getfield 49, 3) := by decide +kernel
theorem dX8_refusalOfLook_44 : decode cX8_refusalOfLook 44 = .ok (.iload_n 1, 1) := by decide +kernel
theorem dX8_refusalOfLook_45 : decode cX8_refusalOfLook 45 = .ok (.aaload, 1) := by decide +kernel
theorem dX8_refusalOfLook_46 : decode cX8_refusalOfLook 46 = .ok (.invokevirtual 273, 3) := by decide +kernel
theorem dX8_refusalOfLook_49 : decode cX8_refusalOfLook 49 = .ok (.ifCond .eq 6, 3) := by decide +kernel
theorem dX8_refusalOfLook_52 : decode cX8_refusalOfLook 52 = .ok (.bipush (-11), 2) := by decide +kernel
theorem dX8_refusalOfLook_54 : decode cX8_refusalOfLook 54 = .ok (.ireturn, 1) := by decide +kernel
theorem dX8_refusalOfLook_55 : decode cX8_refusalOfLook 55 = .ok (.aload_n 0, 1) := by decide +kernel
theorem dX8_refusalOfLook_56 : decode cX8_refusalOfLook 56 = .ok (.getfield 49, 3) := by decide +kernel
theorem dX8_refusalOfLook_59 : decode cX8_refusalOfLook 59 = .ok (.iload_n 1, 1) := by decide +kernel
theorem dX8_refusalOfLook_60 : decode cX8_refusalOfLook 60 = .ok (.aaload, 1) := by decide +kernel
theorem dX8_refusalOfLook_61 : decode cX8_refusalOfLook 61 = .ok (.getfield 306, 3) := by decide +kernel
theorem dX8_refusalOfLook_64 : decode cX8_refusalOfLook 64 = .ok (.bipush 10, 2) := by decide +kernel
theorem dX8_refusalOfLook_66 : decode cX8_refusalOfLook 66 = .ok (.if_icmp .le 8, 3) := by decide +kernel
theorem dX8_refusalOfLook_69 : decode cX8_refusalOfLook 69 = .ok (.bipush (-2), 2) := by decide +kernel
theorem dX8_refusalOfLook_71 : decode cX8_refusalOfLook 71 = .ok (.goto 4, 3) := by decide +kernel
theorem dX8_refusalOfLook_74 : decode cX8_refusalOfLook 74 = .ok (.iconst 0, 1) := by decide +kernel
theorem dX8_refusalOfLook_75 : decode cX8_refusalOfLook 75 = .ok (.ireturn, 1) := by decide +kernel
theorem dX8_firstOther_0 : decode cX8_firstOther 0 = .ok (.iconst 0, 1) := by decide +kernel
theorem dX8_firstOther_1 : decode cX8_firstOther 1 = .ok (.istore 4, 2) := by decide +kernel
theorem dX8_firstOther_3 : decode cX8_firstOther 3 = .ok (.iload 4, 2) := by decide +kernel
theorem dX8_firstOther_5 : decode cX8_firstOther 5 = .ok (.aload_n 1, 1) := by decide +kernel
theorem dX8_firstOther_6 : decode cX8_firstOther 6 = .ok (.getfield 306, 3) := by decide +kernel
theorem dX8_firstOther_9 : decode cX8_firstOther 9 = .ok (.if_icmp .ge 34, 3) := by decide +kernel
theorem dX8_firstOther_12 : decode cX8_firstOther 12 = .ok (.aload_n 1, 1) := by decide +kernel
theorem dX8_firstOther_13 : decode cX8_firstOther 13 = .ok (.getfield 284, 3) := by decide +kernel
theorem dX8_firstOther_16 : decode cX8_firstOther 16 = .ok (.iload 4, 2) := by decide +kernel
theorem dX8_firstOther_18 : decode cX8_firstOther 18 = .ok (.iaload, 1) := by decide +kernel
theorem dX8_firstOther_19 : decode cX8_firstOther 19 = .ok (.aload_n 0, 1) := by decide +kernel
theorem dX8_firstOther_20 : decode cX8_firstOther 20 = .ok (.getfield 12, 3) := by decide +kernel
theorem dX8_firstOther_23 : decode cX8_firstOther 23 = .ok (.aload_n 2, 1) := by decide +kernel
theorem dX8_firstOther_24 : decode cX8_firstOther 24 = .ok (.iload_n 3, 1) := by decide +kernel
theorem dX8_firstOther_25 : decode cX8_firstOther 25 = .ok (.iload 4, 2) := by decide +kernel
theorem dX8_firstOther_27 : decode cX8_firstOther 27 = .ok (.iadd, 1) := by decide +kernel
theorem dX8_firstOther_28 : decode cX8_firstOther 28 = .ok (.invokevirtual 227, 3) := by decide +kernel
theorem dX8_firstOther_31 : decode cX8_firstOther 31 = .ok (.if_icmp .eq 6, 3) := by decide +kernel
theorem dX8_firstOther_34 : decode cX8_firstOther 34 = .ok (.iload 4, 2) := by decide +kernel
theorem dX8_firstOther_36 : decode cX8_firstOther 36 = .ok (.ireturn, 1) := by decide +kernel
theorem dX8_firstOther_37 : decode cX8_firstOther 37 = .ok (.iinc 4 1, 3) := by decide +kernel
theorem dX8_firstOther_40 : decode cX8_firstOther 40 = .ok (.goto (-37), 3) := by decide +kernel
theorem dX8_firstOther_43 : decode cX8_firstOther 43 = .ok (.iconst (-1), 1) := by decide +kernel
theorem dX8_firstOther_44 : decode cX8_firstOther 44 = .ok (.ireturn, 1) := by decide +kernel
theorem dX8_fittingShifts_0 : decode cX8_fittingShifts 0 = .ok (.iconst 0, 1) := by decide +kernel
theorem dX8_fittingShifts_1 : decode cX8_fittingShifts 1 = .ok (.istore 4, 2) := by decide +kernel
theorem dX8_fittingShifts_3 : decode cX8_fittingShifts 3 = .ok (.aload_n 0, 1) := by decide +kernel
theorem dX8_fittingShifts_4 : decode cX8_fittingShifts 4 = .ok (.getfield 58, 3) := by decide +kernel
theorem dX8_fittingShifts_7 : decode cX8_fittingShifts 7 = .ok (.aload_n 2, 1) := by decide +kernel
theorem dX8_fittingShifts_8 : decode cX8_fittingShifts 8 = .ok (.invokevirtual 307, 3) := by decide +kernel
theorem dX8_fittingShifts_11 : decode cX8_fittingShifts 11 = .ok (.iconst 0, 1) := by decide +kernel
theorem dX8_fittingShifts_12 : decode cX8_fittingShifts 12 = .ok (.istore 5, 2) := by decide +kernel
theorem dX8_fittingShifts_14 : decode cX8_fittingShifts 14 = .ok (.iload 5, 2) := by decide +kernel
theorem dX8_fittingShifts_16 : decode cX8_fittingShifts 16 = .ok (.bipush 18, 2) := by decide +kernel
theorem dX8_fittingShifts_18 : decode cX8_fittingShifts 18 = .ok (.if_icmp .gt 44, 3) := by decide +kernel
theorem dX8_fittingShifts_21 : decode cX8_fittingShifts 21 = .ok (.aload_n 0, 1) := by decide +kernel
theorem dX8_fittingShifts_22 : decode cX8_fittingShifts 22 = .ok (.getfield 58, 3) := by decide +kernel
theorem dX8_fittingShifts_25 : decode cX8_fittingShifts 25 = .ok (.iload 5, 2) := by decide +kernel
theorem dX8_fittingShifts_27 : decode cX8_fittingShifts 27 = .ok (.bipush 9, 2) := by decide +kernel
theorem dX8_fittingShifts_29 : decode cX8_fittingShifts 29 = .ok (.isub, 1) := by decide +kernel
theorem dX8_fittingShifts_30 : decode cX8_fittingShifts 30 = .ok (.putfield 135, 3) := by decide +kernel
theorem dX8_fittingShifts_33 : decode cX8_fittingShifts 33 = .ok (.aload_n 0, 1) := by decide +kernel
theorem dX8_fittingShifts_34 : decode cX8_fittingShifts 34 = .ok (.aload_n 1, 1) := by decide +kernel
theorem dX8_fittingShifts_35 : decode cX8_fittingShifts 35 = .ok (.aload_n 0, 1) := by decide +kernel
theorem dX8_fittingShifts_36 : decode cX8_fittingShifts 36 = .ok (.getfield 58, 3) := by decide +kernel
theorem dX8_fittingShifts_39 : decode cX8_fittingShifts 39 = .ok (.iload_n 3, 1) := by decide +kernel
theorem dX8_fittingShifts_40 : decode cX8_fittingShifts 40 = .ok (.invokevirtual 207, 3) := by decide +kernel
theorem dX8_fittingShifts_43 : decode cX8_fittingShifts 43 = .ok (.iconst (-1), 1) := by decide +kernel
theorem dX8_fittingShifts_44 : decode cX8_fittingShifts 44 = .ok (.if_icmp .ne 12, 3) := by decide +kernel
theorem dX8_fittingShifts_47 : decode cX8_fittingShifts 47 = .ok (.iload 4, 2) := by decide +kernel
theorem dX8_fittingShifts_49 : decode cX8_fittingShifts 49 = .ok (.iconst 1, 1) := by decide +kernel
theorem dX8_fittingShifts_50 : decode cX8_fittingShifts 50 = .ok (.iload 5, 2) := by decide +kernel
theorem dX8_fittingShifts_52 : decode cX8_fittingShifts 52 = .ok (.ishl, 1) := by decide +kernel
theorem dX8_fittingShifts_53 : decode cX8_fittingShifts 53 = .ok (.ior, 1) := by decide +kernel
theorem dX8_fittingShifts_54 : decode cX8_fittingShifts 54 = .ok (.istore 4, 2) := by decide +kernel
theorem dX8_fittingShifts_56 : decode cX8_fittingShifts 56 = .ok (.iinc 5 1, 3) := by decide +kernel
theorem dX8_fittingShifts_59 : decode cX8_fittingShifts 59 = .ok (.goto (-45), 3) := by decide +kernel
theorem dX8_fittingShifts_62 : decode cX8_fittingShifts 62 = .ok (.iload 4, 2) := by decide +kernel
theorem dX8_fittingShifts_64 : decode cX8_fittingShifts 64 = .ok (.ireturn, 1) := by decide +kernel
theorem dX8_fittingKinds_0 : decode cX8_fittingKinds 0 = .ok (.iconst 0, 1) := by decide +kernel
theorem dX8_fittingKinds_1 : decode cX8_fittingKinds 1 = .ok (.istore 4, 2) := by decide +kernel
theorem dX8_fittingKinds_3 : decode cX8_fittingKinds 3 = .ok (.aload_n 0, 1) := by decide +kernel
theorem dX8_fittingKinds_4 : decode cX8_fittingKinds 4 = .ok (.getfield 58, 3) := by decide +kernel
theorem dX8_fittingKinds_7 : decode cX8_fittingKinds 7 = .ok (.aload_n 2, 1) := by decide +kernel
theorem dX8_fittingKinds_8 : decode cX8_fittingKinds 8 = .ok (.invokevirtual 307, 3) := by decide +kernel
theorem dX8_fittingKinds_11 : decode cX8_fittingKinds 11 = .ok (.iconst 0, 1) := by decide +kernel
theorem dX8_fittingKinds_12 : decode cX8_fittingKinds 12 = .ok (.istore 5, 2) := by decide +kernel
theorem dX8_fittingKinds_14 : decode cX8_fittingKinds 14 = .ok (.iload 5, 2) := by decide +kernel
theorem dX8_fittingKinds_16 : decode cX8_fittingKinds 16 = .ok (.iconst 5, 1) := by decide +kernel
theorem dX8_fittingKinds_17 : decode cX8_fittingKinds 17 = .ok (.if_icmp .gt 41, 3) := by decide +kernel
theorem dX8_fittingKinds_20 : decode cX8_fittingKinds 20 = .ok (.aload_n 0, 1) := by decide +kernel
theorem dX8_fittingKinds_21 : decode cX8_fittingKinds 21 = .ok (.getfield 58, 3) := by decide +kernel
theorem dX8_fittingKinds_24 : decode cX8_fittingKinds 24 = .ok (.iload 5, 2) := by decide +kernel
theorem dX8_fittingKinds_26 : decode cX8_fittingKinds 26 = .ok (.putfield 129, 3) := by decide +kernel
theorem dX8_fittingKinds_29 : decode cX8_fittingKinds 29 = .ok (.aload_n 0, 1) := by decide +kernel
theorem dX8_fittingKinds_30 : decode cX8_fittingKinds 30 = .ok (.aload_n 1, 1) := by decide +kernel
theorem dX8_fittingKinds_31 : decode cX8_fittingKinds 31 = .ok (.aload_n 0, 1) := by decide +kernel
theorem dX8_fittingKinds_32 : decode cX8_fittingKinds 32 = .ok (.getfield 58, 3) := by decide +kernel
theorem dX8_fittingKinds_35 : decode cX8_fittingKinds 35 = .ok (.iload_n 3, 1) := by decide +kernel
theorem dX8_fittingKinds_36 : decode cX8_fittingKinds 36 = .ok (.invokevirtual 207, 3) := by decide +kernel
theorem dX8_fittingKinds_39 : decode cX8_fittingKinds 39 = .ok (.iconst (-1), 1) := by decide +kernel
theorem dX8_fittingKinds_40 : decode cX8_fittingKinds 40 = .ok (.if_icmp .ne 12, 3) := by decide +kernel
theorem dX8_fittingKinds_43 : decode cX8_fittingKinds 43 = .ok (.iload 4, 2) := by decide +kernel
theorem dX8_fittingKinds_45 : decode cX8_fittingKinds 45 = .ok (.iconst 1, 1) := by decide +kernel
theorem dX8_fittingKinds_46 : decode cX8_fittingKinds 46 = .ok (.iload 5, 2) := by decide +kernel
theorem dX8_fittingKinds_48 : decode cX8_fittingKinds 48 = .ok (.ishl, 1) := by decide +kernel
theorem dX8_fittingKinds_49 : decode cX8_fittingKinds 49 = .ok (.ior, 1) := by decide +kernel
theorem dX8_fittingKinds_50 : decode cX8_fittingKinds 50 = .ok (.istore 4, 2) := by decide +kernel
theorem dX8_fittingKinds_52 : decode cX8_fittingKinds 52 = .ok (.iinc 5 1, 3) := by decide +kernel
theorem dX8_fittingKinds_55 : decode cX8_fittingKinds 55 = .ok (.goto (-41), 3) := by decide +kernel
theorem dX8_fittingKinds_58 : decode cX8_fittingKinds 58 = .ok (.iload 4, 2) := by decide +kernel
theorem dX8_fittingKinds_60 : decode cX8_fittingKinds 60 = .ok (.ireturn, 1) := by decide +kernel
theorem dX8_unlikeShown_0 : decode cX8_unlikeShown 0 = .ok (.iconst 0, 1) := by decide +kernel
theorem dX8_unlikeShown_1 : decode cX8_unlikeShown 1 = .ok (.istore 4, 2) := by decide +kernel
theorem dX8_unlikeShown_3 : decode cX8_unlikeShown 3 = .ok (.aload_n 0, 1) := by decide +kernel
theorem dX8_unlikeShown_4 : decode cX8_unlikeShown 4 = .ok (.getfield 58, 3) := by decide +kernel
theorem dX8_unlikeShown_7 : decode cX8_unlikeShown 7 = .ok (.aload_n 1, 1) := by decide +kernel
theorem dX8_unlikeShown_8 : decode cX8_unlikeShown 8 = .ok (.invokevirtual 307, 3) := by decide +kernel
theorem dX8_unlikeShown_11 : decode cX8_unlikeShown 11 = .ok (.iconst 0, 1) := by decide +kernel
theorem dX8_unlikeShown_12 : decode cX8_unlikeShown 12 = .ok (.istore 5, 2) := by decide +kernel
theorem dX8_unlikeShown_14 : decode cX8_unlikeShown 14 = .ok (.iload 5, 2) := by decide +kernel
theorem dX8_unlikeShown_16 : decode cX8_unlikeShown 16 = .ok (.bipush 18, 2) := by decide +kernel
theorem dX8_unlikeShown_18 : decode cX8_unlikeShown 18 = .ok (.if_icmp .gt 52, 3) := by decide +kernel
theorem dX8_unlikeShown_21 : decode cX8_unlikeShown 21 = .ok (.iload_n 2, 1) := by decide +kernel
theorem dX8_unlikeShown_22 : decode cX8_unlikeShown 22 = .ok (.iload 5, 2) := by decide +kernel
theorem dX8_unlikeShown_24 : decode cX8_unlikeShown 24 = .ok (.ishr, 1) := by decide +kernel
theorem dX8_unlikeShown_25 : decode cX8_unlikeShown 25 = .ok (.iconst 1, 1) := by decide +kernel
theorem dX8_unlikeShown_26 : decode cX8_unlikeShown 26 = .ok (.iand, 1) := by decide +kernel
theorem dX8_unlikeShown_27 : decode cX8_unlikeShown 27 = .ok (.iconst 1, 1) := by decide +kernel
theorem dX8_unlikeShown_28 : decode cX8_unlikeShown 28 = .ok (.if_icmp .ne 36, 3) := by decide +kernel
theorem dX8_unlikeShown_31 : decode cX8_unlikeShown 31 = .ok (.aload_n 0, 1) := by decide +kernel
theorem dX8_unlikeShown_32 : decode cX8_unlikeShown 32 = .ok (.getfield 58, 3) := by decide +kernel
theorem dX8_unlikeShown_35 : decode cX8_unlikeShown 35 = .ok (.iload 5, 2) := by decide +kernel
theorem dX8_unlikeShown_37 : decode cX8_unlikeShown 37 = .ok (.bipush 9, 2) := by decide +kernel
theorem dX8_unlikeShown_39 : decode cX8_unlikeShown 39 = .ok (.isub, 1) := by decide +kernel
theorem dX8_unlikeShown_40 : decode cX8_unlikeShown 40 = .ok (.putfield 135, 3) := by decide +kernel
theorem dX8_unlikeShown_43 : decode cX8_unlikeShown 43 = .ok (.iload 4, 2) := by decide +kernel
theorem dX8_unlikeShown_45 : decode cX8_unlikeShown 45 = .ok (.iconst 1, 1) := by decide +kernel
theorem dX8_unlikeShown_46 : decode cX8_unlikeShown 46 = .ok (.aload_n 0, 1) := by decide +kernel
theorem dX8_unlikeShown_47 : decode cX8_unlikeShown 47 = .ok (.getfield 12, 3) := by decide +kernel
theorem dX8_unlikeShown_50 : decode cX8_unlikeShown 50 = .ok (.aload_n 0, 1) := by decide +kernel
theorem dX8_unlikeShown_51 : decode cX8_unlikeShown 51 = .ok (.getfield 58, 3) := by decide +kernel
theorem dX8_unlikeShown_54 : decode cX8_unlikeShown 54 = .ok (.iload_n 3, 1) := by decide +kernel
theorem dX8_unlikeShown_55 : decode cX8_unlikeShown 55 = .ok (.invokevirtual 227, 3) := by decide +kernel
theorem dX8_unlikeShown_58 : decode cX8_unlikeShown 58 = .ok (.iconst 1, 1) := by decide +kernel
theorem dX8_unlikeShown_59 : decode cX8_unlikeShown 59 = .ok (.iadd, 1) := by decide +kernel
theorem dX8_unlikeShown_60 : decode cX8_unlikeShown 60 = .ok (.ishl, 1) := by decide +kernel
theorem dX8_unlikeShown_61 : decode cX8_unlikeShown 61 = .ok (.ior, 1) := by decide +kernel
theorem dX8_unlikeShown_62 : decode cX8_unlikeShown 62 = .ok (.istore 4, 2) := by decide +kernel
theorem dX8_unlikeShown_64 : decode cX8_unlikeShown 64 = .ok (.iinc 5 1, 3) := by decide +kernel
theorem dX8_unlikeShown_67 : decode cX8_unlikeShown 67 = .ok (.goto (-53), 3) := by decide +kernel
theorem dX8_unlikeShown_70 : decode cX8_unlikeShown 70 = .ok (.iload 4, 2) := by decide +kernel
theorem dX8_unlikeShown_72 : decode cX8_unlikeShown 72 = .ok (.invokestatic 240, 3) := by decide +kernel
theorem dX8_unlikeShown_75 : decode cX8_unlikeShown 75 = .ok (.ireturn, 1) := by decide +kernel
theorem dX8_flood_0 : decode cX8_flood 0 = .ok (.aload_n 0, 1) := by decide +kernel
theorem dX8_flood_1 : decode cX8_flood 1 = .ok (.getfield 62, 3) := by decide +kernel
theorem dX8_flood_4 : decode cX8_flood 4 = .ok (.iconst 0, 1) := by decide +kernel
theorem dX8_flood_5 : decode cX8_flood 5 = .ok (.invokestatic 310, 3) := by decide +kernel
theorem dX8_flood_8 : decode cX8_flood 8 = .ok (.iconst 0, 1) := by decide +kernel
theorem dX8_flood_9 : decode cX8_flood 9 = .ok (.istore_n 3, 1) := by decide +kernel
theorem dX8_flood_10 : decode cX8_flood 10 = .ok (.iconst 0, 1) := by decide +kernel
theorem dX8_flood_11 : decode cX8_flood 11 = .ok (.istore 4, 2) := by decide +kernel
theorem dX8_flood_13 : decode cX8_flood 13 = .ok (.iload 4, 2) := by decide +kernel
theorem dX8_flood_15 : decode cX8_flood 15 = .ok (.aload_n 0, 1) := by decide +kernel
theorem dX8_flood_16 : decode cX8_flood 16 = .ok (.getfield 12, 3) := by decide +kernel
theorem dX8_flood_19 : decode cX8_flood 19 = .ok (.getfield 125, 3) := by decide +kernel
theorem dX8_flood_22 : decode cX8_flood 22 = .ok (.if_icmp .ge 101, 3) := by decide +kernel
theorem dX8_flood_25 : decode cX8_flood 25 = .ok (.aload_n 0, 1) := by decide +kernel
theorem dX8_flood_26 : decode cX8_flood 26 = .ok (.getfield 12, 3) := by decide +kernel
theorem dX8_flood_29 : decode cX8_flood 29 = .ok (.getfield 111, 3) := by decide +kernel
theorem dX8_flood_32 : decode cX8_flood 32 = .ok (.iload 4, 2) := by decide +kernel
theorem dX8_flood_34 : decode cX8_flood 34 = .ok (.aaload, 1) := by decide +kernel
theorem dX8_flood_35 : decode cX8_flood 35 = .ok (.astore 5, 2) := by decide +kernel
theorem dX8_flood_37 : decode cX8_flood 37 = .ok (.iconst 0, 1) := by decide +kernel
theorem dX8_flood_38 : decode cX8_flood 38 = .ok (.istore 6, 2) := by decide +kernel
theorem dX8_flood_40 : decode cX8_flood 40 = .ok (.iload 6, 2) := by decide +kernel
theorem dX8_flood_42 : decode cX8_flood 42 = .ok (.bipush 32, 2) := by decide +kernel
theorem dX8_flood_44 : decode cX8_flood 44 = .ok (.if_icmp .ge 73, 3) := by decide +kernel
theorem dX8_flood_47 : decode cX8_flood 47 = .ok (.aload 5, 2) := by decide +kernel
theorem dX8_flood_49 : decode cX8_flood 49 = .ok (.invokevirtual 316, 3) := by decide +kernel
theorem dX8_flood_52 : decode cX8_flood 52 = .ok (.iload_n 1, 1) := by decide +kernel
theorem dX8_flood_53 : decode cX8_flood 53 = .ok (.if_icmp .ne 64, 3) := by decide +kernel
theorem dX8_flood_56 : decode cX8_flood 56 = .ok (.aload 5, 2) := by decide +kernel
theorem dX8_flood_58 : decode cX8_flood 58 = .ok (.iload 6, 2) := by decide +kernel
theorem dX8_flood_60 : decode cX8_flood 60 = .ok (.iconst 2, 1) := by decide +kernel
theorem dX8_flood_61 : decode cX8_flood 61 = .ok (.invokevirtual 163, 3) := by decide +kernel
theorem dX8_flood_64 : decode cX8_flood 64 = .ok (.ifCond .eq 47, 3) := by decide +kernel
theorem dX8_flood_67 : decode cX8_flood 67 = .ok (.aload_n 0, 1) := by decide +kernel
theorem dX8_flood_68 : decode cX8_flood 68 = .ok (.getfield 36, 3) := by decide +kernel
theorem dX8_flood_71 : decode cX8_flood 71 = .ok (.aload_n 0, 1) := by decide +kernel
theorem dX8_flood_72 : decode cX8_flood 72 = .ok (.getfield 12, 3) := by decide +kernel
theorem dX8_flood_75 : decode cX8_flood 75 = .ok (.getfield 171, 3) := by decide +kernel
theorem dX8_flood_78 : decode cX8_flood 78 = .ok (.iconst 1, 1) := by decide +kernel
theorem dX8_flood_79 : decode cX8_flood 79 = .ok (.aload 5, 2) := by decide +kernel
theorem dX8_flood_81 : decode cX8_flood 81 = .ok (.iload 6, 2) := by decide +kernel
theorem dX8_flood_83 : decode cX8_flood 83 = .ok (.aload_n 2, 1) := by decide +kernel
theorem dX8_flood_84 : decode cX8_flood 84 = .ok (.invokevirtual 319, 3) := by decide +kernel
theorem dX8_flood_87 : decode cX8_flood 87 = .ok (.istore 7, 2) := by decide +kernel
theorem dX8_flood_89 : decode cX8_flood 89 = .ok (.aload_n 0, 1) := by decide +kernel
theorem dX8_flood_90 : decode cX8_flood 90 = .ok (.getfield 62, 3) := by decide +kernel
theorem dX8_flood_93 : decode cX8_flood 93 = .ok (.aload 5, 2) := by decide +kernel
theorem dX8_flood_95 : decode cX8_flood 95 = .ok (.iload 6, 2) := by decide +kernel
theorem dX8_flood_97 : decode cX8_flood 97 = .ok (.invokevirtual 160, 3) := by decide +kernel
theorem dX8_flood_100 : decode cX8_flood 100 = .ok (.dup2, 1) := by decide +kernel
theorem dX8_flood_101 : decode cX8_flood 101 = .ok (.iaload, 1) := by decide +kernel
theorem dX8_flood_102 : decode cX8_flood 102 = .ok (.iload 7, 2) := by decide +kernel
theorem dX8_flood_104 : decode cX8_flood 104 = .ok (.iadd, 1) := by decide +kernel
theorem dX8_flood_105 : decode cX8_flood 105 = .ok (.iastore, 1) := by decide +kernel
theorem dX8_flood_106 : decode cX8_flood 106 = .ok (.iload_n 3, 1) := by decide +kernel
theorem dX8_flood_107 : decode cX8_flood 107 = .ok (.iload 7, 2) := by decide +kernel
theorem dX8_flood_109 : decode cX8_flood 109 = .ok (.iadd, 1) := by decide +kernel
theorem dX8_flood_110 : decode cX8_flood 110 = .ok (.istore_n 3, 1) := by decide +kernel
theorem dX8_flood_111 : decode cX8_flood 111 = .ok (.iinc 6 1, 3) := by decide +kernel
theorem dX8_flood_114 : decode cX8_flood 114 = .ok (.goto (-74), 3) := by decide +kernel
theorem dX8_flood_117 : decode cX8_flood 117 = .ok (.iinc 4 1, 3) := by decide +kernel
theorem dX8_flood_120 : decode cX8_flood 120 = .ok (.goto (-107), 3) := by decide +kernel
theorem dX8_flood_123 : decode cX8_flood 123 = .ok (.iload_n 3, 1) := by decide +kernel
theorem dX8_flood_124 : decode cX8_flood 124 = .ok (.ireturn, 1) := by decide +kernel
theorem dX8_drawnWater_0 : decode cX8_drawnWater 0 = .ok (.iload_n 2, 1) := by decide +kernel
theorem dX8_drawnWater_1 : decode cX8_drawnWater 1 = .ok (.istore_n 3, 1) := by decide +kernel
theorem dX8_drawnWater_2 : decode cX8_drawnWater 2 = .ok (.iconst 0, 1) := by decide +kernel
theorem dX8_drawnWater_3 : decode cX8_drawnWater 3 = .ok (.istore 4, 2) := by decide +kernel
theorem dX8_drawnWater_5 : decode cX8_drawnWater 5 = .ok (.iload 4, 2) := by decide +kernel
theorem dX8_drawnWater_7 : decode cX8_drawnWater 7 = .ok (.bipush 32, 2) := by decide +kernel
theorem dX8_drawnWater_9 : decode cX8_drawnWater 9 = .ok (.if_icmp .ge 33, 3) := by decide +kernel
theorem dX8_drawnWater_12 : decode cX8_drawnWater 12 = .ok (.iload_n 3, 1) := by decide +kernel
theorem dX8_drawnWater_13 : decode cX8_drawnWater 13 = .ok (.ldc_w 323, 3) := by decide +kernel
theorem dX8_drawnWater_16 : decode cX8_drawnWater 16 = .ok (.imul, 1) := by decide +kernel
theorem dX8_drawnWater_17 : decode cX8_drawnWater 17 = .ok (.sipush 12345, 3) := by decide +kernel
theorem dX8_drawnWater_20 : decode cX8_drawnWater 20 = .ok (.iadd, 1) := by decide +kernel
theorem dX8_drawnWater_21 : decode cX8_drawnWater 21 = .ok (.istore_n 3, 1) := by decide +kernel
theorem dX8_drawnWater_22 : decode cX8_drawnWater 22 = .ok (.aload_n 0, 1) := by decide +kernel
theorem dX8_drawnWater_23 : decode cX8_drawnWater 23 = .ok (.getfield 66, 3) := by decide +kernel
theorem dX8_drawnWater_26 : decode cX8_drawnWater 26 = .ok (.iload 4, 2) := by decide +kernel
theorem dX8_drawnWater_28 : decode cX8_drawnWater 28 = .ok (.iload_n 3, 1) := by decide +kernel
theorem dX8_drawnWater_29 : decode cX8_drawnWater 29 = .ok (.bipush 9, 2) := by decide +kernel
theorem dX8_drawnWater_31 : decode cX8_drawnWater 31 = .ok (.iushr, 1) := by decide +kernel
theorem dX8_drawnWater_32 : decode cX8_drawnWater 32 = .ok (.bipush 10, 2) := by decide +kernel
theorem dX8_drawnWater_34 : decode cX8_drawnWater 34 = .ok (.irem, 1) := by decide +kernel
theorem dX8_drawnWater_35 : decode cX8_drawnWater 35 = .ok (.iastore, 1) := by decide +kernel
theorem dX8_drawnWater_36 : decode cX8_drawnWater 36 = .ok (.iinc 4 1, 3) := by decide +kernel
theorem dX8_drawnWater_39 : decode cX8_drawnWater 39 = .ok (.goto (-34), 3) := by decide +kernel
theorem dX8_drawnWater_42 : decode cX8_drawnWater 42 = .ok (.aload_n 0, 1) := by decide +kernel
theorem dX8_drawnWater_43 : decode cX8_drawnWater 43 = .ok (.iload_n 1, 1) := by decide +kernel
theorem dX8_drawnWater_44 : decode cX8_drawnWater 44 = .ok (.aload_n 0, 1) := by decide +kernel
theorem dX8_drawnWater_45 : decode cX8_drawnWater 45 = .ok (.getfield 66, 3) := by decide +kernel
theorem dX8_drawnWater_48 : decode cX8_drawnWater 48 = .ok (.invokevirtual 233, 3) := by decide +kernel
theorem dX8_drawnWater_51 : decode cX8_drawnWater 51 = .ok (.ireturn, 1) := by decide +kernel
theorem dX8_commonDivisor_0 : decode cX8_commonDivisor 0 = .ok (.iload_n 0, 1) := by decide +kernel
theorem dX8_commonDivisor_1 : decode cX8_commonDivisor 1 = .ok (.istore_n 2, 1) := by decide +kernel
theorem dX8_commonDivisor_2 : decode cX8_commonDivisor 2 = .ok (.iload_n 1, 1) := by decide +kernel
theorem dX8_commonDivisor_3 : decode cX8_commonDivisor 3 = .ok (.istore_n 3, 1) := by decide +kernel
theorem dX8_commonDivisor_4 : decode cX8_commonDivisor 4 = .ok (.iconst 0, 1) := by decide +kernel
theorem dX8_commonDivisor_5 : decode cX8_commonDivisor 5 = .ok (.istore 4, 2) := by decide +kernel
theorem dX8_commonDivisor_7 : decode cX8_commonDivisor 7 = .ok (.iload 4, 2) := by decide +kernel
theorem dX8_commonDivisor_9 : decode cX8_commonDivisor 9 = .ok (.bipush 64, 2) := by decide +kernel
theorem dX8_commonDivisor_11 : decode cX8_commonDivisor 11 = .ok (.if_icmp .ge 23, 3) := by decide +kernel
theorem dX8_commonDivisor_14 : decode cX8_commonDivisor 14 = .ok (.iload_n 3, 1) := by decide +kernel
theorem dX8_commonDivisor_15 : decode cX8_commonDivisor 15 = .ok (.ifCond .eq 19, 3) := by decide +kernel
theorem dX8_commonDivisor_18 : decode cX8_commonDivisor 18 = .ok (.iload_n 2, 1) := by decide +kernel
theorem dX8_commonDivisor_19 : decode cX8_commonDivisor 19 = .ok (.iload_n 3, 1) := by decide +kernel
theorem dX8_commonDivisor_20 : decode cX8_commonDivisor 20 = .ok (.irem, 1) := by decide +kernel
theorem dX8_commonDivisor_21 : decode cX8_commonDivisor 21 = .ok (.istore 5, 2) := by decide +kernel
theorem dX8_commonDivisor_23 : decode cX8_commonDivisor 23 = .ok (.iload_n 3, 1) := by decide +kernel
theorem dX8_commonDivisor_24 : decode cX8_commonDivisor 24 = .ok (.istore_n 2, 1) := by decide +kernel
theorem dX8_commonDivisor_25 : decode cX8_commonDivisor 25 = .ok (.iload 5, 2) := by decide +kernel
theorem dX8_commonDivisor_27 : decode cX8_commonDivisor 27 = .ok (.istore_n 3, 1) := by decide +kernel
theorem dX8_commonDivisor_28 : decode cX8_commonDivisor 28 = .ok (.iinc 4 1, 3) := by decide +kernel
theorem dX8_commonDivisor_31 : decode cX8_commonDivisor 31 = .ok (.goto (-24), 3) := by decide +kernel
theorem dX8_commonDivisor_34 : decode cX8_commonDivisor 34 = .ok (.iload_n 2, 1) := by decide +kernel
theorem dX8_commonDivisor_35 : decode cX8_commonDivisor 35 = .ok (.iconst 1, 1) := by decide +kernel
theorem dX8_commonDivisor_36 : decode cX8_commonDivisor 36 = .ok (.if_icmp .ge 7, 3) := by decide +kernel
theorem dX8_commonDivisor_39 : decode cX8_commonDivisor 39 = .ok (.iconst 1, 1) := by decide +kernel
theorem dX8_commonDivisor_40 : decode cX8_commonDivisor 40 = .ok (.goto 4, 3) := by decide +kernel
theorem dX8_commonDivisor_43 : decode cX8_commonDivisor 43 = .ok (.iload_n 2, 1) := by decide +kernel
theorem dX8_commonDivisor_44 : decode cX8_commonDivisor 44 = .ok (.ireturn, 1) := by decide +kernel
theorem dX8_fillPrices_0 : decode cX8_fillPrices 0 = .ok (.iconst 0, 1) := by decide +kernel
theorem dX8_fillPrices_1 : decode cX8_fillPrices 1 = .ok (.istore_n 2, 1) := by decide +kernel
theorem dX8_fillPrices_2 : decode cX8_fillPrices 2 = .ok (.iload_n 2, 1) := by decide +kernel
theorem dX8_fillPrices_3 : decode cX8_fillPrices 3 = .ok (.bipush 8, 2) := by decide +kernel
theorem dX8_fillPrices_5 : decode cX8_fillPrices 5 = .ok (.if_icmp .ge 89, 3) := by decide +kernel
theorem dX8_fillPrices_8 : decode cX8_fillPrices 8 = .ok (.iload_n 2, 1) := by decide +kernel
theorem dX8_fillPrices_9 : decode cX8_fillPrices 9 = .ok (.aload_n 0, 1) := by decide +kernel
theorem dX8_fillPrices_10 : decode cX8_fillPrices 10 = .ok (.getfield 12, 3) := by decide +kernel
theorem dX8_fillPrices_13 : decode cX8_fillPrices 13 = .ok (.getfield 125, 3) := by decide +kernel
theorem dX8_fillPrices_16 : decode cX8_fillPrices 16 = .ok (.if_icmp .ge 24, 3) := by decide +kernel
theorem dX8_fillPrices_19 : decode cX8_fillPrices 19 = .ok (.aload_n 0, 1) := by decide +kernel
theorem dX8_fillPrices_20 : decode cX8_fillPrices 20 = .ok (.getfield 12, 3) := by decide +kernel
theorem dX8_fillPrices_23 : decode cX8_fillPrices 23 = .ok (.getfield 111, 3) := by decide +kernel
theorem dX8_fillPrices_26 : decode cX8_fillPrices 26 = .ok (.iload_n 2, 1) := by decide +kernel
theorem dX8_fillPrices_27 : decode cX8_fillPrices 27 = .ok (.aaload, 1) := by decide +kernel
theorem dX8_fillPrices_28 : decode cX8_fillPrices 28 = .ok (.iload_n 1, 1) := by decide +kernel
theorem dX8_fillPrices_29 : decode cX8_fillPrices 29 = .ok (.iconst 0, 1) := by decide +kernel
theorem dX8_fillPrices_30 : decode cX8_fillPrices 30 = .ok (.invokevirtual 163, 3) := by decide +kernel
theorem dX8_fillPrices_33 : decode cX8_fillPrices 33 = .ok (.ifCond .eq 7, 3) := by decide +kernel
theorem dX8_fillPrices_36 : decode cX8_fillPrices 36 = .ok (.iconst 1, 1) := by decide +kernel
theorem dX8_fillPrices_37 : decode cX8_fillPrices 37 = .ok (.goto 4, 3) := by decide +kernel
theorem dX8_fillPrices_40 : decode cX8_fillPrices 40 = .ok (.iconst 0, 1) := by decide +kernel
theorem dX8_fillPrices_41 : decode cX8_fillPrices 41 = .ok (.istore_n 3, 1) := by decide +kernel
theorem dX8_fillPrices_42 : decode cX8_fillPrices 42 = .ok (.aload_n 0, 1) := by decide +kernel
theorem dX8_fillPrices_43 : decode cX8_fillPrices 43 = .ok (.getfield 69, 3) := by decide +kernel
theorem dX8_fillPrices_46 : decode cX8_fillPrices 46 = .ok (.iload_n 2, 1) := by decide +kernel
theorem dX8_fillPrices_47 : decode cX8_fillPrices 47 = .ok (.iload_n 3, 1) := by decide +kernel
theorem dX8_fillPrices_48 : decode cX8_fillPrices 48 = .ok (.ifCond .eq 38, 3) := by decide +kernel
theorem dX8_fillPrices_51 : decode cX8_fillPrices 51 = .ok (.aload_n 0, 1) := by decide +kernel
theorem dX8_fillPrices_52 : decode cX8_fillPrices 52 = .ok (.getfield 36, 3) := by decide +kernel
theorem dX8_fillPrices_55 : decode cX8_fillPrices 55 = .ok (.aload_n 0, 1) := by decide +kernel
theorem dX8_fillPrices_56 : decode cX8_fillPrices 56 = .ok (.getfield 12, 3) := by decide +kernel
theorem dX8_fillPrices_59 : decode cX8_fillPrices 59 = .ok (.getfield 171, 3) := by decide +kernel
theorem dX8_fillPrices_62 : decode cX8_fillPrices 62 = .ok (.iconst 2, 1) := by decide +kernel
theorem dX8_fillPrices_63 : decode cX8_fillPrices 63 = .ok (.aload_n 0, 1) := by decide +kernel
theorem dX8_fillPrices_64 : decode cX8_fillPrices 64 = .ok (.getfield 12, 3) := by decide +kernel
theorem dX8_fillPrices_67 : decode cX8_fillPrices 67 = .ok (.getfield 111, 3) := by decide +kernel
theorem dX8_fillPrices_70 : decode cX8_fillPrices 70 = .ok (.iload_n 2, 1) := by decide +kernel
theorem dX8_fillPrices_71 : decode cX8_fillPrices 71 = .ok (.aaload, 1) := by decide +kernel
theorem dX8_fillPrices_72 : decode cX8_fillPrices 72 = .ok (.iload_n 1, 1) := by decide +kernel
theorem dX8_fillPrices_73 : decode cX8_fillPrices 73 = .ok (.aload_n 0, 1) := by decide +kernel
theorem dX8_fillPrices_74 : decode cX8_fillPrices 74 = .ok (.getfield 12, 3) := by decide +kernel
theorem dX8_fillPrices_77 : decode cX8_fillPrices 77 = .ok (.getfield 108, 3) := by decide +kernel
theorem dX8_fillPrices_80 : decode cX8_fillPrices 80 = .ok (.invokevirtual 319, 3) := by decide +kernel
theorem dX8_fillPrices_83 : decode cX8_fillPrices 83 = .ok (.goto 4, 3) := by decide +kernel
theorem dX8_fillPrices_86 : decode cX8_fillPrices 86 = .ok (.iconst (-1), 1) := by decide +kernel
theorem dX8_fillPrices_87 : decode cX8_fillPrices 87 = .ok (.iastore, 1) := by decide +kernel
theorem dX8_fillPrices_88 : decode cX8_fillPrices 88 = .ok (.iinc 2 1, 3) := by decide +kernel
theorem dX8_fillPrices_91 : decode cX8_fillPrices 91 = .ok (.goto (-89), 3) := by decide +kernel
theorem dX8_fillPrices_94 : decode cX8_fillPrices 94 = .ok (.return_, 1) := by decide +kernel
theorem dX8_holds_0 : decode cX8_holds 0 = .ok (.iload_n 0, 1) := by decide +kernel
theorem dX8_holds_1 : decode cX8_holds 1 = .ok (.bipush 7, 2) := by decide +kernel
theorem dX8_holds_3 : decode cX8_holds 3 = .ok (.iload_n 1, 1) := by decide +kernel
theorem dX8_holds_4 : decode cX8_holds 4 = .ok (.isub, 1) := by decide +kernel
theorem dX8_holds_5 : decode cX8_holds 5 = .ok (.ishr, 1) := by decide +kernel
theorem dX8_holds_6 : decode cX8_holds 6 = .ok (.iconst 1, 1) := by decide +kernel
theorem dX8_holds_7 : decode cX8_holds 7 = .ok (.iand, 1) := by decide +kernel
theorem dX8_holds_8 : decode cX8_holds 8 = .ok (.iconst 1, 1) := by decide +kernel
theorem dX8_holds_9 : decode cX8_holds 9 = .ok (.if_icmp .ne 7, 3) := by decide +kernel
theorem dX8_holds_12 : decode cX8_holds 12 = .ok (.iconst 1, 1) := by decide +kernel
theorem dX8_holds_13 : decode cX8_holds 13 = .ok (.goto 4, 3) := by decide +kernel
theorem dX8_holds_16 : decode cX8_holds 16 = .ok (.iconst 0, 1) := by decide +kernel
theorem dX8_holds_17 : decode cX8_holds 17 = .ok (.ireturn, 1) := by decide +kernel
theorem dX8_priceTogether_0 : decode cX8_priceTogether 0 = .ok (.iconst 0, 1) := by decide +kernel
theorem dX8_priceTogether_1 : decode cX8_priceTogether 1 = .ok (.istore_n 2, 1) := by decide +kernel
theorem dX8_priceTogether_2 : decode cX8_priceTogether 2 = .ok (.iconst 0, 1) := by decide +kernel
theorem dX8_priceTogether_3 : decode cX8_priceTogether 3 = .ok (.istore_n 3, 1) := by decide +kernel
theorem dX8_priceTogether_4 : decode cX8_priceTogether 4 = .ok (.iload_n 3, 1) := by decide +kernel
theorem dX8_priceTogether_5 : decode cX8_priceTogether 5 = .ok (.bipush 8, 2) := by decide +kernel
theorem dX8_priceTogether_7 : decode cX8_priceTogether 7 = .ok (.if_icmp .ge 38, 3) := by decide +kernel
theorem dX8_priceTogether_10 : decode cX8_priceTogether 10 = .ok (.iload_n 1, 1) := by decide +kernel
theorem dX8_priceTogether_11 : decode cX8_priceTogether 11 = .ok (.iload_n 3, 1) := by decide +kernel
theorem dX8_priceTogether_12 : decode cX8_priceTogether 12 = .ok (.invokestatic 324, 3) := by decide +kernel
theorem dX8_priceTogether_15 : decode cX8_priceTogether 15 = .ok (.ifCond .eq 24, 3) := by decide +kernel
theorem dX8_priceTogether_18 : decode cX8_priceTogether 18 = .ok (.aload_n 0, 1) := by decide +kernel
theorem dX8_priceTogether_19 : decode cX8_priceTogether 19 = .ok (.getfield 69, 3) := by decide +kernel
theorem dX8_priceTogether_22 : decode cX8_priceTogether 22 = .ok (.iload_n 3, 1) := by decide +kernel
theorem dX8_priceTogether_23 : decode cX8_priceTogether 23 = .ok (.iaload, 1) := by decide +kernel
theorem dX8_priceTogether_24 : decode cX8_priceTogether 24 = .ok (.iconst (-1), 1) := by decide +kernel
theorem dX8_priceTogether_25 : decode cX8_priceTogether 25 = .ok (.if_icmp .ne 5, 3) := by decide +kernel
theorem dX8_priceTogether_28 : decode cX8_priceTogether 28 = .ok (.iconst (-1), 1) := by decide +kernel
theorem dX8_priceTogether_29 : decode cX8_priceTogether 29 = .ok (.ireturn, 1) := by decide +kernel
theorem dX8_priceTogether_30 : decode cX8_priceTogether 30 = .ok (.iload_n 2, 1) := by decide +kernel
theorem dX8_priceTogether_31 : decode cX8_priceTogether 31 = .ok (.aload_n 0, 1) := by decide +kernel
theorem dX8_priceTogether_32 : decode cX8_priceTogether 32 = .ok (.getfield 69, 3) := by decide +kernel
theorem dX8_priceTogether_35 : decode cX8_priceTogether 35 = .ok (.iload_n 3, 1) := by decide +kernel
theorem dX8_priceTogether_36 : decode cX8_priceTogether 36 = .ok (.iaload, 1) := by decide +kernel
theorem dX8_priceTogether_37 : decode cX8_priceTogether 37 = .ok (.iadd, 1) := by decide +kernel
theorem dX8_priceTogether_38 : decode cX8_priceTogether 38 = .ok (.istore_n 2, 1) := by decide +kernel
theorem dX8_priceTogether_39 : decode cX8_priceTogether 39 = .ok (.iinc 3 1, 3) := by decide +kernel
theorem dX8_priceTogether_42 : decode cX8_priceTogether 42 = .ok (.goto (-38), 3) := by decide +kernel
theorem dX8_priceTogether_45 : decode cX8_priceTogether 45 = .ok (.iload_n 2, 1) := by decide +kernel
theorem dX8_priceTogether_46 : decode cX8_priceTogether 46 = .ok (.ireturn, 1) := by decide +kernel
theorem dX8_digitsOf_0 : decode cX8_digitsOf 0 = .ok (.iconst 0, 1) := by decide +kernel
theorem dX8_digitsOf_1 : decode cX8_digitsOf 1 = .ok (.istore_n 1, 1) := by decide +kernel
theorem dX8_digitsOf_2 : decode cX8_digitsOf 2 = .ok (.iconst 0, 1) := by decide +kernel
theorem dX8_digitsOf_3 : decode cX8_digitsOf 3 = .ok (.istore_n 2, 1) := by decide +kernel
theorem dX8_digitsOf_4 : decode cX8_digitsOf 4 = .ok (.iload_n 2, 1) := by decide +kernel
theorem dX8_digitsOf_5 : decode cX8_digitsOf 5 = .ok (.bipush 8, 2) := by decide +kernel
theorem dX8_digitsOf_7 : decode cX8_digitsOf 7 = .ok (.if_icmp .ge 26, 3) := by decide +kernel
theorem dX8_digitsOf_10 : decode cX8_digitsOf 10 = .ok (.iload_n 0, 1) := by decide +kernel
theorem dX8_digitsOf_11 : decode cX8_digitsOf 11 = .ok (.iload_n 2, 1) := by decide +kernel
theorem dX8_digitsOf_12 : decode cX8_digitsOf 12 = .ok (.invokestatic 324, 3) := by decide +kernel
theorem dX8_digitsOf_15 : decode cX8_digitsOf 15 = .ok (.ifCond .eq 12, 3) := by decide +kernel
theorem dX8_digitsOf_18 : decode cX8_digitsOf 18 = .ok (.iload_n 1, 1) := by decide +kernel
theorem dX8_digitsOf_19 : decode cX8_digitsOf 19 = .ok (.bipush 10, 2) := by decide +kernel
theorem dX8_digitsOf_21 : decode cX8_digitsOf 21 = .ok (.imul, 1) := by decide +kernel
theorem dX8_digitsOf_22 : decode cX8_digitsOf 22 = .ok (.iload_n 2, 1) := by decide +kernel
theorem dX8_digitsOf_23 : decode cX8_digitsOf 23 = .ok (.iadd, 1) := by decide +kernel
theorem dX8_digitsOf_24 : decode cX8_digitsOf 24 = .ok (.iconst 1, 1) := by decide +kernel
theorem dX8_digitsOf_25 : decode cX8_digitsOf 25 = .ok (.iadd, 1) := by decide +kernel
theorem dX8_digitsOf_26 : decode cX8_digitsOf 26 = .ok (.istore_n 1, 1) := by decide +kernel
theorem dX8_digitsOf_27 : decode cX8_digitsOf 27 = .ok (.iinc 2 1, 3) := by decide +kernel
theorem dX8_digitsOf_30 : decode cX8_digitsOf 30 = .ok (.goto (-26), 3) := by decide +kernel
theorem dX8_digitsOf_33 : decode cX8_digitsOf 33 = .ok (.iload_n 1, 1) := by decide +kernel
theorem dX8_digitsOf_34 : decode cX8_digitsOf 34 = .ok (.ireturn, 1) := by decide +kernel
theorem dJ6_bitCount_0f7a4_0 : decode cJ6_bitCount_0f7a4 0 = .ok (.iload_n 0, 1) := by decide +kernel
theorem dJ6_bitCount_0f7a4_1 : decode cJ6_bitCount_0f7a4 1 = .ok (.iload_n 0, 1) := by decide +kernel
theorem dJ6_bitCount_0f7a4_2 : decode cJ6_bitCount_0f7a4 2 = .ok (.iconst 1, 1) := by decide +kernel
theorem dJ6_bitCount_0f7a4_3 : decode cJ6_bitCount_0f7a4 3 = .ok (.iushr, 1) := by decide +kernel
theorem dJ6_bitCount_0f7a4_4 : decode cJ6_bitCount_0f7a4 4 = .ok (.ldc_w 265, 3) := by decide +kernel
theorem dJ6_bitCount_0f7a4_7 : decode cJ6_bitCount_0f7a4 7 = .ok (.iand, 1) := by decide +kernel
theorem dJ6_bitCount_0f7a4_8 : decode cJ6_bitCount_0f7a4 8 = .ok (.isub, 1) := by decide +kernel
theorem dJ6_bitCount_0f7a4_9 : decode cJ6_bitCount_0f7a4 9 = .ok (.istore_n 0, 1) := by decide +kernel
theorem dJ6_bitCount_0f7a4_10 : decode cJ6_bitCount_0f7a4 10 = .ok (.iload_n 0, 1) := by decide +kernel
theorem dJ6_bitCount_0f7a4_11 : decode cJ6_bitCount_0f7a4 11 = .ok (.ldc_w 266, 3) := by decide +kernel
theorem dJ6_bitCount_0f7a4_14 : decode cJ6_bitCount_0f7a4 14 = .ok (.iand, 1) := by decide +kernel
theorem dJ6_bitCount_0f7a4_15 : decode cJ6_bitCount_0f7a4 15 = .ok (.iload_n 0, 1) := by decide +kernel
theorem dJ6_bitCount_0f7a4_16 : decode cJ6_bitCount_0f7a4 16 = .ok (.iconst 2, 1) := by decide +kernel
theorem dJ6_bitCount_0f7a4_17 : decode cJ6_bitCount_0f7a4 17 = .ok (.iushr, 1) := by decide +kernel
theorem dJ6_bitCount_0f7a4_18 : decode cJ6_bitCount_0f7a4 18 = .ok (.ldc_w 266, 3) := by decide +kernel
theorem dJ6_bitCount_0f7a4_21 : decode cJ6_bitCount_0f7a4 21 = .ok (.iand, 1) := by decide +kernel
theorem dJ6_bitCount_0f7a4_22 : decode cJ6_bitCount_0f7a4 22 = .ok (.iadd, 1) := by decide +kernel
theorem dJ6_bitCount_0f7a4_23 : decode cJ6_bitCount_0f7a4 23 = .ok (.istore_n 0, 1) := by decide +kernel
theorem dJ6_bitCount_0f7a4_24 : decode cJ6_bitCount_0f7a4 24 = .ok (.iload_n 0, 1) := by decide +kernel
theorem dJ6_bitCount_0f7a4_25 : decode cJ6_bitCount_0f7a4 25 = .ok (.iload_n 0, 1) := by decide +kernel
theorem dJ6_bitCount_0f7a4_26 : decode cJ6_bitCount_0f7a4 26 = .ok (.iconst 4, 1) := by decide +kernel
theorem dJ6_bitCount_0f7a4_27 : decode cJ6_bitCount_0f7a4 27 = .ok (.iushr, 1) := by decide +kernel
theorem dJ6_bitCount_0f7a4_28 : decode cJ6_bitCount_0f7a4 28 = .ok (.iadd, 1) := by decide +kernel
theorem dJ6_bitCount_0f7a4_29 : decode cJ6_bitCount_0f7a4 29 = .ok (.ldc_w 267, 3) := by decide +kernel
theorem dJ6_bitCount_0f7a4_32 : decode cJ6_bitCount_0f7a4 32 = .ok (.iand, 1) := by decide +kernel
theorem dJ6_bitCount_0f7a4_33 : decode cJ6_bitCount_0f7a4 33 = .ok (.istore_n 0, 1) := by decide +kernel
theorem dJ6_bitCount_0f7a4_34 : decode cJ6_bitCount_0f7a4 34 = .ok (.iload_n 0, 1) := by decide +kernel
theorem dJ6_bitCount_0f7a4_35 : decode cJ6_bitCount_0f7a4 35 = .ok (.iload_n 0, 1) := by decide +kernel
theorem dJ6_bitCount_0f7a4_36 : decode cJ6_bitCount_0f7a4 36 = .ok (.bipush 8, 2) := by decide +kernel
theorem dJ6_bitCount_0f7a4_38 : decode cJ6_bitCount_0f7a4 38 = .ok (.iushr, 1) := by decide +kernel
theorem dJ6_bitCount_0f7a4_39 : decode cJ6_bitCount_0f7a4 39 = .ok (.iadd, 1) := by decide +kernel
theorem dJ6_bitCount_0f7a4_40 : decode cJ6_bitCount_0f7a4 40 = .ok (.istore_n 0, 1) := by decide +kernel
theorem dJ6_bitCount_0f7a4_41 : decode cJ6_bitCount_0f7a4 41 = .ok (.iload_n 0, 1) := by decide +kernel
theorem dJ6_bitCount_0f7a4_42 : decode cJ6_bitCount_0f7a4 42 = .ok (.iload_n 0, 1) := by decide +kernel
theorem dJ6_bitCount_0f7a4_43 : decode cJ6_bitCount_0f7a4 43 = .ok (.bipush 16, 2) := by decide +kernel
theorem dJ6_bitCount_0f7a4_45 : decode cJ6_bitCount_0f7a4 45 = .ok (.iushr, 1) := by decide +kernel
theorem dJ6_bitCount_0f7a4_46 : decode cJ6_bitCount_0f7a4 46 = .ok (.iadd, 1) := by decide +kernel
theorem dJ6_bitCount_0f7a4_47 : decode cJ6_bitCount_0f7a4 47 = .ok (.istore_n 0, 1) := by decide +kernel
theorem dJ6_bitCount_0f7a4_48 : decode cJ6_bitCount_0f7a4 48 = .ok (.iload_n 0, 1) := by decide +kernel
theorem dJ6_bitCount_0f7a4_49 : decode cJ6_bitCount_0f7a4 49 = .ok (.bipush 63, 2) := by decide +kernel
theorem dJ6_bitCount_0f7a4_51 : decode cJ6_bitCount_0f7a4 51 = .ok (.iand, 1) := by decide +kernel
theorem dJ6_bitCount_0f7a4_52 : decode cJ6_bitCount_0f7a4 52 = .ok (.ireturn, 1) := by decide +kernel
theorem dJ9_max_7cf53_0 : decode cJ9_max_7cf53 0 = .ok (.iload_n 0, 1) := by decide +kernel
theorem dJ9_max_7cf53_1 : decode cJ9_max_7cf53 1 = .ok (.iload_n 1, 1) := by decide +kernel
theorem dJ9_max_7cf53_2 : decode cJ9_max_7cf53 2 = .ok (.if_icmp .lt 7, 3) := by decide +kernel
theorem dJ9_max_7cf53_5 : decode cJ9_max_7cf53 5 = .ok (.iload_n 0, 1) := by decide +kernel
theorem dJ9_max_7cf53_6 : decode cJ9_max_7cf53 6 = .ok (.goto 4, 3) := by decide +kernel
theorem dJ9_max_7cf53_9 : decode cJ9_max_7cf53 9 = .ok (.iload_n 1, 1) := by decide +kernel
theorem dJ9_max_7cf53_10 : decode cJ9_max_7cf53 10 = .ok (.ireturn, 1) := by decide +kernel
theorem dJ9_min_7cf53_0 : decode cJ9_min_7cf53 0 = .ok (.iload_n 0, 1) := by decide +kernel
theorem dJ9_min_7cf53_1 : decode cJ9_min_7cf53 1 = .ok (.iload_n 1, 1) := by decide +kernel
theorem dJ9_min_7cf53_2 : decode cJ9_min_7cf53 2 = .ok (.if_icmp .gt 7, 3) := by decide +kernel
theorem dJ9_min_7cf53_5 : decode cJ9_min_7cf53 5 = .ok (.iload_n 0, 1) := by decide +kernel
theorem dJ9_min_7cf53_6 : decode cJ9_min_7cf53 6 = .ok (.goto 4, 3) := by decide +kernel
theorem dJ9_min_7cf53_9 : decode cJ9_min_7cf53 9 = .ok (.iload_n 1, 1) := by decide +kernel
theorem dJ9_min_7cf53_10 : decode cJ9_min_7cf53 10 = .ok (.ireturn, 1) := by decide +kernel
theorem dJ0_length_8abf5_0 : decode cJ0_length_8abf5 0 = .ok (.aload_n 0, 1) := by decide +kernel
theorem dJ0_length_8abf5_1 : decode cJ0_length_8abf5 1 = .ok (.getfield 9, 3) := by decide +kernel
theorem dJ0_length_8abf5_4 : decode cJ0_length_8abf5 4 = .ok (.arraylength, 1) := by decide +kernel
theorem dJ0_length_8abf5_5 : decode cJ0_length_8abf5 5 = .ok (.aload_n 0, 1) := by decide +kernel
theorem dJ0_length_8abf5_6 : decode cJ0_length_8abf5 6 = .ok (.invokevirtual 335, 3) := by decide +kernel
theorem dJ0_length_8abf5_9 : decode cJ0_length_8abf5 9 = .ok (.ishr, 1) := by decide +kernel
theorem dJ0_length_8abf5_10 : decode cJ0_length_8abf5 10 = .ok (.ireturn, 1) := by decide +kernel
theorem dJ0_charAt_5068e_0 : decode cJ0_charAt_5068e 0 = .ok (.aload_n 0, 1) := by decide +kernel
theorem dJ0_charAt_5068e_1 : decode cJ0_charAt_5068e 1 = .ok (.invokevirtual 492, 3) := by decide +kernel
theorem dJ0_charAt_5068e_4 : decode cJ0_charAt_5068e 4 = .ok (.ifCond .eq 12, 3) := by decide +kernel
theorem dJ0_charAt_5068e_7 : decode cJ0_charAt_5068e 7 = .ok (.aload_n 0, 1) := by decide +kernel
theorem dJ0_charAt_5068e_8 : decode cJ0_charAt_5068e 8 = .ok (.getfield 9, 3) := by decide +kernel
theorem dJ0_charAt_5068e_11 : decode cJ0_charAt_5068e 11 = .ok (.iload_n 1, 1) := by decide +kernel
theorem dJ0_charAt_5068e_12 : decode cJ0_charAt_5068e 12 = .ok (.invokestatic 495, 3) := by decide +kernel
theorem dJ0_charAt_5068e_15 : decode cJ0_charAt_5068e 15 = .ok (.ireturn, 1) := by decide +kernel
theorem dJ0_charAt_5068e_16 : decode cJ0_charAt_5068e 16 = .ok (.aload_n 0, 1) := by decide +kernel
theorem dJ0_charAt_5068e_17 : decode cJ0_charAt_5068e 17 = .ok (.getfield 9, 3) := by decide +kernel
theorem dJ0_charAt_5068e_20 : decode cJ0_charAt_5068e 20 = .ok (.iload_n 1, 1) := by decide +kernel
theorem dJ0_charAt_5068e_21 : decode cJ0_charAt_5068e 21 = .ok (.invokestatic 498, 3) := by decide +kernel
theorem dJ0_charAt_5068e_24 : decode cJ0_charAt_5068e 24 = .ok (.ireturn, 1) := by decide +kernel
theorem dJ0_coder_7d493_0 : decode cJ0_coder_7d493 0 = .ok (.getstatic 38, 3) := by decide +kernel
theorem dJ0_coder_7d493_3 : decode cJ0_coder_7d493 3 = .ok (.ifCond .eq 10, 3) := by decide +kernel
theorem dJ0_coder_7d493_6 : decode cJ0_coder_7d493 6 = .ok (.aload_n 0, 1) := by decide +kernel
theorem dJ0_coder_7d493_7 : decode cJ0_coder_7d493 7 = .ok (.getfield 15, 3) := by decide +kernel
theorem dJ0_coder_7d493_10 : decode cJ0_coder_7d493 10 = .ok (.goto 4, 3) := by decide +kernel
theorem dJ0_coder_7d493_13 : decode cJ0_coder_7d493 13 = .ok (.iconst 1, 1) := by decide +kernel
theorem dJ0_coder_7d493_14 : decode cJ0_coder_7d493 14 = .ok (.ireturn, 1) := by decide +kernel
theorem dJ0_isLatin1_aae02_0 : decode cJ0_isLatin1_aae02 0 = .ok (.getstatic 38, 3) := by decide +kernel
theorem dJ0_isLatin1_aae02_3 : decode cJ0_isLatin1_aae02 3 = .ok (.ifCond .eq 14, 3) := by decide +kernel
theorem dJ0_isLatin1_aae02_6 : decode cJ0_isLatin1_aae02 6 = .ok (.aload_n 0, 1) := by decide +kernel
theorem dJ0_isLatin1_aae02_7 : decode cJ0_isLatin1_aae02 7 = .ok (.getfield 15, 3) := by decide +kernel
theorem dJ0_isLatin1_aae02_10 : decode cJ0_isLatin1_aae02 10 = .ok (.ifCond .ne 7, 3) := by decide +kernel
theorem dJ0_isLatin1_aae02_13 : decode cJ0_isLatin1_aae02 13 = .ok (.iconst 1, 1) := by decide +kernel
theorem dJ0_isLatin1_aae02_14 : decode cJ0_isLatin1_aae02 14 = .ok (.goto 4, 3) := by decide +kernel
theorem dJ0_isLatin1_aae02_17 : decode cJ0_isLatin1_aae02 17 = .ok (.iconst 0, 1) := by decide +kernel
theorem dJ0_isLatin1_aae02_18 : decode cJ0_isLatin1_aae02 18 = .ok (.ireturn, 1) := by decide +kernel
theorem dJ0_checkIndex_df160_0 : decode cJ0_checkIndex_df160 0 = .ok (.iload_n 0, 1) := by decide +kernel
theorem dJ0_checkIndex_df160_1 : decode cJ0_checkIndex_df160 1 = .ok (.iload_n 1, 1) := by decide +kernel
theorem dJ0_checkIndex_df160_2 : decode cJ0_checkIndex_df160 2 = .ok (.getstatic 1053, 3) := by decide +kernel
theorem dJ0_checkIndex_df160_5 : decode cJ0_checkIndex_df160 5 = .ok (.invokestatic 1059, 3) := by decide +kernel
theorem dJ0_checkIndex_df160_8 : decode cJ0_checkIndex_df160 8 = .ok (.pop, 1) := by decide +kernel
theorem dJ0_checkIndex_df160_9 : decode cJ0_checkIndex_df160 9 = .ok (.return_, 1) := by decide +kernel
theorem dJ1_charAt_3b067_0 : decode cJ1_charAt_3b067 0 = .ok (.iload_n 1, 1) := by decide +kernel
theorem dJ1_charAt_3b067_1 : decode cJ1_charAt_3b067 1 = .ok (.aload_n 0, 1) := by decide +kernel
theorem dJ1_charAt_3b067_2 : decode cJ1_charAt_3b067 2 = .ok (.arraylength, 1) := by decide +kernel
theorem dJ1_charAt_3b067_3 : decode cJ1_charAt_3b067 3 = .ok (.invokestatic 9, 3) := by decide +kernel
theorem dJ1_charAt_3b067_6 : decode cJ1_charAt_3b067 6 = .ok (.aload_n 0, 1) := by decide +kernel
theorem dJ1_charAt_3b067_7 : decode cJ1_charAt_3b067 7 = .ok (.iload_n 1, 1) := by decide +kernel
theorem dJ1_charAt_3b067_8 : decode cJ1_charAt_3b067 8 = .ok (.baload, 1) := by decide +kernel
theorem dJ1_charAt_3b067_9 : decode cJ1_charAt_3b067 9 = .ok (.sipush 255, 3) := by decide +kernel
theorem dJ1_charAt_3b067_12 : decode cJ1_charAt_3b067 12 = .ok (.iand, 1) := by decide +kernel
theorem dJ1_charAt_3b067_13 : decode cJ1_charAt_3b067 13 = .ok (.i2c, 1) := by decide +kernel
theorem dJ1_charAt_3b067_14 : decode cJ1_charAt_3b067 14 = .ok (.ireturn, 1) := by decide +kernel
theorem dJ2_getChar_3b067_0 : decode cJ2_getChar_3b067 0 = .ok (.getstatic 44, 3) := by decide +kernel
theorem dJ2_getChar_3b067_3 : decode cJ2_getChar_3b067 3 = .ok (.ifCond .ne 25, 3) := by decide +kernel
theorem dJ2_getChar_3b067_6 : decode cJ2_getChar_3b067 6 = .ok (.iload_n 1, 1) := by decide +kernel
theorem dJ2_getChar_3b067_7 : decode cJ2_getChar_3b067 7 = .ok (.ifCond .lt 11, 3) := by decide +kernel
theorem dJ2_getChar_3b067_10 : decode cJ2_getChar_3b067 10 = .ok (.iload_n 1, 1) := by decide +kernel
theorem dJ2_getChar_3b067_11 : decode cJ2_getChar_3b067 11 = .ok (.aload_n 0, 1) := by decide +kernel
theorem dJ2_getChar_3b067_12 : decode cJ2_getChar_3b067 12 = .ok (.invokestatic 48, 3) := by decide +kernel
theorem dJ2_getChar_3b067_15 : decode cJ2_getChar_3b067 15 = .ok (.if_icmp .lt 13, 3) := by decide +kernel
theorem dJ2_getChar_3b067_18 : decode cJ2_getChar_3b067 18 = .ok (.new 52, 3) := by decide +kernel
theorem dJ2_getChar_3b067_21 : decode cJ2_getChar_3b067 21 = .ok (.dup, 1) := by decide +kernel
theorem dJ2_getChar_3b067_22 : decode cJ2_getChar_3b067 22 = .ok (.ldc 54, 2) := by decide +kernel
theorem dJ2_getChar_3b067_24 : decode cJ2_getChar_3b067 24 = .ok (.invokespecial 56, 3) := by decide +kernel
theorem dJ2_getChar_3b067_27 : decode cJ2_getChar_3b067 27 = .ok (.athrow, 1) := by decide +kernel
theorem dJ2_getChar_3b067_28 : decode cJ2_getChar_3b067 28 = .ok (.iload_n 1, 1) := by decide +kernel
theorem dJ2_getChar_3b067_29 : decode cJ2_getChar_3b067 29 = .ok (.iconst 1, 1) := by decide +kernel
theorem dJ2_getChar_3b067_30 : decode cJ2_getChar_3b067 30 = .ok (.ishl, 1) := by decide +kernel
theorem dJ2_getChar_3b067_31 : decode cJ2_getChar_3b067 31 = .ok (.istore_n 1, 1) := by decide +kernel
theorem dJ2_getChar_3b067_32 : decode cJ2_getChar_3b067 32 = .ok (.aload_n 0, 1) := by decide +kernel
theorem dJ2_getChar_3b067_33 : decode cJ2_getChar_3b067 33 = .ok (.iload_n 1, 1) := by decide +kernel
theorem dJ2_getChar_3b067_34 : decode cJ2_getChar_3b067 34 = .ok (.iinc 1 1, 3) := by decide +kernel
theorem dJ2_getChar_3b067_37 : decode cJ2_getChar_3b067 37 = .ok (.baload, 1) := by decide +kernel
theorem dJ2_getChar_3b067_38 : decode cJ2_getChar_3b067 38 = .ok (.sipush 255, 3) := by decide +kernel
theorem dJ2_getChar_3b067_41 : decode cJ2_getChar_3b067 41 = .ok (.iand, 1) := by decide +kernel
theorem dJ2_getChar_3b067_42 : decode cJ2_getChar_3b067 42 = .ok (.getstatic 59, 3) := by decide +kernel
theorem dJ2_getChar_3b067_45 : decode cJ2_getChar_3b067 45 = .ok (.ishl, 1) := by decide +kernel
theorem dJ2_getChar_3b067_46 : decode cJ2_getChar_3b067 46 = .ok (.aload_n 0, 1) := by decide +kernel
theorem dJ2_getChar_3b067_47 : decode cJ2_getChar_3b067 47 = .ok (.iload_n 1, 1) := by decide +kernel
theorem dJ2_getChar_3b067_48 : decode cJ2_getChar_3b067 48 = .ok (.baload, 1) := by decide +kernel
theorem dJ2_getChar_3b067_49 : decode cJ2_getChar_3b067 49 = .ok (.sipush 255, 3) := by decide +kernel
theorem dJ2_getChar_3b067_52 : decode cJ2_getChar_3b067 52 = .ok (.iand, 1) := by decide +kernel
theorem dJ2_getChar_3b067_53 : decode cJ2_getChar_3b067 53 = .ok (.getstatic 63, 3) := by decide +kernel
theorem dJ2_getChar_3b067_56 : decode cJ2_getChar_3b067 56 = .ok (.ishl, 1) := by decide +kernel
theorem dJ2_getChar_3b067_57 : decode cJ2_getChar_3b067 57 = .ok (.ior, 1) := by decide +kernel
theorem dJ2_getChar_3b067_58 : decode cJ2_getChar_3b067 58 = .ok (.i2c, 1) := by decide +kernel
theorem dJ2_getChar_3b067_59 : decode cJ2_getChar_3b067 59 = .ok (.ireturn, 1) := by decide +kernel
theorem dJ2_length_9d52b_0 : decode cJ2_length_9d52b 0 = .ok (.aload_n 0, 1) := by decide +kernel
theorem dJ2_length_9d52b_1 : decode cJ2_length_9d52b 1 = .ok (.arraylength, 1) := by decide +kernel
theorem dJ2_length_9d52b_2 : decode cJ2_length_9d52b 2 = .ok (.iconst 1, 1) := by decide +kernel
theorem dJ2_length_9d52b_3 : decode cJ2_length_9d52b 3 = .ok (.ishr, 1) := by decide +kernel
theorem dJ2_length_9d52b_4 : decode cJ2_length_9d52b 4 = .ok (.ireturn, 1) := by decide +kernel
theorem dJ2_charAt_3b067_0 : decode cJ2_charAt_3b067 0 = .ok (.iload_n 1, 1) := by decide +kernel
theorem dJ2_charAt_3b067_1 : decode cJ2_charAt_3b067 1 = .ok (.aload_n 0, 1) := by decide +kernel
theorem dJ2_charAt_3b067_2 : decode cJ2_charAt_3b067 2 = .ok (.invokestatic 67, 3) := by decide +kernel
theorem dJ2_charAt_3b067_5 : decode cJ2_charAt_3b067 5 = .ok (.aload_n 0, 1) := by decide +kernel
theorem dJ2_charAt_3b067_6 : decode cJ2_charAt_3b067 6 = .ok (.iload_n 1, 1) := by decide +kernel
theorem dJ2_charAt_3b067_7 : decode cJ2_charAt_3b067 7 = .ok (.invokestatic 71, 3) := by decide +kernel
theorem dJ2_charAt_3b067_10 : decode cJ2_charAt_3b067 10 = .ok (.ireturn, 1) := by decide +kernel
theorem dJ2_checkIndex_2214a_0 : decode cJ2_checkIndex_2214a 0 = .ok (.iload_n 0, 1) := by decide +kernel
theorem dJ2_checkIndex_2214a_1 : decode cJ2_checkIndex_2214a 1 = .ok (.aload_n 1, 1) := by decide +kernel
theorem dJ2_checkIndex_2214a_2 : decode cJ2_checkIndex_2214a 2 = .ok (.invokestatic 48, 3) := by decide +kernel
theorem dJ2_checkIndex_2214a_5 : decode cJ2_checkIndex_2214a 5 = .ok (.invokestatic 414, 3) := by decide +kernel
theorem dJ2_checkIndex_2214a_8 : decode cJ2_checkIndex_2214a 8 = .ok (.return_, 1) := by decide +kernel
theorem dJ7_fill_53178_0 : decode cJ7_fill_53178 0 = .ok (.iconst 0, 1) := by decide +kernel
theorem dJ7_fill_53178_1 : decode cJ7_fill_53178 1 = .ok (.istore_n 2, 1) := by decide +kernel
theorem dJ7_fill_53178_2 : decode cJ7_fill_53178 2 = .ok (.aload_n 0, 1) := by decide +kernel
theorem dJ7_fill_53178_3 : decode cJ7_fill_53178 3 = .ok (.arraylength, 1) := by decide +kernel
theorem dJ7_fill_53178_4 : decode cJ7_fill_53178 4 = .ok (.istore_n 3, 1) := by decide +kernel
theorem dJ7_fill_53178_5 : decode cJ7_fill_53178 5 = .ok (.iload_n 2, 1) := by decide +kernel
theorem dJ7_fill_53178_6 : decode cJ7_fill_53178 6 = .ok (.iload_n 3, 1) := by decide +kernel
theorem dJ7_fill_53178_7 : decode cJ7_fill_53178 7 = .ok (.if_icmp .ge 13, 3) := by decide +kernel
theorem dJ7_fill_53178_10 : decode cJ7_fill_53178 10 = .ok (.aload_n 0, 1) := by decide +kernel
theorem dJ7_fill_53178_11 : decode cJ7_fill_53178 11 = .ok (.iload_n 2, 1) := by decide +kernel
theorem dJ7_fill_53178_12 : decode cJ7_fill_53178 12 = .ok (.iload_n 1, 1) := by decide +kernel
theorem dJ7_fill_53178_13 : decode cJ7_fill_53178 13 = .ok (.iastore, 1) := by decide +kernel
theorem dJ7_fill_53178_14 : decode cJ7_fill_53178 14 = .ok (.iinc 2 1, 3) := by decide +kernel
theorem dJ7_fill_53178_17 : decode cJ7_fill_53178 17 = .ok (.goto (-12), 3) := by decide +kernel
theorem dJ7_fill_53178_20 : decode cJ7_fill_53178 20 = .ok (.return_, 1) := by decide +kernel
theorem dJ7_copyOf_59c91_0 : decode cJ7_copyOf_59c91 0 = .ok (.iload_n 1, 1) := by decide +kernel
theorem dJ7_copyOf_59c91_1 : decode cJ7_copyOf_59c91 1 = .ok (.aload_n 0, 1) := by decide +kernel
theorem dJ7_copyOf_59c91_2 : decode cJ7_copyOf_59c91 2 = .ok (.arraylength, 1) := by decide +kernel
theorem dJ7_copyOf_59c91_3 : decode cJ7_copyOf_59c91 3 = .ok (.if_icmp .ne 11, 3) := by decide +kernel
theorem dJ7_copyOf_59c91_6 : decode cJ7_copyOf_59c91 6 = .ok (.aload_n 0, 1) := by decide +kernel
theorem dJ7_copyOf_59c91_7 : decode cJ7_copyOf_59c91 7 = .ok (.invokevirtual 316, 3) := by decide +kernel
theorem dJ7_copyOf_59c91_10 : decode cJ7_copyOf_59c91 10 = .ok (.checkcast 317, 3) := by decide +kernel
theorem dJ7_copyOf_59c91_13 : decode cJ7_copyOf_59c91 13 = .ok (.areturn, 1) := by decide +kernel
theorem dJ7_copyOf_59c91_14 : decode cJ7_copyOf_59c91 14 = .ok (.iload_n 1, 1) := by decide +kernel
theorem dJ7_copyOf_59c91_15 : decode cJ7_copyOf_59c91 15 = .ok (.newarray .int, 2) := by decide +kernel
theorem dJ7_copyOf_59c91_17 : decode cJ7_copyOf_59c91 17 = .ok (.astore_n 2, 1) := by decide +kernel
theorem dJ7_copyOf_59c91_18 : decode cJ7_copyOf_59c91 18 = .ok (.aload_n 0, 1) := by decide +kernel
theorem dJ7_copyOf_59c91_19 : decode cJ7_copyOf_59c91 19 = .ok (.iconst 0, 1) := by decide +kernel
theorem dJ7_copyOf_59c91_20 : decode cJ7_copyOf_59c91 20 = .ok (.aload_n 2, 1) := by decide +kernel
theorem dJ7_copyOf_59c91_21 : decode cJ7_copyOf_59c91 21 = .ok (.iconst 0, 1) := by decide +kernel
theorem dJ7_copyOf_59c91_22 : decode cJ7_copyOf_59c91 22 = .ok (.aload_n 0, 1) := by decide +kernel
theorem dJ7_copyOf_59c91_23 : decode cJ7_copyOf_59c91 23 = .ok (.arraylength, 1) := by decide +kernel
theorem dJ7_copyOf_59c91_24 : decode cJ7_copyOf_59c91 24 = .ok (.iload_n 1, 1) := by decide +kernel
theorem dJ7_copyOf_59c91_25 : decode cJ7_copyOf_59c91 25 = .ok (.invokestatic 304, 3) := by decide +kernel
theorem dJ7_copyOf_59c91_28 : decode cJ7_copyOf_59c91 28 = .ok (.invokestatic 150, 3) := by decide +kernel
theorem dJ7_copyOf_59c91_31 : decode cJ7_copyOf_59c91 31 = .ok (.aload_n 2, 1) := by decide +kernel
theorem dJ7_copyOf_59c91_32 : decode cJ7_copyOf_59c91 32 = .ok (.areturn, 1) := by decide +kernel
theorem dJ3_checkIndex_8e157_0 : decode cJ3_checkIndex_8e157 0 = .ok (.iload_n 0, 1) := by decide +kernel
theorem dJ3_checkIndex_8e157_1 : decode cJ3_checkIndex_8e157 1 = .ok (.ifCond .lt 8, 3) := by decide +kernel
theorem dJ3_checkIndex_8e157_4 : decode cJ3_checkIndex_8e157 4 = .ok (.iload_n 0, 1) := by decide +kernel
theorem dJ3_checkIndex_8e157_5 : decode cJ3_checkIndex_8e157 5 = .ok (.iload_n 1, 1) := by decide +kernel
theorem dJ3_checkIndex_8e157_6 : decode cJ3_checkIndex_8e157 6 = .ok (.if_icmp .lt 10, 3) := by decide +kernel
theorem dJ3_checkIndex_8e157_9 : decode cJ3_checkIndex_8e157 9 = .ok (.aload_n 2, 1) := by decide +kernel
theorem dJ3_checkIndex_8e157_10 : decode cJ3_checkIndex_8e157 10 = .ok (.iload_n 0, 1) := by decide +kernel
theorem dJ3_checkIndex_8e157_11 : decode cJ3_checkIndex_8e157 11 = .ok (.iload_n 1, 1) := by decide +kernel
theorem dJ3_checkIndex_8e157_12 : decode cJ3_checkIndex_8e157 12 = .ok (.invokestatic 95, 3) := by decide +kernel
theorem dJ3_checkIndex_8e157_15 : decode cJ3_checkIndex_8e157 15 = .ok (.athrow, 1) := by decide +kernel
theorem dJ3_checkIndex_8e157_16 : decode cJ3_checkIndex_8e157 16 = .ok (.iload_n 0, 1) := by decide +kernel
theorem dJ3_checkIndex_8e157_17 : decode cJ3_checkIndex_8e157 17 = .ok (.ireturn, 1) := by decide +kernel
end
section
theorem dX9_in_0 : decode cX9_in 0 = .ok (.lload_n 0, 1) := by decide +kernel
theorem dX9_in_1 : decode cX9_in 1 = .ok (.lload_n 2, 1) := by decide +kernel
theorem dX9_in_2 : decode cX9_in 2 = .ok (.lcmp, 1) := by decide +kernel
theorem dX9_in_3 : decode cX9_in 3 = .ok (.ifCond .lt 14, 3) := by decide +kernel
theorem dX9_in_6 : decode cX9_in 6 = .ok (.lload_n 0, 1) := by decide +kernel
theorem dX9_in_7 : decode cX9_in 7 = .ok (.lload 4, 2) := by decide +kernel
theorem dX9_in_9 : decode cX9_in 9 = .ok (.lcmp, 1) := by decide +kernel
theorem dX9_in_10 : decode cX9_in 10 = .ok (.ifCond .gt 7, 3) := by decide +kernel
theorem dX9_in_13 : decode cX9_in 13 = .ok (.iconst 1, 1) := by decide +kernel
theorem dX9_in_14 : decode cX9_in 14 = .ok (.goto 4, 3) := by decide +kernel
theorem dX9_in_17 : decode cX9_in 17 = .ok (.iconst 0, 1) := by decide +kernel
theorem dX9_in_18 : decode cX9_in 18 = .ok (.ireturn, 1) := by decide +kernel
theorem dX9_within_0 : decode cX9_within 0 = .ok (.iload_n 0, 1) := by decide +kernel
theorem dX9_within_1 : decode cX9_within 1 = .ok (.iload_n 1, 1) := by decide +kernel
theorem dX9_within_2 : decode cX9_within 2 = .ok (.if_icmp .ge 7, 3) := by decide +kernel
theorem dX9_within_5 : decode cX9_within 5 = .ok (.iload_n 1, 1) := by decide +kernel
theorem dX9_within_6 : decode cX9_within 6 = .ok (.goto 13, 3) := by decide +kernel
theorem dX9_within_9 : decode cX9_within 9 = .ok (.iload_n 0, 1) := by decide +kernel
theorem dX9_within_10 : decode cX9_within 10 = .ok (.iload_n 2, 1) := by decide +kernel
theorem dX9_within_11 : decode cX9_within 11 = .ok (.if_icmp .le 7, 3) := by decide +kernel
theorem dX9_within_14 : decode cX9_within 14 = .ok (.iload_n 2, 1) := by decide +kernel
theorem dX9_within_15 : decode cX9_within 15 = .ok (.goto 4, 3) := by decide +kernel
theorem dX9_within_18 : decode cX9_within 18 = .ok (.iload_n 0, 1) := by decide +kernel
theorem dX9_within_19 : decode cX9_within 19 = .ok (.ireturn, 1) := by decide +kernel
theorem dX9_bitsOf_0 : decode cX9_bitsOf 0 = .ok (.iconst 0, 1) := by decide +kernel
theorem dX9_bitsOf_1 : decode cX9_bitsOf 1 = .ok (.istore_n 1, 1) := by decide +kernel
theorem dX9_bitsOf_2 : decode cX9_bitsOf 2 = .ok (.iload_n 0, 1) := by decide +kernel
theorem dX9_bitsOf_3 : decode cX9_bitsOf 3 = .ok (.istore_n 2, 1) := by decide +kernel
theorem dX9_bitsOf_4 : decode cX9_bitsOf 4 = .ok (.iload_n 2, 1) := by decide +kernel
theorem dX9_bitsOf_5 : decode cX9_bitsOf 5 = .ok (.ifCond .eq 15, 3) := by decide +kernel
theorem dX9_bitsOf_8 : decode cX9_bitsOf 8 = .ok (.iinc 1 1, 3) := by decide +kernel
theorem dX9_bitsOf_11 : decode cX9_bitsOf 11 = .ok (.iload_n 2, 1) := by decide +kernel
theorem dX9_bitsOf_12 : decode cX9_bitsOf 12 = .ok (.iload_n 2, 1) := by decide +kernel
theorem dX9_bitsOf_13 : decode cX9_bitsOf 13 = .ok (.iconst 1, 1) := by decide +kernel
theorem dX9_bitsOf_14 : decode cX9_bitsOf 14 = .ok (.isub, 1) := by decide +kernel
theorem dX9_bitsOf_15 : decode cX9_bitsOf 15 = .ok (.iand, 1) := by decide +kernel
theorem dX9_bitsOf_16 : decode cX9_bitsOf 16 = .ok (.istore_n 2, 1) := by decide +kernel
theorem dX9_bitsOf_17 : decode cX9_bitsOf 17 = .ok (.goto (-13), 3) := by decide +kernel
theorem dX9_bitsOf_20 : decode cX9_bitsOf 20 = .ok (.iload_n 1, 1) := by decide +kernel
theorem dX9_bitsOf_21 : decode cX9_bitsOf 21 = .ok (.ireturn, 1) := by decide +kernel
theorem dX9_init_0 : decode cX9_init 0 = .ok (.aload_n 0, 1) := by decide +kernel
theorem dX9_init_1 : decode cX9_init 1 = .ok (.invokespecial 7, 3) := by decide +kernel
theorem dX9_init_4 : decode cX9_init 4 = .ok (.aload_n 0, 1) := by decide +kernel
theorem dX9_init_5 : decode cX9_init 5 = .ok (.sipush 960, 3) := by decide +kernel
theorem dX9_init_8 : decode cX9_init 8 = .ok (.newarray .int, 2) := by decide +kernel
theorem dX9_init_10 : decode cX9_init 10 = .ok (.putfield 13, 3) := by decide +kernel
theorem dX9_init_13 : decode cX9_init 13 = .ok (.aload_n 0, 1) := by decide +kernel
theorem dX9_init_14 : decode cX9_init 14 = .ok (.bipush 6, 2) := by decide +kernel
theorem dX9_init_16 : decode cX9_init 16 = .ok (.newarray .int, 2) := by decide +kernel
theorem dX9_init_18 : decode cX9_init 18 = .ok (.putfield 17, 3) := by decide +kernel
theorem dX9_init_21 : decode cX9_init 21 = .ok (.aload_n 0, 1) := by decide +kernel
theorem dX9_init_22 : decode cX9_init 22 = .ok (.sipush 160, 3) := by decide +kernel
theorem dX9_init_25 : decode cX9_init 25 = .ok (.newarray .int, 2) := by decide +kernel
theorem dX9_init_27 : decode cX9_init 27 = .ok (.putfield 20, 3) := by decide +kernel
theorem dX9_init_30 : decode cX9_init 30 = .ok (.aload_n 0, 1) := by decide +kernel
theorem dX9_init_31 : decode cX9_init 31 = .ok (.bipush 32, 2) := by decide +kernel
theorem dX9_init_33 : decode cX9_init 33 = .ok (.newarray .int, 2) := by decide +kernel
theorem dX9_init_35 : decode cX9_init 35 = .ok (.putfield 23, 3) := by decide +kernel
theorem dX9_init_38 : decode cX9_init 38 = .ok (.aload_n 0, 1) := by decide +kernel
theorem dX9_init_39 : decode cX9_init 39 = .ok (.bipush 8, 2) := by decide +kernel
theorem dX9_init_41 : decode cX9_init 41 = .ok (.newarray .int, 2) := by decide +kernel
theorem dX9_init_43 : decode cX9_init 43 = .ok (.putfield 26, 3) := by decide +kernel
theorem dX9_init_46 : decode cX9_init 46 = .ok (.aload_n 0, 1) := by decide +kernel
theorem dX9_init_47 : decode cX9_init 47 = .ok (.bipush 8, 2) := by decide +kernel
theorem dX9_init_49 : decode cX9_init 49 = .ok (.newarray .int, 2) := by decide +kernel
theorem dX9_init_51 : decode cX9_init 51 = .ok (.putfield 29, 3) := by decide +kernel
theorem dX9_init_54 : decode cX9_init 54 = .ok (.aload_n 0, 1) := by decide +kernel
theorem dX9_init_55 : decode cX9_init 55 = .ok (.bipush 8, 2) := by decide +kernel
theorem dX9_init_57 : decode cX9_init 57 = .ok (.newarray .int, 2) := by decide +kernel
theorem dX9_init_59 : decode cX9_init 59 = .ok (.putfield 32, 3) := by decide +kernel
theorem dX9_init_62 : decode cX9_init 62 = .ok (.aload_n 0, 1) := by decide +kernel
theorem dX9_init_63 : decode cX9_init 63 = .ok (.bipush 8, 2) := by decide +kernel
theorem dX9_init_65 : decode cX9_init 65 = .ok (.newarray .int, 2) := by decide +kernel
theorem dX9_init_67 : decode cX9_init 67 = .ok (.putfield 35, 3) := by decide +kernel
theorem dX9_init_70 : decode cX9_init 70 = .ok (.aload_n 0, 1) := by decide +kernel
theorem dX9_init_71 : decode cX9_init 71 = .ok (.bipush 8, 2) := by decide +kernel
theorem dX9_init_73 : decode cX9_init 73 = .ok (.newarray .int, 2) := by decide +kernel
theorem dX9_init_75 : decode cX9_init 75 = .ok (.putfield 38, 3) := by decide +kernel
theorem dX9_init_78 : decode cX9_init 78 = .ok (.aload_n 0, 1) := by decide +kernel
theorem dX9_init_79 : decode cX9_init 79 = .ok (.sipush 192, 3) := by decide +kernel
theorem dX9_init_82 : decode cX9_init 82 = .ok (.newarray .int, 2) := by decide +kernel
theorem dX9_init_84 : decode cX9_init 84 = .ok (.putfield 41, 3) := by decide +kernel
theorem dX9_init_87 : decode cX9_init 87 = .ok (.aload_n 0, 1) := by decide +kernel
theorem dX9_init_88 : decode cX9_init 88 = .ok (.sipush 256, 3) := by decide +kernel
theorem dX9_init_91 : decode cX9_init 91 = .ok (.newarray .int, 2) := by decide +kernel
theorem dX9_init_93 : decode cX9_init 93 = .ok (.putfield 44, 3) := by decide +kernel
theorem dX9_init_96 : decode cX9_init 96 = .ok (.aload_n 0, 1) := by decide +kernel
theorem dX9_init_97 : decode cX9_init 97 = .ok (.bipush 32, 2) := by decide +kernel
theorem dX9_init_99 : decode cX9_init 99 = .ok (.newarray .int, 2) := by decide +kernel
theorem dX9_init_101 : decode cX9_init 101 = .ok (.putfield 47, 3) := by decide +kernel
theorem dX9_init_104 : decode cX9_init 104 = .ok (.aload_n 0, 1) := by decide +kernel
theorem dX9_init_105 : decode cX9_init 105 = .ok (.bipush 32, 2) := by decide +kernel
theorem dX9_init_107 : decode cX9_init 107 = .ok (.newarray .int, 2) := by decide +kernel
theorem dX9_init_109 : decode cX9_init 109 = .ok (.putfield 50, 3) := by decide +kernel
theorem dX9_init_112 : decode cX9_init 112 = .ok (.aload_n 0, 1) := by decide +kernel
theorem dX9_init_113 : decode cX9_init 113 = .ok (.bipush 32, 2) := by decide +kernel
theorem dX9_init_115 : decode cX9_init 115 = .ok (.newarray .int, 2) := by decide +kernel
theorem dX9_init_117 : decode cX9_init 117 = .ok (.putfield 53, 3) := by decide +kernel
theorem dX9_init_120 : decode cX9_init 120 = .ok (.aload_n 0, 1) := by decide +kernel
theorem dX9_init_121 : decode cX9_init 121 = .ok (.bipush 32, 2) := by decide +kernel
theorem dX9_init_123 : decode cX9_init 123 = .ok (.newarray .int, 2) := by decide +kernel
theorem dX9_init_125 : decode cX9_init 125 = .ok (.putfield 56, 3) := by decide +kernel
theorem dX9_init_128 : decode cX9_init 128 = .ok (.aload_n 0, 1) := by decide +kernel
theorem dX9_init_129 : decode cX9_init 129 = .ok (.iconst (-1), 1) := by decide +kernel
theorem dX9_init_130 : decode cX9_init 130 = .ok (.putfield 59, 3) := by decide +kernel
theorem dX9_init_133 : decode cX9_init 133 = .ok (.aload_n 0, 1) := by decide +kernel
theorem dX9_init_134 : decode cX9_init 134 = .ok (.iconst 4, 1) := by decide +kernel
theorem dX9_init_135 : decode cX9_init 135 = .ok (.newarray .boolean, 2) := by decide +kernel
theorem dX9_init_137 : decode cX9_init 137 = .ok (.putfield 62, 3) := by decide +kernel
theorem dX9_init_140 : decode cX9_init 140 = .ok (.aload_n 0, 1) := by decide +kernel
theorem dX9_init_141 : decode cX9_init 141 = .ok (.iconst 4, 1) := by decide +kernel
theorem dX9_init_142 : decode cX9_init 142 = .ok (.newarray .int, 2) := by decide +kernel
theorem dX9_init_144 : decode cX9_init 144 = .ok (.putfield 66, 3) := by decide +kernel
theorem dX9_init_147 : decode cX9_init 147 = .ok (.aload_n 0, 1) := by decide +kernel
theorem dX9_init_148 : decode cX9_init 148 = .ok (.iconst 4, 1) := by decide +kernel
theorem dX9_init_149 : decode cX9_init 149 = .ok (.newarray .int, 2) := by decide +kernel
theorem dX9_init_151 : decode cX9_init 151 = .ok (.putfield 69, 3) := by decide +kernel
theorem dX9_init_154 : decode cX9_init 154 = .ok (.aload_n 0, 1) := by decide +kernel
theorem dX9_init_155 : decode cX9_init 155 = .ok (.sipush 160, 3) := by decide +kernel
theorem dX9_init_158 : decode cX9_init 158 = .ok (.newarray .int, 2) := by decide +kernel
theorem dX9_init_160 : decode cX9_init 160 = .ok (.putfield 72, 3) := by decide +kernel
theorem dX9_init_163 : decode cX9_init 163 = .ok (.aload_n 0, 1) := by decide +kernel
theorem dX9_init_164 : decode cX9_init 164 = .ok (.iconst 0, 1) := by decide +kernel
theorem dX9_init_165 : decode cX9_init 165 = .ok (.bipush 99, 2) := by decide +kernel
theorem dX9_init_167 : decode cX9_init 167 = .ok (.bipush 111, 2) := by decide +kernel
theorem dX9_init_169 : decode cX9_init 169 = .ok (.bipush 115, 2) := by decide +kernel
theorem dX9_init_171 : decode cX9_init 171 = .ok (.bipush 116, 2) := by decide +kernel
theorem dX9_init_173 : decode cX9_init 173 = .ok (.bipush 115, 2) := by decide +kernel
theorem dX9_init_175 : decode cX9_init 175 = .ok (.bipush 32, 2) := by decide +kernel
theorem dX9_init_177 : decode cX9_init 177 = .ok (.bipush 49, 2) := by decide +kernel
theorem dX9_init_179 : decode cX9_init 179 = .ok (.bipush 32, 2) := by decide +kernel
theorem dX9_init_181 : decode cX9_init 181 = .ok (.invokevirtual 75, 3) := by decide +kernel
theorem dX9_init_184 : decode cX9_init 184 = .ok (.aload_n 0, 1) := by decide +kernel
theorem dX9_init_185 : decode cX9_init 185 = .ok (.bipush 8, 2) := by decide +kernel
theorem dX9_init_187 : decode cX9_init 187 = .ok (.bipush 43, 2) := by decide +kernel
theorem dX9_init_189 : decode cX9_init 189 = .ok (.bipush 32, 2) := by decide +kernel
theorem dX9_init_191 : decode cX9_init 191 = .ok (.bipush 110, 2) := by decide +kernel
theorem dX9_init_193 : decode cX9_init 193 = .ok (.bipush 117, 2) := by decide +kernel
theorem dX9_init_195 : decode cX9_init 195 = .ok (.bipush 109, 2) := by decide +kernel
theorem dX9_init_197 : decode cX9_init 197 = .ok (.bipush 98, 2) := by decide +kernel
theorem dX9_init_199 : decode cX9_init 199 = .ok (.bipush 101, 2) := by decide +kernel
theorem dX9_init_201 : decode cX9_init 201 = .ok (.bipush 114, 2) := by decide +kernel
theorem dX9_init_203 : decode cX9_init 203 = .ok (.invokevirtual 75, 3) := by decide +kernel
theorem dX9_init_206 : decode cX9_init 206 = .ok (.aload_n 0, 1) := by decide +kernel
theorem dX9_init_207 : decode cX9_init 207 = .ok (.bipush 16, 2) := by decide +kernel
theorem dX9_init_209 : decode cX9_init 209 = .ok (.bipush 32, 2) := by decide +kernel
theorem dX9_init_211 : decode cX9_init 211 = .ok (.bipush 59, 2) := by decide +kernel
theorem dX9_init_213 : decode cX9_init 213 = .ok (.bipush 32, 2) := by decide +kernel
theorem dX9_init_215 : decode cX9_init 215 = .ok (.bipush 119, 2) := by decide +kernel
theorem dX9_init_217 : decode cX9_init 217 = .ok (.bipush 101, 2) := by decide +kernel
theorem dX9_init_219 : decode cX9_init 219 = .ok (.bipush 116, 2) := by decide +kernel
theorem dX9_init_221 : decode cX9_init 221 = .ok (.bipush 115, 2) := by decide +kernel
theorem dX9_init_223 : decode cX9_init 223 = .ok (.bipush 32, 2) := by decide +kernel
theorem dX9_init_225 : decode cX9_init 225 = .ok (.invokevirtual 75, 3) := by decide +kernel
theorem dX9_init_228 : decode cX9_init 228 = .ok (.aload_n 0, 1) := by decide +kernel
theorem dX9_init_229 : decode cX9_init 229 = .ok (.bipush 24, 2) := by decide +kernel
theorem dX9_init_231 : decode cX9_init 231 = .ok (.bipush 119, 2) := by decide +kernel
theorem dX9_init_233 : decode cX9_init 233 = .ok (.bipush 101, 2) := by decide +kernel
theorem dX9_init_235 : decode cX9_init 235 = .ok (.bipush 97, 2) := by decide +kernel
theorem dX9_init_237 : decode cX9_init 237 = .ok (.bipush 116, 2) := by decide +kernel
theorem dX9_init_239 : decode cX9_init 239 = .ok (.bipush 104, 2) := by decide +kernel
theorem dX9_init_241 : decode cX9_init 241 = .ok (.bipush 101, 2) := by decide +kernel
theorem dX9_init_243 : decode cX9_init 243 = .ok (.bipush 114, 2) := by decide +kernel
theorem dX9_init_245 : decode cX9_init 245 = .ok (.bipush 32, 2) := by decide +kernel
theorem dX9_init_247 : decode cX9_init 247 = .ok (.invokevirtual 75, 3) := by decide +kernel
theorem dX9_init_250 : decode cX9_init 250 = .ok (.aload_n 0, 1) := by decide +kernel
theorem dX9_init_251 : decode cX9_init 251 = .ok (.bipush 32, 2) := by decide +kernel
theorem dX9_init_253 : decode cX9_init 253 = .ok (.bipush 59, 2) := by decide +kernel
theorem dX9_init_255 : decode cX9_init 255 = .ok (.bipush 32, 2) := by decide +kernel
theorem dX9_init_257 : decode cX9_init 257 = .ok (.bipush 112, 2) := by decide +kernel
theorem dX9_init_259 : decode cX9_init 259 = .ok (.bipush 114, 2) := by decide +kernel
theorem dX9_init_261 : decode cX9_init 261 = .ok (.bipush 105, 2) := by decide +kernel
theorem dX9_init_263 : decode cX9_init 263 = .ok (.bipush 99, 2) := by decide +kernel
theorem dX9_init_265 : decode cX9_init 265 = .ok (.bipush 101, 2) := by decide +kernel
theorem dX9_init_267 : decode cX9_init 267 = .ok (.bipush 32, 2) := by decide +kernel
theorem dX9_init_269 : decode cX9_init 269 = .ok (.invokevirtual 75, 3) := by decide +kernel
theorem dX9_init_272 : decode cX9_init 272 = .ok (.aload_n 0, 1) := by decide +kernel
theorem dX9_init_273 : decode cX9_init 273 = .ok (.bipush 40, 2) := by decide +kernel
theorem dX9_init_275 : decode cX9_init 275 = .ok (.bipush 119, 2) := by decide +kernel
theorem dX9_init_277 : decode cX9_init 277 = .ok (.bipush 101, 2) := by decide +kernel
theorem dX9_init_279 : decode cX9_init 279 = .ok (.bipush 97, 2) := by decide +kernel
theorem dX9_init_281 : decode cX9_init 281 = .ok (.bipush 116, 2) := by decide +kernel
theorem dX9_init_283 : decode cX9_init 283 = .ok (.bipush 104, 2) := by decide +kernel
theorem dX9_init_285 : decode cX9_init 285 = .ok (.bipush 101, 2) := by decide +kernel
theorem dX9_init_287 : decode cX9_init 287 = .ok (.bipush 114, 2) := by decide +kernel
theorem dX9_init_289 : decode cX9_init 289 = .ok (.bipush 32, 2) := by decide +kernel
theorem dX9_init_291 : decode cX9_init 291 = .ok (.invokevirtual 75, 3) := by decide +kernel
theorem dX9_init_294 : decode cX9_init 294 = .ok (.aload_n 0, 1) := by decide +kernel
theorem dX9_init_295 : decode cX9_init 295 = .ok (.bipush 48, 2) := by decide +kernel
theorem dX9_init_297 : decode cX9_init 297 = .ok (.bipush 42, 2) := by decide +kernel
theorem dX9_init_299 : decode cX9_init 299 = .ok (.bipush 32, 2) := by decide +kernel
theorem dX9_init_301 : decode cX9_init 301 = .ok (.bipush 51, 2) := by decide +kernel
theorem dX9_init_303 : decode cX9_init 303 = .ok (.bipush 32, 2) := by decide +kernel
theorem dX9_init_305 : decode cX9_init 305 = .ok (.bipush 59, 2) := by decide +kernel
theorem dX9_init_307 : decode cX9_init 307 = .ok (.bipush 32, 2) := by decide +kernel
theorem dX9_init_309 : decode cX9_init 309 = .ok (.bipush 32, 2) := by decide +kernel
theorem dX9_init_311 : decode cX9_init 311 = .ok (.bipush 32, 2) := by decide +kernel
theorem dX9_init_313 : decode cX9_init 313 = .ok (.invokevirtual 75, 3) := by decide +kernel
theorem dX9_init_316 : decode cX9_init 316 = .ok (.aload_n 0, 1) := by decide +kernel
theorem dX9_init_317 : decode cX9_init 317 = .ok (.getfield 17, 3) := by decide +kernel
theorem dX9_init_320 : decode cX9_init 320 = .ok (.iconst 0, 1) := by decide +kernel
theorem dX9_init_321 : decode cX9_init 321 = .ok (.bipush 56, 2) := by decide +kernel
theorem dX9_init_323 : decode cX9_init 323 = .ok (.iastore, 1) := by decide +kernel
theorem dX9_init_324 : decode cX9_init 324 = .ok (.aload_n 0, 1) := by decide +kernel
theorem dX9_init_325 : decode cX9_init 325 = .ok (.iconst 1, 1) := by decide +kernel
theorem dX9_init_326 : decode cX9_init 326 = .ok (.putfield 79, 3) := by decide +kernel
theorem dX9_init_329 : decode cX9_init 329 = .ok (.return_, 1) := by decide +kernel
theorem dX9_spell_0 : decode cX9_spell 0 = .ok (.aload_n 0, 1) := by decide +kernel
theorem dX9_spell_1 : decode cX9_spell 1 = .ok (.getfield 13, 3) := by decide +kernel
theorem dX9_spell_4 : decode cX9_spell 4 = .ok (.iload_n 1, 1) := by decide +kernel
theorem dX9_spell_5 : decode cX9_spell 5 = .ok (.iload_n 2, 1) := by decide +kernel
theorem dX9_spell_6 : decode cX9_spell 6 = .ok (.iastore, 1) := by decide +kernel
theorem dX9_spell_7 : decode cX9_spell 7 = .ok (.aload_n 0, 1) := by decide +kernel
theorem dX9_spell_8 : decode cX9_spell 8 = .ok (.getfield 13, 3) := by decide +kernel
theorem dX9_spell_11 : decode cX9_spell 11 = .ok (.iload_n 1, 1) := by decide +kernel
theorem dX9_spell_12 : decode cX9_spell 12 = .ok (.iconst 1, 1) := by decide +kernel
theorem dX9_spell_13 : decode cX9_spell 13 = .ok (.iadd, 1) := by decide +kernel
theorem dX9_spell_14 : decode cX9_spell 14 = .ok (.iload_n 3, 1) := by decide +kernel
theorem dX9_spell_15 : decode cX9_spell 15 = .ok (.iastore, 1) := by decide +kernel
theorem dX9_spell_16 : decode cX9_spell 16 = .ok (.aload_n 0, 1) := by decide +kernel
theorem dX9_spell_17 : decode cX9_spell 17 = .ok (.getfield 13, 3) := by decide +kernel
theorem dX9_spell_20 : decode cX9_spell 20 = .ok (.iload_n 1, 1) := by decide +kernel
theorem dX9_spell_21 : decode cX9_spell 21 = .ok (.iconst 2, 1) := by decide +kernel
theorem dX9_spell_22 : decode cX9_spell 22 = .ok (.iadd, 1) := by decide +kernel
theorem dX9_spell_23 : decode cX9_spell 23 = .ok (.iload 4, 2) := by decide +kernel
theorem dX9_spell_25 : decode cX9_spell 25 = .ok (.iastore, 1) := by decide +kernel
theorem dX9_spell_26 : decode cX9_spell 26 = .ok (.aload_n 0, 1) := by decide +kernel
theorem dX9_spell_27 : decode cX9_spell 27 = .ok (.getfield 13, 3) := by decide +kernel
theorem dX9_spell_30 : decode cX9_spell 30 = .ok (.iload_n 1, 1) := by decide +kernel
theorem dX9_spell_31 : decode cX9_spell 31 = .ok (.iconst 3, 1) := by decide +kernel
theorem dX9_spell_32 : decode cX9_spell 32 = .ok (.iadd, 1) := by decide +kernel
theorem dX9_spell_33 : decode cX9_spell 33 = .ok (.iload 5, 2) := by decide +kernel
theorem dX9_spell_35 : decode cX9_spell 35 = .ok (.iastore, 1) := by decide +kernel
theorem dX9_spell_36 : decode cX9_spell 36 = .ok (.aload_n 0, 1) := by decide +kernel
theorem dX9_spell_37 : decode cX9_spell 37 = .ok (.getfield 13, 3) := by decide +kernel
theorem dX9_spell_40 : decode cX9_spell 40 = .ok (.iload_n 1, 1) := by decide +kernel
theorem dX9_spell_41 : decode cX9_spell 41 = .ok (.iconst 4, 1) := by decide +kernel
theorem dX9_spell_42 : decode cX9_spell 42 = .ok (.iadd, 1) := by decide +kernel
theorem dX9_spell_43 : decode cX9_spell 43 = .ok (.iload 6, 2) := by decide +kernel
theorem dX9_spell_45 : decode cX9_spell 45 = .ok (.iastore, 1) := by decide +kernel
theorem dX9_spell_46 : decode cX9_spell 46 = .ok (.aload_n 0, 1) := by decide +kernel
theorem dX9_spell_47 : decode cX9_spell 47 = .ok (.getfield 13, 3) := by decide +kernel
theorem dX9_spell_50 : decode cX9_spell 50 = .ok (.iload_n 1, 1) := by decide +kernel
theorem dX9_spell_51 : decode cX9_spell 51 = .ok (.iconst 5, 1) := by decide +kernel
theorem dX9_spell_52 : decode cX9_spell 52 = .ok (.iadd, 1) := by decide +kernel
theorem dX9_spell_53 : decode cX9_spell 53 = .ok (.iload 7, 2) := by decide +kernel
theorem dX9_spell_55 : decode cX9_spell 55 = .ok (.iastore, 1) := by decide +kernel
theorem dX9_spell_56 : decode cX9_spell 56 = .ok (.aload_n 0, 1) := by decide +kernel
theorem dX9_spell_57 : decode cX9_spell 57 = .ok (.getfield 13, 3) := by decide +kernel
theorem dX9_spell_60 : decode cX9_spell 60 = .ok (.iload_n 1, 1) := by decide +kernel
theorem dX9_spell_61 : decode cX9_spell 61 = .ok (.bipush 6, 2) := by decide +kernel
theorem dX9_spell_63 : decode cX9_spell 63 = .ok (.iadd, 1) := by decide +kernel
theorem dX9_spell_64 : decode cX9_spell 64 = .ok (.iload 8, 2) := by decide +kernel
theorem dX9_spell_66 : decode cX9_spell 66 = .ok (.iastore, 1) := by decide +kernel
theorem dX9_spell_67 : decode cX9_spell 67 = .ok (.aload_n 0, 1) := by decide +kernel
theorem dX9_spell_68 : decode cX9_spell 68 = .ok (.getfield 13, 3) := by decide +kernel
theorem dX9_spell_71 : decode cX9_spell 71 = .ok (.iload_n 1, 1) := by decide +kernel
theorem dX9_spell_72 : decode cX9_spell 72 = .ok (.bipush 7, 2) := by decide +kernel
theorem dX9_spell_74 : decode cX9_spell 74 = .ok (.iadd, 1) := by decide +kernel
theorem dX9_spell_75 : decode cX9_spell 75 = .ok (.iload 9, 2) := by decide +kernel
theorem dX9_spell_77 : decode cX9_spell 77 = .ok (.iastore, 1) := by decide +kernel
theorem dX9_spell_78 : decode cX9_spell 78 = .ok (.return_, 1) := by decide +kernel
theorem dX9_isPane_0 : decode cX9_isPane 0 = .ok (.iload_n 1, 1) := by decide +kernel
theorem dX9_isPane_1 : decode cX9_isPane 1 = .ok (.i2l, 1) := by decide +kernel
theorem dX9_isPane_2 : decode cX9_isPane 2 = .ok (.lconst 0, 1) := by decide +kernel
theorem dX9_isPane_3 : decode cX9_isPane 3 = .ok (.aload_n 0, 1) := by decide +kernel
theorem dX9_isPane_4 : decode cX9_isPane 4 = .ok (.getfield 82, 3) := by decide +kernel
theorem dX9_isPane_7 : decode cX9_isPane 7 = .ok (.iconst 1, 1) := by decide +kernel
theorem dX9_isPane_8 : decode cX9_isPane 8 = .ok (.isub, 1) := by decide +kernel
theorem dX9_isPane_9 : decode cX9_isPane 9 = .ok (.i2l, 1) := by decide +kernel
theorem dX9_isPane_10 : decode cX9_isPane 10 = .ok (.invokestatic 85, 3) := by decide +kernel
theorem dX9_isPane_13 : decode cX9_isPane 13 = .ok (.ireturn, 1) := by decide +kernel
theorem dX9_isDay_0 : decode cX9_isDay 0 = .ok (.iload_n 0, 1) := by decide +kernel
theorem dX9_isDay_1 : decode cX9_isDay 1 = .ok (.i2l, 1) := by decide +kernel
theorem dX9_isDay_2 : decode cX9_isDay 2 = .ok (.lconst 0, 1) := by decide +kernel
theorem dX9_isDay_3 : decode cX9_isDay 3 = .ok (.ldc2_w 89, 3) := by decide +kernel
theorem dX9_isDay_6 : decode cX9_isDay 6 = .ok (.invokestatic 85, 3) := by decide +kernel
theorem dX9_isDay_9 : decode cX9_isDay 9 = .ok (.ireturn, 1) := by decide +kernel
theorem dX9_isRoom_0 : decode cX9_isRoom 0 = .ok (.iload_n 0, 1) := by decide +kernel
theorem dX9_isRoom_1 : decode cX9_isRoom 1 = .ok (.i2l, 1) := by decide +kernel
theorem dX9_isRoom_2 : decode cX9_isRoom 2 = .ok (.lconst 0, 1) := by decide +kernel
theorem dX9_isRoom_3 : decode cX9_isRoom 3 = .ok (.ldc2_w 91, 3) := by decide +kernel
theorem dX9_isRoom_6 : decode cX9_isRoom 6 = .ok (.invokestatic 85, 3) := by decide +kernel
theorem dX9_isRoom_9 : decode cX9_isRoom 9 = .ok (.ireturn, 1) := by decide +kernel
theorem dX9_isSpot_0 : decode cX9_isSpot 0 = .ok (.iload_n 0, 1) := by decide +kernel
theorem dX9_isSpot_1 : decode cX9_isSpot 1 = .ok (.i2l, 1) := by decide +kernel
theorem dX9_isSpot_2 : decode cX9_isSpot 2 = .ok (.lconst 0, 1) := by decide +kernel
theorem dX9_isSpot_3 : decode cX9_isSpot 3 = .ok (.ldc2_w 93, 3) := by decide +kernel
theorem dX9_isSpot_6 : decode cX9_isSpot 6 = .ok (.invokestatic 85, 3) := by decide +kernel
theorem dX9_isSpot_9 : decode cX9_isSpot 9 = .ok (.ireturn, 1) := by decide +kernel
theorem dX9_isSort_0 : decode cX9_isSort 0 = .ok (.iload_n 0, 1) := by decide +kernel
theorem dX9_isSort_1 : decode cX9_isSort 1 = .ok (.i2l, 1) := by decide +kernel
theorem dX9_isSort_2 : decode cX9_isSort 2 = .ok (.lconst 0, 1) := by decide +kernel
theorem dX9_isSort_3 : decode cX9_isSort 3 = .ok (.ldc2_w 95, 3) := by decide +kernel
theorem dX9_isSort_6 : decode cX9_isSort 6 = .ok (.invokestatic 85, 3) := by decide +kernel
theorem dX9_isSort_9 : decode cX9_isSort 9 = .ok (.ireturn, 1) := by decide +kernel
theorem dX9_set_0 : decode cX9_set 0 = .ok (.iload_n 1, 1) := by decide +kernel
theorem dX9_set_1 : decode cX9_set 1 = .ok (.i2l, 1) := by decide +kernel
theorem dX9_set_2 : decode cX9_set 2 = .ok (.lconst 0, 1) := by decide +kernel
theorem dX9_set_3 : decode cX9_set 3 = .ok (.ldc2_w 97, 3) := by decide +kernel
theorem dX9_set_6 : decode cX9_set 6 = .ok (.invokestatic 85, 3) := by decide +kernel
theorem dX9_set_9 : decode cX9_set 9 = .ok (.ifCond .eq 25, 3) := by decide +kernel
theorem dX9_set_12 : decode cX9_set 12 = .ok (.iload_n 1, 1) := by decide +kernel
theorem dX9_set_13 : decode cX9_set 13 = .ok (.ifCond .ne 13, 3) := by decide +kernel
theorem dX9_set_16 : decode cX9_set 16 = .ok (.iload_n 2, 1) := by decide +kernel
theorem dX9_set_17 : decode cX9_set 17 = .ok (.invokestatic 99, 3) := by decide +kernel
theorem dX9_set_20 : decode cX9_set 20 = .ok (.ifCond .eq 14, 3) := by decide +kernel
theorem dX9_set_23 : decode cX9_set 23 = .ok (.goto 14, 3) := by decide +kernel
theorem dX9_set_26 : decode cX9_set 26 = .ok (.aload_n 0, 1) := by decide +kernel
theorem dX9_set_27 : decode cX9_set 27 = .ok (.iload_n 2, 1) := by decide +kernel
theorem dX9_set_28 : decode cX9_set 28 = .ok (.invokevirtual 103, 3) := by decide +kernel
theorem dX9_set_31 : decode cX9_set 31 = .ok (.ifCond .ne 6, 3) := by decide +kernel
theorem dX9_set_34 : decode cX9_set 34 = .ok (.bipush (-100), 2) := by decide +kernel
theorem dX9_set_36 : decode cX9_set 36 = .ok (.ireturn, 1) := by decide +kernel
theorem dX9_set_37 : decode cX9_set 37 = .ok (.iload_n 3, 1) := by decide +kernel
theorem dX9_set_38 : decode cX9_set 38 = .ok (.i2l, 1) := by decide +kernel
theorem dX9_set_39 : decode cX9_set 39 = .ok (.iload_n 1, 1) := by decide +kernel
theorem dX9_set_40 : decode cX9_set 40 = .ok (.iconst 2, 1) := by decide +kernel
theorem dX9_set_41 : decode cX9_set 41 = .ok (.if_icmp .ne 9, 3) := by decide +kernel
theorem dX9_set_44 : decode cX9_set 44 = .ok (.ldc2_w 106, 3) := by decide +kernel
theorem dX9_set_47 : decode cX9_set 47 = .ok (.goto 4, 3) := by decide +kernel
theorem dX9_set_50 : decode cX9_set 50 = .ok (.lconst 0, 1) := by decide +kernel
theorem dX9_set_51 : decode cX9_set 51 = .ok (.iload_n 1, 1) := by decide +kernel
theorem dX9_set_52 : decode cX9_set 52 = .ok (.iconst 2, 1) := by decide +kernel
theorem dX9_set_53 : decode cX9_set 53 = .ok (.if_icmp .le 9, 3) := by decide +kernel
theorem dX9_set_56 : decode cX9_set 56 = .ok (.ldc2_w 91, 3) := by decide +kernel
theorem dX9_set_59 : decode cX9_set 59 = .ok (.goto 6, 3) := by decide +kernel
theorem dX9_set_62 : decode cX9_set 62 = .ok (.ldc2_w 108, 3) := by decide +kernel
theorem dX9_set_65 : decode cX9_set 65 = .ok (.invokestatic 85, 3) := by decide +kernel
theorem dX9_set_68 : decode cX9_set 68 = .ok (.ifCond .ne 6, 3) := by decide +kernel
theorem dX9_set_71 : decode cX9_set 71 = .ok (.bipush (-100), 2) := by decide +kernel
theorem dX9_set_73 : decode cX9_set 73 = .ok (.ireturn, 1) := by decide +kernel
theorem dX9_set_74 : decode cX9_set 74 = .ok (.aload_n 0, 1) := by decide +kernel
theorem dX9_set_75 : decode cX9_set 75 = .ok (.iload_n 2, 1) := by decide +kernel
theorem dX9_set_76 : decode cX9_set 76 = .ok (.iload_n 1, 1) := by decide +kernel
theorem dX9_set_77 : decode cX9_set 77 = .ok (.invokevirtual 110, 3) := by decide +kernel
theorem dX9_set_80 : decode cX9_set 80 = .ok (.istore 4, 2) := by decide +kernel
theorem dX9_set_82 : decode cX9_set 82 = .ok (.iload_n 1, 1) := by decide +kernel
theorem dX9_set_83 : decode cX9_set 83 = .ok (.ifCond .ne 13, 3) := by decide +kernel
theorem dX9_set_86 : decode cX9_set 86 = .ok (.aload_n 0, 1) := by decide +kernel
theorem dX9_set_87 : decode cX9_set 87 = .ok (.getfield 23, 3) := by decide +kernel
theorem dX9_set_90 : decode cX9_set 90 = .ok (.iload_n 2, 1) := by decide +kernel
theorem dX9_set_91 : decode cX9_set 91 = .ok (.iload_n 3, 1) := by decide +kernel
theorem dX9_set_92 : decode cX9_set 92 = .ok (.iastore, 1) := by decide +kernel
theorem dX9_set_93 : decode cX9_set 93 = .ok (.goto 55, 3) := by decide +kernel
theorem dX9_set_96 : decode cX9_set 96 = .ok (.iload_n 1, 1) := by decide +kernel
theorem dX9_set_97 : decode cX9_set 97 = .ok (.iconst 1, 1) := by decide +kernel
theorem dX9_set_98 : decode cX9_set 98 = .ok (.if_icmp .ne 13, 3) := by decide +kernel
theorem dX9_set_101 : decode cX9_set 101 = .ok (.aload_n 0, 1) := by decide +kernel
theorem dX9_set_102 : decode cX9_set 102 = .ok (.getfield 29, 3) := by decide +kernel
theorem dX9_set_105 : decode cX9_set 105 = .ok (.iload_n 2, 1) := by decide +kernel
theorem dX9_set_106 : decode cX9_set 106 = .ok (.iload_n 3, 1) := by decide +kernel
theorem dX9_set_107 : decode cX9_set 107 = .ok (.iastore, 1) := by decide +kernel
theorem dX9_set_108 : decode cX9_set 108 = .ok (.goto 40, 3) := by decide +kernel
theorem dX9_set_111 : decode cX9_set 111 = .ok (.iload_n 1, 1) := by decide +kernel
theorem dX9_set_112 : decode cX9_set 112 = .ok (.iconst 2, 1) := by decide +kernel
theorem dX9_set_113 : decode cX9_set 113 = .ok (.if_icmp .ne 13, 3) := by decide +kernel
theorem dX9_set_116 : decode cX9_set 116 = .ok (.aload_n 0, 1) := by decide +kernel
theorem dX9_set_117 : decode cX9_set 117 = .ok (.getfield 32, 3) := by decide +kernel
theorem dX9_set_120 : decode cX9_set 120 = .ok (.iload_n 2, 1) := by decide +kernel
theorem dX9_set_121 : decode cX9_set 121 = .ok (.iload_n 3, 1) := by decide +kernel
theorem dX9_set_122 : decode cX9_set 122 = .ok (.iastore, 1) := by decide +kernel
theorem dX9_set_123 : decode cX9_set 123 = .ok (.goto 25, 3) := by decide +kernel
theorem dX9_set_126 : decode cX9_set 126 = .ok (.iload_n 1, 1) := by decide +kernel
theorem dX9_set_127 : decode cX9_set 127 = .ok (.iconst 3, 1) := by decide +kernel
theorem dX9_set_128 : decode cX9_set 128 = .ok (.if_icmp .ne 13, 3) := by decide +kernel
theorem dX9_set_131 : decode cX9_set 131 = .ok (.aload_n 0, 1) := by decide +kernel
theorem dX9_set_132 : decode cX9_set 132 = .ok (.getfield 35, 3) := by decide +kernel
theorem dX9_set_135 : decode cX9_set 135 = .ok (.iload_n 2, 1) := by decide +kernel
theorem dX9_set_136 : decode cX9_set 136 = .ok (.iload_n 3, 1) := by decide +kernel
theorem dX9_set_137 : decode cX9_set 137 = .ok (.iastore, 1) := by decide +kernel
theorem dX9_set_138 : decode cX9_set 138 = .ok (.goto 10, 3) := by decide +kernel
theorem dX9_set_141 : decode cX9_set 141 = .ok (.aload_n 0, 1) := by decide +kernel
theorem dX9_set_142 : decode cX9_set 142 = .ok (.getfield 38, 3) := by decide +kernel
theorem dX9_set_145 : decode cX9_set 145 = .ok (.iload_n 2, 1) := by decide +kernel
theorem dX9_set_146 : decode cX9_set 146 = .ok (.iload_n 3, 1) := by decide +kernel
theorem dX9_set_147 : decode cX9_set 147 = .ok (.iastore, 1) := by decide +kernel
theorem dX9_set_148 : decode cX9_set 148 = .ok (.iload 4, 2) := by decide +kernel
theorem dX9_set_150 : decode cX9_set 150 = .ok (.ireturn, 1) := by decide +kernel
theorem dX9_pane_0 : decode cX9_pane 0 = .ok (.iload_n 1, 1) := by decide +kernel
theorem dX9_pane_1 : decode cX9_pane 1 = .ok (.i2l, 1) := by decide +kernel
theorem dX9_pane_2 : decode cX9_pane 2 = .ok (.lconst 0, 1) := by decide +kernel
theorem dX9_pane_3 : decode cX9_pane 3 = .ok (.ldc2_w 91, 3) := by decide +kernel
theorem dX9_pane_6 : decode cX9_pane 6 = .ok (.invokestatic 85, 3) := by decide +kernel
theorem dX9_pane_9 : decode cX9_pane 9 = .ok (.ifCond .eq 46, 3) := by decide +kernel
theorem dX9_pane_12 : decode cX9_pane 12 = .ok (.iload_n 2, 1) := by decide +kernel
theorem dX9_pane_13 : decode cX9_pane 13 = .ok (.i2l, 1) := by decide +kernel
theorem dX9_pane_14 : decode cX9_pane 14 = .ok (.lconst 0, 1) := by decide +kernel
theorem dX9_pane_15 : decode cX9_pane 15 = .ok (.ldc2_w 114, 3) := by decide +kernel
theorem dX9_pane_18 : decode cX9_pane 18 = .ok (.invokestatic 85, 3) := by decide +kernel
theorem dX9_pane_21 : decode cX9_pane 21 = .ok (.ifCond .eq 34, 3) := by decide +kernel
theorem dX9_pane_24 : decode cX9_pane 24 = .ok (.iload_n 2, 1) := by decide +kernel
theorem dX9_pane_25 : decode cX9_pane 25 = .ok (.bipush 100, 2) := by decide +kernel
theorem dX9_pane_27 : decode cX9_pane 27 = .ok (.irem, 1) := by decide +kernel
theorem dX9_pane_28 : decode cX9_pane 28 = .ok (.bipush 18, 2) := by decide +kernel
theorem dX9_pane_30 : decode cX9_pane 30 = .ok (.if_icmp .gt 25, 3) := by decide +kernel
theorem dX9_pane_33 : decode cX9_pane 33 = .ok (.iload_n 3, 1) := by decide +kernel
theorem dX9_pane_34 : decode cX9_pane 34 = .ok (.i2l, 1) := by decide +kernel
theorem dX9_pane_35 : decode cX9_pane 35 = .ok (.lconst 0, 1) := by decide +kernel
theorem dX9_pane_36 : decode cX9_pane 36 = .ok (.ldc2_w 116, 3) := by decide +kernel
theorem dX9_pane_39 : decode cX9_pane 39 = .ok (.invokestatic 85, 3) := by decide +kernel
theorem dX9_pane_42 : decode cX9_pane 42 = .ok (.ifCond .eq 13, 3) := by decide +kernel
theorem dX9_pane_45 : decode cX9_pane 45 = .ok (.iload_n 3, 1) := by decide +kernel
theorem dX9_pane_46 : decode cX9_pane 46 = .ok (.bipush 10, 2) := by decide +kernel
theorem dX9_pane_48 : decode cX9_pane 48 = .ok (.irem, 1) := by decide +kernel
theorem dX9_pane_49 : decode cX9_pane 49 = .ok (.invokestatic 118, 3) := by decide +kernel
theorem dX9_pane_52 : decode cX9_pane 52 = .ok (.ifCond .ne 6, 3) := by decide +kernel
theorem dX9_pane_55 : decode cX9_pane 55 = .ok (.bipush (-2), 2) := by decide +kernel
theorem dX9_pane_57 : decode cX9_pane 57 = .ok (.ireturn, 1) := by decide +kernel
theorem dX9_pane_58 : decode cX9_pane 58 = .ok (.aload_n 0, 1) := by decide +kernel
theorem dX9_pane_59 : decode cX9_pane 59 = .ok (.getfield 82, 3) := by decide +kernel
theorem dX9_pane_62 : decode cX9_pane 62 = .ok (.bipush 8, 2) := by decide +kernel
theorem dX9_pane_64 : decode cX9_pane 64 = .ok (.if_icmp .ne 6, 3) := by decide +kernel
theorem dX9_pane_67 : decode cX9_pane 67 = .ok (.bipush (-4), 2) := by decide +kernel
theorem dX9_pane_69 : decode cX9_pane 69 = .ok (.ireturn, 1) := by decide +kernel
theorem dX9_pane_70 : decode cX9_pane 70 = .ok (.aload_n 0, 1) := by decide +kernel
theorem dX9_pane_71 : decode cX9_pane 71 = .ok (.getfield 26, 3) := by decide +kernel
theorem dX9_pane_74 : decode cX9_pane 74 = .ok (.aload_n 0, 1) := by decide +kernel
theorem dX9_pane_75 : decode cX9_pane 75 = .ok (.getfield 82, 3) := by decide +kernel
theorem dX9_pane_78 : decode cX9_pane 78 = .ok (.iload_n 1, 1) := by decide +kernel
theorem dX9_pane_79 : decode cX9_pane 79 = .ok (.iastore, 1) := by decide +kernel
theorem dX9_pane_80 : decode cX9_pane 80 = .ok (.aload_n 0, 1) := by decide +kernel
theorem dX9_pane_81 : decode cX9_pane 81 = .ok (.getfield 29, 3) := by decide +kernel
theorem dX9_pane_84 : decode cX9_pane 84 = .ok (.aload_n 0, 1) := by decide +kernel
theorem dX9_pane_85 : decode cX9_pane 85 = .ok (.getfield 82, 3) := by decide +kernel
theorem dX9_pane_88 : decode cX9_pane 88 = .ok (.iload_n 2, 1) := by decide +kernel
theorem dX9_pane_89 : decode cX9_pane 89 = .ok (.bipush 100, 2) := by decide +kernel
theorem dX9_pane_91 : decode cX9_pane 91 = .ok (.idiv, 1) := by decide +kernel
theorem dX9_pane_92 : decode cX9_pane 92 = .ok (.iastore, 1) := by decide +kernel
theorem dX9_pane_93 : decode cX9_pane 93 = .ok (.aload_n 0, 1) := by decide +kernel
theorem dX9_pane_94 : decode cX9_pane 94 = .ok (.getfield 32, 3) := by decide +kernel
theorem dX9_pane_97 : decode cX9_pane 97 = .ok (.aload_n 0, 1) := by decide +kernel
theorem dX9_pane_98 : decode cX9_pane 98 = .ok (.getfield 82, 3) := by decide +kernel
theorem dX9_pane_101 : decode cX9_pane 101 = .ok (.iload_n 2, 1) := by decide +kernel
theorem dX9_pane_102 : decode cX9_pane 102 = .ok (.bipush 100, 2) := by decide +kernel
theorem dX9_pane_104 : decode cX9_pane 104 = .ok (.irem, 1) := by decide +kernel
theorem dX9_pane_105 : decode cX9_pane 105 = .ok (.bipush 9, 2) := by decide +kernel
theorem dX9_pane_107 : decode cX9_pane 107 = .ok (.isub, 1) := by decide +kernel
theorem dX9_pane_108 : decode cX9_pane 108 = .ok (.iastore, 1) := by decide +kernel
theorem dX9_pane_109 : decode cX9_pane 109 = .ok (.aload_n 0, 1) := by decide +kernel
theorem dX9_pane_110 : decode cX9_pane 110 = .ok (.getfield 35, 3) := by decide +kernel
theorem dX9_pane_113 : decode cX9_pane 113 = .ok (.aload_n 0, 1) := by decide +kernel
theorem dX9_pane_114 : decode cX9_pane 114 = .ok (.getfield 82, 3) := by decide +kernel
theorem dX9_pane_117 : decode cX9_pane 117 = .ok (.iload_n 3, 1) := by decide +kernel
theorem dX9_pane_118 : decode cX9_pane 118 = .ok (.bipush 10, 2) := by decide +kernel
theorem dX9_pane_120 : decode cX9_pane 120 = .ok (.idiv, 1) := by decide +kernel
theorem dX9_pane_121 : decode cX9_pane 121 = .ok (.iastore, 1) := by decide +kernel
theorem dX9_pane_122 : decode cX9_pane 122 = .ok (.aload_n 0, 1) := by decide +kernel
theorem dX9_pane_123 : decode cX9_pane 123 = .ok (.getfield 38, 3) := by decide +kernel
theorem dX9_pane_126 : decode cX9_pane 126 = .ok (.aload_n 0, 1) := by decide +kernel
theorem dX9_pane_127 : decode cX9_pane 127 = .ok (.getfield 82, 3) := by decide +kernel
theorem dX9_pane_130 : decode cX9_pane 130 = .ok (.iload_n 3, 1) := by decide +kernel
theorem dX9_pane_131 : decode cX9_pane 131 = .ok (.bipush 10, 2) := by decide +kernel
theorem dX9_pane_133 : decode cX9_pane 133 = .ok (.irem, 1) := by decide +kernel
theorem dX9_pane_134 : decode cX9_pane 134 = .ok (.iastore, 1) := by decide +kernel
theorem dX9_pane_135 : decode cX9_pane 135 = .ok (.aload_n 0, 1) := by decide +kernel
theorem dX9_pane_136 : decode cX9_pane 136 = .ok (.dup, 1) := by decide +kernel
theorem dX9_pane_137 : decode cX9_pane 137 = .ok (.getfield 82, 3) := by decide +kernel
theorem dX9_pane_140 : decode cX9_pane 140 = .ok (.iconst 1, 1) := by decide +kernel
theorem dX9_pane_141 : decode cX9_pane 141 = .ok (.iadd, 1) := by decide +kernel
theorem dX9_pane_142 : decode cX9_pane 142 = .ok (.putfield 82, 3) := by decide +kernel
theorem dX9_pane_145 : decode cX9_pane 145 = .ok (.aload_n 0, 1) := by decide +kernel
theorem dX9_pane_146 : decode cX9_pane 146 = .ok (.getfield 82, 3) := by decide +kernel
theorem dX9_pane_149 : decode cX9_pane 149 = .ok (.iconst 1, 1) := by decide +kernel
theorem dX9_pane_150 : decode cX9_pane 150 = .ok (.isub, 1) := by decide +kernel
theorem dX9_pane_151 : decode cX9_pane 151 = .ok (.ireturn, 1) := by decide +kernel
theorem dX9_told_0 : decode cX9_told 0 = .ok (.iload_n 2, 1) := by decide +kernel
theorem dX9_told_1 : decode cX9_told 1 = .ok (.i2l, 1) := by decide +kernel
theorem dX9_told_2 : decode cX9_told 2 = .ok (.lconst 0, 1) := by decide +kernel
theorem dX9_told_3 : decode cX9_told 3 = .ok (.ldc2_w 121, 3) := by decide +kernel
theorem dX9_told_6 : decode cX9_told 6 = .ok (.invokestatic 85, 3) := by decide +kernel
theorem dX9_told_9 : decode cX9_told 9 = .ok (.ifCond .eq 25, 3) := by decide +kernel
theorem dX9_told_12 : decode cX9_told 12 = .ok (.iload_n 2, 1) := by decide +kernel
theorem dX9_told_13 : decode cX9_told 13 = .ok (.ifCond .ne 13, 3) := by decide +kernel
theorem dX9_told_16 : decode cX9_told 16 = .ok (.iload_n 1, 1) := by decide +kernel
theorem dX9_told_17 : decode cX9_told 17 = .ok (.invokestatic 99, 3) := by decide +kernel
theorem dX9_told_20 : decode cX9_told 20 = .ok (.ifCond .eq 14, 3) := by decide +kernel
theorem dX9_told_23 : decode cX9_told 23 = .ok (.goto 14, 3) := by decide +kernel
theorem dX9_told_26 : decode cX9_told 26 = .ok (.aload_n 0, 1) := by decide +kernel
theorem dX9_told_27 : decode cX9_told 27 = .ok (.iload_n 1, 1) := by decide +kernel
theorem dX9_told_28 : decode cX9_told 28 = .ok (.invokevirtual 103, 3) := by decide +kernel
theorem dX9_told_31 : decode cX9_told 31 = .ok (.ifCond .ne 6, 3) := by decide +kernel
theorem dX9_told_34 : decode cX9_told 34 = .ok (.bipush (-100), 2) := by decide +kernel
theorem dX9_told_36 : decode cX9_told 36 = .ok (.ireturn, 1) := by decide +kernel
theorem dX9_told_37 : decode cX9_told 37 = .ok (.iload_n 2, 1) := by decide +kernel
theorem dX9_told_38 : decode cX9_told 38 = .ok (.iconst 3, 1) := by decide +kernel
theorem dX9_told_39 : decode cX9_told 39 = .ok (.if_icmp .ge 37, 3) := by decide +kernel
theorem dX9_told_42 : decode cX9_told 42 = .ok (.iload_n 2, 1) := by decide +kernel
theorem dX9_told_43 : decode cX9_told 43 = .ok (.ifCond .ne 12, 3) := by decide +kernel
theorem dX9_told_46 : decode cX9_told 46 = .ok (.aload_n 0, 1) := by decide +kernel
theorem dX9_told_47 : decode cX9_told 47 = .ok (.getfield 23, 3) := by decide +kernel
theorem dX9_told_50 : decode cX9_told 50 = .ok (.iload_n 1, 1) := by decide +kernel
theorem dX9_told_51 : decode cX9_told 51 = .ok (.iaload, 1) := by decide +kernel
theorem dX9_told_52 : decode cX9_told 52 = .ok (.goto 23, 3) := by decide +kernel
theorem dX9_told_55 : decode cX9_told 55 = .ok (.iload_n 2, 1) := by decide +kernel
theorem dX9_told_56 : decode cX9_told 56 = .ok (.iconst 1, 1) := by decide +kernel
theorem dX9_told_57 : decode cX9_told 57 = .ok (.if_icmp .ne 12, 3) := by decide +kernel
theorem dX9_told_60 : decode cX9_told 60 = .ok (.aload_n 0, 1) := by decide +kernel
theorem dX9_told_61 : decode cX9_told 61 = .ok (.getfield 29, 3) := by decide +kernel
theorem dX9_told_64 : decode cX9_told 64 = .ok (.iload_n 1, 1) := by decide +kernel
theorem dX9_told_65 : decode cX9_told 65 = .ok (.iaload, 1) := by decide +kernel
theorem dX9_told_66 : decode cX9_told 66 = .ok (.goto 9, 3) := by decide +kernel
theorem dX9_told_69 : decode cX9_told 69 = .ok (.aload_n 0, 1) := by decide +kernel
theorem dX9_told_70 : decode cX9_told 70 = .ok (.getfield 32, 3) := by decide +kernel
theorem dX9_told_73 : decode cX9_told 73 = .ok (.iload_n 1, 1) := by decide +kernel
theorem dX9_told_74 : decode cX9_told 74 = .ok (.iaload, 1) := by decide +kernel
theorem dX9_told_75 : decode cX9_told 75 = .ok (.ireturn, 1) := by decide +kernel
theorem dX9_told_76 : decode cX9_told 76 = .ok (.iload_n 2, 1) := by decide +kernel
theorem dX9_told_77 : decode cX9_told 77 = .ok (.iconst 3, 1) := by decide +kernel
theorem dX9_told_78 : decode cX9_told 78 = .ok (.if_icmp .ne 12, 3) := by decide +kernel
theorem dX9_told_81 : decode cX9_told 81 = .ok (.aload_n 0, 1) := by decide +kernel
theorem dX9_told_82 : decode cX9_told 82 = .ok (.getfield 35, 3) := by decide +kernel
theorem dX9_told_85 : decode cX9_told 85 = .ok (.iload_n 1, 1) := by decide +kernel
theorem dX9_told_86 : decode cX9_told 86 = .ok (.iaload, 1) := by decide +kernel
theorem dX9_told_87 : decode cX9_told 87 = .ok (.goto 36, 3) := by decide +kernel
theorem dX9_told_90 : decode cX9_told 90 = .ok (.iload_n 2, 1) := by decide +kernel
theorem dX9_told_91 : decode cX9_told 91 = .ok (.iconst 4, 1) := by decide +kernel
theorem dX9_told_92 : decode cX9_told 92 = .ok (.if_icmp .ne 12, 3) := by decide +kernel
theorem dX9_told_95 : decode cX9_told 95 = .ok (.aload_n 0, 1) := by decide +kernel
theorem dX9_told_96 : decode cX9_told 96 = .ok (.getfield 38, 3) := by decide +kernel
theorem dX9_told_99 : decode cX9_told 99 = .ok (.iload_n 1, 1) := by decide +kernel
theorem dX9_told_100 : decode cX9_told 100 = .ok (.iaload, 1) := by decide +kernel
theorem dX9_told_101 : decode cX9_told 101 = .ok (.goto 22, 3) := by decide +kernel
theorem dX9_told_104 : decode cX9_told 104 = .ok (.iload_n 2, 1) := by decide +kernel
theorem dX9_told_105 : decode cX9_told 105 = .ok (.iconst 5, 1) := by decide +kernel
theorem dX9_told_106 : decode cX9_told 106 = .ok (.if_icmp .ne 12, 3) := by decide +kernel
theorem dX9_told_109 : decode cX9_told 109 = .ok (.aload_n 0, 1) := by decide +kernel
theorem dX9_told_110 : decode cX9_told 110 = .ok (.getfield 26, 3) := by decide +kernel
theorem dX9_told_113 : decode cX9_told 113 = .ok (.iload_n 1, 1) := by decide +kernel
theorem dX9_told_114 : decode cX9_told 114 = .ok (.iaload, 1) := by decide +kernel
theorem dX9_told_115 : decode cX9_told 115 = .ok (.goto 8, 3) := by decide +kernel
theorem dX9_told_118 : decode cX9_told 118 = .ok (.aload_n 0, 1) := by decide +kernel
theorem dX9_told_119 : decode cX9_told 119 = .ok (.iload_n 1, 1) := by decide +kernel
theorem dX9_told_120 : decode cX9_told 120 = .ok (.invokevirtual 123, 3) := by decide +kernel
theorem dX9_told_123 : decode cX9_told 123 = .ok (.ireturn, 1) := by decide +kernel
theorem dX9_on_0 : decode cX9_on 0 = .ok (.aload_n 0, 1) := by decide +kernel
theorem dX9_on_1 : decode cX9_on 1 = .ok (.getfield 26, 3) := by decide +kernel
theorem dX9_on_4 : decode cX9_on 4 = .ok (.iload_n 1, 1) := by decide +kernel
theorem dX9_on_5 : decode cX9_on 5 = .ok (.iaload, 1) := by decide +kernel
theorem dX9_on_6 : decode cX9_on 6 = .ok (.istore_n 3, 1) := by decide +kernel
theorem dX9_on_7 : decode cX9_on 7 = .ok (.iload_n 3, 1) := by decide +kernel
theorem dX9_on_8 : decode cX9_on 8 = .ok (.iconst 4, 1) := by decide +kernel
theorem dX9_on_9 : decode cX9_on 9 = .ok (.if_icmp .ne 5, 3) := by decide +kernel
theorem dX9_on_12 : decode cX9_on 12 = .ok (.iload_n 2, 1) := by decide +kernel
theorem dX9_on_13 : decode cX9_on 13 = .ok (.ireturn, 1) := by decide +kernel
theorem dX9_on_14 : decode cX9_on 14 = .ok (.iload_n 3, 1) := by decide +kernel
theorem dX9_on_15 : decode cX9_on 15 = .ok (.iconst 5, 1) := by decide +kernel
theorem dX9_on_16 : decode cX9_on 16 = .ok (.if_icmp .ne 21, 3) := by decide +kernel
theorem dX9_on_19 : decode cX9_on 19 = .ok (.iload_n 2, 1) := by decide +kernel
theorem dX9_on_20 : decode cX9_on 20 = .ok (.aload_n 0, 1) := by decide +kernel
theorem dX9_on_21 : decode cX9_on 21 = .ok (.getfield 32, 3) := by decide +kernel
theorem dX9_on_24 : decode cX9_on 24 = .ok (.iload_n 1, 1) := by decide +kernel
theorem dX9_on_25 : decode cX9_on 25 = .ok (.iaload, 1) := by decide +kernel
theorem dX9_on_26 : decode cX9_on 26 = .ok (.aload_n 0, 1) := by decide +kernel
theorem dX9_on_27 : decode cX9_on 27 = .ok (.getfield 29, 3) := by decide +kernel
theorem dX9_on_30 : decode cX9_on 30 = .ok (.iload_n 1, 1) := by decide +kernel
theorem dX9_on_31 : decode cX9_on 31 = .ok (.iaload, 1) := by decide +kernel
theorem dX9_on_32 : decode cX9_on 32 = .ok (.iconst 1, 1) := by decide +kernel
theorem dX9_on_33 : decode cX9_on 33 = .ok (.iadd, 1) := by decide +kernel
theorem dX9_on_34 : decode cX9_on 34 = .ok (.imul, 1) := by decide +kernel
theorem dX9_on_35 : decode cX9_on 35 = .ok (.iadd, 1) := by decide +kernel
theorem dX9_on_36 : decode cX9_on 36 = .ok (.ireturn, 1) := by decide +kernel
theorem dX9_on_37 : decode cX9_on 37 = .ok (.iload_n 3, 1) := by decide +kernel
theorem dX9_on_38 : decode cX9_on 38 = .ok (.iconst 1, 1) := by decide +kernel
theorem dX9_on_39 : decode cX9_on 39 = .ok (.if_icmp .eq 8, 3) := by decide +kernel
theorem dX9_on_42 : decode cX9_on 42 = .ok (.iload_n 3, 1) := by decide +kernel
theorem dX9_on_43 : decode cX9_on 43 = .ok (.iconst 3, 1) := by decide +kernel
theorem dX9_on_44 : decode cX9_on 44 = .ok (.if_icmp .ne 21, 3) := by decide +kernel
theorem dX9_on_47 : decode cX9_on 47 = .ok (.iload_n 2, 1) := by decide +kernel
theorem dX9_on_48 : decode cX9_on 48 = .ok (.aload_n 0, 1) := by decide +kernel
theorem dX9_on_49 : decode cX9_on 49 = .ok (.getfield 32, 3) := by decide +kernel
theorem dX9_on_52 : decode cX9_on 52 = .ok (.iload_n 1, 1) := by decide +kernel
theorem dX9_on_53 : decode cX9_on 53 = .ok (.iaload, 1) := by decide +kernel
theorem dX9_on_54 : decode cX9_on 54 = .ok (.iadd, 1) := by decide +kernel
theorem dX9_on_55 : decode cX9_on 55 = .ok (.aload_n 0, 1) := by decide +kernel
theorem dX9_on_56 : decode cX9_on 56 = .ok (.getfield 29, 3) := by decide +kernel
theorem dX9_on_59 : decode cX9_on 59 = .ok (.iload_n 1, 1) := by decide +kernel
theorem dX9_on_60 : decode cX9_on 60 = .ok (.iaload, 1) := by decide +kernel
theorem dX9_on_61 : decode cX9_on 61 = .ok (.isub, 1) := by decide +kernel
theorem dX9_on_62 : decode cX9_on 62 = .ok (.goto 11, 3) := by decide +kernel
theorem dX9_on_65 : decode cX9_on 65 = .ok (.iload_n 2, 1) := by decide +kernel
theorem dX9_on_66 : decode cX9_on 66 = .ok (.aload_n 0, 1) := by decide +kernel
theorem dX9_on_67 : decode cX9_on 67 = .ok (.getfield 32, 3) := by decide +kernel
theorem dX9_on_70 : decode cX9_on 70 = .ok (.iload_n 1, 1) := by decide +kernel
theorem dX9_on_71 : decode cX9_on 71 = .ok (.iaload, 1) := by decide +kernel
theorem dX9_on_72 : decode cX9_on 72 = .ok (.iadd, 1) := by decide +kernel
theorem dX9_on_73 : decode cX9_on 73 = .ok (.ireturn, 1) := by decide +kernel
theorem dX9_leads_0 : decode cX9_leads 0 = .ok (.aload_n 0, 1) := by decide +kernel
theorem dX9_leads_1 : decode cX9_leads 1 = .ok (.getfield 26, 3) := by decide +kernel
theorem dX9_leads_4 : decode cX9_leads 4 = .ok (.iload_n 1, 1) := by decide +kernel
theorem dX9_leads_5 : decode cX9_leads 5 = .ok (.iaload, 1) := by decide +kernel
theorem dX9_leads_6 : decode cX9_leads 6 = .ok (.iconst 4, 1) := by decide +kernel
theorem dX9_leads_7 : decode cX9_leads 7 = .ok (.if_icmp .ne 12, 3) := by decide +kernel
theorem dX9_leads_10 : decode cX9_leads 10 = .ok (.aload_n 0, 1) := by decide +kernel
theorem dX9_leads_11 : decode cX9_leads 11 = .ok (.getfield 35, 3) := by decide +kernel
theorem dX9_leads_14 : decode cX9_leads 14 = .ok (.iload_n 1, 1) := by decide +kernel
theorem dX9_leads_15 : decode cX9_leads 15 = .ok (.iaload, 1) := by decide +kernel
theorem dX9_leads_16 : decode cX9_leads 16 = .ok (.goto 9, 3) := by decide +kernel
theorem dX9_leads_19 : decode cX9_leads 19 = .ok (.aload_n 0, 1) := by decide +kernel
theorem dX9_leads_20 : decode cX9_leads 20 = .ok (.getfield 38, 3) := by decide +kernel
theorem dX9_leads_23 : decode cX9_leads 23 = .ok (.iload_n 1, 1) := by decide +kernel
theorem dX9_leads_24 : decode cX9_leads 24 = .ok (.iaload, 1) := by decide +kernel
theorem dX9_leads_25 : decode cX9_leads 25 = .ok (.ireturn, 1) := by decide +kernel
theorem dX9_passes_0 : decode cX9_passes 0 = .ok (.aload_n 0, 1) := by decide +kernel
theorem dX9_passes_1 : decode cX9_passes 1 = .ok (.getfield 26, 3) := by decide +kernel
theorem dX9_passes_4 : decode cX9_passes 4 = .ok (.iload_n 1, 1) := by decide +kernel
theorem dX9_passes_5 : decode cX9_passes 5 = .ok (.iaload, 1) := by decide +kernel
theorem dX9_passes_6 : decode cX9_passes 6 = .ok (.istore 4, 2) := by decide +kernel
theorem dX9_passes_8 : decode cX9_passes 8 = .ok (.aload_n 0, 1) := by decide +kernel
theorem dX9_passes_9 : decode cX9_passes 9 = .ok (.iload_n 1, 1) := by decide +kernel
theorem dX9_passes_10 : decode cX9_passes 10 = .ok (.iload_n 2, 1) := by decide +kernel
theorem dX9_passes_11 : decode cX9_passes 11 = .ok (.invokevirtual 127, 3) := by decide +kernel
theorem dX9_passes_14 : decode cX9_passes 14 = .ok (.invokestatic 99, 3) := by decide +kernel
theorem dX9_passes_17 : decode cX9_passes 17 = .ok (.ifCond .ne 5, 3) := by decide +kernel
theorem dX9_passes_20 : decode cX9_passes 20 = .ok (.iconst 0, 1) := by decide +kernel
theorem dX9_passes_21 : decode cX9_passes 21 = .ok (.ireturn, 1) := by decide +kernel
theorem dX9_passes_22 : decode cX9_passes 22 = .ok (.iload 4, 2) := by decide +kernel
theorem dX9_passes_24 : decode cX9_passes 24 = .ok (.iconst 5, 1) := by decide +kernel
theorem dX9_passes_25 : decode cX9_passes 25 = .ok (.if_icmp .ne 22, 3) := by decide +kernel
theorem dX9_passes_28 : decode cX9_passes 28 = .ok (.iload_n 2, 1) := by decide +kernel
theorem dX9_passes_29 : decode cX9_passes 29 = .ok (.aload_n 0, 1) := by decide +kernel
theorem dX9_passes_30 : decode cX9_passes 30 = .ok (.getfield 29, 3) := by decide +kernel
theorem dX9_passes_33 : decode cX9_passes 33 = .ok (.iload_n 1, 1) := by decide +kernel
theorem dX9_passes_34 : decode cX9_passes 34 = .ok (.iaload, 1) := by decide +kernel
theorem dX9_passes_35 : decode cX9_passes 35 = .ok (.iconst 1, 1) := by decide +kernel
theorem dX9_passes_36 : decode cX9_passes 36 = .ok (.iadd, 1) := by decide +kernel
theorem dX9_passes_37 : decode cX9_passes 37 = .ok (.irem, 1) := by decide +kernel
theorem dX9_passes_38 : decode cX9_passes 38 = .ok (.ifCond .ne 7, 3) := by decide +kernel
theorem dX9_passes_41 : decode cX9_passes 41 = .ok (.iconst 1, 1) := by decide +kernel
theorem dX9_passes_42 : decode cX9_passes 42 = .ok (.goto 4, 3) := by decide +kernel
theorem dX9_passes_45 : decode cX9_passes 45 = .ok (.iconst 0, 1) := by decide +kernel
theorem dX9_passes_46 : decode cX9_passes 46 = .ok (.ireturn, 1) := by decide +kernel
theorem dX9_passes_47 : decode cX9_passes 47 = .ok (.iload 4, 2) := by decide +kernel
theorem dX9_passes_49 : decode cX9_passes 49 = .ok (.iconst 3, 1) := by decide +kernel
theorem dX9_passes_50 : decode cX9_passes 50 = .ok (.if_icmp .eq 40, 3) := by decide +kernel
theorem dX9_passes_53 : decode cX9_passes 53 = .ok (.iload 4, 2) := by decide +kernel
theorem dX9_passes_55 : decode cX9_passes 55 = .ok (.ifCond .eq 9, 3) := by decide +kernel
theorem dX9_passes_58 : decode cX9_passes 58 = .ok (.iload 4, 2) := by decide +kernel
theorem dX9_passes_60 : decode cX9_passes 60 = .ok (.iconst 1, 1) := by decide +kernel
theorem dX9_passes_61 : decode cX9_passes 61 = .ok (.if_icmp .ne 11, 3) := by decide +kernel
theorem dX9_passes_64 : decode cX9_passes 64 = .ok (.iload_n 3, 1) := by decide +kernel
theorem dX9_passes_65 : decode cX9_passes 65 = .ok (.iconst 2, 1) := by decide +kernel
theorem dX9_passes_66 : decode cX9_passes 66 = .ok (.if_icmp .ge 28, 3) := by decide +kernel
theorem dX9_passes_69 : decode cX9_passes 69 = .ok (.goto 21, 3) := by decide +kernel
theorem dX9_passes_72 : decode cX9_passes 72 = .ok (.iload 4, 2) := by decide +kernel
theorem dX9_passes_74 : decode cX9_passes 74 = .ok (.iconst 2, 1) := by decide +kernel
theorem dX9_passes_75 : decode cX9_passes 75 = .ok (.if_icmp .ne 11, 3) := by decide +kernel
theorem dX9_passes_78 : decode cX9_passes 78 = .ok (.iload_n 3, 1) := by decide +kernel
theorem dX9_passes_79 : decode cX9_passes 79 = .ok (.iconst 1, 1) := by decide +kernel
theorem dX9_passes_80 : decode cX9_passes 80 = .ok (.if_icmp .ne 14, 3) := by decide +kernel
theorem dX9_passes_83 : decode cX9_passes 83 = .ok (.goto 7, 3) := by decide +kernel
theorem dX9_passes_86 : decode cX9_passes 86 = .ok (.iload_n 3, 1) := by decide +kernel
theorem dX9_passes_87 : decode cX9_passes 87 = .ok (.ifCond .ne 7, 3) := by decide +kernel
theorem dX9_passes_90 : decode cX9_passes 90 = .ok (.iconst 1, 1) := by decide +kernel
theorem dX9_passes_91 : decode cX9_passes 91 = .ok (.goto 4, 3) := by decide +kernel
theorem dX9_passes_94 : decode cX9_passes 94 = .ok (.iconst 0, 1) := by decide +kernel
theorem dX9_passes_95 : decode cX9_passes 95 = .ok (.ireturn, 1) := by decide +kernel
theorem dX9_gives_0 : decode cX9_gives 0 = .ok (.aload_n 0, 1) := by decide +kernel
theorem dX9_gives_1 : decode cX9_gives 1 = .ok (.iload_n 1, 1) := by decide +kernel
theorem dX9_gives_2 : decode cX9_gives 2 = .ok (.invokevirtual 103, 3) := by decide +kernel
theorem dX9_gives_5 : decode cX9_gives 5 = .ok (.ifCond .eq 22, 3) := by decide +kernel
theorem dX9_gives_8 : decode cX9_gives 8 = .ok (.iload_n 2, 1) := by decide +kernel
theorem dX9_gives_9 : decode cX9_gives 9 = .ok (.invokestatic 99, 3) := by decide +kernel
theorem dX9_gives_12 : decode cX9_gives 12 = .ok (.ifCond .eq 15, 3) := by decide +kernel
theorem dX9_gives_15 : decode cX9_gives 15 = .ok (.iload_n 3, 1) := by decide +kernel
theorem dX9_gives_16 : decode cX9_gives 16 = .ok (.iconst (-1), 1) := by decide +kernel
theorem dX9_gives_17 : decode cX9_gives 17 = .ok (.if_icmp .eq 14, 3) := by decide +kernel
theorem dX9_gives_20 : decode cX9_gives 20 = .ok (.iload_n 3, 1) := by decide +kernel
theorem dX9_gives_21 : decode cX9_gives 21 = .ok (.invokestatic 130, 3) := by decide +kernel
theorem dX9_gives_24 : decode cX9_gives 24 = .ok (.ifCond .ne 7, 3) := by decide +kernel
theorem dX9_gives_27 : decode cX9_gives 27 = .ok (.sipush (-1000), 3) := by decide +kernel
theorem dX9_gives_30 : decode cX9_gives 30 = .ok (.ireturn, 1) := by decide +kernel
theorem dX9_gives_31 : decode cX9_gives 31 = .ok (.iload_n 3, 1) := by decide +kernel
theorem dX9_gives_32 : decode cX9_gives 32 = .ok (.iconst (-1), 1) := by decide +kernel
theorem dX9_gives_33 : decode cX9_gives 33 = .ok (.if_icmp .ne 12, 3) := by decide +kernel
theorem dX9_gives_36 : decode cX9_gives 36 = .ok (.aload_n 0, 1) := by decide +kernel
theorem dX9_gives_37 : decode cX9_gives 37 = .ok (.iload_n 1, 1) := by decide +kernel
theorem dX9_gives_38 : decode cX9_gives 38 = .ok (.iload_n 2, 1) := by decide +kernel
theorem dX9_gives_39 : decode cX9_gives 39 = .ok (.invokevirtual 127, 3) := by decide +kernel
theorem dX9_gives_42 : decode cX9_gives 42 = .ok (.goto 18, 3) := by decide +kernel
theorem dX9_gives_45 : decode cX9_gives 45 = .ok (.aload_n 0, 1) := by decide +kernel
theorem dX9_gives_46 : decode cX9_gives 46 = .ok (.iload_n 1, 1) := by decide +kernel
theorem dX9_gives_47 : decode cX9_gives 47 = .ok (.iload_n 2, 1) := by decide +kernel
theorem dX9_gives_48 : decode cX9_gives 48 = .ok (.iload_n 3, 1) := by decide +kernel
theorem dX9_gives_49 : decode cX9_gives 49 = .ok (.invokevirtual 133, 3) := by decide +kernel
theorem dX9_gives_52 : decode cX9_gives 52 = .ok (.ifCond .eq 7, 3) := by decide +kernel
theorem dX9_gives_55 : decode cX9_gives 55 = .ok (.iconst 1, 1) := by decide +kernel
theorem dX9_gives_56 : decode cX9_gives 56 = .ok (.goto 4, 3) := by decide +kernel
theorem dX9_gives_59 : decode cX9_gives 59 = .ok (.iconst 0, 1) := by decide +kernel
theorem dX9_gives_60 : decode cX9_gives 60 = .ok (.ireturn, 1) := by decide +kernel
theorem dX9_feed_0 : decode cX9_feed 0 = .ok (.iload_n 1, 1) := by decide +kernel
theorem dX9_feed_1 : decode cX9_feed 1 = .ok (.i2l, 1) := by decide +kernel
theorem dX9_feed_2 : decode cX9_feed 2 = .ok (.lconst 0, 1) := by decide +kernel
theorem dX9_feed_3 : decode cX9_feed 3 = .ok (.ldc2_w 137, 3) := by decide +kernel
theorem dX9_feed_6 : decode cX9_feed 6 = .ok (.invokestatic 85, 3) := by decide +kernel
theorem dX9_feed_9 : decode cX9_feed 9 = .ok (.ifCond .ne 6, 3) := by decide +kernel
theorem dX9_feed_12 : decode cX9_feed 12 = .ok (.bipush (-2), 2) := by decide +kernel
theorem dX9_feed_14 : decode cX9_feed 14 = .ok (.ireturn, 1) := by decide +kernel
theorem dX9_feed_15 : decode cX9_feed 15 = .ok (.aload_n 0, 1) := by decide +kernel
theorem dX9_feed_16 : decode cX9_feed 16 = .ok (.getfield 139, 3) := by decide +kernel
theorem dX9_feed_19 : decode cX9_feed 19 = .ok (.sipush 160, 3) := by decide +kernel
theorem dX9_feed_22 : decode cX9_feed 22 = .ok (.if_icmp .ne 6, 3) := by decide +kernel
theorem dX9_feed_25 : decode cX9_feed 25 = .ok (.bipush (-4), 2) := by decide +kernel
theorem dX9_feed_27 : decode cX9_feed 27 = .ok (.ireturn, 1) := by decide +kernel
theorem dX9_feed_28 : decode cX9_feed 28 = .ok (.aload_n 0, 1) := by decide +kernel
theorem dX9_feed_29 : decode cX9_feed 29 = .ok (.getfield 20, 3) := by decide +kernel
theorem dX9_feed_32 : decode cX9_feed 32 = .ok (.aload_n 0, 1) := by decide +kernel
theorem dX9_feed_33 : decode cX9_feed 33 = .ok (.getfield 139, 3) := by decide +kernel
theorem dX9_feed_36 : decode cX9_feed 36 = .ok (.iload_n 1, 1) := by decide +kernel
theorem dX9_feed_37 : decode cX9_feed 37 = .ok (.iastore, 1) := by decide +kernel
theorem dX9_feed_38 : decode cX9_feed 38 = .ok (.aload_n 0, 1) := by decide +kernel
theorem dX9_feed_39 : decode cX9_feed 39 = .ok (.dup, 1) := by decide +kernel
theorem dX9_feed_40 : decode cX9_feed 40 = .ok (.getfield 139, 3) := by decide +kernel
theorem dX9_feed_43 : decode cX9_feed 43 = .ok (.iconst 1, 1) := by decide +kernel
theorem dX9_feed_44 : decode cX9_feed 44 = .ok (.iadd, 1) := by decide +kernel
theorem dX9_feed_45 : decode cX9_feed 45 = .ok (.putfield 139, 3) := by decide +kernel
theorem dX9_feed_48 : decode cX9_feed 48 = .ok (.aload_n 0, 1) := by decide +kernel
theorem dX9_feed_49 : decode cX9_feed 49 = .ok (.getfield 139, 3) := by decide +kernel
theorem dX9_feed_52 : decode cX9_feed 52 = .ok (.ireturn, 1) := by decide +kernel
theorem dX9_byteAt_0 : decode cX9_byteAt 0 = .ok (.iload_n 1, 1) := by decide +kernel
theorem dX9_byteAt_1 : decode cX9_byteAt 1 = .ok (.aload_n 0, 1) := by decide +kernel
theorem dX9_byteAt_2 : decode cX9_byteAt 2 = .ok (.getfield 142, 3) := by decide +kernel
theorem dX9_byteAt_5 : decode cX9_byteAt 5 = .ok (.if_icmp .ge 17, 3) := by decide +kernel
theorem dX9_byteAt_8 : decode cX9_byteAt 8 = .ok (.aload_n 0, 1) := by decide +kernel
theorem dX9_byteAt_9 : decode cX9_byteAt 9 = .ok (.getfield 13, 3) := by decide +kernel
theorem dX9_byteAt_12 : decode cX9_byteAt 12 = .ok (.aload_n 0, 1) := by decide +kernel
theorem dX9_byteAt_13 : decode cX9_byteAt 13 = .ok (.getfield 145, 3) := by decide +kernel
theorem dX9_byteAt_16 : decode cX9_byteAt 16 = .ok (.iload_n 1, 1) := by decide +kernel
theorem dX9_byteAt_17 : decode cX9_byteAt 17 = .ok (.iadd, 1) := by decide +kernel
theorem dX9_byteAt_18 : decode cX9_byteAt 18 = .ok (.iaload, 1) := by decide +kernel
theorem dX9_byteAt_19 : decode cX9_byteAt 19 = .ok (.goto 4, 3) := by decide +kernel
theorem dX9_byteAt_22 : decode cX9_byteAt 22 = .ok (.iconst (-1), 1) := by decide +kernel
theorem dX9_byteAt_23 : decode cX9_byteAt 23 = .ok (.ireturn, 1) := by decide +kernel
theorem dX9_next_0 : decode cX9_next 0 = .ok (.aload_n 0, 1) := by decide +kernel
theorem dX9_next_1 : decode cX9_next 1 = .ok (.aload_n 0, 1) := by decide +kernel
theorem dX9_next_2 : decode cX9_next 2 = .ok (.getfield 148, 3) := by decide +kernel
theorem dX9_next_5 : decode cX9_next 5 = .ok (.invokevirtual 151, 3) := by decide +kernel
theorem dX9_next_8 : decode cX9_next 8 = .ok (.bipush 32, 2) := by decide +kernel
theorem dX9_next_10 : decode cX9_next 10 = .ok (.if_icmp .eq 16, 3) := by decide +kernel
theorem dX9_next_13 : decode cX9_next 13 = .ok (.aload_n 0, 1) := by decide +kernel
theorem dX9_next_14 : decode cX9_next 14 = .ok (.aload_n 0, 1) := by decide +kernel
theorem dX9_next_15 : decode cX9_next 15 = .ok (.getfield 148, 3) := by decide +kernel
theorem dX9_next_18 : decode cX9_next 18 = .ok (.invokevirtual 151, 3) := by decide +kernel
theorem dX9_next_21 : decode cX9_next 21 = .ok (.bipush 10, 2) := by decide +kernel
theorem dX9_next_23 : decode cX9_next 23 = .ok (.if_icmp .ne 16, 3) := by decide +kernel
theorem dX9_next_26 : decode cX9_next 26 = .ok (.aload_n 0, 1) := by decide +kernel
theorem dX9_next_27 : decode cX9_next 27 = .ok (.dup, 1) := by decide +kernel
theorem dX9_next_28 : decode cX9_next 28 = .ok (.getfield 148, 3) := by decide +kernel
theorem dX9_next_31 : decode cX9_next 31 = .ok (.iconst 1, 1) := by decide +kernel
theorem dX9_next_32 : decode cX9_next 32 = .ok (.iadd, 1) := by decide +kernel
theorem dX9_next_33 : decode cX9_next 33 = .ok (.putfield 148, 3) := by decide +kernel
theorem dX9_next_36 : decode cX9_next 36 = .ok (.goto (-36), 3) := by decide +kernel
theorem dX9_next_39 : decode cX9_next 39 = .ok (.aload_n 0, 1) := by decide +kernel
theorem dX9_next_40 : decode cX9_next 40 = .ok (.aload_n 0, 1) := by decide +kernel
theorem dX9_next_41 : decode cX9_next 41 = .ok (.getfield 148, 3) := by decide +kernel
theorem dX9_next_44 : decode cX9_next 44 = .ok (.putfield 154, 3) := by decide +kernel
theorem dX9_next_47 : decode cX9_next 47 = .ok (.aload_n 0, 1) := by decide +kernel
theorem dX9_next_48 : decode cX9_next 48 = .ok (.aload_n 0, 1) := by decide +kernel
theorem dX9_next_49 : decode cX9_next 49 = .ok (.getfield 148, 3) := by decide +kernel
theorem dX9_next_52 : decode cX9_next 52 = .ok (.invokevirtual 151, 3) := by decide +kernel
theorem dX9_next_55 : decode cX9_next 55 = .ok (.istore_n 1, 1) := by decide +kernel
theorem dX9_next_56 : decode cX9_next 56 = .ok (.aload_n 0, 1) := by decide +kernel
theorem dX9_next_57 : decode cX9_next 57 = .ok (.iconst 4, 1) := by decide +kernel
theorem dX9_next_58 : decode cX9_next 58 = .ok (.putfield 157, 3) := by decide +kernel
theorem dX9_next_61 : decode cX9_next 61 = .ok (.iload_n 1, 1) := by decide +kernel
theorem dX9_next_62 : decode cX9_next 62 = .ok (.ifCond .ge 19, 3) := by decide +kernel
theorem dX9_next_65 : decode cX9_next 65 = .ok (.aload_n 0, 1) := by decide +kernel
theorem dX9_next_66 : decode cX9_next 66 = .ok (.iconst 0, 1) := by decide +kernel
theorem dX9_next_67 : decode cX9_next 67 = .ok (.putfield 157, 3) := by decide +kernel
theorem dX9_next_70 : decode cX9_next 70 = .ok (.aload_n 0, 1) := by decide +kernel
theorem dX9_next_71 : decode cX9_next 71 = .ok (.aload_n 0, 1) := by decide +kernel
theorem dX9_next_72 : decode cX9_next 72 = .ok (.getfield 142, 3) := by decide +kernel
theorem dX9_next_75 : decode cX9_next 75 = .ok (.putfield 154, 3) := by decide +kernel
theorem dX9_next_78 : decode cX9_next 78 = .ok (.goto 243, 3) := by decide +kernel
theorem dX9_next_81 : decode cX9_next 81 = .ok (.iload_n 1, 1) := by decide +kernel
theorem dX9_next_82 : decode cX9_next 82 = .ok (.i2l, 1) := by decide +kernel
theorem dX9_next_83 : decode cX9_next 83 = .ok (.ldc2_w 160, 3) := by decide +kernel
theorem dX9_next_86 : decode cX9_next 86 = .ok (.ldc2_w 162, 3) := by decide +kernel
theorem dX9_next_89 : decode cX9_next 89 = .ok (.invokestatic 85, 3) := by decide +kernel
theorem dX9_next_92 : decode cX9_next 92 = .ok (.ifCond .eq 42, 3) := by decide +kernel
theorem dX9_next_95 : decode cX9_next 95 = .ok (.aload_n 0, 1) := by decide +kernel
theorem dX9_next_96 : decode cX9_next 96 = .ok (.iconst 1, 1) := by decide +kernel
theorem dX9_next_97 : decode cX9_next 97 = .ok (.putfield 157, 3) := by decide +kernel
theorem dX9_next_100 : decode cX9_next 100 = .ok (.aload_n 0, 1) := by decide +kernel
theorem dX9_next_101 : decode cX9_next 101 = .ok (.aload_n 0, 1) := by decide +kernel
theorem dX9_next_102 : decode cX9_next 102 = .ok (.getfield 148, 3) := by decide +kernel
theorem dX9_next_105 : decode cX9_next 105 = .ok (.invokevirtual 151, 3) := by decide +kernel
theorem dX9_next_108 : decode cX9_next 108 = .ok (.i2l, 1) := by decide +kernel
theorem dX9_next_109 : decode cX9_next 109 = .ok (.ldc2_w 160, 3) := by decide +kernel
theorem dX9_next_112 : decode cX9_next 112 = .ok (.ldc2_w 162, 3) := by decide +kernel
theorem dX9_next_115 : decode cX9_next 115 = .ok (.invokestatic 85, 3) := by decide +kernel
theorem dX9_next_118 : decode cX9_next 118 = .ok (.ifCond .eq 203, 3) := by decide +kernel
theorem dX9_next_121 : decode cX9_next 121 = .ok (.aload_n 0, 1) := by decide +kernel
theorem dX9_next_122 : decode cX9_next 122 = .ok (.dup, 1) := by decide +kernel
theorem dX9_next_123 : decode cX9_next 123 = .ok (.getfield 148, 3) := by decide +kernel
theorem dX9_next_126 : decode cX9_next 126 = .ok (.iconst 1, 1) := by decide +kernel
theorem dX9_next_127 : decode cX9_next 127 = .ok (.iadd, 1) := by decide +kernel
theorem dX9_next_128 : decode cX9_next 128 = .ok (.putfield 148, 3) := by decide +kernel
theorem dX9_next_131 : decode cX9_next 131 = .ok (.goto (-31), 3) := by decide +kernel
theorem dX9_next_134 : decode cX9_next 134 = .ok (.iload_n 1, 1) := by decide +kernel
theorem dX9_next_135 : decode cX9_next 135 = .ok (.i2l, 1) := by decide +kernel
theorem dX9_next_136 : decode cX9_next 136 = .ok (.ldc2_w 164, 3) := by decide +kernel
theorem dX9_next_139 : decode cX9_next 139 = .ok (.ldc2_w 166, 3) := by decide +kernel
theorem dX9_next_142 : decode cX9_next 142 = .ok (.invokestatic 85, 3) := by decide +kernel
theorem dX9_next_145 : decode cX9_next 145 = .ok (.ifCond .eq 107, 3) := by decide +kernel
theorem dX9_next_148 : decode cX9_next 148 = .ok (.aload_n 0, 1) := by decide +kernel
theorem dX9_next_149 : decode cX9_next 149 = .ok (.iconst 2, 1) := by decide +kernel
theorem dX9_next_150 : decode cX9_next 150 = .ok (.putfield 157, 3) := by decide +kernel
theorem dX9_next_153 : decode cX9_next 153 = .ok (.aload_n 0, 1) := by decide +kernel
theorem dX9_next_154 : decode cX9_next 154 = .ok (.lconst 0, 1) := by decide +kernel
theorem dX9_next_155 : decode cX9_next 155 = .ok (.putfield 168, 3) := by decide +kernel
theorem dX9_next_158 : decode cX9_next 158 = .ok (.iconst 0, 1) := by decide +kernel
theorem dX9_next_159 : decode cX9_next 159 = .ok (.istore_n 2, 1) := by decide +kernel
theorem dX9_next_160 : decode cX9_next 160 = .ok (.aload_n 0, 1) := by decide +kernel
theorem dX9_next_161 : decode cX9_next 161 = .ok (.aload_n 0, 1) := by decide +kernel
theorem dX9_next_162 : decode cX9_next 162 = .ok (.getfield 148, 3) := by decide +kernel
theorem dX9_next_165 : decode cX9_next 165 = .ok (.invokevirtual 151, 3) := by decide +kernel
theorem dX9_next_168 : decode cX9_next 168 = .ok (.i2l, 1) := by decide +kernel
theorem dX9_next_169 : decode cX9_next 169 = .ok (.ldc2_w 164, 3) := by decide +kernel
theorem dX9_next_172 : decode cX9_next 172 = .ok (.ldc2_w 166, 3) := by decide +kernel
theorem dX9_next_175 : decode cX9_next 175 = .ok (.invokestatic 85, 3) := by decide +kernel
theorem dX9_next_178 : decode cX9_next 178 = .ok (.ifCond .eq 57, 3) := by decide +kernel
theorem dX9_next_181 : decode cX9_next 181 = .ok (.aload_n 0, 1) := by decide +kernel
theorem dX9_next_182 : decode cX9_next 182 = .ok (.iload_n 2, 1) := by decide +kernel
theorem dX9_next_183 : decode cX9_next 183 = .ok (.iconst 4, 1) := by decide +kernel
theorem dX9_next_184 : decode cX9_next 184 = .ok (.if_icmp .ge 28, 3) := by decide +kernel
theorem dX9_next_187 : decode cX9_next 187 = .ok (.ldc2_w 172, 3) := by decide +kernel
theorem dX9_next_190 : decode cX9_next 190 = .ok (.aload_n 0, 1) := by decide +kernel
theorem dX9_next_191 : decode cX9_next 191 = .ok (.getfield 168, 3) := by decide +kernel
theorem dX9_next_194 : decode cX9_next 194 = .ok (.lmul, 1) := by decide +kernel
theorem dX9_next_195 : decode cX9_next 195 = .ok (.aload_n 0, 1) := by decide +kernel
theorem dX9_next_196 : decode cX9_next 196 = .ok (.aload_n 0, 1) := by decide +kernel
theorem dX9_next_197 : decode cX9_next 197 = .ok (.getfield 148, 3) := by decide +kernel
theorem dX9_next_200 : decode cX9_next 200 = .ok (.invokevirtual 151, 3) := by decide +kernel
theorem dX9_next_203 : decode cX9_next 203 = .ok (.i2l, 1) := by decide +kernel
theorem dX9_next_204 : decode cX9_next 204 = .ok (.ladd, 1) := by decide +kernel
theorem dX9_next_205 : decode cX9_next 205 = .ok (.ldc2_w 164, 3) := by decide +kernel
theorem dX9_next_208 : decode cX9_next 208 = .ok (.lsub, 1) := by decide +kernel
theorem dX9_next_209 : decode cX9_next 209 = .ok (.goto 7, 3) := by decide +kernel
theorem dX9_next_212 : decode cX9_next 212 = .ok (.aload_n 0, 1) := by decide +kernel
theorem dX9_next_213 : decode cX9_next 213 = .ok (.getfield 168, 3) := by decide +kernel
theorem dX9_next_216 : decode cX9_next 216 = .ok (.putfield 168, 3) := by decide +kernel
theorem dX9_next_219 : decode cX9_next 219 = .ok (.iinc 2 1, 3) := by decide +kernel
theorem dX9_next_222 : decode cX9_next 222 = .ok (.aload_n 0, 1) := by decide +kernel
theorem dX9_next_223 : decode cX9_next 223 = .ok (.dup, 1) := by decide +kernel
theorem dX9_next_224 : decode cX9_next 224 = .ok (.getfield 148, 3) := by decide +kernel
theorem dX9_next_227 : decode cX9_next 227 = .ok (.iconst 1, 1) := by decide +kernel
theorem dX9_next_228 : decode cX9_next 228 = .ok (.iadd, 1) := by decide +kernel
theorem dX9_next_229 : decode cX9_next 229 = .ok (.putfield 148, 3) := by decide +kernel
theorem dX9_next_232 : decode cX9_next 232 = .ok (.goto (-72), 3) := by decide +kernel
theorem dX9_next_235 : decode cX9_next 235 = .ok (.aload_n 0, 1) := by decide +kernel
theorem dX9_next_236 : decode cX9_next 236 = .ok (.iload_n 2, 1) := by decide +kernel
theorem dX9_next_237 : decode cX9_next 237 = .ok (.iconst 4, 1) := by decide +kernel
theorem dX9_next_238 : decode cX9_next 238 = .ok (.if_icmp .le 7, 3) := by decide +kernel
theorem dX9_next_241 : decode cX9_next 241 = .ok (.iconst 4, 1) := by decide +kernel
theorem dX9_next_242 : decode cX9_next 242 = .ok (.goto 4, 3) := by decide +kernel
theorem dX9_next_245 : decode cX9_next 245 = .ok (.iconst 2, 1) := by decide +kernel
theorem dX9_next_246 : decode cX9_next 246 = .ok (.putfield 157, 3) := by decide +kernel
theorem dX9_next_249 : decode cX9_next 249 = .ok (.goto 72, 3) := by decide +kernel
theorem dX9_next_252 : decode cX9_next 252 = .ok (.iload_n 1, 1) := by decide +kernel
theorem dX9_next_253 : decode cX9_next 253 = .ok (.bipush 40, 2) := by decide +kernel
theorem dX9_next_255 : decode cX9_next 255 = .ok (.if_icmp .eq 45, 3) := by decide +kernel
theorem dX9_next_258 : decode cX9_next 258 = .ok (.iload_n 1, 1) := by decide +kernel
theorem dX9_next_259 : decode cX9_next 259 = .ok (.bipush 41, 2) := by decide +kernel
theorem dX9_next_261 : decode cX9_next 261 = .ok (.if_icmp .eq 39, 3) := by decide +kernel
theorem dX9_next_264 : decode cX9_next 264 = .ok (.iload_n 1, 1) := by decide +kernel
theorem dX9_next_265 : decode cX9_next 265 = .ok (.bipush 59, 2) := by decide +kernel
theorem dX9_next_267 : decode cX9_next 267 = .ok (.if_icmp .eq 33, 3) := by decide +kernel
theorem dX9_next_270 : decode cX9_next 270 = .ok (.iload_n 1, 1) := by decide +kernel
theorem dX9_next_271 : decode cX9_next 271 = .ok (.bipush 43, 2) := by decide +kernel
theorem dX9_next_273 : decode cX9_next 273 = .ok (.if_icmp .eq 27, 3) := by decide +kernel
theorem dX9_next_276 : decode cX9_next 276 = .ok (.iload_n 1, 1) := by decide +kernel
theorem dX9_next_277 : decode cX9_next 277 = .ok (.bipush 45, 2) := by decide +kernel
theorem dX9_next_279 : decode cX9_next 279 = .ok (.if_icmp .eq 21, 3) := by decide +kernel
theorem dX9_next_282 : decode cX9_next 282 = .ok (.iload_n 1, 1) := by decide +kernel
theorem dX9_next_283 : decode cX9_next 283 = .ok (.bipush 42, 2) := by decide +kernel
theorem dX9_next_285 : decode cX9_next 285 = .ok (.if_icmp .eq 15, 3) := by decide +kernel
theorem dX9_next_288 : decode cX9_next 288 = .ok (.iload_n 1, 1) := by decide +kernel
theorem dX9_next_289 : decode cX9_next 289 = .ok (.bipush 60, 2) := by decide +kernel
theorem dX9_next_291 : decode cX9_next 291 = .ok (.if_icmp .eq 9, 3) := by decide +kernel
theorem dX9_next_294 : decode cX9_next 294 = .ok (.iload_n 1, 1) := by decide +kernel
theorem dX9_next_295 : decode cX9_next 295 = .ok (.bipush 61, 2) := by decide +kernel
theorem dX9_next_297 : decode cX9_next 297 = .ok (.if_icmp .ne 24, 3) := by decide +kernel
theorem dX9_next_300 : decode cX9_next 300 = .ok (.aload_n 0, 1) := by decide +kernel
theorem dX9_next_301 : decode cX9_next 301 = .ok (.iconst 3, 1) := by decide +kernel
theorem dX9_next_302 : decode cX9_next 302 = .ok (.putfield 157, 3) := by decide +kernel
theorem dX9_next_305 : decode cX9_next 305 = .ok (.aload_n 0, 1) := by decide +kernel
theorem dX9_next_306 : decode cX9_next 306 = .ok (.iload_n 1, 1) := by decide +kernel
theorem dX9_next_307 : decode cX9_next 307 = .ok (.i2l, 1) := by decide +kernel
theorem dX9_next_308 : decode cX9_next 308 = .ok (.putfield 168, 3) := by decide +kernel
theorem dX9_next_311 : decode cX9_next 311 = .ok (.aload_n 0, 1) := by decide +kernel
theorem dX9_next_312 : decode cX9_next 312 = .ok (.dup, 1) := by decide +kernel
theorem dX9_next_313 : decode cX9_next 313 = .ok (.getfield 148, 3) := by decide +kernel
theorem dX9_next_316 : decode cX9_next 316 = .ok (.iconst 1, 1) := by decide +kernel
theorem dX9_next_317 : decode cX9_next 317 = .ok (.iadd, 1) := by decide +kernel
theorem dX9_next_318 : decode cX9_next 318 = .ok (.putfield 148, 3) := by decide +kernel
theorem dX9_next_321 : decode cX9_next 321 = .ok (.return_, 1) := by decide +kernel
theorem dX9_fail_0 : decode cX9_fail 0 = .ok (.aload_n 0, 1) := by decide +kernel
theorem dX9_fail_1 : decode cX9_fail 1 = .ok (.getfield 174, 3) := by decide +kernel
theorem dX9_fail_4 : decode cX9_fail 4 = .ok (.ifCond .ne 16, 3) := by decide +kernel
theorem dX9_fail_7 : decode cX9_fail 7 = .ok (.aload_n 0, 1) := by decide +kernel
theorem dX9_fail_8 : decode cX9_fail 8 = .ok (.iconst 1, 1) := by decide +kernel
theorem dX9_fail_9 : decode cX9_fail 9 = .ok (.putfield 174, 3) := by decide +kernel
theorem dX9_fail_12 : decode cX9_fail 12 = .ok (.aload_n 0, 1) := by decide +kernel
theorem dX9_fail_13 : decode cX9_fail 13 = .ok (.aload_n 0, 1) := by decide +kernel
theorem dX9_fail_14 : decode cX9_fail 14 = .ok (.getfield 154, 3) := by decide +kernel
theorem dX9_fail_17 : decode cX9_fail 17 = .ok (.putfield 178, 3) := by decide +kernel
theorem dX9_fail_20 : decode cX9_fail 20 = .ok (.return_, 1) := by decide +kernel
theorem dX9_isLetter_0 : decode cX9_isLetter 0 = .ok (.aload_n 0, 1) := by decide +kernel
theorem dX9_isLetter_1 : decode cX9_isLetter 1 = .ok (.getfield 154, 3) := by decide +kernel
theorem dX9_isLetter_4 : decode cX9_isLetter 4 = .ok (.iload_n 1, 1) := by decide +kernel
theorem dX9_isLetter_5 : decode cX9_isLetter 5 = .ok (.iadd, 1) := by decide +kernel
theorem dX9_isLetter_6 : decode cX9_isLetter 6 = .ok (.aload_n 0, 1) := by decide +kernel
theorem dX9_isLetter_7 : decode cX9_isLetter 7 = .ok (.getfield 148, 3) := by decide +kernel
theorem dX9_isLetter_10 : decode cX9_isLetter 10 = .ok (.if_icmp .ge 25, 3) := by decide +kernel
theorem dX9_isLetter_13 : decode cX9_isLetter 13 = .ok (.aload_n 0, 1) := by decide +kernel
theorem dX9_isLetter_14 : decode cX9_isLetter 14 = .ok (.aload_n 0, 1) := by decide +kernel
theorem dX9_isLetter_15 : decode cX9_isLetter 15 = .ok (.getfield 154, 3) := by decide +kernel
theorem dX9_isLetter_18 : decode cX9_isLetter 18 = .ok (.iload_n 1, 1) := by decide +kernel
theorem dX9_isLetter_19 : decode cX9_isLetter 19 = .ok (.iadd, 1) := by decide +kernel
theorem dX9_isLetter_20 : decode cX9_isLetter 20 = .ok (.invokevirtual 151, 3) := by decide +kernel
theorem dX9_isLetter_23 : decode cX9_isLetter 23 = .ok (.iload_n 2, 1) := by decide +kernel
theorem dX9_isLetter_24 : decode cX9_isLetter 24 = .ok (.if_icmp .ne 7, 3) := by decide +kernel
theorem dX9_isLetter_27 : decode cX9_isLetter 27 = .ok (.iconst 1, 1) := by decide +kernel
theorem dX9_isLetter_28 : decode cX9_isLetter 28 = .ok (.goto 16, 3) := by decide +kernel
theorem dX9_isLetter_31 : decode cX9_isLetter 31 = .ok (.iconst 0, 1) := by decide +kernel
theorem dX9_isLetter_32 : decode cX9_isLetter 32 = .ok (.goto 12, 3) := by decide +kernel
theorem dX9_isLetter_35 : decode cX9_isLetter 35 = .ok (.iload_n 2, 1) := by decide +kernel
theorem dX9_isLetter_36 : decode cX9_isLetter 36 = .ok (.ifCond .ne 7, 3) := by decide +kernel
theorem dX9_isLetter_39 : decode cX9_isLetter 39 = .ok (.iconst 1, 1) := by decide +kernel
theorem dX9_isLetter_40 : decode cX9_isLetter 40 = .ok (.goto 4, 3) := by decide +kernel
theorem dX9_isLetter_43 : decode cX9_isLetter 43 = .ok (.iconst 0, 1) := by decide +kernel
theorem dX9_isLetter_44 : decode cX9_isLetter 44 = .ok (.ireturn, 1) := by decide +kernel
theorem dX9_isWord_0 : decode cX9_isWord 0 = .ok (.aload_n 0, 1) := by decide +kernel
theorem dX9_isWord_1 : decode cX9_isWord 1 = .ok (.getfield 174, 3) := by decide +kernel
theorem dX9_isWord_4 : decode cX9_isWord 4 = .ok (.ifCond .ne 108, 3) := by decide +kernel
theorem dX9_isWord_7 : decode cX9_isWord 7 = .ok (.aload_n 0, 1) := by decide +kernel
theorem dX9_isWord_8 : decode cX9_isWord 8 = .ok (.getfield 157, 3) := by decide +kernel
theorem dX9_isWord_11 : decode cX9_isWord 11 = .ok (.iconst 1, 1) := by decide +kernel
theorem dX9_isWord_12 : decode cX9_isWord 12 = .ok (.if_icmp .ne 100, 3) := by decide +kernel
theorem dX9_isWord_15 : decode cX9_isWord 15 = .ok (.aload_n 0, 1) := by decide +kernel
theorem dX9_isWord_16 : decode cX9_isWord 16 = .ok (.getfield 148, 3) := by decide +kernel
theorem dX9_isWord_19 : decode cX9_isWord 19 = .ok (.aload_n 0, 1) := by decide +kernel
theorem dX9_isWord_20 : decode cX9_isWord 20 = .ok (.getfield 154, 3) := by decide +kernel
theorem dX9_isWord_23 : decode cX9_isWord 23 = .ok (.bipush 8, 2) := by decide +kernel
theorem dX9_isWord_25 : decode cX9_isWord 25 = .ok (.iadd, 1) := by decide +kernel
theorem dX9_isWord_26 : decode cX9_isWord 26 = .ok (.if_icmp .gt 86, 3) := by decide +kernel
theorem dX9_isWord_29 : decode cX9_isWord 29 = .ok (.aload_n 0, 1) := by decide +kernel
theorem dX9_isWord_30 : decode cX9_isWord 30 = .ok (.iconst 0, 1) := by decide +kernel
theorem dX9_isWord_31 : decode cX9_isWord 31 = .ok (.iload_n 1, 1) := by decide +kernel
theorem dX9_isWord_32 : decode cX9_isWord 32 = .ok (.invokevirtual 181, 3) := by decide +kernel
theorem dX9_isWord_35 : decode cX9_isWord 35 = .ok (.ifCond .eq 77, 3) := by decide +kernel
theorem dX9_isWord_38 : decode cX9_isWord 38 = .ok (.aload_n 0, 1) := by decide +kernel
theorem dX9_isWord_39 : decode cX9_isWord 39 = .ok (.iconst 1, 1) := by decide +kernel
theorem dX9_isWord_40 : decode cX9_isWord 40 = .ok (.iload_n 2, 1) := by decide +kernel
theorem dX9_isWord_41 : decode cX9_isWord 41 = .ok (.invokevirtual 181, 3) := by decide +kernel
theorem dX9_isWord_44 : decode cX9_isWord 44 = .ok (.ifCond .eq 68, 3) := by decide +kernel
theorem dX9_isWord_47 : decode cX9_isWord 47 = .ok (.aload_n 0, 1) := by decide +kernel
theorem dX9_isWord_48 : decode cX9_isWord 48 = .ok (.iconst 2, 1) := by decide +kernel
theorem dX9_isWord_49 : decode cX9_isWord 49 = .ok (.iload_n 3, 1) := by decide +kernel
theorem dX9_isWord_50 : decode cX9_isWord 50 = .ok (.invokevirtual 181, 3) := by decide +kernel
theorem dX9_isWord_53 : decode cX9_isWord 53 = .ok (.ifCond .eq 59, 3) := by decide +kernel
theorem dX9_isWord_56 : decode cX9_isWord 56 = .ok (.aload_n 0, 1) := by decide +kernel
theorem dX9_isWord_57 : decode cX9_isWord 57 = .ok (.iconst 3, 1) := by decide +kernel
theorem dX9_isWord_58 : decode cX9_isWord 58 = .ok (.iload 4, 2) := by decide +kernel
theorem dX9_isWord_60 : decode cX9_isWord 60 = .ok (.invokevirtual 181, 3) := by decide +kernel
theorem dX9_isWord_63 : decode cX9_isWord 63 = .ok (.ifCond .eq 49, 3) := by decide +kernel
theorem dX9_isWord_66 : decode cX9_isWord 66 = .ok (.aload_n 0, 1) := by decide +kernel
theorem dX9_isWord_67 : decode cX9_isWord 67 = .ok (.iconst 4, 1) := by decide +kernel
theorem dX9_isWord_68 : decode cX9_isWord 68 = .ok (.iload 5, 2) := by decide +kernel
theorem dX9_isWord_70 : decode cX9_isWord 70 = .ok (.invokevirtual 181, 3) := by decide +kernel
theorem dX9_isWord_73 : decode cX9_isWord 73 = .ok (.ifCond .eq 39, 3) := by decide +kernel
theorem dX9_isWord_76 : decode cX9_isWord 76 = .ok (.aload_n 0, 1) := by decide +kernel
theorem dX9_isWord_77 : decode cX9_isWord 77 = .ok (.iconst 5, 1) := by decide +kernel
theorem dX9_isWord_78 : decode cX9_isWord 78 = .ok (.iload 6, 2) := by decide +kernel
theorem dX9_isWord_80 : decode cX9_isWord 80 = .ok (.invokevirtual 181, 3) := by decide +kernel
theorem dX9_isWord_83 : decode cX9_isWord 83 = .ok (.ifCond .eq 29, 3) := by decide +kernel
theorem dX9_isWord_86 : decode cX9_isWord 86 = .ok (.aload_n 0, 1) := by decide +kernel
theorem dX9_isWord_87 : decode cX9_isWord 87 = .ok (.bipush 6, 2) := by decide +kernel
theorem dX9_isWord_89 : decode cX9_isWord 89 = .ok (.iload 7, 2) := by decide +kernel
theorem dX9_isWord_91 : decode cX9_isWord 91 = .ok (.invokevirtual 181, 3) := by decide +kernel
theorem dX9_isWord_94 : decode cX9_isWord 94 = .ok (.ifCond .eq 18, 3) := by decide +kernel
theorem dX9_isWord_97 : decode cX9_isWord 97 = .ok (.aload_n 0, 1) := by decide +kernel
theorem dX9_isWord_98 : decode cX9_isWord 98 = .ok (.bipush 7, 2) := by decide +kernel
theorem dX9_isWord_100 : decode cX9_isWord 100 = .ok (.iload 8, 2) := by decide +kernel
theorem dX9_isWord_102 : decode cX9_isWord 102 = .ok (.invokevirtual 181, 3) := by decide +kernel
theorem dX9_isWord_105 : decode cX9_isWord 105 = .ok (.ifCond .eq 7, 3) := by decide +kernel
theorem dX9_isWord_108 : decode cX9_isWord 108 = .ok (.iconst 1, 1) := by decide +kernel
theorem dX9_isWord_109 : decode cX9_isWord 109 = .ok (.goto 4, 3) := by decide +kernel
theorem dX9_isWord_112 : decode cX9_isWord 112 = .ok (.iconst 0, 1) := by decide +kernel
theorem dX9_isWord_113 : decode cX9_isWord 113 = .ok (.ireturn, 1) := by decide +kernel
theorem dX9_isSign_0 : decode cX9_isSign 0 = .ok (.aload_n 0, 1) := by decide +kernel
theorem dX9_isSign_1 : decode cX9_isSign 1 = .ok (.getfield 174, 3) := by decide +kernel
theorem dX9_isSign_4 : decode cX9_isSign 4 = .ok (.ifCond .ne 25, 3) := by decide +kernel
theorem dX9_isSign_7 : decode cX9_isSign 7 = .ok (.aload_n 0, 1) := by decide +kernel
theorem dX9_isSign_8 : decode cX9_isSign 8 = .ok (.getfield 157, 3) := by decide +kernel
theorem dX9_isSign_11 : decode cX9_isSign 11 = .ok (.iconst 3, 1) := by decide +kernel
theorem dX9_isSign_12 : decode cX9_isSign 12 = .ok (.if_icmp .ne 17, 3) := by decide +kernel
theorem dX9_isSign_15 : decode cX9_isSign 15 = .ok (.aload_n 0, 1) := by decide +kernel
theorem dX9_isSign_16 : decode cX9_isSign 16 = .ok (.getfield 168, 3) := by decide +kernel
theorem dX9_isSign_19 : decode cX9_isSign 19 = .ok (.iload_n 1, 1) := by decide +kernel
theorem dX9_isSign_20 : decode cX9_isSign 20 = .ok (.i2l, 1) := by decide +kernel
theorem dX9_isSign_21 : decode cX9_isSign 21 = .ok (.lcmp, 1) := by decide +kernel
theorem dX9_isSign_22 : decode cX9_isSign 22 = .ok (.ifCond .ne 7, 3) := by decide +kernel
theorem dX9_isSign_25 : decode cX9_isSign 25 = .ok (.iconst 1, 1) := by decide +kernel
theorem dX9_isSign_26 : decode cX9_isSign 26 = .ok (.goto 4, 3) := by decide +kernel
theorem dX9_isSign_29 : decode cX9_isSign 29 = .ok (.iconst 0, 1) := by decide +kernel
theorem dX9_isSign_30 : decode cX9_isSign 30 = .ok (.ireturn, 1) := by decide +kernel
theorem dX9_opens_0 : decode cX9_opens 0 = .ok (.aload_n 0, 1) := by decide +kernel
theorem dX9_opens_1 : decode cX9_opens 1 = .ok (.getfield 185, 3) := by decide +kernel
theorem dX9_opens_4 : decode cX9_opens 4 = .ok (.iconst 5, 1) := by decide +kernel
theorem dX9_opens_5 : decode cX9_opens 5 = .ok (.if_icmp .ne 9, 3) := by decide +kernel
theorem dX9_opens_8 : decode cX9_opens 8 = .ok (.aload_n 0, 1) := by decide +kernel
theorem dX9_opens_9 : decode cX9_opens 9 = .ok (.invokevirtual 188, 3) := by decide +kernel
theorem dX9_opens_12 : decode cX9_opens 12 = .ok (.iconst 0, 1) := by decide +kernel
theorem dX9_opens_13 : decode cX9_opens 13 = .ok (.ireturn, 1) := by decide +kernel
theorem dX9_opens_14 : decode cX9_opens 14 = .ok (.aload_n 0, 1) := by decide +kernel
theorem dX9_opens_15 : decode cX9_opens 15 = .ok (.dup, 1) := by decide +kernel
theorem dX9_opens_16 : decode cX9_opens 16 = .ok (.getfield 185, 3) := by decide +kernel
theorem dX9_opens_19 : decode cX9_opens 19 = .ok (.iconst 1, 1) := by decide +kernel
theorem dX9_opens_20 : decode cX9_opens 20 = .ok (.iadd, 1) := by decide +kernel
theorem dX9_opens_21 : decode cX9_opens 21 = .ok (.putfield 185, 3) := by decide +kernel
theorem dX9_opens_24 : decode cX9_opens 24 = .ok (.aload_n 0, 1) := by decide +kernel
theorem dX9_opens_25 : decode cX9_opens 25 = .ok (.invokevirtual 191, 3) := by decide +kernel
theorem dX9_opens_28 : decode cX9_opens 28 = .ok (.iconst 1, 1) := by decide +kernel
theorem dX9_opens_29 : decode cX9_opens 29 = .ok (.ireturn, 1) := by decide +kernel
theorem dX9_name_0 : decode cX9_name 0 = .ok (.aload_n 0, 1) := by decide +kernel
theorem dX9_name_1 : decode cX9_name 1 = .ok (.bipush 100, 2) := by decide +kernel
theorem dX9_name_3 : decode cX9_name 3 = .ok (.bipush 97, 2) := by decide +kernel
theorem dX9_name_5 : decode cX9_name 5 = .ok (.bipush 121, 2) := by decide +kernel
theorem dX9_name_7 : decode cX9_name 7 = .ok (.iconst 0, 1) := by decide +kernel
theorem dX9_name_8 : decode cX9_name 8 = .ok (.iconst 0, 1) := by decide +kernel
theorem dX9_name_9 : decode cX9_name 9 = .ok (.iconst 0, 1) := by decide +kernel
theorem dX9_name_10 : decode cX9_name 10 = .ok (.iconst 0, 1) := by decide +kernel
theorem dX9_name_11 : decode cX9_name 11 = .ok (.iconst 0, 1) := by decide +kernel
theorem dX9_name_12 : decode cX9_name 12 = .ok (.invokevirtual 194, 3) := by decide +kernel
theorem dX9_name_15 : decode cX9_name 15 = .ok (.ifCond .eq 8, 3) := by decide +kernel
theorem dX9_name_18 : decode cX9_name 18 = .ok (.aload_n 0, 1) := by decide +kernel
theorem dX9_name_19 : decode cX9_name 19 = .ok (.getfield 198, 3) := by decide +kernel
theorem dX9_name_22 : decode cX9_name 22 = .ok (.ireturn, 1) := by decide +kernel
theorem dX9_name_23 : decode cX9_name 23 = .ok (.aload_n 0, 1) := by decide +kernel
theorem dX9_name_24 : decode cX9_name 24 = .ok (.bipush 115, 2) := by decide +kernel
theorem dX9_name_26 : decode cX9_name 26 = .ok (.bipush 104, 2) := by decide +kernel
theorem dX9_name_28 : decode cX9_name 28 = .ok (.bipush 105, 2) := by decide +kernel
theorem dX9_name_30 : decode cX9_name 30 = .ok (.bipush 102, 2) := by decide +kernel
theorem dX9_name_32 : decode cX9_name 32 = .ok (.bipush 116, 2) := by decide +kernel
theorem dX9_name_34 : decode cX9_name 34 = .ok (.iconst 0, 1) := by decide +kernel
theorem dX9_name_35 : decode cX9_name 35 = .ok (.iconst 0, 1) := by decide +kernel
theorem dX9_name_36 : decode cX9_name 36 = .ok (.iconst 0, 1) := by decide +kernel
theorem dX9_name_37 : decode cX9_name 37 = .ok (.invokevirtual 194, 3) := by decide +kernel
theorem dX9_name_40 : decode cX9_name 40 = .ok (.ifCond .eq 8, 3) := by decide +kernel
theorem dX9_name_43 : decode cX9_name 43 = .ok (.aload_n 0, 1) := by decide +kernel
theorem dX9_name_44 : decode cX9_name 44 = .ok (.getfield 201, 3) := by decide +kernel
theorem dX9_name_47 : decode cX9_name 47 = .ok (.ireturn, 1) := by decide +kernel
theorem dX9_name_48 : decode cX9_name 48 = .ok (.aload_n 0, 1) := by decide +kernel
theorem dX9_name_49 : decode cX9_name 49 = .ok (.bipush 110, 2) := by decide +kernel
theorem dX9_name_51 : decode cX9_name 51 = .ok (.bipush 117, 2) := by decide +kernel
theorem dX9_name_53 : decode cX9_name 53 = .ok (.bipush 109, 2) := by decide +kernel
theorem dX9_name_55 : decode cX9_name 55 = .ok (.bipush 98, 2) := by decide +kernel
theorem dX9_name_57 : decode cX9_name 57 = .ok (.bipush 101, 2) := by decide +kernel
theorem dX9_name_59 : decode cX9_name 59 = .ok (.bipush 114, 2) := by decide +kernel
theorem dX9_name_61 : decode cX9_name 61 = .ok (.iconst 0, 1) := by decide +kernel
theorem dX9_name_62 : decode cX9_name 62 = .ok (.iconst 0, 1) := by decide +kernel
theorem dX9_name_63 : decode cX9_name 63 = .ok (.invokevirtual 194, 3) := by decide +kernel
theorem dX9_name_66 : decode cX9_name 66 = .ok (.ifCond .eq 8, 3) := by decide +kernel
theorem dX9_name_69 : decode cX9_name 69 = .ok (.aload_n 0, 1) := by decide +kernel
theorem dX9_name_70 : decode cX9_name 70 = .ok (.getfield 204, 3) := by decide +kernel
theorem dX9_name_73 : decode cX9_name 73 = .ok (.ireturn, 1) := by decide +kernel
theorem dX9_name_74 : decode cX9_name 74 = .ok (.aload_n 0, 1) := by decide +kernel
theorem dX9_name_75 : decode cX9_name 75 = .ok (.bipush 119, 2) := by decide +kernel
theorem dX9_name_77 : decode cX9_name 77 = .ok (.bipush 101, 2) := by decide +kernel
theorem dX9_name_79 : decode cX9_name 79 = .ok (.bipush 97, 2) := by decide +kernel
theorem dX9_name_81 : decode cX9_name 81 = .ok (.bipush 116, 2) := by decide +kernel
theorem dX9_name_83 : decode cX9_name 83 = .ok (.bipush 104, 2) := by decide +kernel
theorem dX9_name_85 : decode cX9_name 85 = .ok (.bipush 101, 2) := by decide +kernel
theorem dX9_name_87 : decode cX9_name 87 = .ok (.bipush 114, 2) := by decide +kernel
theorem dX9_name_89 : decode cX9_name 89 = .ok (.iconst 0, 1) := by decide +kernel
theorem dX9_name_90 : decode cX9_name 90 = .ok (.invokevirtual 194, 3) := by decide +kernel
theorem dX9_name_93 : decode cX9_name 93 = .ok (.ifCond .eq 8, 3) := by decide +kernel
theorem dX9_name_96 : decode cX9_name 96 = .ok (.aload_n 0, 1) := by decide +kernel
theorem dX9_name_97 : decode cX9_name 97 = .ok (.getfield 207, 3) := by decide +kernel
theorem dX9_name_100 : decode cX9_name 100 = .ok (.ireturn, 1) := by decide +kernel
theorem dX9_name_101 : decode cX9_name 101 = .ok (.aload_n 0, 1) := by decide +kernel
theorem dX9_name_102 : decode cX9_name 102 = .ok (.bipush 119, 2) := by decide +kernel
theorem dX9_name_104 : decode cX9_name 104 = .ok (.bipush 105, 2) := by decide +kernel
theorem dX9_name_106 : decode cX9_name 106 = .ok (.bipush 110, 2) := by decide +kernel
theorem dX9_name_108 : decode cX9_name 108 = .ok (.bipush 100, 2) := by decide +kernel
theorem dX9_name_110 : decode cX9_name 110 = .ok (.bipush 111, 2) := by decide +kernel
theorem dX9_name_112 : decode cX9_name 112 = .ok (.bipush 119, 2) := by decide +kernel
theorem dX9_name_114 : decode cX9_name 114 = .ok (.iconst 0, 1) := by decide +kernel
theorem dX9_name_115 : decode cX9_name 115 = .ok (.iconst 0, 1) := by decide +kernel
theorem dX9_name_116 : decode cX9_name 116 = .ok (.invokevirtual 194, 3) := by decide +kernel
theorem dX9_name_119 : decode cX9_name 119 = .ok (.ifCond .eq 8, 3) := by decide +kernel
theorem dX9_name_122 : decode cX9_name 122 = .ok (.aload_n 0, 1) := by decide +kernel
theorem dX9_name_123 : decode cX9_name 123 = .ok (.getfield 210, 3) := by decide +kernel
theorem dX9_name_126 : decode cX9_name 126 = .ok (.ireturn, 1) := by decide +kernel
theorem dX9_name_127 : decode cX9_name 127 = .ok (.aload_n 0, 1) := by decide +kernel
theorem dX9_name_128 : decode cX9_name 128 = .ok (.bipush 114, 2) := by decide +kernel
theorem dX9_name_130 : decode cX9_name 130 = .ok (.bipush 111, 2) := by decide +kernel
theorem dX9_name_132 : decode cX9_name 132 = .ok (.bipush 111, 2) := by decide +kernel
theorem dX9_name_134 : decode cX9_name 134 = .ok (.bipush 109, 2) := by decide +kernel
theorem dX9_name_136 : decode cX9_name 136 = .ok (.iconst 0, 1) := by decide +kernel
theorem dX9_name_137 : decode cX9_name 137 = .ok (.iconst 0, 1) := by decide +kernel
theorem dX9_name_138 : decode cX9_name 138 = .ok (.iconst 0, 1) := by decide +kernel
theorem dX9_name_139 : decode cX9_name 139 = .ok (.iconst 0, 1) := by decide +kernel
theorem dX9_name_140 : decode cX9_name 140 = .ok (.invokevirtual 194, 3) := by decide +kernel
theorem dX9_name_143 : decode cX9_name 143 = .ok (.ifCond .eq 8, 3) := by decide +kernel
theorem dX9_name_146 : decode cX9_name 146 = .ok (.aload_n 0, 1) := by decide +kernel
theorem dX9_name_147 : decode cX9_name 147 = .ok (.getfield 213, 3) := by decide +kernel
theorem dX9_name_150 : decode cX9_name 150 = .ok (.ireturn, 1) := by decide +kernel
theorem dX9_name_151 : decode cX9_name 151 = .ok (.aload_n 0, 1) := by decide +kernel
theorem dX9_name_152 : decode cX9_name 152 = .ok (.invokevirtual 188, 3) := by decide +kernel
theorem dX9_name_155 : decode cX9_name 155 = .ok (.iconst 0, 1) := by decide +kernel
theorem dX9_name_156 : decode cX9_name 156 = .ok (.ireturn, 1) := by decide +kernel
theorem dX9_atom_0 : decode cX9_atom 0 = .ok (.iconst 0, 1) := by decide +kernel
theorem dX9_atom_1 : decode cX9_atom 1 = .ok (.istore_n 1, 1) := by decide +kernel
theorem dX9_atom_2 : decode cX9_atom 2 = .ok (.aload_n 0, 1) := by decide +kernel
theorem dX9_atom_3 : decode cX9_atom 3 = .ok (.bipush 45, 2) := by decide +kernel
theorem dX9_atom_5 : decode cX9_atom 5 = .ok (.invokevirtual 216, 3) := by decide +kernel
theorem dX9_atom_8 : decode cX9_atom 8 = .ok (.ifCond .eq 29, 3) := by decide +kernel
theorem dX9_atom_11 : decode cX9_atom 11 = .ok (.aload_n 0, 1) := by decide +kernel
theorem dX9_atom_12 : decode cX9_atom 12 = .ok (.invokevirtual 219, 3) := by decide +kernel
theorem dX9_atom_15 : decode cX9_atom 15 = .ok (.ifCond .eq 146, 3) := by decide +kernel
theorem dX9_atom_18 : decode cX9_atom 18 = .ok (.aload_n 0, 1) := by decide +kernel
theorem dX9_atom_19 : decode cX9_atom 19 = .ok (.invokevirtual 223, 3) := by decide +kernel
theorem dX9_atom_22 : decode cX9_atom 22 = .ok (.ineg, 1) := by decide +kernel
theorem dX9_atom_23 : decode cX9_atom 23 = .ok (.istore_n 1, 1) := by decide +kernel
theorem dX9_atom_24 : decode cX9_atom 24 = .ok (.aload_n 0, 1) := by decide +kernel
theorem dX9_atom_25 : decode cX9_atom 25 = .ok (.dup, 1) := by decide +kernel
theorem dX9_atom_26 : decode cX9_atom 26 = .ok (.getfield 185, 3) := by decide +kernel
theorem dX9_atom_29 : decode cX9_atom 29 = .ok (.iconst 1, 1) := by decide +kernel
theorem dX9_atom_30 : decode cX9_atom 30 = .ok (.isub, 1) := by decide +kernel
theorem dX9_atom_31 : decode cX9_atom 31 = .ok (.putfield 185, 3) := by decide +kernel
theorem dX9_atom_34 : decode cX9_atom 34 = .ok (.goto 127, 3) := by decide +kernel
theorem dX9_atom_37 : decode cX9_atom 37 = .ok (.aload_n 0, 1) := by decide +kernel
theorem dX9_atom_38 : decode cX9_atom 38 = .ok (.bipush 40, 2) := by decide +kernel
theorem dX9_atom_40 : decode cX9_atom 40 = .ok (.invokevirtual 216, 3) := by decide +kernel
theorem dX9_atom_43 : decode cX9_atom 43 = .ok (.ifCond .eq 52, 3) := by decide +kernel
theorem dX9_atom_46 : decode cX9_atom 46 = .ok (.aload_n 0, 1) := by decide +kernel
theorem dX9_atom_47 : decode cX9_atom 47 = .ok (.invokevirtual 219, 3) := by decide +kernel
theorem dX9_atom_50 : decode cX9_atom 50 = .ok (.ifCond .eq 111, 3) := by decide +kernel
theorem dX9_atom_53 : decode cX9_atom 53 = .ok (.aload_n 0, 1) := by decide +kernel
theorem dX9_atom_54 : decode cX9_atom 54 = .ok (.invokevirtual 227, 3) := by decide +kernel
theorem dX9_atom_57 : decode cX9_atom 57 = .ok (.istore_n 1, 1) := by decide +kernel
theorem dX9_atom_58 : decode cX9_atom 58 = .ok (.aload_n 0, 1) := by decide +kernel
theorem dX9_atom_59 : decode cX9_atom 59 = .ok (.bipush 41, 2) := by decide +kernel
theorem dX9_atom_61 : decode cX9_atom 61 = .ok (.invokevirtual 216, 3) := by decide +kernel
theorem dX9_atom_64 : decode cX9_atom 64 = .ok (.ifCond .ne 7, 3) := by decide +kernel
theorem dX9_atom_67 : decode cX9_atom 67 = .ok (.aload_n 0, 1) := by decide +kernel
theorem dX9_atom_68 : decode cX9_atom 68 = .ok (.invokevirtual 188, 3) := by decide +kernel
theorem dX9_atom_71 : decode cX9_atom 71 = .ok (.aload_n 0, 1) := by decide +kernel
theorem dX9_atom_72 : decode cX9_atom 72 = .ok (.dup, 1) := by decide +kernel
theorem dX9_atom_73 : decode cX9_atom 73 = .ok (.getfield 185, 3) := by decide +kernel
theorem dX9_atom_76 : decode cX9_atom 76 = .ok (.iconst 1, 1) := by decide +kernel
theorem dX9_atom_77 : decode cX9_atom 77 = .ok (.isub, 1) := by decide +kernel
theorem dX9_atom_78 : decode cX9_atom 78 = .ok (.putfield 185, 3) := by decide +kernel
theorem dX9_atom_81 : decode cX9_atom 81 = .ok (.aload_n 0, 1) := by decide +kernel
theorem dX9_atom_82 : decode cX9_atom 82 = .ok (.getfield 174, 3) := by decide +kernel
theorem dX9_atom_85 : decode cX9_atom 85 = .ok (.ifCond .ne 76, 3) := by decide +kernel
theorem dX9_atom_88 : decode cX9_atom 88 = .ok (.aload_n 0, 1) := by decide +kernel
theorem dX9_atom_89 : decode cX9_atom 89 = .ok (.invokevirtual 191, 3) := by decide +kernel
theorem dX9_atom_92 : decode cX9_atom 92 = .ok (.goto 69, 3) := by decide +kernel
theorem dX9_atom_95 : decode cX9_atom 95 = .ok (.aload_n 0, 1) := by decide +kernel
theorem dX9_atom_96 : decode cX9_atom 96 = .ok (.getfield 174, 3) := by decide +kernel
theorem dX9_atom_99 : decode cX9_atom 99 = .ok (.ifCond .ne 24, 3) := by decide +kernel
theorem dX9_atom_102 : decode cX9_atom 102 = .ok (.aload_n 0, 1) := by decide +kernel
theorem dX9_atom_103 : decode cX9_atom 103 = .ok (.getfield 157, 3) := by decide +kernel
theorem dX9_atom_106 : decode cX9_atom 106 = .ok (.iconst 2, 1) := by decide +kernel
theorem dX9_atom_107 : decode cX9_atom 107 = .ok (.if_icmp .ne 16, 3) := by decide +kernel
theorem dX9_atom_110 : decode cX9_atom 110 = .ok (.aload_n 0, 1) := by decide +kernel
theorem dX9_atom_111 : decode cX9_atom 111 = .ok (.getfield 168, 3) := by decide +kernel
theorem dX9_atom_114 : decode cX9_atom 114 = .ok (.l2i, 1) := by decide +kernel
theorem dX9_atom_115 : decode cX9_atom 115 = .ok (.istore_n 1, 1) := by decide +kernel
theorem dX9_atom_116 : decode cX9_atom 116 = .ok (.aload_n 0, 1) := by decide +kernel
theorem dX9_atom_117 : decode cX9_atom 117 = .ok (.invokevirtual 191, 3) := by decide +kernel
theorem dX9_atom_120 : decode cX9_atom 120 = .ok (.goto 41, 3) := by decide +kernel
theorem dX9_atom_123 : decode cX9_atom 123 = .ok (.aload_n 0, 1) := by decide +kernel
theorem dX9_atom_124 : decode cX9_atom 124 = .ok (.getfield 174, 3) := by decide +kernel
theorem dX9_atom_127 : decode cX9_atom 127 = .ok (.ifCond .ne 30, 3) := by decide +kernel
theorem dX9_atom_130 : decode cX9_atom 130 = .ok (.aload_n 0, 1) := by decide +kernel
theorem dX9_atom_131 : decode cX9_atom 131 = .ok (.getfield 157, 3) := by decide +kernel
theorem dX9_atom_134 : decode cX9_atom 134 = .ok (.iconst 1, 1) := by decide +kernel
theorem dX9_atom_135 : decode cX9_atom 135 = .ok (.if_icmp .ne 22, 3) := by decide +kernel
theorem dX9_atom_138 : decode cX9_atom 138 = .ok (.aload_n 0, 1) := by decide +kernel
theorem dX9_atom_139 : decode cX9_atom 139 = .ok (.invokevirtual 230, 3) := by decide +kernel
theorem dX9_atom_142 : decode cX9_atom 142 = .ok (.istore_n 1, 1) := by decide +kernel
theorem dX9_atom_143 : decode cX9_atom 143 = .ok (.aload_n 0, 1) := by decide +kernel
theorem dX9_atom_144 : decode cX9_atom 144 = .ok (.getfield 174, 3) := by decide +kernel
theorem dX9_atom_147 : decode cX9_atom 147 = .ok (.ifCond .ne 14, 3) := by decide +kernel
theorem dX9_atom_150 : decode cX9_atom 150 = .ok (.aload_n 0, 1) := by decide +kernel
theorem dX9_atom_151 : decode cX9_atom 151 = .ok (.invokevirtual 191, 3) := by decide +kernel
theorem dX9_atom_154 : decode cX9_atom 154 = .ok (.goto 7, 3) := by decide +kernel
theorem dX9_atom_157 : decode cX9_atom 157 = .ok (.aload_n 0, 1) := by decide +kernel
theorem dX9_atom_158 : decode cX9_atom 158 = .ok (.invokevirtual 188, 3) := by decide +kernel
theorem dX9_atom_161 : decode cX9_atom 161 = .ok (.iload_n 1, 1) := by decide +kernel
theorem dX9_atom_162 : decode cX9_atom 162 = .ok (.ireturn, 1) := by decide +kernel
theorem dX9_term_0 : decode cX9_term 0 = .ok (.aload_n 0, 1) := by decide +kernel
theorem dX9_term_1 : decode cX9_term 1 = .ok (.invokevirtual 223, 3) := by decide +kernel
theorem dX9_term_4 : decode cX9_term 4 = .ok (.istore_n 1, 1) := by decide +kernel
theorem dX9_term_5 : decode cX9_term 5 = .ok (.aload_n 0, 1) := by decide +kernel
theorem dX9_term_6 : decode cX9_term 6 = .ok (.bipush 42, 2) := by decide +kernel
theorem dX9_term_8 : decode cX9_term 8 = .ok (.invokevirtual 216, 3) := by decide +kernel
theorem dX9_term_11 : decode cX9_term 11 = .ok (.ifCond .eq 17, 3) := by decide +kernel
theorem dX9_term_14 : decode cX9_term 14 = .ok (.aload_n 0, 1) := by decide +kernel
theorem dX9_term_15 : decode cX9_term 15 = .ok (.invokevirtual 191, 3) := by decide +kernel
theorem dX9_term_18 : decode cX9_term 18 = .ok (.iload_n 1, 1) := by decide +kernel
theorem dX9_term_19 : decode cX9_term 19 = .ok (.aload_n 0, 1) := by decide +kernel
theorem dX9_term_20 : decode cX9_term 20 = .ok (.invokevirtual 223, 3) := by decide +kernel
theorem dX9_term_23 : decode cX9_term 23 = .ok (.imul, 1) := by decide +kernel
theorem dX9_term_24 : decode cX9_term 24 = .ok (.istore_n 1, 1) := by decide +kernel
theorem dX9_term_25 : decode cX9_term 25 = .ok (.goto (-20), 3) := by decide +kernel
theorem dX9_term_28 : decode cX9_term 28 = .ok (.iload_n 1, 1) := by decide +kernel
theorem dX9_term_29 : decode cX9_term 29 = .ok (.ireturn, 1) := by decide +kernel
theorem dX9_added_0 : decode cX9_added 0 = .ok (.aload_n 0, 1) := by decide +kernel
theorem dX9_added_1 : decode cX9_added 1 = .ok (.invokevirtual 233, 3) := by decide +kernel
theorem dX9_added_4 : decode cX9_added 4 = .ok (.istore_n 1, 1) := by decide +kernel
theorem dX9_added_5 : decode cX9_added 5 = .ok (.aload_n 0, 1) := by decide +kernel
theorem dX9_added_6 : decode cX9_added 6 = .ok (.bipush 43, 2) := by decide +kernel
theorem dX9_added_8 : decode cX9_added 8 = .ok (.invokevirtual 216, 3) := by decide +kernel
theorem dX9_added_11 : decode cX9_added 11 = .ok (.ifCond .ne 12, 3) := by decide +kernel
theorem dX9_added_14 : decode cX9_added 14 = .ok (.aload_n 0, 1) := by decide +kernel
theorem dX9_added_15 : decode cX9_added 15 = .ok (.bipush 45, 2) := by decide +kernel
theorem dX9_added_17 : decode cX9_added 17 = .ok (.invokevirtual 216, 3) := by decide +kernel
theorem dX9_added_20 : decode cX9_added 20 = .ok (.ifCond .eq 46, 3) := by decide +kernel
theorem dX9_added_23 : decode cX9_added 23 = .ok (.aload_n 0, 1) := by decide +kernel
theorem dX9_added_24 : decode cX9_added 24 = .ok (.getfield 168, 3) := by decide +kernel
theorem dX9_added_27 : decode cX9_added 27 = .ok (.ldc2_w 236, 3) := by decide +kernel
theorem dX9_added_30 : decode cX9_added 30 = .ok (.lcmp, 1) := by decide +kernel
theorem dX9_added_31 : decode cX9_added 31 = .ok (.ifCond .ne 7, 3) := by decide +kernel
theorem dX9_added_34 : decode cX9_added 34 = .ok (.iconst 1, 1) := by decide +kernel
theorem dX9_added_35 : decode cX9_added 35 = .ok (.goto 4, 3) := by decide +kernel
theorem dX9_added_38 : decode cX9_added 38 = .ok (.iconst 0, 1) := by decide +kernel
theorem dX9_added_39 : decode cX9_added 39 = .ok (.istore_n 2, 1) := by decide +kernel
theorem dX9_added_40 : decode cX9_added 40 = .ok (.aload_n 0, 1) := by decide +kernel
theorem dX9_added_41 : decode cX9_added 41 = .ok (.invokevirtual 191, 3) := by decide +kernel
theorem dX9_added_44 : decode cX9_added 44 = .ok (.aload_n 0, 1) := by decide +kernel
theorem dX9_added_45 : decode cX9_added 45 = .ok (.invokevirtual 233, 3) := by decide +kernel
theorem dX9_added_48 : decode cX9_added 48 = .ok (.istore_n 3, 1) := by decide +kernel
theorem dX9_added_49 : decode cX9_added 49 = .ok (.iload_n 2, 1) := by decide +kernel
theorem dX9_added_50 : decode cX9_added 50 = .ok (.ifCond .eq 9, 3) := by decide +kernel
theorem dX9_added_53 : decode cX9_added 53 = .ok (.iload_n 1, 1) := by decide +kernel
theorem dX9_added_54 : decode cX9_added 54 = .ok (.iload_n 3, 1) := by decide +kernel
theorem dX9_added_55 : decode cX9_added 55 = .ok (.iadd, 1) := by decide +kernel
theorem dX9_added_56 : decode cX9_added 56 = .ok (.goto 6, 3) := by decide +kernel
theorem dX9_added_59 : decode cX9_added 59 = .ok (.iload_n 1, 1) := by decide +kernel
theorem dX9_added_60 : decode cX9_added 60 = .ok (.iload_n 3, 1) := by decide +kernel
theorem dX9_added_61 : decode cX9_added 61 = .ok (.isub, 1) := by decide +kernel
theorem dX9_added_62 : decode cX9_added 62 = .ok (.istore_n 1, 1) := by decide +kernel
theorem dX9_added_63 : decode cX9_added 63 = .ok (.goto (-58), 3) := by decide +kernel
theorem dX9_added_66 : decode cX9_added 66 = .ok (.iload_n 1, 1) := by decide +kernel
theorem dX9_added_67 : decode cX9_added 67 = .ok (.ireturn, 1) := by decide +kernel
theorem dX9_not_0 : decode cX9_not 0 = .ok (.aload_n 0, 1) := by decide +kernel
theorem dX9_not_1 : decode cX9_not 1 = .ok (.bipush 110, 2) := by decide +kernel
theorem dX9_not_3 : decode cX9_not 3 = .ok (.bipush 111, 2) := by decide +kernel
theorem dX9_not_5 : decode cX9_not 5 = .ok (.bipush 116, 2) := by decide +kernel
theorem dX9_not_7 : decode cX9_not 7 = .ok (.iconst 0, 1) := by decide +kernel
theorem dX9_not_8 : decode cX9_not 8 = .ok (.iconst 0, 1) := by decide +kernel
theorem dX9_not_9 : decode cX9_not 9 = .ok (.iconst 0, 1) := by decide +kernel
theorem dX9_not_10 : decode cX9_not 10 = .ok (.iconst 0, 1) := by decide +kernel
theorem dX9_not_11 : decode cX9_not 11 = .ok (.iconst 0, 1) := by decide +kernel
theorem dX9_not_12 : decode cX9_not 12 = .ok (.invokevirtual 194, 3) := by decide +kernel
theorem dX9_not_15 : decode cX9_not 15 = .ok (.ifCond .eq 37, 3) := by decide +kernel
theorem dX9_not_18 : decode cX9_not 18 = .ok (.aload_n 0, 1) := by decide +kernel
theorem dX9_not_19 : decode cX9_not 19 = .ok (.invokevirtual 219, 3) := by decide +kernel
theorem dX9_not_22 : decode cX9_not 22 = .ok (.ifCond .ne 5, 3) := by decide +kernel
theorem dX9_not_25 : decode cX9_not 25 = .ok (.iconst 0, 1) := by decide +kernel
theorem dX9_not_26 : decode cX9_not 26 = .ok (.ireturn, 1) := by decide +kernel
theorem dX9_not_27 : decode cX9_not 27 = .ok (.aload_n 0, 1) := by decide +kernel
theorem dX9_not_28 : decode cX9_not 28 = .ok (.invokevirtual 238, 3) := by decide +kernel
theorem dX9_not_31 : decode cX9_not 31 = .ok (.istore_n 1, 1) := by decide +kernel
theorem dX9_not_32 : decode cX9_not 32 = .ok (.aload_n 0, 1) := by decide +kernel
theorem dX9_not_33 : decode cX9_not 33 = .ok (.dup, 1) := by decide +kernel
theorem dX9_not_34 : decode cX9_not 34 = .ok (.getfield 185, 3) := by decide +kernel
theorem dX9_not_37 : decode cX9_not 37 = .ok (.iconst 1, 1) := by decide +kernel
theorem dX9_not_38 : decode cX9_not 38 = .ok (.isub, 1) := by decide +kernel
theorem dX9_not_39 : decode cX9_not 39 = .ok (.putfield 185, 3) := by decide +kernel
theorem dX9_not_42 : decode cX9_not 42 = .ok (.iload_n 1, 1) := by decide +kernel
theorem dX9_not_43 : decode cX9_not 43 = .ok (.ifCond .ne 7, 3) := by decide +kernel
theorem dX9_not_46 : decode cX9_not 46 = .ok (.iconst 1, 1) := by decide +kernel
theorem dX9_not_47 : decode cX9_not 47 = .ok (.goto 4, 3) := by decide +kernel
theorem dX9_not_50 : decode cX9_not 50 = .ok (.iconst 0, 1) := by decide +kernel
theorem dX9_not_51 : decode cX9_not 51 = .ok (.ireturn, 1) := by decide +kernel
theorem dX9_not_52 : decode cX9_not 52 = .ok (.aload_n 0, 1) := by decide +kernel
theorem dX9_not_53 : decode cX9_not 53 = .ok (.invokevirtual 241, 3) := by decide +kernel
theorem dX9_not_56 : decode cX9_not 56 = .ok (.istore_n 1, 1) := by decide +kernel
theorem dX9_not_57 : decode cX9_not 57 = .ok (.aload_n 0, 1) := by decide +kernel
theorem dX9_not_58 : decode cX9_not 58 = .ok (.bipush 60, 2) := by decide +kernel
theorem dX9_not_60 : decode cX9_not 60 = .ok (.invokevirtual 216, 3) := by decide +kernel
theorem dX9_not_63 : decode cX9_not 63 = .ok (.ifCond .ne 14, 3) := by decide +kernel
theorem dX9_not_66 : decode cX9_not 66 = .ok (.aload_n 0, 1) := by decide +kernel
theorem dX9_not_67 : decode cX9_not 67 = .ok (.bipush 61, 2) := by decide +kernel
theorem dX9_not_69 : decode cX9_not 69 = .ok (.invokevirtual 216, 3) := by decide +kernel
theorem dX9_not_72 : decode cX9_not 72 = .ok (.ifCond .ne 5, 3) := by decide +kernel
theorem dX9_not_75 : decode cX9_not 75 = .ok (.iload_n 1, 1) := by decide +kernel
theorem dX9_not_76 : decode cX9_not 76 = .ok (.ireturn, 1) := by decide +kernel
theorem dX9_not_77 : decode cX9_not 77 = .ok (.aload_n 0, 1) := by decide +kernel
theorem dX9_not_78 : decode cX9_not 78 = .ok (.getfield 168, 3) := by decide +kernel
theorem dX9_not_81 : decode cX9_not 81 = .ok (.ldc2_w 244, 3) := by decide +kernel
theorem dX9_not_84 : decode cX9_not 84 = .ok (.lcmp, 1) := by decide +kernel
theorem dX9_not_85 : decode cX9_not 85 = .ok (.ifCond .ne 7, 3) := by decide +kernel
theorem dX9_not_88 : decode cX9_not 88 = .ok (.iconst 1, 1) := by decide +kernel
theorem dX9_not_89 : decode cX9_not 89 = .ok (.goto 4, 3) := by decide +kernel
theorem dX9_not_92 : decode cX9_not 92 = .ok (.iconst 0, 1) := by decide +kernel
theorem dX9_not_93 : decode cX9_not 93 = .ok (.istore_n 2, 1) := by decide +kernel
theorem dX9_not_94 : decode cX9_not 94 = .ok (.aload_n 0, 1) := by decide +kernel
theorem dX9_not_95 : decode cX9_not 95 = .ok (.invokevirtual 191, 3) := by decide +kernel
theorem dX9_not_98 : decode cX9_not 98 = .ok (.aload_n 0, 1) := by decide +kernel
theorem dX9_not_99 : decode cX9_not 99 = .ok (.invokevirtual 241, 3) := by decide +kernel
theorem dX9_not_102 : decode cX9_not 102 = .ok (.istore_n 3, 1) := by decide +kernel
theorem dX9_not_103 : decode cX9_not 103 = .ok (.iload_n 2, 1) := by decide +kernel
theorem dX9_not_104 : decode cX9_not 104 = .ok (.ifCond .eq 11, 3) := by decide +kernel
theorem dX9_not_107 : decode cX9_not 107 = .ok (.iload_n 1, 1) := by decide +kernel
theorem dX9_not_108 : decode cX9_not 108 = .ok (.iload_n 3, 1) := by decide +kernel
theorem dX9_not_109 : decode cX9_not 109 = .ok (.if_icmp .ge 15, 3) := by decide +kernel
theorem dX9_not_112 : decode cX9_not 112 = .ok (.goto 8, 3) := by decide +kernel
theorem dX9_not_115 : decode cX9_not 115 = .ok (.iload_n 1, 1) := by decide +kernel
theorem dX9_not_116 : decode cX9_not 116 = .ok (.iload_n 3, 1) := by decide +kernel
theorem dX9_not_117 : decode cX9_not 117 = .ok (.if_icmp .ne 7, 3) := by decide +kernel
theorem dX9_not_120 : decode cX9_not 120 = .ok (.iconst 1, 1) := by decide +kernel
theorem dX9_not_121 : decode cX9_not 121 = .ok (.goto 4, 3) := by decide +kernel
theorem dX9_not_124 : decode cX9_not 124 = .ok (.iconst 0, 1) := by decide +kernel
theorem dX9_not_125 : decode cX9_not 125 = .ok (.ireturn, 1) := by decide +kernel
theorem dX9_both_0 : decode cX9_both 0 = .ok (.aload_n 0, 1) := by decide +kernel
theorem dX9_both_1 : decode cX9_both 1 = .ok (.invokevirtual 238, 3) := by decide +kernel
theorem dX9_both_4 : decode cX9_both 4 = .ok (.istore_n 1, 1) := by decide +kernel
theorem dX9_both_5 : decode cX9_both 5 = .ok (.aload_n 0, 1) := by decide +kernel
theorem dX9_both_6 : decode cX9_both 6 = .ok (.bipush 97, 2) := by decide +kernel
theorem dX9_both_8 : decode cX9_both 8 = .ok (.bipush 110, 2) := by decide +kernel
theorem dX9_both_10 : decode cX9_both 10 = .ok (.bipush 100, 2) := by decide +kernel
theorem dX9_both_12 : decode cX9_both 12 = .ok (.iconst 0, 1) := by decide +kernel
theorem dX9_both_13 : decode cX9_both 13 = .ok (.iconst 0, 1) := by decide +kernel
theorem dX9_both_14 : decode cX9_both 14 = .ok (.iconst 0, 1) := by decide +kernel
theorem dX9_both_15 : decode cX9_both 15 = .ok (.iconst 0, 1) := by decide +kernel
theorem dX9_both_16 : decode cX9_both 16 = .ok (.iconst 0, 1) := by decide +kernel
theorem dX9_both_17 : decode cX9_both 17 = .ok (.invokevirtual 194, 3) := by decide +kernel
theorem dX9_both_20 : decode cX9_both 20 = .ok (.ifCond .eq 29, 3) := by decide +kernel
theorem dX9_both_23 : decode cX9_both 23 = .ok (.aload_n 0, 1) := by decide +kernel
theorem dX9_both_24 : decode cX9_both 24 = .ok (.invokevirtual 191, 3) := by decide +kernel
theorem dX9_both_27 : decode cX9_both 27 = .ok (.aload_n 0, 1) := by decide +kernel
theorem dX9_both_28 : decode cX9_both 28 = .ok (.invokevirtual 238, 3) := by decide +kernel
theorem dX9_both_31 : decode cX9_both 31 = .ok (.istore_n 2, 1) := by decide +kernel
theorem dX9_both_32 : decode cX9_both 32 = .ok (.iload_n 1, 1) := by decide +kernel
theorem dX9_both_33 : decode cX9_both 33 = .ok (.ifCond .eq 11, 3) := by decide +kernel
theorem dX9_both_36 : decode cX9_both 36 = .ok (.iload_n 2, 1) := by decide +kernel
theorem dX9_both_37 : decode cX9_both 37 = .ok (.ifCond .eq 7, 3) := by decide +kernel
theorem dX9_both_40 : decode cX9_both 40 = .ok (.iconst 1, 1) := by decide +kernel
theorem dX9_both_41 : decode cX9_both 41 = .ok (.goto 4, 3) := by decide +kernel
theorem dX9_both_44 : decode cX9_both 44 = .ok (.iconst 0, 1) := by decide +kernel
theorem dX9_both_45 : decode cX9_both 45 = .ok (.istore_n 1, 1) := by decide +kernel
theorem dX9_both_46 : decode cX9_both 46 = .ok (.goto (-41), 3) := by decide +kernel
theorem dX9_both_49 : decode cX9_both 49 = .ok (.iload_n 1, 1) := by decide +kernel
theorem dX9_both_50 : decode cX9_both 50 = .ok (.ireturn, 1) := by decide +kernel
theorem dX9_either_0 : decode cX9_either 0 = .ok (.aload_n 0, 1) := by decide +kernel
theorem dX9_either_1 : decode cX9_either 1 = .ok (.invokevirtual 246, 3) := by decide +kernel
theorem dX9_either_4 : decode cX9_either 4 = .ok (.istore_n 1, 1) := by decide +kernel
theorem dX9_either_5 : decode cX9_either 5 = .ok (.aload_n 0, 1) := by decide +kernel
theorem dX9_either_6 : decode cX9_either 6 = .ok (.bipush 111, 2) := by decide +kernel
theorem dX9_either_8 : decode cX9_either 8 = .ok (.bipush 114, 2) := by decide +kernel
theorem dX9_either_10 : decode cX9_either 10 = .ok (.iconst 0, 1) := by decide +kernel
theorem dX9_either_11 : decode cX9_either 11 = .ok (.iconst 0, 1) := by decide +kernel
theorem dX9_either_12 : decode cX9_either 12 = .ok (.iconst 0, 1) := by decide +kernel
theorem dX9_either_13 : decode cX9_either 13 = .ok (.iconst 0, 1) := by decide +kernel
theorem dX9_either_14 : decode cX9_either 14 = .ok (.iconst 0, 1) := by decide +kernel
theorem dX9_either_15 : decode cX9_either 15 = .ok (.iconst 0, 1) := by decide +kernel
theorem dX9_either_16 : decode cX9_either 16 = .ok (.invokevirtual 194, 3) := by decide +kernel
theorem dX9_either_19 : decode cX9_either 19 = .ok (.ifCond .eq 29, 3) := by decide +kernel
theorem dX9_either_22 : decode cX9_either 22 = .ok (.aload_n 0, 1) := by decide +kernel
theorem dX9_either_23 : decode cX9_either 23 = .ok (.invokevirtual 191, 3) := by decide +kernel
theorem dX9_either_26 : decode cX9_either 26 = .ok (.aload_n 0, 1) := by decide +kernel
theorem dX9_either_27 : decode cX9_either 27 = .ok (.invokevirtual 246, 3) := by decide +kernel
theorem dX9_either_30 : decode cX9_either 30 = .ok (.istore_n 2, 1) := by decide +kernel
theorem dX9_either_31 : decode cX9_either 31 = .ok (.iload_n 1, 1) := by decide +kernel
theorem dX9_either_32 : decode cX9_either 32 = .ok (.ifCond .ne 7, 3) := by decide +kernel
theorem dX9_either_35 : decode cX9_either 35 = .ok (.iload_n 2, 1) := by decide +kernel
theorem dX9_either_36 : decode cX9_either 36 = .ok (.ifCond .eq 7, 3) := by decide +kernel
theorem dX9_either_39 : decode cX9_either 39 = .ok (.iconst 1, 1) := by decide +kernel
theorem dX9_either_40 : decode cX9_either 40 = .ok (.goto 4, 3) := by decide +kernel
theorem dX9_either_43 : decode cX9_either 43 = .ok (.iconst 0, 1) := by decide +kernel
theorem dX9_either_44 : decode cX9_either 44 = .ok (.istore_n 1, 1) := by decide +kernel
theorem dX9_either_45 : decode cX9_either 45 = .ok (.goto (-40), 3) := by decide +kernel
theorem dX9_either_48 : decode cX9_either 48 = .ok (.iload_n 1, 1) := by decide +kernel
theorem dX9_either_49 : decode cX9_either 49 = .ok (.ireturn, 1) := by decide +kernel
theorem dX9_part_0 : decode cX9_part 0 = .ok (.iload_n 1, 1) := by decide +kernel
theorem dX9_part_1 : decode cX9_part 1 = .ok (.ifCond .ne 7, 3) := by decide +kernel
theorem dX9_part_4 : decode cX9_part 4 = .ok (.aload_n 0, 1) := by decide +kernel
theorem dX9_part_5 : decode cX9_part 5 = .ok (.invokevirtual 188, 3) := by decide +kernel
theorem dX9_part_8 : decode cX9_part 8 = .ok (.aload_n 0, 1) := by decide +kernel
theorem dX9_part_9 : decode cX9_part 9 = .ok (.getfield 174, 3) := by decide +kernel
theorem dX9_part_12 : decode cX9_part 12 = .ok (.ifCond .ne 7, 3) := by decide +kernel
theorem dX9_part_15 : decode cX9_part 15 = .ok (.aload_n 0, 1) := by decide +kernel
theorem dX9_part_16 : decode cX9_part 16 = .ok (.invokevirtual 191, 3) := by decide +kernel
theorem dX9_part_19 : decode cX9_part 19 = .ok (.aload_n 0, 1) := by decide +kernel
theorem dX9_part_20 : decode cX9_part 20 = .ok (.getfield 174, 3) := by decide +kernel
theorem dX9_part_23 : decode cX9_part 23 = .ok (.ifCond .eq 7, 3) := by decide +kernel
theorem dX9_part_26 : decode cX9_part 26 = .ok (.iconst 0, 1) := by decide +kernel
theorem dX9_part_27 : decode cX9_part 27 = .ok (.goto 7, 3) := by decide +kernel
theorem dX9_part_30 : decode cX9_part 30 = .ok (.aload_n 0, 1) := by decide +kernel
theorem dX9_part_31 : decode cX9_part 31 = .ok (.invokevirtual 227, 3) := by decide +kernel
theorem dX9_part_34 : decode cX9_part 34 = .ok (.istore_n 2, 1) := by decide +kernel
theorem dX9_part_35 : decode cX9_part 35 = .ok (.aload_n 0, 1) := by decide +kernel
theorem dX9_part_36 : decode cX9_part 36 = .ok (.bipush 59, 2) := by decide +kernel
theorem dX9_part_38 : decode cX9_part 38 = .ok (.invokevirtual 216, 3) := by decide +kernel
theorem dX9_part_41 : decode cX9_part 41 = .ok (.ifCond .ne 7, 3) := by decide +kernel
theorem dX9_part_44 : decode cX9_part 44 = .ok (.aload_n 0, 1) := by decide +kernel
theorem dX9_part_45 : decode cX9_part 45 = .ok (.invokevirtual 188, 3) := by decide +kernel
theorem dX9_part_48 : decode cX9_part 48 = .ok (.aload_n 0, 1) := by decide +kernel
theorem dX9_part_49 : decode cX9_part 49 = .ok (.getfield 174, 3) := by decide +kernel
theorem dX9_part_52 : decode cX9_part 52 = .ok (.ifCond .ne 7, 3) := by decide +kernel
theorem dX9_part_55 : decode cX9_part 55 = .ok (.aload_n 0, 1) := by decide +kernel
theorem dX9_part_56 : decode cX9_part 56 = .ok (.invokevirtual 191, 3) := by decide +kernel
theorem dX9_part_59 : decode cX9_part 59 = .ok (.iload_n 2, 1) := by decide +kernel
theorem dX9_part_60 : decode cX9_part 60 = .ok (.ireturn, 1) := by decide +kernel
theorem dX9_read_0 : decode cX9_read 0 = .ok (.aload_n 0, 1) := by decide +kernel
theorem dX9_read_1 : decode cX9_read 1 = .ok (.sipush 160, 3) := by decide +kernel
theorem dX9_read_4 : decode cX9_read 4 = .ok (.iload_n 1, 1) := by decide +kernel
theorem dX9_read_5 : decode cX9_read 5 = .ok (.imul, 1) := by decide +kernel
theorem dX9_read_6 : decode cX9_read 6 = .ok (.putfield 145, 3) := by decide +kernel
theorem dX9_read_9 : decode cX9_read 9 = .ok (.aload_n 0, 1) := by decide +kernel
theorem dX9_read_10 : decode cX9_read 10 = .ok (.aload_n 0, 1) := by decide +kernel
theorem dX9_read_11 : decode cX9_read 11 = .ok (.getfield 17, 3) := by decide +kernel
theorem dX9_read_14 : decode cX9_read 14 = .ok (.iload_n 1, 1) := by decide +kernel
theorem dX9_read_15 : decode cX9_read 15 = .ok (.iaload, 1) := by decide +kernel
theorem dX9_read_16 : decode cX9_read 16 = .ok (.putfield 142, 3) := by decide +kernel
theorem dX9_read_19 : decode cX9_read 19 = .ok (.aload_n 0, 1) := by decide +kernel
theorem dX9_read_20 : decode cX9_read 20 = .ok (.iconst 0, 1) := by decide +kernel
theorem dX9_read_21 : decode cX9_read 21 = .ok (.putfield 148, 3) := by decide +kernel
theorem dX9_read_24 : decode cX9_read 24 = .ok (.aload_n 0, 1) := by decide +kernel
theorem dX9_read_25 : decode cX9_read 25 = .ok (.iconst 0, 1) := by decide +kernel
theorem dX9_read_26 : decode cX9_read 26 = .ok (.putfield 185, 3) := by decide +kernel
theorem dX9_read_29 : decode cX9_read 29 = .ok (.aload_n 0, 1) := by decide +kernel
theorem dX9_read_30 : decode cX9_read 30 = .ok (.iconst 0, 1) := by decide +kernel
theorem dX9_read_31 : decode cX9_read 31 = .ok (.putfield 174, 3) := by decide +kernel
theorem dX9_read_34 : decode cX9_read 34 = .ok (.aload_n 0, 1) := by decide +kernel
theorem dX9_read_35 : decode cX9_read 35 = .ok (.invokevirtual 191, 3) := by decide +kernel
theorem dX9_read_38 : decode cX9_read 38 = .ok (.aload_n 0, 1) := by decide +kernel
theorem dX9_read_39 : decode cX9_read 39 = .ok (.aload_n 0, 1) := by decide +kernel
theorem dX9_read_40 : decode cX9_read 40 = .ok (.bipush 99, 2) := by decide +kernel
theorem dX9_read_42 : decode cX9_read 42 = .ok (.bipush 111, 2) := by decide +kernel
theorem dX9_read_44 : decode cX9_read 44 = .ok (.bipush 115, 2) := by decide +kernel
theorem dX9_read_46 : decode cX9_read 46 = .ok (.bipush 116, 2) := by decide +kernel
theorem dX9_read_48 : decode cX9_read 48 = .ok (.bipush 115, 2) := by decide +kernel
theorem dX9_read_50 : decode cX9_read 50 = .ok (.iconst 0, 1) := by decide +kernel
theorem dX9_read_51 : decode cX9_read 51 = .ok (.iconst 0, 1) := by decide +kernel
theorem dX9_read_52 : decode cX9_read 52 = .ok (.iconst 0, 1) := by decide +kernel
theorem dX9_read_53 : decode cX9_read 53 = .ok (.invokevirtual 194, 3) := by decide +kernel
theorem dX9_read_56 : decode cX9_read 56 = .ok (.invokevirtual 249, 3) := by decide +kernel
theorem dX9_read_59 : decode cX9_read 59 = .ok (.istore_n 3, 1) := by decide +kernel
theorem dX9_read_60 : decode cX9_read 60 = .ok (.aload_n 0, 1) := by decide +kernel
theorem dX9_read_61 : decode cX9_read 61 = .ok (.getfield 174, 3) := by decide +kernel
theorem dX9_read_64 : decode cX9_read 64 = .ok (.ifCond .eq 7, 3) := by decide +kernel
theorem dX9_read_67 : decode cX9_read 67 = .ok (.iconst 0, 1) := by decide +kernel
theorem dX9_read_68 : decode cX9_read 68 = .ok (.goto 23, 3) := by decide +kernel
theorem dX9_read_71 : decode cX9_read 71 = .ok (.aload_n 0, 1) := by decide +kernel
theorem dX9_read_72 : decode cX9_read 72 = .ok (.aload_n 0, 1) := by decide +kernel
theorem dX9_read_73 : decode cX9_read 73 = .ok (.bipush 119, 2) := by decide +kernel
theorem dX9_read_75 : decode cX9_read 75 = .ok (.bipush 101, 2) := by decide +kernel
theorem dX9_read_77 : decode cX9_read 77 = .ok (.bipush 116, 2) := by decide +kernel
theorem dX9_read_79 : decode cX9_read 79 = .ok (.bipush 115, 2) := by decide +kernel
theorem dX9_read_81 : decode cX9_read 81 = .ok (.iconst 0, 1) := by decide +kernel
theorem dX9_read_82 : decode cX9_read 82 = .ok (.iconst 0, 1) := by decide +kernel
theorem dX9_read_83 : decode cX9_read 83 = .ok (.iconst 0, 1) := by decide +kernel
theorem dX9_read_84 : decode cX9_read 84 = .ok (.iconst 0, 1) := by decide +kernel
theorem dX9_read_85 : decode cX9_read 85 = .ok (.invokevirtual 194, 3) := by decide +kernel
theorem dX9_read_88 : decode cX9_read 88 = .ok (.invokevirtual 249, 3) := by decide +kernel
theorem dX9_read_91 : decode cX9_read 91 = .ok (.istore 4, 2) := by decide +kernel
theorem dX9_read_93 : decode cX9_read 93 = .ok (.aload_n 0, 1) := by decide +kernel
theorem dX9_read_94 : decode cX9_read 94 = .ok (.getfield 174, 3) := by decide +kernel
theorem dX9_read_97 : decode cX9_read 97 = .ok (.ifCond .eq 7, 3) := by decide +kernel
theorem dX9_read_100 : decode cX9_read 100 = .ok (.iconst 0, 1) := by decide +kernel
theorem dX9_read_101 : decode cX9_read 101 = .ok (.goto 24, 3) := by decide +kernel
theorem dX9_read_104 : decode cX9_read 104 = .ok (.aload_n 0, 1) := by decide +kernel
theorem dX9_read_105 : decode cX9_read 105 = .ok (.aload_n 0, 1) := by decide +kernel
theorem dX9_read_106 : decode cX9_read 106 = .ok (.bipush 112, 2) := by decide +kernel
theorem dX9_read_108 : decode cX9_read 108 = .ok (.bipush 114, 2) := by decide +kernel
theorem dX9_read_110 : decode cX9_read 110 = .ok (.bipush 105, 2) := by decide +kernel
theorem dX9_read_112 : decode cX9_read 112 = .ok (.bipush 99, 2) := by decide +kernel
theorem dX9_read_114 : decode cX9_read 114 = .ok (.bipush 101, 2) := by decide +kernel
theorem dX9_read_116 : decode cX9_read 116 = .ok (.iconst 0, 1) := by decide +kernel
theorem dX9_read_117 : decode cX9_read 117 = .ok (.iconst 0, 1) := by decide +kernel
theorem dX9_read_118 : decode cX9_read 118 = .ok (.iconst 0, 1) := by decide +kernel
theorem dX9_read_119 : decode cX9_read 119 = .ok (.invokevirtual 194, 3) := by decide +kernel
theorem dX9_read_122 : decode cX9_read 122 = .ok (.invokevirtual 249, 3) := by decide +kernel
theorem dX9_read_125 : decode cX9_read 125 = .ok (.istore 5, 2) := by decide +kernel
theorem dX9_read_127 : decode cX9_read 127 = .ok (.aload_n 0, 1) := by decide +kernel
theorem dX9_read_128 : decode cX9_read 128 = .ok (.getfield 174, 3) := by decide +kernel
theorem dX9_read_131 : decode cX9_read 131 = .ok (.ifCond .ne 14, 3) := by decide +kernel
theorem dX9_read_134 : decode cX9_read 134 = .ok (.aload_n 0, 1) := by decide +kernel
theorem dX9_read_135 : decode cX9_read 135 = .ok (.getfield 157, 3) := by decide +kernel
theorem dX9_read_138 : decode cX9_read 138 = .ok (.ifCond .eq 7, 3) := by decide +kernel
theorem dX9_read_141 : decode cX9_read 141 = .ok (.aload_n 0, 1) := by decide +kernel
theorem dX9_read_142 : decode cX9_read 142 = .ok (.invokevirtual 188, 3) := by decide +kernel
theorem dX9_read_145 : decode cX9_read 145 = .ok (.iload_n 2, 1) := by decide +kernel
theorem dX9_read_146 : decode cX9_read 146 = .ok (.ifCond .ne 7, 3) := by decide +kernel
theorem dX9_read_149 : decode cX9_read 149 = .ok (.iload_n 3, 1) := by decide +kernel
theorem dX9_read_150 : decode cX9_read 150 = .ok (.goto 15, 3) := by decide +kernel
theorem dX9_read_153 : decode cX9_read 153 = .ok (.iload_n 2, 1) := by decide +kernel
theorem dX9_read_154 : decode cX9_read 154 = .ok (.iconst 1, 1) := by decide +kernel
theorem dX9_read_155 : decode cX9_read 155 = .ok (.if_icmp .ne 8, 3) := by decide +kernel
theorem dX9_read_158 : decode cX9_read 158 = .ok (.iload 4, 2) := by decide +kernel
theorem dX9_read_160 : decode cX9_read 160 = .ok (.goto 5, 3) := by decide +kernel
theorem dX9_read_163 : decode cX9_read 163 = .ok (.iload 5, 2) := by decide +kernel
theorem dX9_read_165 : decode cX9_read 165 = .ok (.ireturn, 1) := by decide +kernel
theorem dX9_text_0 : decode cX9_text 0 = .ok (.aload_n 0, 1) := by decide +kernel
theorem dX9_text_1 : decode cX9_text 1 = .ok (.getfield 79, 3) := by decide +kernel
theorem dX9_text_4 : decode cX9_text 4 = .ok (.bipush 6, 2) := by decide +kernel
theorem dX9_text_6 : decode cX9_text 6 = .ok (.if_icmp .ne 6, 3) := by decide +kernel
theorem dX9_text_9 : decode cX9_text 9 = .ok (.bipush (-4), 2) := by decide +kernel
theorem dX9_text_11 : decode cX9_text 11 = .ok (.ireturn, 1) := by decide +kernel
theorem dX9_text_12 : decode cX9_text 12 = .ok (.iconst 0, 1) := by decide +kernel
theorem dX9_text_13 : decode cX9_text 13 = .ok (.istore_n 1, 1) := by decide +kernel
theorem dX9_text_14 : decode cX9_text 14 = .ok (.iload_n 1, 1) := by decide +kernel
theorem dX9_text_15 : decode cX9_text 15 = .ok (.aload_n 0, 1) := by decide +kernel
theorem dX9_text_16 : decode cX9_text 16 = .ok (.getfield 139, 3) := by decide +kernel
theorem dX9_text_19 : decode cX9_text 19 = .ok (.if_icmp .ge 30, 3) := by decide +kernel
theorem dX9_text_22 : decode cX9_text 22 = .ok (.aload_n 0, 1) := by decide +kernel
theorem dX9_text_23 : decode cX9_text 23 = .ok (.getfield 13, 3) := by decide +kernel
theorem dX9_text_26 : decode cX9_text 26 = .ok (.sipush 160, 3) := by decide +kernel
theorem dX9_text_29 : decode cX9_text 29 = .ok (.aload_n 0, 1) := by decide +kernel
theorem dX9_text_30 : decode cX9_text 30 = .ok (.getfield 79, 3) := by decide +kernel
theorem dX9_text_33 : decode cX9_text 33 = .ok (.imul, 1) := by decide +kernel
theorem dX9_text_34 : decode cX9_text 34 = .ok (.iload_n 1, 1) := by decide +kernel
theorem dX9_text_35 : decode cX9_text 35 = .ok (.iadd, 1) := by decide +kernel
theorem dX9_text_36 : decode cX9_text 36 = .ok (.aload_n 0, 1) := by decide +kernel
theorem dX9_text_37 : decode cX9_text 37 = .ok (.getfield 20, 3) := by decide +kernel
theorem dX9_text_40 : decode cX9_text 40 = .ok (.iload_n 1, 1) := by decide +kernel
theorem dX9_text_41 : decode cX9_text 41 = .ok (.iaload, 1) := by decide +kernel
theorem dX9_text_42 : decode cX9_text 42 = .ok (.iastore, 1) := by decide +kernel
theorem dX9_text_43 : decode cX9_text 43 = .ok (.iinc 1 1, 3) := by decide +kernel
theorem dX9_text_46 : decode cX9_text 46 = .ok (.goto (-32), 3) := by decide +kernel
theorem dX9_text_49 : decode cX9_text 49 = .ok (.aload_n 0, 1) := by decide +kernel
theorem dX9_text_50 : decode cX9_text 50 = .ok (.getfield 17, 3) := by decide +kernel
theorem dX9_text_53 : decode cX9_text 53 = .ok (.aload_n 0, 1) := by decide +kernel
theorem dX9_text_54 : decode cX9_text 54 = .ok (.getfield 79, 3) := by decide +kernel
theorem dX9_text_57 : decode cX9_text 57 = .ok (.aload_n 0, 1) := by decide +kernel
theorem dX9_text_58 : decode cX9_text 58 = .ok (.getfield 139, 3) := by decide +kernel
theorem dX9_text_61 : decode cX9_text 61 = .ok (.iastore, 1) := by decide +kernel
theorem dX9_text_62 : decode cX9_text 62 = .ok (.aload_n 0, 1) := by decide +kernel
theorem dX9_text_63 : decode cX9_text 63 = .ok (.iconst 0, 1) := by decide +kernel
theorem dX9_text_64 : decode cX9_text 64 = .ok (.putfield 139, 3) := by decide +kernel
theorem dX9_text_67 : decode cX9_text 67 = .ok (.aload_n 0, 1) := by decide +kernel
theorem dX9_text_68 : decode cX9_text 68 = .ok (.aload_n 0, 1) := by decide +kernel
theorem dX9_text_69 : decode cX9_text 69 = .ok (.getfield 79, 3) := by decide +kernel
theorem dX9_text_72 : decode cX9_text 72 = .ok (.iconst 0, 1) := by decide +kernel
theorem dX9_text_73 : decode cX9_text 73 = .ok (.invokevirtual 253, 3) := by decide +kernel
theorem dX9_text_76 : decode cX9_text 76 = .ok (.istore_n 1, 1) := by decide +kernel
theorem dX9_text_77 : decode cX9_text 77 = .ok (.aload_n 0, 1) := by decide +kernel
theorem dX9_text_78 : decode cX9_text 78 = .ok (.getfield 174, 3) := by decide +kernel
theorem dX9_text_81 : decode cX9_text 81 = .ok (.ifCond .eq 11, 3) := by decide +kernel
theorem dX9_text_84 : decode cX9_text 84 = .ok (.bipush (-100), 2) := by decide +kernel
theorem dX9_text_86 : decode cX9_text 86 = .ok (.aload_n 0, 1) := by decide +kernel
theorem dX9_text_87 : decode cX9_text 87 = .ok (.getfield 178, 3) := by decide +kernel
theorem dX9_text_90 : decode cX9_text 90 = .ok (.isub, 1) := by decide +kernel
theorem dX9_text_91 : decode cX9_text 91 = .ok (.ireturn, 1) := by decide +kernel
theorem dX9_text_92 : decode cX9_text 92 = .ok (.aload_n 0, 1) := by decide +kernel
theorem dX9_text_93 : decode cX9_text 93 = .ok (.dup, 1) := by decide +kernel
theorem dX9_text_94 : decode cX9_text 94 = .ok (.getfield 79, 3) := by decide +kernel
theorem dX9_text_97 : decode cX9_text 97 = .ok (.iconst 1, 1) := by decide +kernel
theorem dX9_text_98 : decode cX9_text 98 = .ok (.iadd, 1) := by decide +kernel
theorem dX9_text_99 : decode cX9_text 99 = .ok (.putfield 79, 3) := by decide +kernel
theorem dX9_text_102 : decode cX9_text 102 = .ok (.aload_n 0, 1) := by decide +kernel
theorem dX9_text_103 : decode cX9_text 103 = .ok (.getfield 79, 3) := by decide +kernel
theorem dX9_text_106 : decode cX9_text 106 = .ok (.iconst 1, 1) := by decide +kernel
theorem dX9_text_107 : decode cX9_text 107 = .ok (.isub, 1) := by decide +kernel
theorem dX9_text_108 : decode cX9_text 108 = .ok (.ireturn, 1) := by decide +kernel
theorem dX9_force_0 : decode cX9_force 0 = .ok (.iload_n 1, 1) := by decide +kernel
theorem dX9_force_1 : decode cX9_force 1 = .ok (.i2l, 1) := by decide +kernel
theorem dX9_force_2 : decode cX9_force 2 = .ok (.lconst 0, 1) := by decide +kernel
theorem dX9_force_3 : decode cX9_force 3 = .ok (.aload_n 0, 1) := by decide +kernel
theorem dX9_force_4 : decode cX9_force 4 = .ok (.getfield 79, 3) := by decide +kernel
theorem dX9_force_7 : decode cX9_force 7 = .ok (.iconst 1, 1) := by decide +kernel
theorem dX9_force_8 : decode cX9_force 8 = .ok (.isub, 1) := by decide +kernel
theorem dX9_force_9 : decode cX9_force 9 = .ok (.i2l, 1) := by decide +kernel
theorem dX9_force_10 : decode cX9_force 10 = .ok (.invokestatic 85, 3) := by decide +kernel
theorem dX9_force_13 : decode cX9_force 13 = .ok (.ifCond .ne 6, 3) := by decide +kernel
theorem dX9_force_16 : decode cX9_force 16 = .ok (.bipush (-2), 2) := by decide +kernel
theorem dX9_force_18 : decode cX9_force 18 = .ok (.ireturn, 1) := by decide +kernel
theorem dX9_force_19 : decode cX9_force 19 = .ok (.aload_n 0, 1) := by decide +kernel
theorem dX9_force_20 : decode cX9_force 20 = .ok (.getfield 256, 3) := by decide +kernel
theorem dX9_force_23 : decode cX9_force 23 = .ok (.istore_n 2, 1) := by decide +kernel
theorem dX9_force_24 : decode cX9_force 24 = .ok (.aload_n 0, 1) := by decide +kernel
theorem dX9_force_25 : decode cX9_force 25 = .ok (.iload_n 1, 1) := by decide +kernel
theorem dX9_force_26 : decode cX9_force 26 = .ok (.putfield 256, 3) := by decide +kernel
theorem dX9_force_29 : decode cX9_force 29 = .ok (.iload_n 2, 1) := by decide +kernel
theorem dX9_force_30 : decode cX9_force 30 = .ok (.ireturn, 1) := by decide +kernel
theorem dX9_says_0 : decode cX9_says 0 = .ok (.aload_n 0, 1) := by decide +kernel
theorem dX9_says_1 : decode cX9_says 1 = .ok (.iload_n 2, 1) := by decide +kernel
theorem dX9_says_2 : decode cX9_says 2 = .ok (.iload_n 3, 1) := by decide +kernel
theorem dX9_says_3 : decode cX9_says 3 = .ok (.invokevirtual 127, 3) := by decide +kernel
theorem dX9_says_6 : decode cX9_says 6 = .ok (.istore 4, 2) := by decide +kernel
theorem dX9_says_8 : decode cX9_says 8 = .ok (.aload_n 0, 1) := by decide +kernel
theorem dX9_says_9 : decode cX9_says 9 = .ok (.iload_n 3, 1) := by decide +kernel
theorem dX9_says_10 : decode cX9_says 10 = .ok (.putfield 198, 3) := by decide +kernel
theorem dX9_says_13 : decode cX9_says 13 = .ok (.aload_n 0, 1) := by decide +kernel
theorem dX9_says_14 : decode cX9_says 14 = .ok (.aload_n 0, 1) := by decide +kernel
theorem dX9_says_15 : decode cX9_says 15 = .ok (.getfield 32, 3) := by decide +kernel
theorem dX9_says_18 : decode cX9_says 18 = .ok (.iload_n 2, 1) := by decide +kernel
theorem dX9_says_19 : decode cX9_says 19 = .ok (.iaload, 1) := by decide +kernel
theorem dX9_says_20 : decode cX9_says 20 = .ok (.putfield 201, 3) := by decide +kernel
theorem dX9_says_23 : decode cX9_says 23 = .ok (.aload_n 0, 1) := by decide +kernel
theorem dX9_says_24 : decode cX9_says 24 = .ok (.aload_n 0, 1) := by decide +kernel
theorem dX9_says_25 : decode cX9_says 25 = .ok (.getfield 29, 3) := by decide +kernel
theorem dX9_says_28 : decode cX9_says 28 = .ok (.iload_n 2, 1) := by decide +kernel
theorem dX9_says_29 : decode cX9_says 29 = .ok (.iaload, 1) := by decide +kernel
theorem dX9_says_30 : decode cX9_says 30 = .ok (.putfield 204, 3) := by decide +kernel
theorem dX9_says_33 : decode cX9_says 33 = .ok (.aload_n 0, 1) := by decide +kernel
theorem dX9_says_34 : decode cX9_says 34 = .ok (.iload 4, 2) := by decide +kernel
theorem dX9_says_36 : decode cX9_says 36 = .ok (.invokestatic 99, 3) := by decide +kernel
theorem dX9_says_39 : decode cX9_says 39 = .ok (.ifCond .eq 13, 3) := by decide +kernel
theorem dX9_says_42 : decode cX9_says 42 = .ok (.aload_n 0, 1) := by decide +kernel
theorem dX9_says_43 : decode cX9_says 43 = .ok (.getfield 23, 3) := by decide +kernel
theorem dX9_says_46 : decode cX9_says 46 = .ok (.iload 4, 2) := by decide +kernel
theorem dX9_says_48 : decode cX9_says 48 = .ok (.iaload, 1) := by decide +kernel
theorem dX9_says_49 : decode cX9_says 49 = .ok (.goto 4, 3) := by decide +kernel
theorem dX9_says_52 : decode cX9_says 52 = .ok (.iconst 0, 1) := by decide +kernel
theorem dX9_says_53 : decode cX9_says 53 = .ok (.putfield 207, 3) := by decide +kernel
theorem dX9_says_56 : decode cX9_says 56 = .ok (.aload_n 0, 1) := by decide +kernel
theorem dX9_says_57 : decode cX9_says 57 = .ok (.iload_n 2, 1) := by decide +kernel
theorem dX9_says_58 : decode cX9_says 58 = .ok (.putfield 210, 3) := by decide +kernel
theorem dX9_says_61 : decode cX9_says 61 = .ok (.aload_n 0, 1) := by decide +kernel
theorem dX9_says_62 : decode cX9_says 62 = .ok (.aload_n 0, 1) := by decide +kernel
theorem dX9_says_63 : decode cX9_says 63 = .ok (.getfield 35, 3) := by decide +kernel
theorem dX9_says_66 : decode cX9_says 66 = .ok (.iload_n 2, 1) := by decide +kernel
theorem dX9_says_67 : decode cX9_says 67 = .ok (.iaload, 1) := by decide +kernel
theorem dX9_says_68 : decode cX9_says 68 = .ok (.putfield 213, 3) := by decide +kernel
theorem dX9_says_71 : decode cX9_says 71 = .ok (.aload_n 0, 1) := by decide +kernel
theorem dX9_says_72 : decode cX9_says 72 = .ok (.aload_n 0, 1) := by decide +kernel
theorem dX9_says_73 : decode cX9_says 73 = .ok (.getfield 256, 3) := by decide +kernel
theorem dX9_says_76 : decode cX9_says 76 = .ok (.iload_n 1, 1) := by decide +kernel
theorem dX9_says_77 : decode cX9_says 77 = .ok (.invokevirtual 253, 3) := by decide +kernel
theorem dX9_says_80 : decode cX9_says 80 = .ok (.iload_n 1, 1) := by decide +kernel
theorem dX9_says_81 : decode cX9_says 81 = .ok (.ifCond .ne 7, 3) := by decide +kernel
theorem dX9_says_84 : decode cX9_says 84 = .ok (.iconst 1, 1) := by decide +kernel
theorem dX9_says_85 : decode cX9_says 85 = .ok (.goto 4, 3) := by decide +kernel
theorem dX9_says_88 : decode cX9_says 88 = .ok (.iconst 0, 1) := by decide +kernel
theorem dX9_says_89 : decode cX9_says 89 = .ok (.bipush 99, 2) := by decide +kernel
theorem dX9_says_91 : decode cX9_says 91 = .ok (.invokestatic 259, 3) := by decide +kernel
theorem dX9_says_94 : decode cX9_says 94 = .ok (.ireturn, 1) := by decide +kernel
theorem dX9_spreads_0 : decode cX9_spreads 0 = .ok (.iconst 0, 1) := by decide +kernel
theorem dX9_spreads_1 : decode cX9_spreads 1 = .ok (.istore 4, 2) := by decide +kernel
theorem dX9_spreads_3 : decode cX9_spreads 3 = .ok (.iload 4, 2) := by decide +kernel
theorem dX9_spreads_5 : decode cX9_spreads 5 = .ok (.aload_n 0, 1) := by decide +kernel
theorem dX9_spreads_6 : decode cX9_spreads 6 = .ok (.getfield 82, 3) := by decide +kernel
theorem dX9_spreads_9 : decode cX9_spreads 9 = .ok (.if_icmp .ge 51, 3) := by decide +kernel
theorem dX9_spreads_12 : decode cX9_spreads 12 = .ok (.iload_n 3, 1) := by decide +kernel
theorem dX9_spreads_13 : decode cX9_spreads 13 = .ok (.ifCond .eq 47, 3) := by decide +kernel
theorem dX9_spreads_16 : decode cX9_spreads 16 = .ok (.iconst 0, 1) := by decide +kernel
theorem dX9_spreads_17 : decode cX9_spreads 17 = .ok (.istore 5, 2) := by decide +kernel
theorem dX9_spreads_19 : decode cX9_spreads 19 = .ok (.iload 5, 2) := by decide +kernel
theorem dX9_spreads_21 : decode cX9_spreads 21 = .ok (.bipush 32, 2) := by decide +kernel
theorem dX9_spreads_23 : decode cX9_spreads 23 = .ok (.if_icmp .ge 31, 3) := by decide +kernel
theorem dX9_spreads_26 : decode cX9_spreads 26 = .ok (.aload_n 0, 1) := by decide +kernel
theorem dX9_spreads_27 : decode cX9_spreads 27 = .ok (.getfield 44, 3) := by decide +kernel
theorem dX9_spreads_30 : decode cX9_spreads 30 = .ok (.bipush 32, 2) := by decide +kernel
theorem dX9_spreads_32 : decode cX9_spreads 32 = .ok (.iload 4, 2) := by decide +kernel
theorem dX9_spreads_34 : decode cX9_spreads 34 = .ok (.imul, 1) := by decide +kernel
theorem dX9_spreads_35 : decode cX9_spreads 35 = .ok (.iload 5, 2) := by decide +kernel
theorem dX9_spreads_37 : decode cX9_spreads 37 = .ok (.iadd, 1) := by decide +kernel
theorem dX9_spreads_38 : decode cX9_spreads 38 = .ok (.aload_n 0, 1) := by decide +kernel
theorem dX9_spreads_39 : decode cX9_spreads 39 = .ok (.iconst 0, 1) := by decide +kernel
theorem dX9_spreads_40 : decode cX9_spreads 40 = .ok (.iload 4, 2) := by decide +kernel
theorem dX9_spreads_42 : decode cX9_spreads 42 = .ok (.iload 5, 2) := by decide +kernel
theorem dX9_spreads_44 : decode cX9_spreads 44 = .ok (.invokevirtual 263, 3) := by decide +kernel
theorem dX9_spreads_47 : decode cX9_spreads 47 = .ok (.iastore, 1) := by decide +kernel
theorem dX9_spreads_48 : decode cX9_spreads 48 = .ok (.iinc 5 1, 3) := by decide +kernel
theorem dX9_spreads_51 : decode cX9_spreads 51 = .ok (.goto (-32), 3) := by decide +kernel
theorem dX9_spreads_54 : decode cX9_spreads 54 = .ok (.iinc 4 1, 3) := by decide +kernel
theorem dX9_spreads_57 : decode cX9_spreads 57 = .ok (.goto (-54), 3) := by decide +kernel
theorem dX9_spreads_60 : decode cX9_spreads 60 = .ok (.iconst 0, 1) := by decide +kernel
theorem dX9_spreads_61 : decode cX9_spreads 61 = .ok (.istore 4, 2) := by decide +kernel
theorem dX9_spreads_63 : decode cX9_spreads 63 = .ok (.iload 4, 2) := by decide +kernel
theorem dX9_spreads_65 : decode cX9_spreads 65 = .ok (.sipush 192, 3) := by decide +kernel
theorem dX9_spreads_68 : decode cX9_spreads 68 = .ok (.if_icmp .ge 19, 3) := by decide +kernel
theorem dX9_spreads_71 : decode cX9_spreads 71 = .ok (.aload_n 0, 1) := by decide +kernel
theorem dX9_spreads_72 : decode cX9_spreads 72 = .ok (.getfield 41, 3) := by decide +kernel
theorem dX9_spreads_75 : decode cX9_spreads 75 = .ok (.iload 4, 2) := by decide +kernel
theorem dX9_spreads_77 : decode cX9_spreads 77 = .ok (.ldc_w 266, 3) := by decide +kernel
theorem dX9_spreads_80 : decode cX9_spreads 80 = .ok (.iastore, 1) := by decide +kernel
theorem dX9_spreads_81 : decode cX9_spreads 81 = .ok (.iinc 4 1, 3) := by decide +kernel
theorem dX9_spreads_84 : decode cX9_spreads 84 = .ok (.goto (-21), 3) := by decide +kernel
theorem dX9_spreads_87 : decode cX9_spreads 87 = .ok (.aload_n 0, 1) := by decide +kernel
theorem dX9_spreads_88 : decode cX9_spreads 88 = .ok (.getfield 41, 3) := by decide +kernel
theorem dX9_spreads_91 : decode cX9_spreads 91 = .ok (.iload_n 1, 1) := by decide +kernel
theorem dX9_spreads_92 : decode cX9_spreads 92 = .ok (.iconst 0, 1) := by decide +kernel
theorem dX9_spreads_93 : decode cX9_spreads 93 = .ok (.iastore, 1) := by decide +kernel
theorem dX9_spreads_94 : decode cX9_spreads 94 = .ok (.iconst 1, 1) := by decide +kernel
theorem dX9_spreads_95 : decode cX9_spreads 95 = .ok (.istore 4, 2) := by decide +kernel
theorem dX9_spreads_97 : decode cX9_spreads 97 = .ok (.iload 4, 2) := by decide +kernel
theorem dX9_spreads_99 : decode cX9_spreads 99 = .ok (.ifCond .eq 53, 3) := by decide +kernel
theorem dX9_spreads_102 : decode cX9_spreads 102 = .ok (.iconst 0, 1) := by decide +kernel
theorem dX9_spreads_103 : decode cX9_spreads 103 = .ok (.istore 4, 2) := by decide +kernel
theorem dX9_spreads_105 : decode cX9_spreads 105 = .ok (.iconst 0, 1) := by decide +kernel
theorem dX9_spreads_106 : decode cX9_spreads 106 = .ok (.istore 5, 2) := by decide +kernel
theorem dX9_spreads_108 : decode cX9_spreads 108 = .ok (.iload 5, 2) := by decide +kernel
theorem dX9_spreads_110 : decode cX9_spreads 110 = .ok (.sipush 192, 3) := by decide +kernel
theorem dX9_spreads_113 : decode cX9_spreads 113 = .ok (.if_icmp .ge 36, 3) := by decide +kernel
theorem dX9_spreads_116 : decode cX9_spreads 116 = .ok (.aload_n 0, 1) := by decide +kernel
theorem dX9_spreads_117 : decode cX9_spreads 117 = .ok (.getfield 41, 3) := by decide +kernel
theorem dX9_spreads_120 : decode cX9_spreads 120 = .ok (.iload 5, 2) := by decide +kernel
theorem dX9_spreads_122 : decode cX9_spreads 122 = .ok (.iaload, 1) := by decide +kernel
theorem dX9_spreads_123 : decode cX9_spreads 123 = .ok (.ldc_w 266, 3) := by decide +kernel
theorem dX9_spreads_126 : decode cX9_spreads 126 = .ok (.if_icmp .ge 17, 3) := by decide +kernel
theorem dX9_spreads_129 : decode cX9_spreads 129 = .ok (.aload_n 0, 1) := by decide +kernel
theorem dX9_spreads_130 : decode cX9_spreads 130 = .ok (.iload 5, 2) := by decide +kernel
theorem dX9_spreads_132 : decode cX9_spreads 132 = .ok (.iload_n 2, 1) := by decide +kernel
theorem dX9_spreads_133 : decode cX9_spreads 133 = .ok (.iload_n 3, 1) := by decide +kernel
theorem dX9_spreads_134 : decode cX9_spreads 134 = .ok (.invokevirtual 267, 3) := by decide +kernel
theorem dX9_spreads_137 : decode cX9_spreads 137 = .ok (.ifCond .eq 6, 3) := by decide +kernel
theorem dX9_spreads_140 : decode cX9_spreads 140 = .ok (.iconst 1, 1) := by decide +kernel
theorem dX9_spreads_141 : decode cX9_spreads 141 = .ok (.istore 4, 2) := by decide +kernel
theorem dX9_spreads_143 : decode cX9_spreads 143 = .ok (.iinc 5 1, 3) := by decide +kernel
theorem dX9_spreads_146 : decode cX9_spreads 146 = .ok (.goto (-38), 3) := by decide +kernel
theorem dX9_spreads_149 : decode cX9_spreads 149 = .ok (.goto (-52), 3) := by decide +kernel
theorem dX9_spreads_152 : decode cX9_spreads 152 = .ok (.return_, 1) := by decide +kernel
theorem dX9_goesOn_0 : decode cX9_goesOn 0 = .ok (.iload_n 1, 1) := by decide +kernel
theorem dX9_goesOn_1 : decode cX9_goesOn 1 = .ok (.bipush 32, 2) := by decide +kernel
theorem dX9_goesOn_3 : decode cX9_goesOn 3 = .ok (.idiv, 1) := by decide +kernel
theorem dX9_goesOn_4 : decode cX9_goesOn 4 = .ok (.istore 4, 2) := by decide +kernel
theorem dX9_goesOn_6 : decode cX9_goesOn 6 = .ok (.iload_n 1, 1) := by decide +kernel
theorem dX9_goesOn_7 : decode cX9_goesOn 7 = .ok (.bipush 32, 2) := by decide +kernel
theorem dX9_goesOn_9 : decode cX9_goesOn 9 = .ok (.irem, 1) := by decide +kernel
theorem dX9_goesOn_10 : decode cX9_goesOn 10 = .ok (.istore 5, 2) := by decide +kernel
theorem dX9_goesOn_12 : decode cX9_goesOn 12 = .ok (.iload 5, 2) := by decide +kernel
theorem dX9_goesOn_14 : decode cX9_goesOn 14 = .ok (.bipush 31, 2) := by decide +kernel
theorem dX9_goesOn_16 : decode cX9_goesOn 16 = .ok (.if_icmp .ge 25, 3) := by decide +kernel
theorem dX9_goesOn_19 : decode cX9_goesOn 19 = .ok (.aload_n 0, 1) := by decide +kernel
theorem dX9_goesOn_20 : decode cX9_goesOn 20 = .ok (.iload_n 1, 1) := by decide +kernel
theorem dX9_goesOn_21 : decode cX9_goesOn 21 = .ok (.iconst 1, 1) := by decide +kernel
theorem dX9_goesOn_22 : decode cX9_goesOn 22 = .ok (.iadd, 1) := by decide +kernel
theorem dX9_goesOn_23 : decode cX9_goesOn 23 = .ok (.aload_n 0, 1) := by decide +kernel
theorem dX9_goesOn_24 : decode cX9_goesOn 24 = .ok (.getfield 41, 3) := by decide +kernel
theorem dX9_goesOn_27 : decode cX9_goesOn 27 = .ok (.iload_n 1, 1) := by decide +kernel
theorem dX9_goesOn_28 : decode cX9_goesOn 28 = .ok (.iaload, 1) := by decide +kernel
theorem dX9_goesOn_29 : decode cX9_goesOn 29 = .ok (.iconst 1, 1) := by decide +kernel
theorem dX9_goesOn_30 : decode cX9_goesOn 30 = .ok (.iadd, 1) := by decide +kernel
theorem dX9_goesOn_31 : decode cX9_goesOn 31 = .ok (.invokevirtual 271, 3) := by decide +kernel
theorem dX9_goesOn_34 : decode cX9_goesOn 34 = .ok (.ifCond .eq 7, 3) := by decide +kernel
theorem dX9_goesOn_37 : decode cX9_goesOn 37 = .ok (.iconst 1, 1) := by decide +kernel
theorem dX9_goesOn_38 : decode cX9_goesOn 38 = .ok (.goto 4, 3) := by decide +kernel
theorem dX9_goesOn_41 : decode cX9_goesOn 41 = .ok (.iconst 0, 1) := by decide +kernel
theorem dX9_goesOn_42 : decode cX9_goesOn 42 = .ok (.istore 6, 2) := by decide +kernel
theorem dX9_goesOn_44 : decode cX9_goesOn 44 = .ok (.iconst 0, 1) := by decide +kernel
theorem dX9_goesOn_45 : decode cX9_goesOn 45 = .ok (.istore 7, 2) := by decide +kernel
theorem dX9_goesOn_47 : decode cX9_goesOn 47 = .ok (.iload 7, 2) := by decide +kernel
theorem dX9_goesOn_49 : decode cX9_goesOn 49 = .ok (.aload_n 0, 1) := by decide +kernel
theorem dX9_goesOn_50 : decode cX9_goesOn 50 = .ok (.getfield 82, 3) := by decide +kernel
theorem dX9_goesOn_53 : decode cX9_goesOn 53 = .ok (.if_icmp .ge 112, 3) := by decide +kernel
theorem dX9_goesOn_56 : decode cX9_goesOn 56 = .ok (.aload_n 0, 1) := by decide +kernel
theorem dX9_goesOn_57 : decode cX9_goesOn 57 = .ok (.getfield 274, 3) := by decide +kernel
theorem dX9_goesOn_60 : decode cX9_goesOn 60 = .ok (.iload 7, 2) := by decide +kernel
theorem dX9_goesOn_62 : decode cX9_goesOn 62 = .ok (.ishr, 1) := by decide +kernel
theorem dX9_goesOn_63 : decode cX9_goesOn 63 = .ok (.iconst 1, 1) := by decide +kernel
theorem dX9_goesOn_64 : decode cX9_goesOn 64 = .ok (.iand, 1) := by decide +kernel
theorem dX9_goesOn_65 : decode cX9_goesOn 65 = .ok (.ifCond .ne 94, 3) := by decide +kernel
theorem dX9_goesOn_68 : decode cX9_goesOn 68 = .ok (.aload_n 0, 1) := by decide +kernel
theorem dX9_goesOn_69 : decode cX9_goesOn 69 = .ok (.getfield 35, 3) := by decide +kernel
theorem dX9_goesOn_72 : decode cX9_goesOn 72 = .ok (.iload 7, 2) := by decide +kernel
theorem dX9_goesOn_74 : decode cX9_goesOn 74 = .ok (.iaload, 1) := by decide +kernel
theorem dX9_goesOn_75 : decode cX9_goesOn 75 = .ok (.iload 4, 2) := by decide +kernel
theorem dX9_goesOn_77 : decode cX9_goesOn 77 = .ok (.if_icmp .ne 82, 3) := by decide +kernel
theorem dX9_goesOn_80 : decode cX9_goesOn 80 = .ok (.aload_n 0, 1) := by decide +kernel
theorem dX9_goesOn_81 : decode cX9_goesOn 81 = .ok (.iload 7, 2) := by decide +kernel
theorem dX9_goesOn_83 : decode cX9_goesOn 83 = .ok (.iload 5, 2) := by decide +kernel
theorem dX9_goesOn_85 : decode cX9_goesOn 85 = .ok (.iload_n 2, 1) := by decide +kernel
theorem dX9_goesOn_86 : decode cX9_goesOn 86 = .ok (.invokevirtual 133, 3) := by decide +kernel
theorem dX9_goesOn_89 : decode cX9_goesOn 89 = .ok (.ifCond .eq 70, 3) := by decide +kernel
theorem dX9_goesOn_92 : decode cX9_goesOn 92 = .ok (.aload_n 0, 1) := by decide +kernel
theorem dX9_goesOn_93 : decode cX9_goesOn 93 = .ok (.bipush 32, 2) := by decide +kernel
theorem dX9_goesOn_95 : decode cX9_goesOn 95 = .ok (.aload_n 0, 1) := by decide +kernel
theorem dX9_goesOn_96 : decode cX9_goesOn 96 = .ok (.iload 7, 2) := by decide +kernel
theorem dX9_goesOn_98 : decode cX9_goesOn 98 = .ok (.invokevirtual 123, 3) := by decide +kernel
theorem dX9_goesOn_101 : decode cX9_goesOn 101 = .ok (.imul, 1) := by decide +kernel
theorem dX9_goesOn_102 : decode cX9_goesOn 102 = .ok (.aload_n 0, 1) := by decide +kernel
theorem dX9_goesOn_103 : decode cX9_goesOn 103 = .ok (.iload 7, 2) := by decide +kernel
theorem dX9_goesOn_105 : decode cX9_goesOn 105 = .ok (.iload 5, 2) := by decide +kernel
theorem dX9_goesOn_107 : decode cX9_goesOn 107 = .ok (.invokevirtual 127, 3) := by decide +kernel
theorem dX9_goesOn_110 : decode cX9_goesOn 110 = .ok (.iadd, 1) := by decide +kernel
theorem dX9_goesOn_111 : decode cX9_goesOn 111 = .ok (.aload_n 0, 1) := by decide +kernel
theorem dX9_goesOn_112 : decode cX9_goesOn 112 = .ok (.getfield 41, 3) := by decide +kernel
theorem dX9_goesOn_115 : decode cX9_goesOn 115 = .ok (.iload_n 1, 1) := by decide +kernel
theorem dX9_goesOn_116 : decode cX9_goesOn 116 = .ok (.iaload, 1) := by decide +kernel
theorem dX9_goesOn_117 : decode cX9_goesOn 117 = .ok (.iload_n 3, 1) := by decide +kernel
theorem dX9_goesOn_118 : decode cX9_goesOn 118 = .ok (.ifCond .eq 19, 3) := by decide +kernel
theorem dX9_goesOn_121 : decode cX9_goesOn 121 = .ok (.aload_n 0, 1) := by decide +kernel
theorem dX9_goesOn_122 : decode cX9_goesOn 122 = .ok (.getfield 44, 3) := by decide +kernel
theorem dX9_goesOn_125 : decode cX9_goesOn 125 = .ok (.bipush 32, 2) := by decide +kernel
theorem dX9_goesOn_127 : decode cX9_goesOn 127 = .ok (.iload 7, 2) := by decide +kernel
theorem dX9_goesOn_129 : decode cX9_goesOn 129 = .ok (.imul, 1) := by decide +kernel
theorem dX9_goesOn_130 : decode cX9_goesOn 130 = .ok (.iload 5, 2) := by decide +kernel
theorem dX9_goesOn_132 : decode cX9_goesOn 132 = .ok (.iadd, 1) := by decide +kernel
theorem dX9_goesOn_133 : decode cX9_goesOn 133 = .ok (.iaload, 1) := by decide +kernel
theorem dX9_goesOn_134 : decode cX9_goesOn 134 = .ok (.goto 6, 3) := by decide +kernel
theorem dX9_goesOn_137 : decode cX9_goesOn 137 = .ok (.sipush 10000, 3) := by decide +kernel
theorem dX9_goesOn_140 : decode cX9_goesOn 140 = .ok (.iadd, 1) := by decide +kernel
theorem dX9_goesOn_141 : decode cX9_goesOn 141 = .ok (.invokevirtual 271, 3) := by decide +kernel
theorem dX9_goesOn_144 : decode cX9_goesOn 144 = .ok (.ifCond .ne 8, 3) := by decide +kernel
theorem dX9_goesOn_147 : decode cX9_goesOn 147 = .ok (.iload 6, 2) := by decide +kernel
theorem dX9_goesOn_149 : decode cX9_goesOn 149 = .ok (.ifCond .eq 7, 3) := by decide +kernel
theorem dX9_goesOn_152 : decode cX9_goesOn 152 = .ok (.iconst 1, 1) := by decide +kernel
theorem dX9_goesOn_153 : decode cX9_goesOn 153 = .ok (.goto 4, 3) := by decide +kernel
theorem dX9_goesOn_156 : decode cX9_goesOn 156 = .ok (.iconst 0, 1) := by decide +kernel
theorem dX9_goesOn_157 : decode cX9_goesOn 157 = .ok (.istore 6, 2) := by decide +kernel
theorem dX9_goesOn_159 : decode cX9_goesOn 159 = .ok (.iinc 7 1, 3) := by decide +kernel
theorem dX9_goesOn_162 : decode cX9_goesOn 162 = .ok (.goto (-115), 3) := by decide +kernel
theorem dX9_goesOn_165 : decode cX9_goesOn 165 = .ok (.iload 6, 2) := by decide +kernel
theorem dX9_goesOn_167 : decode cX9_goesOn 167 = .ok (.ireturn, 1) := by decide +kernel
theorem dX9_eases_0 : decode cX9_eases 0 = .ok (.iload_n 2, 1) := by decide +kernel
theorem dX9_eases_1 : decode cX9_eases 1 = .ok (.aload_n 0, 1) := by decide +kernel
theorem dX9_eases_2 : decode cX9_eases 2 = .ok (.getfield 41, 3) := by decide +kernel
theorem dX9_eases_5 : decode cX9_eases 5 = .ok (.iload_n 1, 1) := by decide +kernel
theorem dX9_eases_6 : decode cX9_eases 6 = .ok (.iaload, 1) := by decide +kernel
theorem dX9_eases_7 : decode cX9_eases 7 = .ok (.if_icmp .lt 5, 3) := by decide +kernel
theorem dX9_eases_10 : decode cX9_eases 10 = .ok (.iconst 0, 1) := by decide +kernel
theorem dX9_eases_11 : decode cX9_eases 11 = .ok (.ireturn, 1) := by decide +kernel
theorem dX9_eases_12 : decode cX9_eases 12 = .ok (.aload_n 0, 1) := by decide +kernel
theorem dX9_eases_13 : decode cX9_eases 13 = .ok (.getfield 41, 3) := by decide +kernel
theorem dX9_eases_16 : decode cX9_eases 16 = .ok (.iload_n 1, 1) := by decide +kernel
theorem dX9_eases_17 : decode cX9_eases 17 = .ok (.iload_n 2, 1) := by decide +kernel
theorem dX9_eases_18 : decode cX9_eases 18 = .ok (.iastore, 1) := by decide +kernel
theorem dX9_eases_19 : decode cX9_eases 19 = .ok (.iconst 1, 1) := by decide +kernel
theorem dX9_eases_20 : decode cX9_eases 20 = .ok (.ireturn, 1) := by decide +kernel
theorem dX9_panes_0 : decode cX9_panes 0 = .ok (.iload_n 1, 1) := by decide +kernel
theorem dX9_panes_1 : decode cX9_panes 1 = .ok (.invokestatic 277, 3) := by decide +kernel
theorem dX9_panes_4 : decode cX9_panes 4 = .ok (.ifCond .eq 28, 3) := by decide +kernel
theorem dX9_panes_7 : decode cX9_panes 7 = .ok (.iload_n 2, 1) := by decide +kernel
theorem dX9_panes_8 : decode cX9_panes 8 = .ok (.invokestatic 277, 3) := by decide +kernel
theorem dX9_panes_11 : decode cX9_panes 11 = .ok (.ifCond .eq 21, 3) := by decide +kernel
theorem dX9_panes_14 : decode cX9_panes 14 = .ok (.iload_n 3, 1) := by decide +kernel
theorem dX9_panes_15 : decode cX9_panes 15 = .ok (.invokestatic 130, 3) := by decide +kernel
theorem dX9_panes_18 : decode cX9_panes 18 = .ok (.ifCond .eq 14, 3) := by decide +kernel
theorem dX9_panes_21 : decode cX9_panes 21 = .ok (.iload 4, 2) := by decide +kernel
theorem dX9_panes_23 : decode cX9_panes 23 = .ok (.i2l, 1) := by decide +kernel
theorem dX9_panes_24 : decode cX9_panes 24 = .ok (.lconst 0, 1) := by decide +kernel
theorem dX9_panes_25 : decode cX9_panes 25 = .ok (.lconst 1, 1) := by decide +kernel
theorem dX9_panes_26 : decode cX9_panes 26 = .ok (.invokestatic 85, 3) := by decide +kernel
theorem dX9_panes_29 : decode cX9_panes 29 = .ok (.ifCond .ne 6, 3) := by decide +kernel
theorem dX9_panes_32 : decode cX9_panes 32 = .ok (.bipush (-2), 2) := by decide +kernel
theorem dX9_panes_34 : decode cX9_panes 34 = .ok (.ireturn, 1) := by decide +kernel
theorem dX9_panes_35 : decode cX9_panes 35 = .ok (.aload_n 0, 1) := by decide +kernel
theorem dX9_panes_36 : decode cX9_panes 36 = .ok (.iload_n 1, 1) := by decide +kernel
theorem dX9_panes_37 : decode cX9_panes 37 = .ok (.iload_n 3, 1) := by decide +kernel
theorem dX9_panes_38 : decode cX9_panes 38 = .ok (.iconst 0, 1) := by decide +kernel
theorem dX9_panes_39 : decode cX9_panes 39 = .ok (.invokevirtual 280, 3) := by decide +kernel
theorem dX9_panes_42 : decode cX9_panes 42 = .ok (.aload_n 0, 1) := by decide +kernel
theorem dX9_panes_43 : decode cX9_panes 43 = .ok (.getfield 41, 3) := by decide +kernel
theorem dX9_panes_46 : decode cX9_panes 46 = .ok (.iload_n 2, 1) := by decide +kernel
theorem dX9_panes_47 : decode cX9_panes 47 = .ok (.iaload, 1) := by decide +kernel
theorem dX9_panes_48 : decode cX9_panes 48 = .ok (.ldc_w 266, 3) := by decide +kernel
theorem dX9_panes_51 : decode cX9_panes 51 = .ok (.if_icmp .ne 7, 3) := by decide +kernel
theorem dX9_panes_54 : decode cX9_panes 54 = .ok (.iconst (-1), 1) := by decide +kernel
theorem dX9_panes_55 : decode cX9_panes 55 = .ok (.goto 31, 3) := by decide +kernel
theorem dX9_panes_58 : decode cX9_panes 58 = .ok (.iload 4, 2) := by decide +kernel
theorem dX9_panes_60 : decode cX9_panes 60 = .ok (.ifCond .ne 16, 3) := by decide +kernel
theorem dX9_panes_63 : decode cX9_panes 63 = .ok (.aload_n 0, 1) := by decide +kernel
theorem dX9_panes_64 : decode cX9_panes 64 = .ok (.getfield 41, 3) := by decide +kernel
theorem dX9_panes_67 : decode cX9_panes 67 = .ok (.iload_n 2, 1) := by decide +kernel
theorem dX9_panes_68 : decode cX9_panes 68 = .ok (.iaload, 1) := by decide +kernel
theorem dX9_panes_69 : decode cX9_panes 69 = .ok (.sipush 10000, 3) := by decide +kernel
theorem dX9_panes_72 : decode cX9_panes 72 = .ok (.idiv, 1) := by decide +kernel
theorem dX9_panes_73 : decode cX9_panes 73 = .ok (.goto 13, 3) := by decide +kernel
theorem dX9_panes_76 : decode cX9_panes 76 = .ok (.aload_n 0, 1) := by decide +kernel
theorem dX9_panes_77 : decode cX9_panes 77 = .ok (.getfield 41, 3) := by decide +kernel
theorem dX9_panes_80 : decode cX9_panes 80 = .ok (.iload_n 2, 1) := by decide +kernel
theorem dX9_panes_81 : decode cX9_panes 81 = .ok (.iaload, 1) := by decide +kernel
theorem dX9_panes_82 : decode cX9_panes 82 = .ok (.sipush 10000, 3) := by decide +kernel
theorem dX9_panes_85 : decode cX9_panes 85 = .ok (.irem, 1) := by decide +kernel
theorem dX9_panes_86 : decode cX9_panes 86 = .ok (.ireturn, 1) := by decide +kernel
theorem dX9_cost_0 : decode cX9_cost 0 = .ok (.iload_n 1, 1) := by decide +kernel
theorem dX9_cost_1 : decode cX9_cost 1 = .ok (.invokestatic 277, 3) := by decide +kernel
theorem dX9_cost_4 : decode cX9_cost 4 = .ok (.ifCond .eq 17, 3) := by decide +kernel
theorem dX9_cost_7 : decode cX9_cost 7 = .ok (.iload_n 2, 1) := by decide +kernel
theorem dX9_cost_8 : decode cX9_cost 8 = .ok (.invokestatic 277, 3) := by decide +kernel
theorem dX9_cost_11 : decode cX9_cost 11 = .ok (.ifCond .eq 10, 3) := by decide +kernel
theorem dX9_cost_14 : decode cX9_cost 14 = .ok (.iload_n 3, 1) := by decide +kernel
theorem dX9_cost_15 : decode cX9_cost 15 = .ok (.invokestatic 130, 3) := by decide +kernel
theorem dX9_cost_18 : decode cX9_cost 18 = .ok (.ifCond .ne 6, 3) := by decide +kernel
theorem dX9_cost_21 : decode cX9_cost 21 = .ok (.bipush (-2), 2) := by decide +kernel
theorem dX9_cost_23 : decode cX9_cost 23 = .ok (.ireturn, 1) := by decide +kernel
theorem dX9_cost_24 : decode cX9_cost 24 = .ok (.aload_n 0, 1) := by decide +kernel
theorem dX9_cost_25 : decode cX9_cost 25 = .ok (.iload_n 1, 1) := by decide +kernel
theorem dX9_cost_26 : decode cX9_cost 26 = .ok (.iload_n 3, 1) := by decide +kernel
theorem dX9_cost_27 : decode cX9_cost 27 = .ok (.iconst 1, 1) := by decide +kernel
theorem dX9_cost_28 : decode cX9_cost 28 = .ok (.invokevirtual 280, 3) := by decide +kernel
theorem dX9_cost_31 : decode cX9_cost 31 = .ok (.aload_n 0, 1) := by decide +kernel
theorem dX9_cost_32 : decode cX9_cost 32 = .ok (.getfield 41, 3) := by decide +kernel
theorem dX9_cost_35 : decode cX9_cost 35 = .ok (.iload_n 2, 1) := by decide +kernel
theorem dX9_cost_36 : decode cX9_cost 36 = .ok (.iaload, 1) := by decide +kernel
theorem dX9_cost_37 : decode cX9_cost 37 = .ok (.ldc_w 266, 3) := by decide +kernel
theorem dX9_cost_40 : decode cX9_cost 40 = .ok (.if_icmp .ne 7, 3) := by decide +kernel
theorem dX9_cost_43 : decode cX9_cost 43 = .ok (.iconst (-1), 1) := by decide +kernel
theorem dX9_cost_44 : decode cX9_cost 44 = .ok (.goto 9, 3) := by decide +kernel
theorem dX9_cost_47 : decode cX9_cost 47 = .ok (.aload_n 0, 1) := by decide +kernel
theorem dX9_cost_48 : decode cX9_cost 48 = .ok (.getfield 41, 3) := by decide +kernel
theorem dX9_cost_51 : decode cX9_cost 51 = .ok (.iload_n 2, 1) := by decide +kernel
theorem dX9_cost_52 : decode cX9_cost 52 = .ok (.iaload, 1) := by decide +kernel
theorem dX9_cost_53 : decode cX9_cost 53 = .ok (.ireturn, 1) := by decide +kernel
theorem dX9_earliest_0 : decode cX9_earliest 0 = .ok (.iload_n 1, 1) := by decide +kernel
theorem dX9_earliest_1 : decode cX9_earliest 1 = .ok (.invokestatic 277, 3) := by decide +kernel
theorem dX9_earliest_4 : decode cX9_earliest 4 = .ok (.ifCond .eq 17, 3) := by decide +kernel
theorem dX9_earliest_7 : decode cX9_earliest 7 = .ok (.iload_n 2, 1) := by decide +kernel
theorem dX9_earliest_8 : decode cX9_earliest 8 = .ok (.invokestatic 118, 3) := by decide +kernel
theorem dX9_earliest_11 : decode cX9_earliest 11 = .ok (.ifCond .eq 10, 3) := by decide +kernel
theorem dX9_earliest_14 : decode cX9_earliest 14 = .ok (.iload_n 3, 1) := by decide +kernel
theorem dX9_earliest_15 : decode cX9_earliest 15 = .ok (.invokestatic 130, 3) := by decide +kernel
theorem dX9_earliest_18 : decode cX9_earliest 18 = .ok (.ifCond .ne 6, 3) := by decide +kernel
theorem dX9_earliest_21 : decode cX9_earliest 21 = .ok (.bipush (-2), 2) := by decide +kernel
theorem dX9_earliest_23 : decode cX9_earliest 23 = .ok (.ireturn, 1) := by decide +kernel
theorem dX9_earliest_24 : decode cX9_earliest 24 = .ok (.aload_n 0, 1) := by decide +kernel
theorem dX9_earliest_25 : decode cX9_earliest 25 = .ok (.iload_n 1, 1) := by decide +kernel
theorem dX9_earliest_26 : decode cX9_earliest 26 = .ok (.iload_n 3, 1) := by decide +kernel
theorem dX9_earliest_27 : decode cX9_earliest 27 = .ok (.iconst 0, 1) := by decide +kernel
theorem dX9_earliest_28 : decode cX9_earliest 28 = .ok (.invokevirtual 280, 3) := by decide +kernel
theorem dX9_earliest_31 : decode cX9_earliest 31 = .ok (.iconst 0, 1) := by decide +kernel
theorem dX9_earliest_32 : decode cX9_earliest 32 = .ok (.istore 4, 2) := by decide +kernel
theorem dX9_earliest_34 : decode cX9_earliest 34 = .ok (.iload 4, 2) := by decide +kernel
theorem dX9_earliest_36 : decode cX9_earliest 36 = .ok (.bipush 32, 2) := by decide +kernel
theorem dX9_earliest_38 : decode cX9_earliest 38 = .ok (.if_icmp .ge 30, 3) := by decide +kernel
theorem dX9_earliest_41 : decode cX9_earliest 41 = .ok (.aload_n 0, 1) := by decide +kernel
theorem dX9_earliest_42 : decode cX9_earliest 42 = .ok (.getfield 41, 3) := by decide +kernel
theorem dX9_earliest_45 : decode cX9_earliest 45 = .ok (.bipush 32, 2) := by decide +kernel
theorem dX9_earliest_47 : decode cX9_earliest 47 = .ok (.iload_n 2, 1) := by decide +kernel
theorem dX9_earliest_48 : decode cX9_earliest 48 = .ok (.imul, 1) := by decide +kernel
theorem dX9_earliest_49 : decode cX9_earliest 49 = .ok (.iload 4, 2) := by decide +kernel
theorem dX9_earliest_51 : decode cX9_earliest 51 = .ok (.iadd, 1) := by decide +kernel
theorem dX9_earliest_52 : decode cX9_earliest 52 = .ok (.iaload, 1) := by decide +kernel
theorem dX9_earliest_53 : decode cX9_earliest 53 = .ok (.ldc_w 266, 3) := by decide +kernel
theorem dX9_earliest_56 : decode cX9_earliest 56 = .ok (.if_icmp .ge 6, 3) := by decide +kernel
theorem dX9_earliest_59 : decode cX9_earliest 59 = .ok (.iload 4, 2) := by decide +kernel
theorem dX9_earliest_61 : decode cX9_earliest 61 = .ok (.ireturn, 1) := by decide +kernel
theorem dX9_earliest_62 : decode cX9_earliest 62 = .ok (.iinc 4 1, 3) := by decide +kernel
theorem dX9_earliest_65 : decode cX9_earliest 65 = .ok (.goto (-31), 3) := by decide +kernel
theorem dX9_earliest_68 : decode cX9_earliest 68 = .ok (.iconst (-1), 1) := by decide +kernel
theorem dX9_earliest_69 : decode cX9_earliest 69 = .ok (.ireturn, 1) := by decide +kernel
theorem dX9_loop_0 : decode cX9_loop 0 = .ok (.iload_n 1, 1) := by decide +kernel
theorem dX9_loop_1 : decode cX9_loop 1 = .ok (.invokestatic 277, 3) := by decide +kernel
theorem dX9_loop_4 : decode cX9_loop 4 = .ok (.ifCond .eq 10, 3) := by decide +kernel
theorem dX9_loop_7 : decode cX9_loop 7 = .ok (.iload_n 2, 1) := by decide +kernel
theorem dX9_loop_8 : decode cX9_loop 8 = .ok (.invokestatic 130, 3) := by decide +kernel
theorem dX9_loop_11 : decode cX9_loop 11 = .ok (.ifCond .ne 6, 3) := by decide +kernel
theorem dX9_loop_14 : decode cX9_loop 14 = .ok (.bipush (-2), 2) := by decide +kernel
theorem dX9_loop_16 : decode cX9_loop 16 = .ok (.ireturn, 1) := by decide +kernel
theorem dX9_loop_17 : decode cX9_loop 17 = .ok (.aload_n 0, 1) := by decide +kernel
theorem dX9_loop_18 : decode cX9_loop 18 = .ok (.iload_n 1, 1) := by decide +kernel
theorem dX9_loop_19 : decode cX9_loop 19 = .ok (.iload_n 2, 1) := by decide +kernel
theorem dX9_loop_20 : decode cX9_loop 20 = .ok (.iconst 0, 1) := by decide +kernel
theorem dX9_loop_21 : decode cX9_loop 21 = .ok (.invokevirtual 280, 3) := by decide +kernel
theorem dX9_loop_24 : decode cX9_loop 24 = .ok (.ldc_w 266, 3) := by decide +kernel
theorem dX9_loop_27 : decode cX9_loop 27 = .ok (.istore_n 3, 1) := by decide +kernel
theorem dX9_loop_28 : decode cX9_loop 28 = .ok (.iconst 0, 1) := by decide +kernel
theorem dX9_loop_29 : decode cX9_loop 29 = .ok (.istore 4, 2) := by decide +kernel
theorem dX9_loop_31 : decode cX9_loop 31 = .ok (.iload 4, 2) := by decide +kernel
theorem dX9_loop_33 : decode cX9_loop 33 = .ok (.sipush 192, 3) := by decide +kernel
theorem dX9_loop_36 : decode cX9_loop 36 = .ok (.if_icmp .ge 157, 3) := by decide +kernel
theorem dX9_loop_39 : decode cX9_loop 39 = .ok (.aload_n 0, 1) := by decide +kernel
theorem dX9_loop_40 : decode cX9_loop 40 = .ok (.getfield 41, 3) := by decide +kernel
theorem dX9_loop_43 : decode cX9_loop 43 = .ok (.iload 4, 2) := by decide +kernel
theorem dX9_loop_45 : decode cX9_loop 45 = .ok (.iaload, 1) := by decide +kernel
theorem dX9_loop_46 : decode cX9_loop 46 = .ok (.ldc_w 266, 3) := by decide +kernel
theorem dX9_loop_49 : decode cX9_loop 49 = .ok (.if_icmp .ge 138, 3) := by decide +kernel
theorem dX9_loop_52 : decode cX9_loop 52 = .ok (.iload 4, 2) := by decide +kernel
theorem dX9_loop_54 : decode cX9_loop 54 = .ok (.bipush 32, 2) := by decide +kernel
theorem dX9_loop_56 : decode cX9_loop 56 = .ok (.irem, 1) := by decide +kernel
theorem dX9_loop_57 : decode cX9_loop 57 = .ok (.istore 5, 2) := by decide +kernel
theorem dX9_loop_59 : decode cX9_loop 59 = .ok (.iload 5, 2) := by decide +kernel
theorem dX9_loop_61 : decode cX9_loop 61 = .ok (.bipush 31, 2) := by decide +kernel
theorem dX9_loop_63 : decode cX9_loop 63 = .ok (.if_icmp .ge 30, 3) := by decide +kernel
theorem dX9_loop_66 : decode cX9_loop 66 = .ok (.iload 4, 2) := by decide +kernel
theorem dX9_loop_68 : decode cX9_loop 68 = .ok (.iconst 1, 1) := by decide +kernel
theorem dX9_loop_69 : decode cX9_loop 69 = .ok (.iadd, 1) := by decide +kernel
theorem dX9_loop_70 : decode cX9_loop 70 = .ok (.iload_n 1, 1) := by decide +kernel
theorem dX9_loop_71 : decode cX9_loop 71 = .ok (.if_icmp .ne 22, 3) := by decide +kernel
theorem dX9_loop_74 : decode cX9_loop 74 = .ok (.aload_n 0, 1) := by decide +kernel
theorem dX9_loop_75 : decode cX9_loop 75 = .ok (.getfield 41, 3) := by decide +kernel
theorem dX9_loop_78 : decode cX9_loop 78 = .ok (.iload 4, 2) := by decide +kernel
theorem dX9_loop_80 : decode cX9_loop 80 = .ok (.iaload, 1) := by decide +kernel
theorem dX9_loop_81 : decode cX9_loop 81 = .ok (.iload_n 3, 1) := by decide +kernel
theorem dX9_loop_82 : decode cX9_loop 82 = .ok (.if_icmp .ge 11, 3) := by decide +kernel
theorem dX9_loop_85 : decode cX9_loop 85 = .ok (.aload_n 0, 1) := by decide +kernel
theorem dX9_loop_86 : decode cX9_loop 86 = .ok (.getfield 41, 3) := by decide +kernel
theorem dX9_loop_89 : decode cX9_loop 89 = .ok (.iload 4, 2) := by decide +kernel
theorem dX9_loop_91 : decode cX9_loop 91 = .ok (.iaload, 1) := by decide +kernel
theorem dX9_loop_92 : decode cX9_loop 92 = .ok (.istore_n 3, 1) := by decide +kernel
theorem dX9_loop_93 : decode cX9_loop 93 = .ok (.iconst 0, 1) := by decide +kernel
theorem dX9_loop_94 : decode cX9_loop 94 = .ok (.istore 6, 2) := by decide +kernel
theorem dX9_loop_96 : decode cX9_loop 96 = .ok (.iload 6, 2) := by decide +kernel
theorem dX9_loop_98 : decode cX9_loop 98 = .ok (.aload_n 0, 1) := by decide +kernel
theorem dX9_loop_99 : decode cX9_loop 99 = .ok (.getfield 82, 3) := by decide +kernel
theorem dX9_loop_102 : decode cX9_loop 102 = .ok (.if_icmp .ge 85, 3) := by decide +kernel
theorem dX9_loop_105 : decode cX9_loop 105 = .ok (.aload_n 0, 1) := by decide +kernel
theorem dX9_loop_106 : decode cX9_loop 106 = .ok (.getfield 35, 3) := by decide +kernel
theorem dX9_loop_109 : decode cX9_loop 109 = .ok (.iload 6, 2) := by decide +kernel
theorem dX9_loop_111 : decode cX9_loop 111 = .ok (.iaload, 1) := by decide +kernel
theorem dX9_loop_112 : decode cX9_loop 112 = .ok (.iload 4, 2) := by decide +kernel
theorem dX9_loop_114 : decode cX9_loop 114 = .ok (.bipush 32, 2) := by decide +kernel
theorem dX9_loop_116 : decode cX9_loop 116 = .ok (.idiv, 1) := by decide +kernel
theorem dX9_loop_117 : decode cX9_loop 117 = .ok (.if_icmp .ne 64, 3) := by decide +kernel
theorem dX9_loop_120 : decode cX9_loop 120 = .ok (.aload_n 0, 1) := by decide +kernel
theorem dX9_loop_121 : decode cX9_loop 121 = .ok (.iload 6, 2) := by decide +kernel
theorem dX9_loop_123 : decode cX9_loop 123 = .ok (.iload 5, 2) := by decide +kernel
theorem dX9_loop_125 : decode cX9_loop 125 = .ok (.iload_n 2, 1) := by decide +kernel
theorem dX9_loop_126 : decode cX9_loop 126 = .ok (.invokevirtual 133, 3) := by decide +kernel
theorem dX9_loop_129 : decode cX9_loop 129 = .ok (.ifCond .eq 52, 3) := by decide +kernel
theorem dX9_loop_132 : decode cX9_loop 132 = .ok (.bipush 32, 2) := by decide +kernel
theorem dX9_loop_134 : decode cX9_loop 134 = .ok (.aload_n 0, 1) := by decide +kernel
theorem dX9_loop_135 : decode cX9_loop 135 = .ok (.iload 6, 2) := by decide +kernel
theorem dX9_loop_137 : decode cX9_loop 137 = .ok (.invokevirtual 123, 3) := by decide +kernel
theorem dX9_loop_140 : decode cX9_loop 140 = .ok (.imul, 1) := by decide +kernel
theorem dX9_loop_141 : decode cX9_loop 141 = .ok (.aload_n 0, 1) := by decide +kernel
theorem dX9_loop_142 : decode cX9_loop 142 = .ok (.iload 6, 2) := by decide +kernel
theorem dX9_loop_144 : decode cX9_loop 144 = .ok (.iload 5, 2) := by decide +kernel
theorem dX9_loop_146 : decode cX9_loop 146 = .ok (.invokevirtual 127, 3) := by decide +kernel
theorem dX9_loop_149 : decode cX9_loop 149 = .ok (.iadd, 1) := by decide +kernel
theorem dX9_loop_150 : decode cX9_loop 150 = .ok (.iload_n 1, 1) := by decide +kernel
theorem dX9_loop_151 : decode cX9_loop 151 = .ok (.if_icmp .ne 30, 3) := by decide +kernel
theorem dX9_loop_154 : decode cX9_loop 154 = .ok (.aload_n 0, 1) := by decide +kernel
theorem dX9_loop_155 : decode cX9_loop 155 = .ok (.getfield 41, 3) := by decide +kernel
theorem dX9_loop_158 : decode cX9_loop 158 = .ok (.iload 4, 2) := by decide +kernel
theorem dX9_loop_160 : decode cX9_loop 160 = .ok (.iaload, 1) := by decide +kernel
theorem dX9_loop_161 : decode cX9_loop 161 = .ok (.sipush 10000, 3) := by decide +kernel
theorem dX9_loop_164 : decode cX9_loop 164 = .ok (.iadd, 1) := by decide +kernel
theorem dX9_loop_165 : decode cX9_loop 165 = .ok (.iload_n 3, 1) := by decide +kernel
theorem dX9_loop_166 : decode cX9_loop 166 = .ok (.if_icmp .ge 15, 3) := by decide +kernel
theorem dX9_loop_169 : decode cX9_loop 169 = .ok (.aload_n 0, 1) := by decide +kernel
theorem dX9_loop_170 : decode cX9_loop 170 = .ok (.getfield 41, 3) := by decide +kernel
theorem dX9_loop_173 : decode cX9_loop 173 = .ok (.iload 4, 2) := by decide +kernel
theorem dX9_loop_175 : decode cX9_loop 175 = .ok (.iaload, 1) := by decide +kernel
theorem dX9_loop_176 : decode cX9_loop 176 = .ok (.sipush 10000, 3) := by decide +kernel
theorem dX9_loop_179 : decode cX9_loop 179 = .ok (.iadd, 1) := by decide +kernel
theorem dX9_loop_180 : decode cX9_loop 180 = .ok (.istore_n 3, 1) := by decide +kernel
theorem dX9_loop_181 : decode cX9_loop 181 = .ok (.iinc 6 1, 3) := by decide +kernel
theorem dX9_loop_184 : decode cX9_loop 184 = .ok (.goto (-88), 3) := by decide +kernel
theorem dX9_loop_187 : decode cX9_loop 187 = .ok (.iinc 4 1, 3) := by decide +kernel
theorem dX9_loop_190 : decode cX9_loop 190 = .ok (.goto (-159), 3) := by decide +kernel
theorem dX9_loop_193 : decode cX9_loop 193 = .ok (.iload_n 3, 1) := by decide +kernel
theorem dX9_loop_194 : decode cX9_loop 194 = .ok (.ldc_w 266, 3) := by decide +kernel
theorem dX9_loop_197 : decode cX9_loop 197 = .ok (.if_icmp .ne 7, 3) := by decide +kernel
theorem dX9_loop_200 : decode cX9_loop 200 = .ok (.iconst (-1), 1) := by decide +kernel
theorem dX9_loop_201 : decode cX9_loop 201 = .ok (.goto 8, 3) := by decide +kernel
theorem dX9_loop_204 : decode cX9_loop 204 = .ok (.iload_n 3, 1) := by decide +kernel
theorem dX9_loop_205 : decode cX9_loop 205 = .ok (.sipush 10000, 3) := by decide +kernel
theorem dX9_loop_208 : decode cX9_loop 208 = .ok (.idiv, 1) := by decide +kernel
theorem dX9_loop_209 : decode cX9_loop 209 = .ok (.ireturn, 1) := by decide +kernel
theorem dX9_spots_0 : decode cX9_spots 0 = .ok (.iload_n 1, 1) := by decide +kernel
theorem dX9_spots_1 : decode cX9_spots 1 = .ok (.invokestatic 277, 3) := by decide +kernel
theorem dX9_spots_4 : decode cX9_spots 4 = .ok (.ifCond .eq 10, 3) := by decide +kernel
theorem dX9_spots_7 : decode cX9_spots 7 = .ok (.iload_n 2, 1) := by decide +kernel
theorem dX9_spots_8 : decode cX9_spots 8 = .ok (.invokestatic 130, 3) := by decide +kernel
theorem dX9_spots_11 : decode cX9_spots 11 = .ok (.ifCond .ne 6, 3) := by decide +kernel
theorem dX9_spots_14 : decode cX9_spots 14 = .ok (.bipush (-2), 2) := by decide +kernel
theorem dX9_spots_16 : decode cX9_spots 16 = .ok (.ireturn, 1) := by decide +kernel
theorem dX9_spots_17 : decode cX9_spots 17 = .ok (.aload_n 0, 1) := by decide +kernel
theorem dX9_spots_18 : decode cX9_spots 18 = .ok (.iload_n 1, 1) := by decide +kernel
theorem dX9_spots_19 : decode cX9_spots 19 = .ok (.iload_n 2, 1) := by decide +kernel
theorem dX9_spots_20 : decode cX9_spots 20 = .ok (.iconst 0, 1) := by decide +kernel
theorem dX9_spots_21 : decode cX9_spots 21 = .ok (.invokevirtual 280, 3) := by decide +kernel
theorem dX9_spots_24 : decode cX9_spots 24 = .ok (.iconst 0, 1) := by decide +kernel
theorem dX9_spots_25 : decode cX9_spots 25 = .ok (.istore_n 3, 1) := by decide +kernel
theorem dX9_spots_26 : decode cX9_spots 26 = .ok (.iconst 0, 1) := by decide +kernel
theorem dX9_spots_27 : decode cX9_spots 27 = .ok (.istore 4, 2) := by decide +kernel
theorem dX9_spots_29 : decode cX9_spots 29 = .ok (.iload 4, 2) := by decide +kernel
theorem dX9_spots_31 : decode cX9_spots 31 = .ok (.sipush 192, 3) := by decide +kernel
theorem dX9_spots_34 : decode cX9_spots 34 = .ok (.if_icmp .ge 30, 3) := by decide +kernel
theorem dX9_spots_37 : decode cX9_spots 37 = .ok (.iload_n 3, 1) := by decide +kernel
theorem dX9_spots_38 : decode cX9_spots 38 = .ok (.aload_n 0, 1) := by decide +kernel
theorem dX9_spots_39 : decode cX9_spots 39 = .ok (.getfield 41, 3) := by decide +kernel
theorem dX9_spots_42 : decode cX9_spots 42 = .ok (.iload 4, 2) := by decide +kernel
theorem dX9_spots_44 : decode cX9_spots 44 = .ok (.iaload, 1) := by decide +kernel
theorem dX9_spots_45 : decode cX9_spots 45 = .ok (.ldc_w 266, 3) := by decide +kernel
theorem dX9_spots_48 : decode cX9_spots 48 = .ok (.if_icmp .ge 7, 3) := by decide +kernel
theorem dX9_spots_51 : decode cX9_spots 51 = .ok (.iconst 1, 1) := by decide +kernel
theorem dX9_spots_52 : decode cX9_spots 52 = .ok (.goto 4, 3) := by decide +kernel
theorem dX9_spots_55 : decode cX9_spots 55 = .ok (.iconst 0, 1) := by decide +kernel
theorem dX9_spots_56 : decode cX9_spots 56 = .ok (.iadd, 1) := by decide +kernel
theorem dX9_spots_57 : decode cX9_spots 57 = .ok (.istore_n 3, 1) := by decide +kernel
theorem dX9_spots_58 : decode cX9_spots 58 = .ok (.iinc 4 1, 3) := by decide +kernel
theorem dX9_spots_61 : decode cX9_spots 61 = .ok (.goto (-32), 3) := by decide +kernel
theorem dX9_spots_64 : decode cX9_spots 64 = .ok (.iload_n 3, 1) := by decide +kernel
theorem dX9_spots_65 : decode cX9_spots 65 = .ok (.ireturn, 1) := by decide +kernel
theorem dX9_comesBut_0 : decode cX9_comesBut 0 = .ok (.aload_n 0, 1) := by decide +kernel
theorem dX9_comesBut_1 : decode cX9_comesBut 1 = .ok (.iload 4, 2) := by decide +kernel
theorem dX9_comesBut_3 : decode cX9_comesBut 3 = .ok (.putfield 274, 3) := by decide +kernel
theorem dX9_comesBut_6 : decode cX9_comesBut 6 = .ok (.aload_n 0, 1) := by decide +kernel
theorem dX9_comesBut_7 : decode cX9_comesBut 7 = .ok (.iload_n 1, 1) := by decide +kernel
theorem dX9_comesBut_8 : decode cX9_comesBut 8 = .ok (.iload_n 3, 1) := by decide +kernel
theorem dX9_comesBut_9 : decode cX9_comesBut 9 = .ok (.iconst 0, 1) := by decide +kernel
theorem dX9_comesBut_10 : decode cX9_comesBut 10 = .ok (.invokevirtual 280, 3) := by decide +kernel
theorem dX9_comesBut_13 : decode cX9_comesBut 13 = .ok (.aload_n 0, 1) := by decide +kernel
theorem dX9_comesBut_14 : decode cX9_comesBut 14 = .ok (.iconst 0, 1) := by decide +kernel
theorem dX9_comesBut_15 : decode cX9_comesBut 15 = .ok (.putfield 274, 3) := by decide +kernel
theorem dX9_comesBut_18 : decode cX9_comesBut 18 = .ok (.aload_n 0, 1) := by decide +kernel
theorem dX9_comesBut_19 : decode cX9_comesBut 19 = .ok (.getfield 41, 3) := by decide +kernel
theorem dX9_comesBut_22 : decode cX9_comesBut 22 = .ok (.iload_n 2, 1) := by decide +kernel
theorem dX9_comesBut_23 : decode cX9_comesBut 23 = .ok (.iaload, 1) := by decide +kernel
theorem dX9_comesBut_24 : decode cX9_comesBut 24 = .ok (.ldc_w 266, 3) := by decide +kernel
theorem dX9_comesBut_27 : decode cX9_comesBut 27 = .ok (.if_icmp .ge 7, 3) := by decide +kernel
theorem dX9_comesBut_30 : decode cX9_comesBut 30 = .ok (.iconst 1, 1) := by decide +kernel
theorem dX9_comesBut_31 : decode cX9_comesBut 31 = .ok (.goto 4, 3) := by decide +kernel
theorem dX9_comesBut_34 : decode cX9_comesBut 34 = .ok (.iconst 0, 1) := by decide +kernel
theorem dX9_comesBut_35 : decode cX9_comesBut 35 = .ok (.ireturn, 1) := by decide +kernel
theorem dX9_brick_0 : decode cX9_brick 0 = .ok (.iload_n 1, 1) := by decide +kernel
theorem dX9_brick_1 : decode cX9_brick 1 = .ok (.invokestatic 277, 3) := by decide +kernel
theorem dX9_brick_4 : decode cX9_brick 4 = .ok (.ifCond .eq 28, 3) := by decide +kernel
theorem dX9_brick_7 : decode cX9_brick 7 = .ok (.iload_n 2, 1) := by decide +kernel
theorem dX9_brick_8 : decode cX9_brick 8 = .ok (.invokestatic 277, 3) := by decide +kernel
theorem dX9_brick_11 : decode cX9_brick 11 = .ok (.ifCond .eq 21, 3) := by decide +kernel
theorem dX9_brick_14 : decode cX9_brick 14 = .ok (.iload_n 3, 1) := by decide +kernel
theorem dX9_brick_15 : decode cX9_brick 15 = .ok (.invokestatic 130, 3) := by decide +kernel
theorem dX9_brick_18 : decode cX9_brick 18 = .ok (.ifCond .eq 14, 3) := by decide +kernel
theorem dX9_brick_21 : decode cX9_brick 21 = .ok (.iload 4, 2) := by decide +kernel
theorem dX9_brick_23 : decode cX9_brick 23 = .ok (.i2l, 1) := by decide +kernel
theorem dX9_brick_24 : decode cX9_brick 24 = .ok (.lconst 0, 1) := by decide +kernel
theorem dX9_brick_25 : decode cX9_brick 25 = .ok (.lconst 1, 1) := by decide +kernel
theorem dX9_brick_26 : decode cX9_brick 26 = .ok (.invokestatic 85, 3) := by decide +kernel
theorem dX9_brick_29 : decode cX9_brick 29 = .ok (.ifCond .ne 6, 3) := by decide +kernel
theorem dX9_brick_32 : decode cX9_brick 32 = .ok (.bipush (-2), 2) := by decide +kernel
theorem dX9_brick_34 : decode cX9_brick 34 = .ok (.ireturn, 1) := by decide +kernel
theorem dX9_brick_35 : decode cX9_brick 35 = .ok (.iconst (-1), 1) := by decide +kernel
theorem dX9_brick_36 : decode cX9_brick 36 = .ok (.istore 5, 2) := by decide +kernel
theorem dX9_brick_38 : decode cX9_brick 38 = .ok (.iload 4, 2) := by decide +kernel
theorem dX9_brick_40 : decode cX9_brick 40 = .ok (.iconst 1, 1) := by decide +kernel
theorem dX9_brick_41 : decode cX9_brick 41 = .ok (.if_icmp .ne 54, 3) := by decide +kernel
theorem dX9_brick_44 : decode cX9_brick 44 = .ok (.iconst 0, 1) := by decide +kernel
theorem dX9_brick_45 : decode cX9_brick 45 = .ok (.istore 5, 2) := by decide +kernel
theorem dX9_brick_47 : decode cX9_brick 47 = .ok (.iconst 0, 1) := by decide +kernel
theorem dX9_brick_48 : decode cX9_brick 48 = .ok (.istore 6, 2) := by decide +kernel
theorem dX9_brick_50 : decode cX9_brick 50 = .ok (.iload 6, 2) := by decide +kernel
theorem dX9_brick_52 : decode cX9_brick 52 = .ok (.aload_n 0, 1) := by decide +kernel
theorem dX9_brick_53 : decode cX9_brick 53 = .ok (.getfield 82, 3) := by decide +kernel
theorem dX9_brick_56 : decode cX9_brick 56 = .ok (.if_icmp .ge 36, 3) := by decide +kernel
theorem dX9_brick_59 : decode cX9_brick 59 = .ok (.iload 5, 2) := by decide +kernel
theorem dX9_brick_61 : decode cX9_brick 61 = .ok (.aload_n 0, 1) := by decide +kernel
theorem dX9_brick_62 : decode cX9_brick 62 = .ok (.iload_n 1, 1) := by decide +kernel
theorem dX9_brick_63 : decode cX9_brick 63 = .ok (.iload_n 2, 1) := by decide +kernel
theorem dX9_brick_64 : decode cX9_brick 64 = .ok (.iload_n 3, 1) := by decide +kernel
theorem dX9_brick_65 : decode cX9_brick 65 = .ok (.iconst 1, 1) := by decide +kernel
theorem dX9_brick_66 : decode cX9_brick 66 = .ok (.iload 6, 2) := by decide +kernel
theorem dX9_brick_68 : decode cX9_brick 68 = .ok (.ishl, 1) := by decide +kernel
theorem dX9_brick_69 : decode cX9_brick 69 = .ok (.invokevirtual 284, 3) := by decide +kernel
theorem dX9_brick_72 : decode cX9_brick 72 = .ok (.ifCond .eq 7, 3) := by decide +kernel
theorem dX9_brick_75 : decode cX9_brick 75 = .ok (.iconst 0, 1) := by decide +kernel
theorem dX9_brick_76 : decode cX9_brick 76 = .ok (.goto 4, 3) := by decide +kernel
theorem dX9_brick_79 : decode cX9_brick 79 = .ok (.iconst 1, 1) := by decide +kernel
theorem dX9_brick_80 : decode cX9_brick 80 = .ok (.iload 6, 2) := by decide +kernel
theorem dX9_brick_82 : decode cX9_brick 82 = .ok (.ishl, 1) := by decide +kernel
theorem dX9_brick_83 : decode cX9_brick 83 = .ok (.ior, 1) := by decide +kernel
theorem dX9_brick_84 : decode cX9_brick 84 = .ok (.istore 5, 2) := by decide +kernel
theorem dX9_brick_86 : decode cX9_brick 86 = .ok (.iinc 6 1, 3) := by decide +kernel
theorem dX9_brick_89 : decode cX9_brick 89 = .ok (.goto (-39), 3) := by decide +kernel
theorem dX9_brick_92 : decode cX9_brick 92 = .ok (.iload 5, 2) := by decide +kernel
theorem dX9_brick_94 : decode cX9_brick 94 = .ok (.ireturn, 1) := by decide +kernel
theorem dX9_brick_95 : decode cX9_brick 95 = .ok (.iconst 0, 1) := by decide +kernel
theorem dX9_brick_96 : decode cX9_brick 96 = .ok (.istore 6, 2) := by decide +kernel
theorem dX9_brick_98 : decode cX9_brick 98 = .ok (.iload 6, 2) := by decide +kernel
theorem dX9_brick_100 : decode cX9_brick 100 = .ok (.iconst 1, 1) := by decide +kernel
theorem dX9_brick_101 : decode cX9_brick 101 = .ok (.aload_n 0, 1) := by decide +kernel
theorem dX9_brick_102 : decode cX9_brick 102 = .ok (.getfield 82, 3) := by decide +kernel
theorem dX9_brick_105 : decode cX9_brick 105 = .ok (.ishl, 1) := by decide +kernel
theorem dX9_brick_106 : decode cX9_brick 106 = .ok (.if_icmp .ge 44, 3) := by decide +kernel
theorem dX9_brick_109 : decode cX9_brick 109 = .ok (.iload 5, 2) := by decide +kernel
theorem dX9_brick_111 : decode cX9_brick 111 = .ok (.iconst (-1), 1) := by decide +kernel
theorem dX9_brick_112 : decode cX9_brick 112 = .ok (.if_icmp .eq 16, 3) := by decide +kernel
theorem dX9_brick_115 : decode cX9_brick 115 = .ok (.iload 6, 2) := by decide +kernel
theorem dX9_brick_117 : decode cX9_brick 117 = .ok (.invokestatic 288, 3) := by decide +kernel
theorem dX9_brick_120 : decode cX9_brick 120 = .ok (.iload 5, 2) := by decide +kernel
theorem dX9_brick_122 : decode cX9_brick 122 = .ok (.invokestatic 288, 3) := by decide +kernel
theorem dX9_brick_125 : decode cX9_brick 125 = .ok (.if_icmp .ge 19, 3) := by decide +kernel
theorem dX9_brick_128 : decode cX9_brick 128 = .ok (.aload_n 0, 1) := by decide +kernel
theorem dX9_brick_129 : decode cX9_brick 129 = .ok (.iload_n 1, 1) := by decide +kernel
theorem dX9_brick_130 : decode cX9_brick 130 = .ok (.iload_n 2, 1) := by decide +kernel
theorem dX9_brick_131 : decode cX9_brick 131 = .ok (.iload_n 3, 1) := by decide +kernel
theorem dX9_brick_132 : decode cX9_brick 132 = .ok (.iload 6, 2) := by decide +kernel
theorem dX9_brick_134 : decode cX9_brick 134 = .ok (.invokevirtual 284, 3) := by decide +kernel
theorem dX9_brick_137 : decode cX9_brick 137 = .ok (.ifCond .ne 7, 3) := by decide +kernel
theorem dX9_brick_140 : decode cX9_brick 140 = .ok (.iload 6, 2) := by decide +kernel
theorem dX9_brick_142 : decode cX9_brick 142 = .ok (.istore 5, 2) := by decide +kernel
theorem dX9_brick_144 : decode cX9_brick 144 = .ok (.iinc 6 1, 3) := by decide +kernel
theorem dX9_brick_147 : decode cX9_brick 147 = .ok (.goto (-49), 3) := by decide +kernel
theorem dX9_brick_150 : decode cX9_brick 150 = .ok (.iload 5, 2) := by decide +kernel
theorem dX9_brick_152 : decode cX9_brick 152 = .ok (.ireturn, 1) := by decide +kernel
theorem dX9_shows_0 : decode cX9_shows 0 = .ok (.iload_n 2, 1) := by decide +kernel
theorem dX9_shows_1 : decode cX9_shows 1 = .ok (.invokestatic 99, 3) := by decide +kernel
theorem dX9_shows_4 : decode cX9_shows 4 = .ok (.ifCond .eq 27, 3) := by decide +kernel
theorem dX9_shows_7 : decode cX9_shows 7 = .ok (.aload_n 0, 1) := by decide +kernel
theorem dX9_shows_8 : decode cX9_shows 8 = .ok (.iload_n 1, 1) := by decide +kernel
theorem dX9_shows_9 : decode cX9_shows 9 = .ok (.iload_n 2, 1) := by decide +kernel
theorem dX9_shows_10 : decode cX9_shows 10 = .ok (.iconst 0, 1) := by decide +kernel
theorem dX9_shows_11 : decode cX9_shows 11 = .ok (.invokevirtual 133, 3) := by decide +kernel
theorem dX9_shows_14 : decode cX9_shows 14 = .ok (.ifCond .eq 17, 3) := by decide +kernel
theorem dX9_shows_17 : decode cX9_shows 17 = .ok (.aload_n 0, 1) := by decide +kernel
theorem dX9_shows_18 : decode cX9_shows 18 = .ok (.getfield 23, 3) := by decide +kernel
theorem dX9_shows_21 : decode cX9_shows 21 = .ok (.aload_n 0, 1) := by decide +kernel
theorem dX9_shows_22 : decode cX9_shows 22 = .ok (.iload_n 1, 1) := by decide +kernel
theorem dX9_shows_23 : decode cX9_shows 23 = .ok (.iload_n 2, 1) := by decide +kernel
theorem dX9_shows_24 : decode cX9_shows 24 = .ok (.invokevirtual 127, 3) := by decide +kernel
theorem dX9_shows_27 : decode cX9_shows 27 = .ok (.iaload, 1) := by decide +kernel
theorem dX9_shows_28 : decode cX9_shows 28 = .ok (.goto 4, 3) := by decide +kernel
theorem dX9_shows_31 : decode cX9_shows 31 = .ok (.iconst (-1), 1) := by decide +kernel
theorem dX9_shows_32 : decode cX9_shows 32 = .ok (.ireturn, 1) := by decide +kernel
theorem dX9_wrongAt_0 : decode cX9_wrongAt 0 = .ok (.iconst 0, 1) := by decide +kernel
theorem dX9_wrongAt_1 : decode cX9_wrongAt 1 = .ok (.istore 4, 2) := by decide +kernel
theorem dX9_wrongAt_3 : decode cX9_wrongAt 3 = .ok (.iload 4, 2) := by decide +kernel
theorem dX9_wrongAt_5 : decode cX9_wrongAt 5 = .ok (.aload_n 0, 1) := by decide +kernel
theorem dX9_wrongAt_6 : decode cX9_wrongAt 6 = .ok (.getfield 69, 3) := by decide +kernel
theorem dX9_wrongAt_9 : decode cX9_wrongAt 9 = .ok (.iload_n 1, 1) := by decide +kernel
theorem dX9_wrongAt_10 : decode cX9_wrongAt 10 = .ok (.iaload, 1) := by decide +kernel
theorem dX9_wrongAt_11 : decode cX9_wrongAt 11 = .ok (.if_icmp .ge 36, 3) := by decide +kernel
theorem dX9_wrongAt_14 : decode cX9_wrongAt 14 = .ok (.aload_n 0, 1) := by decide +kernel
theorem dX9_wrongAt_15 : decode cX9_wrongAt 15 = .ok (.iload_n 2, 1) := by decide +kernel
theorem dX9_wrongAt_16 : decode cX9_wrongAt 16 = .ok (.iload_n 3, 1) := by decide +kernel
theorem dX9_wrongAt_17 : decode cX9_wrongAt 17 = .ok (.iload 4, 2) := by decide +kernel
theorem dX9_wrongAt_19 : decode cX9_wrongAt 19 = .ok (.iadd, 1) := by decide +kernel
theorem dX9_wrongAt_20 : decode cX9_wrongAt 20 = .ok (.invokevirtual 291, 3) := by decide +kernel
theorem dX9_wrongAt_23 : decode cX9_wrongAt 23 = .ok (.aload_n 0, 1) := by decide +kernel
theorem dX9_wrongAt_24 : decode cX9_wrongAt 24 = .ok (.getfield 72, 3) := by decide +kernel
theorem dX9_wrongAt_27 : decode cX9_wrongAt 27 = .ok (.bipush 40, 2) := by decide +kernel
theorem dX9_wrongAt_29 : decode cX9_wrongAt 29 = .ok (.iload_n 1, 1) := by decide +kernel
theorem dX9_wrongAt_30 : decode cX9_wrongAt 30 = .ok (.imul, 1) := by decide +kernel
theorem dX9_wrongAt_31 : decode cX9_wrongAt 31 = .ok (.iload 4, 2) := by decide +kernel
theorem dX9_wrongAt_33 : decode cX9_wrongAt 33 = .ok (.iadd, 1) := by decide +kernel
theorem dX9_wrongAt_34 : decode cX9_wrongAt 34 = .ok (.iaload, 1) := by decide +kernel
theorem dX9_wrongAt_35 : decode cX9_wrongAt 35 = .ok (.if_icmp .eq 6, 3) := by decide +kernel
theorem dX9_wrongAt_38 : decode cX9_wrongAt 38 = .ok (.iload 4, 2) := by decide +kernel
theorem dX9_wrongAt_40 : decode cX9_wrongAt 40 = .ok (.ireturn, 1) := by decide +kernel
theorem dX9_wrongAt_41 : decode cX9_wrongAt 41 = .ok (.iinc 4 1, 3) := by decide +kernel
theorem dX9_wrongAt_44 : decode cX9_wrongAt 44 = .ok (.goto (-41), 3) := by decide +kernel
theorem dX9_wrongAt_47 : decode cX9_wrongAt 47 = .ok (.iconst (-1), 1) := by decide +kernel
theorem dX9_wrongAt_48 : decode cX9_wrongAt 48 = .ok (.ireturn, 1) := by decide +kernel
theorem dX9_seenBad_0 : decode cX9_seenBad 0 = .ok (.iload_n 1, 1) := by decide +kernel
theorem dX9_seenBad_1 : decode cX9_seenBad 1 = .ok (.invokestatic 294, 3) := by decide +kernel
theorem dX9_seenBad_4 : decode cX9_seenBad 4 = .ok (.ifCond .eq 18, 3) := by decide +kernel
theorem dX9_seenBad_7 : decode cX9_seenBad 7 = .ok (.aload_n 0, 1) := by decide +kernel
theorem dX9_seenBad_8 : decode cX9_seenBad 8 = .ok (.iload_n 2, 1) := by decide +kernel
theorem dX9_seenBad_9 : decode cX9_seenBad 9 = .ok (.invokevirtual 103, 3) := by decide +kernel
theorem dX9_seenBad_12 : decode cX9_seenBad 12 = .ok (.ifCond .eq 10, 3) := by decide +kernel
theorem dX9_seenBad_15 : decode cX9_seenBad 15 = .ok (.iload_n 3, 1) := by decide +kernel
theorem dX9_seenBad_16 : decode cX9_seenBad 16 = .ok (.invokestatic 99, 3) := by decide +kernel
theorem dX9_seenBad_19 : decode cX9_seenBad 19 = .ok (.ifCond .ne 6, 3) := by decide +kernel
theorem dX9_seenBad_22 : decode cX9_seenBad 22 = .ok (.bipush (-2), 2) := by decide +kernel
theorem dX9_seenBad_24 : decode cX9_seenBad 24 = .ok (.ireturn, 1) := by decide +kernel
theorem dX9_seenBad_25 : decode cX9_seenBad 25 = .ok (.aload_n 0, 1) := by decide +kernel
theorem dX9_seenBad_26 : decode cX9_seenBad 26 = .ok (.getfield 62, 3) := by decide +kernel
theorem dX9_seenBad_29 : decode cX9_seenBad 29 = .ok (.iload_n 1, 1) := by decide +kernel
theorem dX9_seenBad_30 : decode cX9_seenBad 30 = .ok (.baload, 1) := by decide +kernel
theorem dX9_seenBad_31 : decode cX9_seenBad 31 = .ok (.ifCond .ne 6, 3) := by decide +kernel
theorem dX9_seenBad_34 : decode cX9_seenBad 34 = .ok (.bipush (-11), 2) := by decide +kernel
theorem dX9_seenBad_36 : decode cX9_seenBad 36 = .ok (.ireturn, 1) := by decide +kernel
theorem dX9_seenBad_37 : decode cX9_seenBad 37 = .ok (.aload_n 0, 1) := by decide +kernel
theorem dX9_seenBad_38 : decode cX9_seenBad 38 = .ok (.getfield 69, 3) := by decide +kernel
theorem dX9_seenBad_41 : decode cX9_seenBad 41 = .ok (.iload_n 1, 1) := by decide +kernel
theorem dX9_seenBad_42 : decode cX9_seenBad 42 = .ok (.iaload, 1) := by decide +kernel
theorem dX9_seenBad_43 : decode cX9_seenBad 43 = .ok (.bipush 10, 2) := by decide +kernel
theorem dX9_seenBad_45 : decode cX9_seenBad 45 = .ok (.if_icmp .le 8, 3) := by decide +kernel
theorem dX9_seenBad_48 : decode cX9_seenBad 48 = .ok (.bipush (-2), 2) := by decide +kernel
theorem dX9_seenBad_50 : decode cX9_seenBad 50 = .ok (.goto 4, 3) := by decide +kernel
theorem dX9_seenBad_53 : decode cX9_seenBad 53 = .ok (.iconst 0, 1) := by decide +kernel
theorem dX9_seenBad_54 : decode cX9_seenBad 54 = .ok (.ireturn, 1) := by decide +kernel
theorem dX9_shiftsOf_0 : decode cX9_shiftsOf 0 = .ok (.aload_n 0, 1) := by decide +kernel
theorem dX9_shiftsOf_1 : decode cX9_shiftsOf 1 = .ok (.getfield 32, 3) := by decide +kernel
theorem dX9_shiftsOf_4 : decode cX9_shiftsOf 4 = .ok (.iload_n 2, 1) := by decide +kernel
theorem dX9_shiftsOf_5 : decode cX9_shiftsOf 5 = .ok (.iaload, 1) := by decide +kernel
theorem dX9_shiftsOf_6 : decode cX9_shiftsOf 6 = .ok (.istore 4, 2) := by decide +kernel
theorem dX9_shiftsOf_8 : decode cX9_shiftsOf 8 = .ok (.iconst 0, 1) := by decide +kernel
theorem dX9_shiftsOf_9 : decode cX9_shiftsOf 9 = .ok (.istore 5, 2) := by decide +kernel
theorem dX9_shiftsOf_11 : decode cX9_shiftsOf 11 = .ok (.iconst 0, 1) := by decide +kernel
theorem dX9_shiftsOf_12 : decode cX9_shiftsOf 12 = .ok (.istore 6, 2) := by decide +kernel
theorem dX9_shiftsOf_14 : decode cX9_shiftsOf 14 = .ok (.iload 6, 2) := by decide +kernel
theorem dX9_shiftsOf_16 : decode cX9_shiftsOf 16 = .ok (.bipush 19, 2) := by decide +kernel
theorem dX9_shiftsOf_18 : decode cX9_shiftsOf 18 = .ok (.if_icmp .ge 44, 3) := by decide +kernel
theorem dX9_shiftsOf_21 : decode cX9_shiftsOf 21 = .ok (.aload_n 0, 1) := by decide +kernel
theorem dX9_shiftsOf_22 : decode cX9_shiftsOf 22 = .ok (.getfield 32, 3) := by decide +kernel
theorem dX9_shiftsOf_25 : decode cX9_shiftsOf 25 = .ok (.iload_n 2, 1) := by decide +kernel
theorem dX9_shiftsOf_26 : decode cX9_shiftsOf 26 = .ok (.iload 6, 2) := by decide +kernel
theorem dX9_shiftsOf_28 : decode cX9_shiftsOf 28 = .ok (.bipush 9, 2) := by decide +kernel
theorem dX9_shiftsOf_30 : decode cX9_shiftsOf 30 = .ok (.isub, 1) := by decide +kernel
theorem dX9_shiftsOf_31 : decode cX9_shiftsOf 31 = .ok (.iastore, 1) := by decide +kernel
theorem dX9_shiftsOf_32 : decode cX9_shiftsOf 32 = .ok (.iload 5, 2) := by decide +kernel
theorem dX9_shiftsOf_34 : decode cX9_shiftsOf 34 = .ok (.aload_n 0, 1) := by decide +kernel
theorem dX9_shiftsOf_35 : decode cX9_shiftsOf 35 = .ok (.iload_n 1, 1) := by decide +kernel
theorem dX9_shiftsOf_36 : decode cX9_shiftsOf 36 = .ok (.iload_n 2, 1) := by decide +kernel
theorem dX9_shiftsOf_37 : decode cX9_shiftsOf 37 = .ok (.iload_n 3, 1) := by decide +kernel
theorem dX9_shiftsOf_38 : decode cX9_shiftsOf 38 = .ok (.invokevirtual 297, 3) := by decide +kernel
theorem dX9_shiftsOf_41 : decode cX9_shiftsOf 41 = .ok (.iconst (-1), 1) := by decide +kernel
theorem dX9_shiftsOf_42 : decode cX9_shiftsOf 42 = .ok (.if_icmp .ne 7, 3) := by decide +kernel
theorem dX9_shiftsOf_45 : decode cX9_shiftsOf 45 = .ok (.iconst 1, 1) := by decide +kernel
theorem dX9_shiftsOf_46 : decode cX9_shiftsOf 46 = .ok (.goto 4, 3) := by decide +kernel
theorem dX9_shiftsOf_49 : decode cX9_shiftsOf 49 = .ok (.iconst 0, 1) := by decide +kernel
theorem dX9_shiftsOf_50 : decode cX9_shiftsOf 50 = .ok (.iload 6, 2) := by decide +kernel
theorem dX9_shiftsOf_52 : decode cX9_shiftsOf 52 = .ok (.ishl, 1) := by decide +kernel
theorem dX9_shiftsOf_53 : decode cX9_shiftsOf 53 = .ok (.ior, 1) := by decide +kernel
theorem dX9_shiftsOf_54 : decode cX9_shiftsOf 54 = .ok (.istore 5, 2) := by decide +kernel
theorem dX9_shiftsOf_56 : decode cX9_shiftsOf 56 = .ok (.iinc 6 1, 3) := by decide +kernel
theorem dX9_shiftsOf_59 : decode cX9_shiftsOf 59 = .ok (.goto (-45), 3) := by decide +kernel
theorem dX9_shiftsOf_62 : decode cX9_shiftsOf 62 = .ok (.aload_n 0, 1) := by decide +kernel
theorem dX9_shiftsOf_63 : decode cX9_shiftsOf 63 = .ok (.getfield 32, 3) := by decide +kernel
theorem dX9_shiftsOf_66 : decode cX9_shiftsOf 66 = .ok (.iload_n 2, 1) := by decide +kernel
theorem dX9_shiftsOf_67 : decode cX9_shiftsOf 67 = .ok (.iload 4, 2) := by decide +kernel
theorem dX9_shiftsOf_69 : decode cX9_shiftsOf 69 = .ok (.iastore, 1) := by decide +kernel
theorem dX9_shiftsOf_70 : decode cX9_shiftsOf 70 = .ok (.iload 5, 2) := by decide +kernel
theorem dX9_shiftsOf_72 : decode cX9_shiftsOf 72 = .ok (.ireturn, 1) := by decide +kernel
theorem dX9_seen_0 : decode cX9_seen 0 = .ok (.iload 4, 2) := by decide +kernel
theorem dX9_seen_2 : decode cX9_seen 2 = .ok (.i2l, 1) := by decide +kernel
theorem dX9_seen_3 : decode cX9_seen 3 = .ok (.lconst 0, 1) := by decide +kernel
theorem dX9_seen_4 : decode cX9_seen 4 = .ok (.ldc2_w 95, 3) := by decide +kernel
theorem dX9_seen_7 : decode cX9_seen 7 = .ok (.invokestatic 85, 3) := by decide +kernel
theorem dX9_seen_10 : decode cX9_seen 10 = .ok (.ifCond .ne 6, 3) := by decide +kernel
theorem dX9_seen_13 : decode cX9_seen 13 = .ok (.bipush (-2), 2) := by decide +kernel
theorem dX9_seen_15 : decode cX9_seen 15 = .ok (.ireturn, 1) := by decide +kernel
theorem dX9_seen_16 : decode cX9_seen 16 = .ok (.aload_n 0, 1) := by decide +kernel
theorem dX9_seen_17 : decode cX9_seen 17 = .ok (.iload_n 1, 1) := by decide +kernel
theorem dX9_seen_18 : decode cX9_seen 18 = .ok (.iload_n 2, 1) := by decide +kernel
theorem dX9_seen_19 : decode cX9_seen 19 = .ok (.iload_n 3, 1) := by decide +kernel
theorem dX9_seen_20 : decode cX9_seen 20 = .ok (.invokevirtual 300, 3) := by decide +kernel
theorem dX9_seen_23 : decode cX9_seen 23 = .ok (.istore 5, 2) := by decide +kernel
theorem dX9_seen_25 : decode cX9_seen 25 = .ok (.iload 5, 2) := by decide +kernel
theorem dX9_seen_27 : decode cX9_seen 27 = .ok (.ifCond .eq 6, 3) := by decide +kernel
theorem dX9_seen_30 : decode cX9_seen 30 = .ok (.iload 5, 2) := by decide +kernel
theorem dX9_seen_32 : decode cX9_seen 32 = .ok (.ireturn, 1) := by decide +kernel
theorem dX9_seen_33 : decode cX9_seen 33 = .ok (.iload 4, 2) := by decide +kernel
theorem dX9_seen_35 : decode cX9_seen 35 = .ok (.iconst 2, 1) := by decide +kernel
theorem dX9_seen_36 : decode cX9_seen 36 = .ok (.if_icmp .ge 26, 3) := by decide +kernel
theorem dX9_seen_39 : decode cX9_seen 39 = .ok (.iload 4, 2) := by decide +kernel
theorem dX9_seen_41 : decode cX9_seen 41 = .ok (.ifCond .ne 13, 3) := by decide +kernel
theorem dX9_seen_44 : decode cX9_seen 44 = .ok (.aload_n 0, 1) := by decide +kernel
theorem dX9_seen_45 : decode cX9_seen 45 = .ok (.iload_n 1, 1) := by decide +kernel
theorem dX9_seen_46 : decode cX9_seen 46 = .ok (.iload_n 2, 1) := by decide +kernel
theorem dX9_seen_47 : decode cX9_seen 47 = .ok (.iload_n 3, 1) := by decide +kernel
theorem dX9_seen_48 : decode cX9_seen 48 = .ok (.invokevirtual 297, 3) := by decide +kernel
theorem dX9_seen_51 : decode cX9_seen 51 = .ok (.goto 10, 3) := by decide +kernel
theorem dX9_seen_54 : decode cX9_seen 54 = .ok (.aload_n 0, 1) := by decide +kernel
theorem dX9_seen_55 : decode cX9_seen 55 = .ok (.iload_n 1, 1) := by decide +kernel
theorem dX9_seen_56 : decode cX9_seen 56 = .ok (.iload_n 2, 1) := by decide +kernel
theorem dX9_seen_57 : decode cX9_seen 57 = .ok (.iload_n 3, 1) := by decide +kernel
theorem dX9_seen_58 : decode cX9_seen 58 = .ok (.invokevirtual 303, 3) := by decide +kernel
theorem dX9_seen_61 : decode cX9_seen 61 = .ok (.ireturn, 1) := by decide +kernel
theorem dX9_seen_62 : decode cX9_seen 62 = .ok (.aload_n 0, 1) := by decide +kernel
theorem dX9_seen_63 : decode cX9_seen 63 = .ok (.getfield 26, 3) := by decide +kernel
theorem dX9_seen_66 : decode cX9_seen 66 = .ok (.iload_n 2, 1) := by decide +kernel
theorem dX9_seen_67 : decode cX9_seen 67 = .ok (.iaload, 1) := by decide +kernel
theorem dX9_seen_68 : decode cX9_seen 68 = .ok (.istore 6, 2) := by decide +kernel
theorem dX9_seen_70 : decode cX9_seen 70 = .ok (.iconst 0, 1) := by decide +kernel
theorem dX9_seen_71 : decode cX9_seen 71 = .ok (.istore 7, 2) := by decide +kernel
theorem dX9_seen_73 : decode cX9_seen 73 = .ok (.iconst 0, 1) := by decide +kernel
theorem dX9_seen_74 : decode cX9_seen 74 = .ok (.istore 8, 2) := by decide +kernel
theorem dX9_seen_76 : decode cX9_seen 76 = .ok (.iload 8, 2) := by decide +kernel
theorem dX9_seen_78 : decode cX9_seen 78 = .ok (.iconst 5, 1) := by decide +kernel
theorem dX9_seen_79 : decode cX9_seen 79 = .ok (.if_icmp .gt 41, 3) := by decide +kernel
theorem dX9_seen_82 : decode cX9_seen 82 = .ok (.aload_n 0, 1) := by decide +kernel
theorem dX9_seen_83 : decode cX9_seen 83 = .ok (.getfield 26, 3) := by decide +kernel
theorem dX9_seen_86 : decode cX9_seen 86 = .ok (.iload_n 2, 1) := by decide +kernel
theorem dX9_seen_87 : decode cX9_seen 87 = .ok (.iload 8, 2) := by decide +kernel
theorem dX9_seen_89 : decode cX9_seen 89 = .ok (.iastore, 1) := by decide +kernel
theorem dX9_seen_90 : decode cX9_seen 90 = .ok (.iload 7, 2) := by decide +kernel
theorem dX9_seen_92 : decode cX9_seen 92 = .ok (.aload_n 0, 1) := by decide +kernel
theorem dX9_seen_93 : decode cX9_seen 93 = .ok (.iload_n 1, 1) := by decide +kernel
theorem dX9_seen_94 : decode cX9_seen 94 = .ok (.iload_n 2, 1) := by decide +kernel
theorem dX9_seen_95 : decode cX9_seen 95 = .ok (.iload_n 3, 1) := by decide +kernel
theorem dX9_seen_96 : decode cX9_seen 96 = .ok (.invokevirtual 297, 3) := by decide +kernel
theorem dX9_seen_99 : decode cX9_seen 99 = .ok (.iconst (-1), 1) := by decide +kernel
theorem dX9_seen_100 : decode cX9_seen 100 = .ok (.if_icmp .ne 7, 3) := by decide +kernel
theorem dX9_seen_103 : decode cX9_seen 103 = .ok (.iconst 1, 1) := by decide +kernel
theorem dX9_seen_104 : decode cX9_seen 104 = .ok (.goto 4, 3) := by decide +kernel
theorem dX9_seen_107 : decode cX9_seen 107 = .ok (.iconst 0, 1) := by decide +kernel
theorem dX9_seen_108 : decode cX9_seen 108 = .ok (.iload 8, 2) := by decide +kernel
theorem dX9_seen_110 : decode cX9_seen 110 = .ok (.ishl, 1) := by decide +kernel
theorem dX9_seen_111 : decode cX9_seen 111 = .ok (.ior, 1) := by decide +kernel
theorem dX9_seen_112 : decode cX9_seen 112 = .ok (.istore 7, 2) := by decide +kernel
theorem dX9_seen_114 : decode cX9_seen 114 = .ok (.iinc 8 1, 3) := by decide +kernel
theorem dX9_seen_117 : decode cX9_seen 117 = .ok (.goto (-41), 3) := by decide +kernel
theorem dX9_seen_120 : decode cX9_seen 120 = .ok (.aload_n 0, 1) := by decide +kernel
theorem dX9_seen_121 : decode cX9_seen 121 = .ok (.getfield 26, 3) := by decide +kernel
theorem dX9_seen_124 : decode cX9_seen 124 = .ok (.iload_n 2, 1) := by decide +kernel
theorem dX9_seen_125 : decode cX9_seen 125 = .ok (.iload 6, 2) := by decide +kernel
theorem dX9_seen_127 : decode cX9_seen 127 = .ok (.iastore, 1) := by decide +kernel
theorem dX9_seen_128 : decode cX9_seen 128 = .ok (.iload 7, 2) := by decide +kernel
theorem dX9_seen_130 : decode cX9_seen 130 = .ok (.ireturn, 1) := by decide +kernel
theorem dX9_unlikeOn_0 : decode cX9_unlikeOn 0 = .ok (.aload_n 0, 1) := by decide +kernel
theorem dX9_unlikeOn_1 : decode cX9_unlikeOn 1 = .ok (.getfield 32, 3) := by decide +kernel
theorem dX9_unlikeOn_4 : decode cX9_unlikeOn 4 = .ok (.iload_n 1, 1) := by decide +kernel
theorem dX9_unlikeOn_5 : decode cX9_unlikeOn 5 = .ok (.iaload, 1) := by decide +kernel
theorem dX9_unlikeOn_6 : decode cX9_unlikeOn 6 = .ok (.istore 4, 2) := by decide +kernel
theorem dX9_unlikeOn_8 : decode cX9_unlikeOn 8 = .ok (.iconst 0, 1) := by decide +kernel
theorem dX9_unlikeOn_9 : decode cX9_unlikeOn 9 = .ok (.istore 5, 2) := by decide +kernel
theorem dX9_unlikeOn_11 : decode cX9_unlikeOn 11 = .ok (.iconst 0, 1) := by decide +kernel
theorem dX9_unlikeOn_12 : decode cX9_unlikeOn 12 = .ok (.istore 6, 2) := by decide +kernel
theorem dX9_unlikeOn_14 : decode cX9_unlikeOn 14 = .ok (.iload 6, 2) := by decide +kernel
theorem dX9_unlikeOn_16 : decode cX9_unlikeOn 16 = .ok (.bipush 19, 2) := by decide +kernel
theorem dX9_unlikeOn_18 : decode cX9_unlikeOn 18 = .ok (.if_icmp .ge 45, 3) := by decide +kernel
theorem dX9_unlikeOn_21 : decode cX9_unlikeOn 21 = .ok (.iload_n 3, 1) := by decide +kernel
theorem dX9_unlikeOn_22 : decode cX9_unlikeOn 22 = .ok (.iload 6, 2) := by decide +kernel
theorem dX9_unlikeOn_24 : decode cX9_unlikeOn 24 = .ok (.ishr, 1) := by decide +kernel
theorem dX9_unlikeOn_25 : decode cX9_unlikeOn 25 = .ok (.iconst 1, 1) := by decide +kernel
theorem dX9_unlikeOn_26 : decode cX9_unlikeOn 26 = .ok (.iand, 1) := by decide +kernel
theorem dX9_unlikeOn_27 : decode cX9_unlikeOn 27 = .ok (.iconst 1, 1) := by decide +kernel
theorem dX9_unlikeOn_28 : decode cX9_unlikeOn 28 = .ok (.if_icmp .ne 29, 3) := by decide +kernel
theorem dX9_unlikeOn_31 : decode cX9_unlikeOn 31 = .ok (.aload_n 0, 1) := by decide +kernel
theorem dX9_unlikeOn_32 : decode cX9_unlikeOn 32 = .ok (.getfield 32, 3) := by decide +kernel
theorem dX9_unlikeOn_35 : decode cX9_unlikeOn 35 = .ok (.iload_n 1, 1) := by decide +kernel
theorem dX9_unlikeOn_36 : decode cX9_unlikeOn 36 = .ok (.iload 6, 2) := by decide +kernel
theorem dX9_unlikeOn_38 : decode cX9_unlikeOn 38 = .ok (.bipush 9, 2) := by decide +kernel
theorem dX9_unlikeOn_40 : decode cX9_unlikeOn 40 = .ok (.isub, 1) := by decide +kernel
theorem dX9_unlikeOn_41 : decode cX9_unlikeOn 41 = .ok (.iastore, 1) := by decide +kernel
theorem dX9_unlikeOn_42 : decode cX9_unlikeOn 42 = .ok (.iload 5, 2) := by decide +kernel
theorem dX9_unlikeOn_44 : decode cX9_unlikeOn 44 = .ok (.iconst 1, 1) := by decide +kernel
theorem dX9_unlikeOn_45 : decode cX9_unlikeOn 45 = .ok (.aload_n 0, 1) := by decide +kernel
theorem dX9_unlikeOn_46 : decode cX9_unlikeOn 46 = .ok (.iload_n 1, 1) := by decide +kernel
theorem dX9_unlikeOn_47 : decode cX9_unlikeOn 47 = .ok (.iload_n 2, 1) := by decide +kernel
theorem dX9_unlikeOn_48 : decode cX9_unlikeOn 48 = .ok (.invokevirtual 291, 3) := by decide +kernel
theorem dX9_unlikeOn_51 : decode cX9_unlikeOn 51 = .ok (.iconst 1, 1) := by decide +kernel
theorem dX9_unlikeOn_52 : decode cX9_unlikeOn 52 = .ok (.iadd, 1) := by decide +kernel
theorem dX9_unlikeOn_53 : decode cX9_unlikeOn 53 = .ok (.ishl, 1) := by decide +kernel
theorem dX9_unlikeOn_54 : decode cX9_unlikeOn 54 = .ok (.ior, 1) := by decide +kernel
theorem dX9_unlikeOn_55 : decode cX9_unlikeOn 55 = .ok (.istore 5, 2) := by decide +kernel
theorem dX9_unlikeOn_57 : decode cX9_unlikeOn 57 = .ok (.iinc 6 1, 3) := by decide +kernel
theorem dX9_unlikeOn_60 : decode cX9_unlikeOn 60 = .ok (.goto (-46), 3) := by decide +kernel
theorem dX9_unlikeOn_63 : decode cX9_unlikeOn 63 = .ok (.aload_n 0, 1) := by decide +kernel
theorem dX9_unlikeOn_64 : decode cX9_unlikeOn 64 = .ok (.getfield 32, 3) := by decide +kernel
theorem dX9_unlikeOn_67 : decode cX9_unlikeOn 67 = .ok (.iload_n 1, 1) := by decide +kernel
theorem dX9_unlikeOn_68 : decode cX9_unlikeOn 68 = .ok (.iload 4, 2) := by decide +kernel
theorem dX9_unlikeOn_70 : decode cX9_unlikeOn 70 = .ok (.iastore, 1) := by decide +kernel
theorem dX9_unlikeOn_71 : decode cX9_unlikeOn 71 = .ok (.iload 5, 2) := by decide +kernel
theorem dX9_unlikeOn_73 : decode cX9_unlikeOn 73 = .ok (.invokestatic 288, 3) := by decide +kernel
theorem dX9_unlikeOn_76 : decode cX9_unlikeOn 76 = .ok (.ireturn, 1) := by decide +kernel
theorem dX9_lookNext_0 : decode cX9_lookNext 0 = .ok (.iload 4, 2) := by decide +kernel
theorem dX9_lookNext_2 : decode cX9_lookNext 2 = .ok (.i2l, 1) := by decide +kernel
theorem dX9_lookNext_3 : decode cX9_lookNext 3 = .ok (.lconst 0, 1) := by decide +kernel
theorem dX9_lookNext_4 : decode cX9_lookNext 4 = .ok (.lconst 1, 1) := by decide +kernel
theorem dX9_lookNext_5 : decode cX9_lookNext 5 = .ok (.invokestatic 85, 3) := by decide +kernel
theorem dX9_lookNext_8 : decode cX9_lookNext 8 = .ok (.ifCond .ne 6, 3) := by decide +kernel
theorem dX9_lookNext_11 : decode cX9_lookNext 11 = .ok (.bipush (-2), 2) := by decide +kernel
theorem dX9_lookNext_13 : decode cX9_lookNext 13 = .ok (.ireturn, 1) := by decide +kernel
theorem dX9_lookNext_14 : decode cX9_lookNext 14 = .ok (.aload_n 0, 1) := by decide +kernel
theorem dX9_lookNext_15 : decode cX9_lookNext 15 = .ok (.iload_n 1, 1) := by decide +kernel
theorem dX9_lookNext_16 : decode cX9_lookNext 16 = .ok (.iload_n 2, 1) := by decide +kernel
theorem dX9_lookNext_17 : decode cX9_lookNext 17 = .ok (.iload_n 3, 1) := by decide +kernel
theorem dX9_lookNext_18 : decode cX9_lookNext 18 = .ok (.invokevirtual 300, 3) := by decide +kernel
theorem dX9_lookNext_21 : decode cX9_lookNext 21 = .ok (.istore 5, 2) := by decide +kernel
theorem dX9_lookNext_23 : decode cX9_lookNext 23 = .ok (.iload 5, 2) := by decide +kernel
theorem dX9_lookNext_25 : decode cX9_lookNext 25 = .ok (.ifCond .eq 6, 3) := by decide +kernel
theorem dX9_lookNext_28 : decode cX9_lookNext 28 = .ok (.iload 5, 2) := by decide +kernel
theorem dX9_lookNext_30 : decode cX9_lookNext 30 = .ok (.ireturn, 1) := by decide +kernel
theorem dX9_lookNext_31 : decode cX9_lookNext 31 = .ok (.aload_n 0, 1) := by decide +kernel
theorem dX9_lookNext_32 : decode cX9_lookNext 32 = .ok (.iload_n 1, 1) := by decide +kernel
theorem dX9_lookNext_33 : decode cX9_lookNext 33 = .ok (.iload_n 2, 1) := by decide +kernel
theorem dX9_lookNext_34 : decode cX9_lookNext 34 = .ok (.iload_n 3, 1) := by decide +kernel
theorem dX9_lookNext_35 : decode cX9_lookNext 35 = .ok (.invokevirtual 303, 3) := by decide +kernel
theorem dX9_lookNext_38 : decode cX9_lookNext 38 = .ok (.istore 6, 2) := by decide +kernel
theorem dX9_lookNext_40 : decode cX9_lookNext 40 = .ok (.iconst 0, 1) := by decide +kernel
theorem dX9_lookNext_41 : decode cX9_lookNext 41 = .ok (.istore 7, 2) := by decide +kernel
theorem dX9_lookNext_43 : decode cX9_lookNext 43 = .ok (.iconst 0, 1) := by decide +kernel
theorem dX9_lookNext_44 : decode cX9_lookNext 44 = .ok (.istore 8, 2) := by decide +kernel
theorem dX9_lookNext_46 : decode cX9_lookNext 46 = .ok (.iconst 0, 1) := by decide +kernel
theorem dX9_lookNext_47 : decode cX9_lookNext 47 = .ok (.istore 9, 2) := by decide +kernel
theorem dX9_lookNext_49 : decode cX9_lookNext 49 = .ok (.iload 9, 2) := by decide +kernel
theorem dX9_lookNext_51 : decode cX9_lookNext 51 = .ok (.bipush 32, 2) := by decide +kernel
theorem dX9_lookNext_53 : decode cX9_lookNext 53 = .ok (.if_icmp .ge 35, 3) := by decide +kernel
theorem dX9_lookNext_56 : decode cX9_lookNext 56 = .ok (.aload_n 0, 1) := by decide +kernel
theorem dX9_lookNext_57 : decode cX9_lookNext 57 = .ok (.iload_n 2, 1) := by decide +kernel
theorem dX9_lookNext_58 : decode cX9_lookNext 58 = .ok (.iload 9, 2) := by decide +kernel
theorem dX9_lookNext_60 : decode cX9_lookNext 60 = .ok (.iload 6, 2) := by decide +kernel
theorem dX9_lookNext_62 : decode cX9_lookNext 62 = .ok (.invokevirtual 306, 3) := by decide +kernel
theorem dX9_lookNext_65 : decode cX9_lookNext 65 = .ok (.istore 10, 2) := by decide +kernel
theorem dX9_lookNext_67 : decode cX9_lookNext 67 = .ok (.iload 10, 2) := by decide +kernel
theorem dX9_lookNext_69 : decode cX9_lookNext 69 = .ok (.iload 8, 2) := by decide +kernel
theorem dX9_lookNext_71 : decode cX9_lookNext 71 = .ok (.if_icmp .le 11, 3) := by decide +kernel
theorem dX9_lookNext_74 : decode cX9_lookNext 74 = .ok (.iload 9, 2) := by decide +kernel
theorem dX9_lookNext_76 : decode cX9_lookNext 76 = .ok (.istore 7, 2) := by decide +kernel
theorem dX9_lookNext_78 : decode cX9_lookNext 78 = .ok (.iload 10, 2) := by decide +kernel
theorem dX9_lookNext_80 : decode cX9_lookNext 80 = .ok (.istore 8, 2) := by decide +kernel
theorem dX9_lookNext_82 : decode cX9_lookNext 82 = .ok (.iinc 9 1, 3) := by decide +kernel
theorem dX9_lookNext_85 : decode cX9_lookNext 85 = .ok (.goto (-36), 3) := by decide +kernel
theorem dX9_lookNext_88 : decode cX9_lookNext 88 = .ok (.iload 4, 2) := by decide +kernel
theorem dX9_lookNext_90 : decode cX9_lookNext 90 = .ok (.ifCond .ne 8, 3) := by decide +kernel
theorem dX9_lookNext_93 : decode cX9_lookNext 93 = .ok (.iload 7, 2) := by decide +kernel
theorem dX9_lookNext_95 : decode cX9_lookNext 95 = .ok (.goto 5, 3) := by decide +kernel
theorem dX9_lookNext_98 : decode cX9_lookNext 98 = .ok (.iload 8, 2) := by decide +kernel
theorem dX9_lookNext_100 : decode cX9_lookNext 100 = .ok (.ireturn, 1) := by decide +kernel
theorem dX9_film_0 : decode cX9_film 0 = .ok (.iload_n 1, 1) := by decide +kernel
theorem dX9_film_1 : decode cX9_film 1 = .ok (.invokestatic 294, 3) := by decide +kernel
theorem dX9_film_4 : decode cX9_film 4 = .ok (.ifCond .eq 31, 3) := by decide +kernel
theorem dX9_film_7 : decode cX9_film 7 = .ok (.aload_n 0, 1) := by decide +kernel
theorem dX9_film_8 : decode cX9_film 8 = .ok (.iload_n 2, 1) := by decide +kernel
theorem dX9_film_9 : decode cX9_film 9 = .ok (.invokevirtual 103, 3) := by decide +kernel
theorem dX9_film_12 : decode cX9_film 12 = .ok (.ifCond .eq 23, 3) := by decide +kernel
theorem dX9_film_15 : decode cX9_film 15 = .ok (.iload_n 3, 1) := by decide +kernel
theorem dX9_film_16 : decode cX9_film 16 = .ok (.invokestatic 99, 3) := by decide +kernel
theorem dX9_film_19 : decode cX9_film 19 = .ok (.ifCond .eq 16, 3) := by decide +kernel
theorem dX9_film_22 : decode cX9_film 22 = .ok (.iload 4, 2) := by decide +kernel
theorem dX9_film_24 : decode cX9_film 24 = .ok (.i2l, 1) := by decide +kernel
theorem dX9_film_25 : decode cX9_film 25 = .ok (.lconst 0, 1) := by decide +kernel
theorem dX9_film_26 : decode cX9_film 26 = .ok (.ldc2_w 172, 3) := by decide +kernel
theorem dX9_film_29 : decode cX9_film 29 = .ok (.invokestatic 85, 3) := by decide +kernel
theorem dX9_film_32 : decode cX9_film 32 = .ok (.ifCond .ne 6, 3) := by decide +kernel
theorem dX9_film_35 : decode cX9_film 35 = .ok (.bipush (-2), 2) := by decide +kernel
theorem dX9_film_37 : decode cX9_film 37 = .ok (.ireturn, 1) := by decide +kernel
theorem dX9_film_38 : decode cX9_film 38 = .ok (.aload_n 0, 1) := by decide +kernel
theorem dX9_film_39 : decode cX9_film 39 = .ok (.iload_n 1, 1) := by decide +kernel
theorem dX9_film_40 : decode cX9_film 40 = .ok (.iconst 0, 1) := by decide +kernel
theorem dX9_film_41 : decode cX9_film 41 = .ok (.iload 4, 2) := by decide +kernel
theorem dX9_film_43 : decode cX9_film 43 = .ok (.invokevirtual 309, 3) := by decide +kernel
theorem dX9_film_46 : decode cX9_film 46 = .ok (.pop, 1) := by decide +kernel
theorem dX9_film_47 : decode cX9_film 47 = .ok (.iconst 0, 1) := by decide +kernel
theorem dX9_film_48 : decode cX9_film 48 = .ok (.istore 5, 2) := by decide +kernel
theorem dX9_film_50 : decode cX9_film 50 = .ok (.iload 5, 2) := by decide +kernel
theorem dX9_film_52 : decode cX9_film 52 = .ok (.iload 4, 2) := by decide +kernel
theorem dX9_film_54 : decode cX9_film 54 = .ok (.if_icmp .ge 30, 3) := by decide +kernel
theorem dX9_film_57 : decode cX9_film 57 = .ok (.aload_n 0, 1) := by decide +kernel
theorem dX9_film_58 : decode cX9_film 58 = .ok (.getfield 72, 3) := by decide +kernel
theorem dX9_film_61 : decode cX9_film 61 = .ok (.bipush 40, 2) := by decide +kernel
theorem dX9_film_63 : decode cX9_film 63 = .ok (.iload_n 1, 1) := by decide +kernel
theorem dX9_film_64 : decode cX9_film 64 = .ok (.imul, 1) := by decide +kernel
theorem dX9_film_65 : decode cX9_film 65 = .ok (.iload 5, 2) := by decide +kernel
theorem dX9_film_67 : decode cX9_film 67 = .ok (.iadd, 1) := by decide +kernel
theorem dX9_film_68 : decode cX9_film 68 = .ok (.aload_n 0, 1) := by decide +kernel
theorem dX9_film_69 : decode cX9_film 69 = .ok (.iload_n 2, 1) := by decide +kernel
theorem dX9_film_70 : decode cX9_film 70 = .ok (.iload_n 3, 1) := by decide +kernel
theorem dX9_film_71 : decode cX9_film 71 = .ok (.iload 5, 2) := by decide +kernel
theorem dX9_film_73 : decode cX9_film 73 = .ok (.iadd, 1) := by decide +kernel
theorem dX9_film_74 : decode cX9_film 74 = .ok (.invokevirtual 291, 3) := by decide +kernel
theorem dX9_film_77 : decode cX9_film 77 = .ok (.iastore, 1) := by decide +kernel
theorem dX9_film_78 : decode cX9_film 78 = .ok (.iinc 5 1, 3) := by decide +kernel
theorem dX9_film_81 : decode cX9_film 81 = .ok (.goto (-31), 3) := by decide +kernel
theorem dX9_film_84 : decode cX9_film 84 = .ok (.iload 4, 2) := by decide +kernel
theorem dX9_film_86 : decode cX9_film 86 = .ok (.ireturn, 1) := by decide +kernel
theorem dX9_rains_0 : decode cX9_rains 0 = .ok (.iconst 0, 1) := by decide +kernel
theorem dX9_rains_1 : decode cX9_rains 1 = .ok (.istore_n 2, 1) := by decide +kernel
theorem dX9_rains_2 : decode cX9_rains 2 = .ok (.iload_n 2, 1) := by decide +kernel
theorem dX9_rains_3 : decode cX9_rains 3 = .ok (.bipush 32, 2) := by decide +kernel
theorem dX9_rains_5 : decode cX9_rains 5 = .ok (.if_icmp .ge 16, 3) := by decide +kernel
theorem dX9_rains_8 : decode cX9_rains 8 = .ok (.aload_n 0, 1) := by decide +kernel
theorem dX9_rains_9 : decode cX9_rains 9 = .ok (.getfield 47, 3) := by decide +kernel
theorem dX9_rains_12 : decode cX9_rains 12 = .ok (.iload_n 2, 1) := by decide +kernel
theorem dX9_rains_13 : decode cX9_rains 13 = .ok (.iconst 0, 1) := by decide +kernel
theorem dX9_rains_14 : decode cX9_rains 14 = .ok (.iastore, 1) := by decide +kernel
theorem dX9_rains_15 : decode cX9_rains 15 = .ok (.iinc 2 1, 3) := by decide +kernel
theorem dX9_rains_18 : decode cX9_rains 18 = .ok (.goto (-16), 3) := by decide +kernel
theorem dX9_rains_21 : decode cX9_rains 21 = .ok (.iconst 0, 1) := by decide +kernel
theorem dX9_rains_22 : decode cX9_rains 22 = .ok (.istore_n 2, 1) := by decide +kernel
theorem dX9_rains_23 : decode cX9_rains 23 = .ok (.iload_n 2, 1) := by decide +kernel
theorem dX9_rains_24 : decode cX9_rains 24 = .ok (.aload_n 0, 1) := by decide +kernel
theorem dX9_rains_25 : decode cX9_rains 25 = .ok (.getfield 82, 3) := by decide +kernel
theorem dX9_rains_28 : decode cX9_rains 28 = .ok (.if_icmp .ge 63, 3) := by decide +kernel
theorem dX9_rains_31 : decode cX9_rains 31 = .ok (.iconst 0, 1) := by decide +kernel
theorem dX9_rains_32 : decode cX9_rains 32 = .ok (.istore_n 3, 1) := by decide +kernel
theorem dX9_rains_33 : decode cX9_rains 33 = .ok (.iload_n 3, 1) := by decide +kernel
theorem dX9_rains_34 : decode cX9_rains 34 = .ok (.bipush 32, 2) := by decide +kernel
theorem dX9_rains_36 : decode cX9_rains 36 = .ok (.if_icmp .ge 49, 3) := by decide +kernel
theorem dX9_rains_39 : decode cX9_rains 39 = .ok (.aload_n 0, 1) := by decide +kernel
theorem dX9_rains_40 : decode cX9_rains 40 = .ok (.iload_n 2, 1) := by decide +kernel
theorem dX9_rains_41 : decode cX9_rains 41 = .ok (.invokevirtual 123, 3) := by decide +kernel
theorem dX9_rains_44 : decode cX9_rains 44 = .ok (.iload_n 1, 1) := by decide +kernel
theorem dX9_rains_45 : decode cX9_rains 45 = .ok (.if_icmp .ne 34, 3) := by decide +kernel
theorem dX9_rains_48 : decode cX9_rains 48 = .ok (.aload_n 0, 1) := by decide +kernel
theorem dX9_rains_49 : decode cX9_rains 49 = .ok (.iload_n 2, 1) := by decide +kernel
theorem dX9_rains_50 : decode cX9_rains 50 = .ok (.iload_n 3, 1) := by decide +kernel
theorem dX9_rains_51 : decode cX9_rains 51 = .ok (.iconst 2, 1) := by decide +kernel
theorem dX9_rains_52 : decode cX9_rains 52 = .ok (.invokevirtual 133, 3) := by decide +kernel
theorem dX9_rains_55 : decode cX9_rains 55 = .ok (.ifCond .eq 24, 3) := by decide +kernel
theorem dX9_rains_58 : decode cX9_rains 58 = .ok (.aload_n 0, 1) := by decide +kernel
theorem dX9_rains_59 : decode cX9_rains 59 = .ok (.getfield 47, 3) := by decide +kernel
theorem dX9_rains_62 : decode cX9_rains 62 = .ok (.aload_n 0, 1) := by decide +kernel
theorem dX9_rains_63 : decode cX9_rains 63 = .ok (.iload_n 2, 1) := by decide +kernel
theorem dX9_rains_64 : decode cX9_rains 64 = .ok (.iload_n 3, 1) := by decide +kernel
theorem dX9_rains_65 : decode cX9_rains 65 = .ok (.invokevirtual 127, 3) := by decide +kernel
theorem dX9_rains_68 : decode cX9_rains 68 = .ok (.dup2, 1) := by decide +kernel
theorem dX9_rains_69 : decode cX9_rains 69 = .ok (.iaload, 1) := by decide +kernel
theorem dX9_rains_70 : decode cX9_rains 70 = .ok (.aload_n 0, 1) := by decide +kernel
theorem dX9_rains_71 : decode cX9_rains 71 = .ok (.iconst 1, 1) := by decide +kernel
theorem dX9_rains_72 : decode cX9_rains 72 = .ok (.iload_n 2, 1) := by decide +kernel
theorem dX9_rains_73 : decode cX9_rains 73 = .ok (.iload_n 3, 1) := by decide +kernel
theorem dX9_rains_74 : decode cX9_rains 74 = .ok (.invokevirtual 263, 3) := by decide +kernel
theorem dX9_rains_77 : decode cX9_rains 77 = .ok (.iadd, 1) := by decide +kernel
theorem dX9_rains_78 : decode cX9_rains 78 = .ok (.iastore, 1) := by decide +kernel
theorem dX9_rains_79 : decode cX9_rains 79 = .ok (.iinc 3 1, 3) := by decide +kernel
theorem dX9_rains_82 : decode cX9_rains 82 = .ok (.goto (-49), 3) := by decide +kernel
theorem dX9_rains_85 : decode cX9_rains 85 = .ok (.iinc 2 1, 3) := by decide +kernel
theorem dX9_rains_88 : decode cX9_rains 88 = .ok (.goto (-65), 3) := by decide +kernel
theorem dX9_rains_91 : decode cX9_rains 91 = .ok (.return_, 1) := by decide +kernel
theorem dX9_wetAll_0 : decode cX9_wetAll 0 = .ok (.iconst 0, 1) := by decide +kernel
theorem dX9_wetAll_1 : decode cX9_wetAll 1 = .ok (.istore_n 1, 1) := by decide +kernel
theorem dX9_wetAll_2 : decode cX9_wetAll 2 = .ok (.iconst 0, 1) := by decide +kernel
theorem dX9_wetAll_3 : decode cX9_wetAll 3 = .ok (.istore_n 2, 1) := by decide +kernel
theorem dX9_wetAll_4 : decode cX9_wetAll 4 = .ok (.iload_n 2, 1) := by decide +kernel
theorem dX9_wetAll_5 : decode cX9_wetAll 5 = .ok (.bipush 32, 2) := by decide +kernel
theorem dX9_wetAll_7 : decode cX9_wetAll 7 = .ok (.if_icmp .ge 18, 3) := by decide +kernel
theorem dX9_wetAll_10 : decode cX9_wetAll 10 = .ok (.iload_n 1, 1) := by decide +kernel
theorem dX9_wetAll_11 : decode cX9_wetAll 11 = .ok (.aload_n 0, 1) := by decide +kernel
theorem dX9_wetAll_12 : decode cX9_wetAll 12 = .ok (.getfield 47, 3) := by decide +kernel
theorem dX9_wetAll_15 : decode cX9_wetAll 15 = .ok (.iload_n 2, 1) := by decide +kernel
theorem dX9_wetAll_16 : decode cX9_wetAll 16 = .ok (.iaload, 1) := by decide +kernel
theorem dX9_wetAll_17 : decode cX9_wetAll 17 = .ok (.iadd, 1) := by decide +kernel
theorem dX9_wetAll_18 : decode cX9_wetAll 18 = .ok (.istore_n 1, 1) := by decide +kernel
theorem dX9_wetAll_19 : decode cX9_wetAll 19 = .ok (.iinc 2 1, 3) := by decide +kernel
theorem dX9_wetAll_22 : decode cX9_wetAll 22 = .ok (.goto (-18), 3) := by decide +kernel
theorem dX9_wetAll_25 : decode cX9_wetAll 25 = .ok (.iload_n 1, 1) := by decide +kernel
theorem dX9_wetAll_26 : decode cX9_wetAll 26 = .ok (.ireturn, 1) := by decide +kernel
theorem dX9_water_0 : decode cX9_water 0 = .ok (.iload_n 1, 1) := by decide +kernel
theorem dX9_water_1 : decode cX9_water 1 = .ok (.invokestatic 118, 3) := by decide +kernel
theorem dX9_water_4 : decode cX9_water 4 = .ok (.ifCond .eq 10, 3) := by decide +kernel
theorem dX9_water_7 : decode cX9_water 7 = .ok (.iload_n 2, 1) := by decide +kernel
theorem dX9_water_8 : decode cX9_water 8 = .ok (.invokestatic 99, 3) := by decide +kernel
theorem dX9_water_11 : decode cX9_water 11 = .ok (.ifCond .ne 6, 3) := by decide +kernel
theorem dX9_water_14 : decode cX9_water 14 = .ok (.bipush (-2), 2) := by decide +kernel
theorem dX9_water_16 : decode cX9_water 16 = .ok (.ireturn, 1) := by decide +kernel
theorem dX9_water_17 : decode cX9_water 17 = .ok (.aload_n 0, 1) := by decide +kernel
theorem dX9_water_18 : decode cX9_water 18 = .ok (.iload_n 1, 1) := by decide +kernel
theorem dX9_water_19 : decode cX9_water 19 = .ok (.invokevirtual 312, 3) := by decide +kernel
theorem dX9_water_22 : decode cX9_water 22 = .ok (.aload_n 0, 1) := by decide +kernel
theorem dX9_water_23 : decode cX9_water 23 = .ok (.getfield 47, 3) := by decide +kernel
theorem dX9_water_26 : decode cX9_water 26 = .ok (.iload_n 2, 1) := by decide +kernel
theorem dX9_water_27 : decode cX9_water 27 = .ok (.iaload, 1) := by decide +kernel
theorem dX9_water_28 : decode cX9_water 28 = .ok (.ireturn, 1) := by decide +kernel
theorem dX9_wettest_0 : decode cX9_wettest 0 = .ok (.iload_n 1, 1) := by decide +kernel
theorem dX9_wettest_1 : decode cX9_wettest 1 = .ok (.invokestatic 118, 3) := by decide +kernel
theorem dX9_wettest_4 : decode cX9_wettest 4 = .ok (.ifCond .eq 13, 3) := by decide +kernel
theorem dX9_wettest_7 : decode cX9_wettest 7 = .ok (.iload_n 2, 1) := by decide +kernel
theorem dX9_wettest_8 : decode cX9_wettest 8 = .ok (.i2l, 1) := by decide +kernel
theorem dX9_wettest_9 : decode cX9_wettest 9 = .ok (.lconst 0, 1) := by decide +kernel
theorem dX9_wettest_10 : decode cX9_wettest 10 = .ok (.lconst 1, 1) := by decide +kernel
theorem dX9_wettest_11 : decode cX9_wettest 11 = .ok (.invokestatic 85, 3) := by decide +kernel
theorem dX9_wettest_14 : decode cX9_wettest 14 = .ok (.ifCond .ne 6, 3) := by decide +kernel
theorem dX9_wettest_17 : decode cX9_wettest 17 = .ok (.bipush (-2), 2) := by decide +kernel
theorem dX9_wettest_19 : decode cX9_wettest 19 = .ok (.ireturn, 1) := by decide +kernel
theorem dX9_wettest_20 : decode cX9_wettest 20 = .ok (.aload_n 0, 1) := by decide +kernel
theorem dX9_wettest_21 : decode cX9_wettest 21 = .ok (.iload_n 1, 1) := by decide +kernel
theorem dX9_wettest_22 : decode cX9_wettest 22 = .ok (.invokevirtual 312, 3) := by decide +kernel
theorem dX9_wettest_25 : decode cX9_wettest 25 = .ok (.iconst 0, 1) := by decide +kernel
theorem dX9_wettest_26 : decode cX9_wettest 26 = .ok (.istore_n 3, 1) := by decide +kernel
theorem dX9_wettest_27 : decode cX9_wettest 27 = .ok (.iconst 1, 1) := by decide +kernel
theorem dX9_wettest_28 : decode cX9_wettest 28 = .ok (.istore 4, 2) := by decide +kernel
theorem dX9_wettest_30 : decode cX9_wettest 30 = .ok (.iload 4, 2) := by decide +kernel
theorem dX9_wettest_32 : decode cX9_wettest 32 = .ok (.bipush 32, 2) := by decide +kernel
theorem dX9_wettest_34 : decode cX9_wettest 34 = .ok (.if_icmp .ge 32, 3) := by decide +kernel
theorem dX9_wettest_37 : decode cX9_wettest 37 = .ok (.aload_n 0, 1) := by decide +kernel
theorem dX9_wettest_38 : decode cX9_wettest 38 = .ok (.getfield 47, 3) := by decide +kernel
theorem dX9_wettest_41 : decode cX9_wettest 41 = .ok (.iload 4, 2) := by decide +kernel
theorem dX9_wettest_43 : decode cX9_wettest 43 = .ok (.iaload, 1) := by decide +kernel
theorem dX9_wettest_44 : decode cX9_wettest 44 = .ok (.aload_n 0, 1) := by decide +kernel
theorem dX9_wettest_45 : decode cX9_wettest 45 = .ok (.getfield 47, 3) := by decide +kernel
theorem dX9_wettest_48 : decode cX9_wettest 48 = .ok (.iload_n 3, 1) := by decide +kernel
theorem dX9_wettest_49 : decode cX9_wettest 49 = .ok (.iaload, 1) := by decide +kernel
theorem dX9_wettest_50 : decode cX9_wettest 50 = .ok (.if_icmp .le 8, 3) := by decide +kernel
theorem dX9_wettest_53 : decode cX9_wettest 53 = .ok (.iload 4, 2) := by decide +kernel
theorem dX9_wettest_55 : decode cX9_wettest 55 = .ok (.goto 4, 3) := by decide +kernel
theorem dX9_wettest_58 : decode cX9_wettest 58 = .ok (.iload_n 3, 1) := by decide +kernel
theorem dX9_wettest_59 : decode cX9_wettest 59 = .ok (.istore_n 3, 1) := by decide +kernel
theorem dX9_wettest_60 : decode cX9_wettest 60 = .ok (.iinc 4 1, 3) := by decide +kernel
theorem dX9_wettest_63 : decode cX9_wettest 63 = .ok (.goto (-33), 3) := by decide +kernel
theorem dX9_wettest_66 : decode cX9_wettest 66 = .ok (.iload_n 2, 1) := by decide +kernel
theorem dX9_wettest_67 : decode cX9_wettest 67 = .ok (.ifCond .ne 7, 3) := by decide +kernel
theorem dX9_wettest_70 : decode cX9_wettest 70 = .ok (.iload_n 3, 1) := by decide +kernel
theorem dX9_wettest_71 : decode cX9_wettest 71 = .ok (.goto 7, 3) := by decide +kernel
theorem dX9_wettest_74 : decode cX9_wettest 74 = .ok (.aload_n 0, 1) := by decide +kernel
theorem dX9_wettest_75 : decode cX9_wettest 75 = .ok (.invokevirtual 316, 3) := by decide +kernel
theorem dX9_wettest_78 : decode cX9_wettest 78 = .ok (.ireturn, 1) := by decide +kernel
theorem dX9_viewsFrom_0 : decode cX9_viewsFrom 0 = .ok (.iload_n 1, 1) := by decide +kernel
theorem dX9_viewsFrom_1 : decode cX9_viewsFrom 1 = .ok (.ifCond .ne 23, 3) := by decide +kernel
theorem dX9_viewsFrom_4 : decode cX9_viewsFrom 4 = .ok (.iload_n 3, 1) := by decide +kernel
theorem dX9_viewsFrom_5 : decode cX9_viewsFrom 5 = .ok (.aload_n 0, 1) := by decide +kernel
theorem dX9_viewsFrom_6 : decode cX9_viewsFrom 6 = .ok (.getfield 319, 3) := by decide +kernel
theorem dX9_viewsFrom_9 : decode cX9_viewsFrom 9 = .ok (.if_icmp .le 14, 3) := by decide +kernel
theorem dX9_viewsFrom_12 : decode cX9_viewsFrom 12 = .ok (.aload_n 0, 1) := by decide +kernel
theorem dX9_viewsFrom_13 : decode cX9_viewsFrom 13 = .ok (.iload_n 3, 1) := by decide +kernel
theorem dX9_viewsFrom_14 : decode cX9_viewsFrom 14 = .ok (.putfield 319, 3) := by decide +kernel
theorem dX9_viewsFrom_17 : decode cX9_viewsFrom 17 = .ok (.aload_n 0, 1) := by decide +kernel
theorem dX9_viewsFrom_18 : decode cX9_viewsFrom 18 = .ok (.iload 4, 2) := by decide +kernel
theorem dX9_viewsFrom_20 : decode cX9_viewsFrom 20 = .ok (.putfield 322, 3) := by decide +kernel
theorem dX9_viewsFrom_23 : decode cX9_viewsFrom 23 = .ok (.return_, 1) := by decide +kernel
theorem dX9_viewsFrom_24 : decode cX9_viewsFrom 24 = .ok (.iconst 0, 1) := by decide +kernel
theorem dX9_viewsFrom_25 : decode cX9_viewsFrom 25 = .ok (.istore 6, 2) := by decide +kernel
theorem dX9_viewsFrom_27 : decode cX9_viewsFrom 27 = .ok (.iload 6, 2) := by decide +kernel
theorem dX9_viewsFrom_29 : decode cX9_viewsFrom 29 = .ok (.aload_n 0, 1) := by decide +kernel
theorem dX9_viewsFrom_30 : decode cX9_viewsFrom 30 = .ok (.getfield 82, 3) := by decide +kernel
theorem dX9_viewsFrom_33 : decode cX9_viewsFrom 33 = .ok (.if_icmp .ge 66, 3) := by decide +kernel
theorem dX9_viewsFrom_36 : decode cX9_viewsFrom 36 = .ok (.iload_n 2, 1) := by decide +kernel
theorem dX9_viewsFrom_37 : decode cX9_viewsFrom 37 = .ok (.iload 6, 2) := by decide +kernel
theorem dX9_viewsFrom_39 : decode cX9_viewsFrom 39 = .ok (.ishr, 1) := by decide +kernel
theorem dX9_viewsFrom_40 : decode cX9_viewsFrom 40 = .ok (.iconst 1, 1) := by decide +kernel
theorem dX9_viewsFrom_41 : decode cX9_viewsFrom 41 = .ok (.iand, 1) := by decide +kernel
theorem dX9_viewsFrom_42 : decode cX9_viewsFrom 42 = .ok (.ifCond .ne 51, 3) := by decide +kernel
theorem dX9_viewsFrom_45 : decode cX9_viewsFrom 45 = .ok (.aload_n 0, 1) := by decide +kernel
theorem dX9_viewsFrom_46 : decode cX9_viewsFrom 46 = .ok (.iload 6, 2) := by decide +kernel
theorem dX9_viewsFrom_48 : decode cX9_viewsFrom 48 = .ok (.iload 5, 2) := by decide +kernel
theorem dX9_viewsFrom_50 : decode cX9_viewsFrom 50 = .ok (.iconst 0, 1) := by decide +kernel
theorem dX9_viewsFrom_51 : decode cX9_viewsFrom 51 = .ok (.invokevirtual 133, 3) := by decide +kernel
theorem dX9_viewsFrom_54 : decode cX9_viewsFrom 54 = .ok (.ifCond .eq 39, 3) := by decide +kernel
theorem dX9_viewsFrom_57 : decode cX9_viewsFrom 57 = .ok (.aload_n 0, 1) := by decide +kernel
theorem dX9_viewsFrom_58 : decode cX9_viewsFrom 58 = .ok (.iload_n 1, 1) := by decide +kernel
theorem dX9_viewsFrom_59 : decode cX9_viewsFrom 59 = .ok (.iconst 1, 1) := by decide +kernel
theorem dX9_viewsFrom_60 : decode cX9_viewsFrom 60 = .ok (.isub, 1) := by decide +kernel
theorem dX9_viewsFrom_61 : decode cX9_viewsFrom 61 = .ok (.iload_n 2, 1) := by decide +kernel
theorem dX9_viewsFrom_62 : decode cX9_viewsFrom 62 = .ok (.iconst 1, 1) := by decide +kernel
theorem dX9_viewsFrom_63 : decode cX9_viewsFrom 63 = .ok (.iload 6, 2) := by decide +kernel
theorem dX9_viewsFrom_65 : decode cX9_viewsFrom 65 = .ok (.ishl, 1) := by decide +kernel
theorem dX9_viewsFrom_66 : decode cX9_viewsFrom 66 = .ok (.ior, 1) := by decide +kernel
theorem dX9_viewsFrom_67 : decode cX9_viewsFrom 67 = .ok (.iload_n 3, 1) := by decide +kernel
theorem dX9_viewsFrom_68 : decode cX9_viewsFrom 68 = .ok (.aload_n 0, 1) := by decide +kernel
theorem dX9_viewsFrom_69 : decode cX9_viewsFrom 69 = .ok (.iconst 2, 1) := by decide +kernel
theorem dX9_viewsFrom_70 : decode cX9_viewsFrom 70 = .ok (.iload 6, 2) := by decide +kernel
theorem dX9_viewsFrom_72 : decode cX9_viewsFrom 72 = .ok (.iload 5, 2) := by decide +kernel
theorem dX9_viewsFrom_74 : decode cX9_viewsFrom 74 = .ok (.invokevirtual 263, 3) := by decide +kernel
theorem dX9_viewsFrom_77 : decode cX9_viewsFrom 77 = .ok (.iadd, 1) := by decide +kernel
theorem dX9_viewsFrom_78 : decode cX9_viewsFrom 78 = .ok (.bipush 10, 2) := by decide +kernel
theorem dX9_viewsFrom_80 : decode cX9_viewsFrom 80 = .ok (.iload 4, 2) := by decide +kernel
theorem dX9_viewsFrom_82 : decode cX9_viewsFrom 82 = .ok (.imul, 1) := by decide +kernel
theorem dX9_viewsFrom_83 : decode cX9_viewsFrom 83 = .ok (.iload 6, 2) := by decide +kernel
theorem dX9_viewsFrom_85 : decode cX9_viewsFrom 85 = .ok (.iadd, 1) := by decide +kernel
theorem dX9_viewsFrom_86 : decode cX9_viewsFrom 86 = .ok (.iconst 1, 1) := by decide +kernel
theorem dX9_viewsFrom_87 : decode cX9_viewsFrom 87 = .ok (.iadd, 1) := by decide +kernel
theorem dX9_viewsFrom_88 : decode cX9_viewsFrom 88 = .ok (.iload 5, 2) := by decide +kernel
theorem dX9_viewsFrom_90 : decode cX9_viewsFrom 90 = .ok (.invokevirtual 325, 3) := by decide +kernel
theorem dX9_viewsFrom_93 : decode cX9_viewsFrom 93 = .ok (.iinc 6 1, 3) := by decide +kernel
theorem dX9_viewsFrom_96 : decode cX9_viewsFrom 96 = .ok (.goto (-69), 3) := by decide +kernel
theorem dX9_viewsFrom_99 : decode cX9_viewsFrom 99 = .ok (.return_, 1) := by decide +kernel
theorem dX9_views_0 : decode cX9_views 0 = .ok (.iload_n 1, 1) := by decide +kernel
theorem dX9_views_1 : decode cX9_views 1 = .ok (.invokestatic 99, 3) := by decide +kernel
theorem dX9_views_4 : decode cX9_views 4 = .ok (.ifCond .eq 25, 3) := by decide +kernel
theorem dX9_views_7 : decode cX9_views 7 = .ok (.iload_n 2, 1) := by decide +kernel
theorem dX9_views_8 : decode cX9_views 8 = .ok (.i2l, 1) := by decide +kernel
theorem dX9_views_9 : decode cX9_views 9 = .ok (.lconst 0, 1) := by decide +kernel
theorem dX9_views_10 : decode cX9_views 10 = .ok (.ldc2_w 97, 3) := by decide +kernel
theorem dX9_views_13 : decode cX9_views 13 = .ok (.invokestatic 85, 3) := by decide +kernel
theorem dX9_views_16 : decode cX9_views 16 = .ok (.ifCond .eq 13, 3) := by decide +kernel
theorem dX9_views_19 : decode cX9_views 19 = .ok (.iload_n 3, 1) := by decide +kernel
theorem dX9_views_20 : decode cX9_views 20 = .ok (.i2l, 1) := by decide +kernel
theorem dX9_views_21 : decode cX9_views 21 = .ok (.lconst 0, 1) := by decide +kernel
theorem dX9_views_22 : decode cX9_views 22 = .ok (.lconst 1, 1) := by decide +kernel
theorem dX9_views_23 : decode cX9_views 23 = .ok (.invokestatic 85, 3) := by decide +kernel
theorem dX9_views_26 : decode cX9_views 26 = .ok (.ifCond .ne 6, 3) := by decide +kernel
theorem dX9_views_29 : decode cX9_views 29 = .ok (.bipush (-2), 2) := by decide +kernel
theorem dX9_views_31 : decode cX9_views 31 = .ok (.ireturn, 1) := by decide +kernel
theorem dX9_views_32 : decode cX9_views 32 = .ok (.aload_n 0, 1) := by decide +kernel
theorem dX9_views_33 : decode cX9_views 33 = .ok (.iconst (-1), 1) := by decide +kernel
theorem dX9_views_34 : decode cX9_views 34 = .ok (.putfield 319, 3) := by decide +kernel
theorem dX9_views_37 : decode cX9_views 37 = .ok (.aload_n 0, 1) := by decide +kernel
theorem dX9_views_38 : decode cX9_views 38 = .ok (.iconst (-1), 1) := by decide +kernel
theorem dX9_views_39 : decode cX9_views 39 = .ok (.putfield 322, 3) := by decide +kernel
theorem dX9_views_42 : decode cX9_views 42 = .ok (.aload_n 0, 1) := by decide +kernel
theorem dX9_views_43 : decode cX9_views 43 = .ok (.iload_n 2, 1) := by decide +kernel
theorem dX9_views_44 : decode cX9_views 44 = .ok (.iconst 0, 1) := by decide +kernel
theorem dX9_views_45 : decode cX9_views 45 = .ok (.iconst 0, 1) := by decide +kernel
theorem dX9_views_46 : decode cX9_views 46 = .ok (.iconst 0, 1) := by decide +kernel
theorem dX9_views_47 : decode cX9_views 47 = .ok (.iload_n 1, 1) := by decide +kernel
theorem dX9_views_48 : decode cX9_views 48 = .ok (.invokevirtual 325, 3) := by decide +kernel
theorem dX9_views_51 : decode cX9_views 51 = .ok (.iload_n 3, 1) := by decide +kernel
theorem dX9_views_52 : decode cX9_views 52 = .ok (.ifCond .ne 10, 3) := by decide +kernel
theorem dX9_views_55 : decode cX9_views 55 = .ok (.aload_n 0, 1) := by decide +kernel
theorem dX9_views_56 : decode cX9_views 56 = .ok (.getfield 319, 3) := by decide +kernel
theorem dX9_views_59 : decode cX9_views 59 = .ok (.goto 7, 3) := by decide +kernel
theorem dX9_views_62 : decode cX9_views 62 = .ok (.aload_n 0, 1) := by decide +kernel
theorem dX9_views_63 : decode cX9_views 63 = .ok (.getfield 322, 3) := by decide +kernel
theorem dX9_views_66 : decode cX9_views 66 = .ok (.ireturn, 1) := by decide +kernel
theorem dX9_draws_0 : decode cX9_draws 0 = .ok (.iload_n 2, 1) := by decide +kernel
theorem dX9_draws_1 : decode cX9_draws 1 = .ok (.istore_n 3, 1) := by decide +kernel
theorem dX9_draws_2 : decode cX9_draws 2 = .ok (.iconst 0, 1) := by decide +kernel
theorem dX9_draws_3 : decode cX9_draws 3 = .ok (.istore 4, 2) := by decide +kernel
theorem dX9_draws_5 : decode cX9_draws 5 = .ok (.iload 4, 2) := by decide +kernel
theorem dX9_draws_7 : decode cX9_draws 7 = .ok (.bipush 32, 2) := by decide +kernel
theorem dX9_draws_9 : decode cX9_draws 9 = .ok (.if_icmp .ge 47, 3) := by decide +kernel
theorem dX9_draws_12 : decode cX9_draws 12 = .ok (.aload_n 0, 1) := by decide +kernel
theorem dX9_draws_13 : decode cX9_draws 13 = .ok (.getfield 50, 3) := by decide +kernel
theorem dX9_draws_16 : decode cX9_draws 16 = .ok (.iload 4, 2) := by decide +kernel
theorem dX9_draws_18 : decode cX9_draws 18 = .ok (.aload_n 0, 1) := by decide +kernel
theorem dX9_draws_19 : decode cX9_draws 19 = .ok (.getfield 23, 3) := by decide +kernel
theorem dX9_draws_22 : decode cX9_draws 22 = .ok (.iload 4, 2) := by decide +kernel
theorem dX9_draws_24 : decode cX9_draws 24 = .ok (.iaload, 1) := by decide +kernel
theorem dX9_draws_25 : decode cX9_draws 25 = .ok (.iastore, 1) := by decide +kernel
theorem dX9_draws_26 : decode cX9_draws 26 = .ok (.iload_n 3, 1) := by decide +kernel
theorem dX9_draws_27 : decode cX9_draws 27 = .ok (.ldc_w 329, 3) := by decide +kernel
theorem dX9_draws_30 : decode cX9_draws 30 = .ok (.imul, 1) := by decide +kernel
theorem dX9_draws_31 : decode cX9_draws 31 = .ok (.sipush 12345, 3) := by decide +kernel
theorem dX9_draws_34 : decode cX9_draws 34 = .ok (.iadd, 1) := by decide +kernel
theorem dX9_draws_35 : decode cX9_draws 35 = .ok (.istore_n 3, 1) := by decide +kernel
theorem dX9_draws_36 : decode cX9_draws 36 = .ok (.aload_n 0, 1) := by decide +kernel
theorem dX9_draws_37 : decode cX9_draws 37 = .ok (.getfield 23, 3) := by decide +kernel
theorem dX9_draws_40 : decode cX9_draws 40 = .ok (.iload 4, 2) := by decide +kernel
theorem dX9_draws_42 : decode cX9_draws 42 = .ok (.iload_n 3, 1) := by decide +kernel
theorem dX9_draws_43 : decode cX9_draws 43 = .ok (.bipush 9, 2) := by decide +kernel
theorem dX9_draws_45 : decode cX9_draws 45 = .ok (.iushr, 1) := by decide +kernel
theorem dX9_draws_46 : decode cX9_draws 46 = .ok (.bipush 10, 2) := by decide +kernel
theorem dX9_draws_48 : decode cX9_draws 48 = .ok (.irem, 1) := by decide +kernel
theorem dX9_draws_49 : decode cX9_draws 49 = .ok (.iastore, 1) := by decide +kernel
theorem dX9_draws_50 : decode cX9_draws 50 = .ok (.iinc 4 1, 3) := by decide +kernel
theorem dX9_draws_53 : decode cX9_draws 53 = .ok (.goto (-48), 3) := by decide +kernel
theorem dX9_draws_56 : decode cX9_draws 56 = .ok (.aload_n 0, 1) := by decide +kernel
theorem dX9_draws_57 : decode cX9_draws 57 = .ok (.iload_n 1, 1) := by decide +kernel
theorem dX9_draws_58 : decode cX9_draws 58 = .ok (.invokevirtual 312, 3) := by decide +kernel
theorem dX9_draws_61 : decode cX9_draws 61 = .ok (.iconst 0, 1) := by decide +kernel
theorem dX9_draws_62 : decode cX9_draws 62 = .ok (.istore 4, 2) := by decide +kernel
theorem dX9_draws_64 : decode cX9_draws 64 = .ok (.iload 4, 2) := by decide +kernel
theorem dX9_draws_66 : decode cX9_draws 66 = .ok (.bipush 32, 2) := by decide +kernel
theorem dX9_draws_68 : decode cX9_draws 68 = .ok (.if_icmp .ge 23, 3) := by decide +kernel
theorem dX9_draws_71 : decode cX9_draws 71 = .ok (.aload_n 0, 1) := by decide +kernel
theorem dX9_draws_72 : decode cX9_draws 72 = .ok (.getfield 23, 3) := by decide +kernel
theorem dX9_draws_75 : decode cX9_draws 75 = .ok (.iload 4, 2) := by decide +kernel
theorem dX9_draws_77 : decode cX9_draws 77 = .ok (.aload_n 0, 1) := by decide +kernel
theorem dX9_draws_78 : decode cX9_draws 78 = .ok (.getfield 50, 3) := by decide +kernel
theorem dX9_draws_81 : decode cX9_draws 81 = .ok (.iload 4, 2) := by decide +kernel
theorem dX9_draws_83 : decode cX9_draws 83 = .ok (.iaload, 1) := by decide +kernel
theorem dX9_draws_84 : decode cX9_draws 84 = .ok (.iastore, 1) := by decide +kernel
theorem dX9_draws_85 : decode cX9_draws 85 = .ok (.iinc 4 1, 3) := by decide +kernel
theorem dX9_draws_88 : decode cX9_draws 88 = .ok (.goto (-24), 3) := by decide +kernel
theorem dX9_draws_91 : decode cX9_draws 91 = .ok (.aload_n 0, 1) := by decide +kernel
theorem dX9_draws_92 : decode cX9_draws 92 = .ok (.invokevirtual 316, 3) := by decide +kernel
theorem dX9_draws_95 : decode cX9_draws 95 = .ok (.ireturn, 1) := by decide +kernel
theorem dX9_drawn_0 : decode cX9_drawn 0 = .ok (.iload_n 1, 1) := by decide +kernel
theorem dX9_drawn_1 : decode cX9_drawn 1 = .ok (.invokestatic 118, 3) := by decide +kernel
theorem dX9_drawn_4 : decode cX9_drawn 4 = .ok (.ifCond .eq 12, 3) := by decide +kernel
theorem dX9_drawn_7 : decode cX9_drawn 7 = .ok (.aload_n 0, 1) := by decide +kernel
theorem dX9_drawn_8 : decode cX9_drawn 8 = .ok (.iload_n 1, 1) := by decide +kernel
theorem dX9_drawn_9 : decode cX9_drawn 9 = .ok (.iload_n 2, 1) := by decide +kernel
theorem dX9_drawn_10 : decode cX9_drawn 10 = .ok (.invokevirtual 330, 3) := by decide +kernel
theorem dX9_drawn_13 : decode cX9_drawn 13 = .ok (.goto 5, 3) := by decide +kernel
theorem dX9_drawn_16 : decode cX9_drawn 16 = .ok (.bipush (-2), 2) := by decide +kernel
theorem dX9_drawn_18 : decode cX9_drawn 18 = .ok (.ireturn, 1) := by decide +kernel
theorem dX9_chance_0 : decode cX9_chance 0 = .ok (.iload_n 1, 1) := by decide +kernel
theorem dX9_chance_1 : decode cX9_chance 1 = .ok (.invokestatic 118, 3) := by decide +kernel
theorem dX9_chance_4 : decode cX9_chance 4 = .ok (.ifCond .eq 39, 3) := by decide +kernel
theorem dX9_chance_7 : decode cX9_chance 7 = .ok (.iload_n 3, 1) := by decide +kernel
theorem dX9_chance_8 : decode cX9_chance 8 = .ok (.i2l, 1) := by decide +kernel
theorem dX9_chance_9 : decode cX9_chance 9 = .ok (.lconst 1, 1) := by decide +kernel
theorem dX9_chance_10 : decode cX9_chance 10 = .ok (.ldc2_w 333, 3) := by decide +kernel
theorem dX9_chance_13 : decode cX9_chance 13 = .ok (.invokestatic 85, 3) := by decide +kernel
theorem dX9_chance_16 : decode cX9_chance 16 = .ok (.ifCond .eq 27, 3) := by decide +kernel
theorem dX9_chance_19 : decode cX9_chance 19 = .ok (.iload 4, 2) := by decide +kernel
theorem dX9_chance_21 : decode cX9_chance 21 = .ok (.i2l, 1) := by decide +kernel
theorem dX9_chance_22 : decode cX9_chance 22 = .ok (.lconst 0, 1) := by decide +kernel
theorem dX9_chance_23 : decode cX9_chance 23 = .ok (.ldc2_w 335, 3) := by decide +kernel
theorem dX9_chance_26 : decode cX9_chance 26 = .ok (.invokestatic 85, 3) := by decide +kernel
theorem dX9_chance_29 : decode cX9_chance 29 = .ok (.ifCond .eq 14, 3) := by decide +kernel
theorem dX9_chance_32 : decode cX9_chance 32 = .ok (.iload 5, 2) := by decide +kernel
theorem dX9_chance_34 : decode cX9_chance 34 = .ok (.i2l, 1) := by decide +kernel
theorem dX9_chance_35 : decode cX9_chance 35 = .ok (.lconst 0, 1) := by decide +kernel
theorem dX9_chance_36 : decode cX9_chance 36 = .ok (.lconst 1, 1) := by decide +kernel
theorem dX9_chance_37 : decode cX9_chance 37 = .ok (.invokestatic 85, 3) := by decide +kernel
theorem dX9_chance_40 : decode cX9_chance 40 = .ok (.ifCond .ne 7, 3) := by decide +kernel
theorem dX9_chance_43 : decode cX9_chance 43 = .ok (.ldc2_w 337, 3) := by decide +kernel
theorem dX9_chance_46 : decode cX9_chance 46 = .ok (.lreturn, 1) := by decide +kernel
theorem dX9_chance_47 : decode cX9_chance 47 = .ok (.lconst 0, 1) := by decide +kernel
theorem dX9_chance_48 : decode cX9_chance 48 = .ok (.lstore 6, 2) := by decide +kernel
theorem dX9_chance_50 : decode cX9_chance 50 = .ok (.iconst 0, 1) := by decide +kernel
theorem dX9_chance_51 : decode cX9_chance 51 = .ok (.istore 8, 2) := by decide +kernel
theorem dX9_chance_53 : decode cX9_chance 53 = .ok (.iload 8, 2) := by decide +kernel
theorem dX9_chance_55 : decode cX9_chance 55 = .ok (.iload_n 3, 1) := by decide +kernel
theorem dX9_chance_56 : decode cX9_chance 56 = .ok (.if_icmp .ge 33, 3) := by decide +kernel
theorem dX9_chance_59 : decode cX9_chance 59 = .ok (.lload 6, 2) := by decide +kernel
theorem dX9_chance_61 : decode cX9_chance 61 = .ok (.aload_n 0, 1) := by decide +kernel
theorem dX9_chance_62 : decode cX9_chance 62 = .ok (.iload_n 1, 1) := by decide +kernel
theorem dX9_chance_63 : decode cX9_chance 63 = .ok (.iload_n 2, 1) := by decide +kernel
theorem dX9_chance_64 : decode cX9_chance 64 = .ok (.iload 8, 2) := by decide +kernel
theorem dX9_chance_66 : decode cX9_chance 66 = .ok (.iadd, 1) := by decide +kernel
theorem dX9_chance_67 : decode cX9_chance 67 = .ok (.invokevirtual 330, 3) := by decide +kernel
theorem dX9_chance_70 : decode cX9_chance 70 = .ok (.iload 4, 2) := by decide +kernel
theorem dX9_chance_72 : decode cX9_chance 72 = .ok (.if_icmp .gt 7, 3) := by decide +kernel
theorem dX9_chance_75 : decode cX9_chance 75 = .ok (.lconst 1, 1) := by decide +kernel
theorem dX9_chance_76 : decode cX9_chance 76 = .ok (.goto 4, 3) := by decide +kernel
theorem dX9_chance_79 : decode cX9_chance 79 = .ok (.lconst 0, 1) := by decide +kernel
theorem dX9_chance_80 : decode cX9_chance 80 = .ok (.ladd, 1) := by decide +kernel
theorem dX9_chance_81 : decode cX9_chance 81 = .ok (.lstore 6, 2) := by decide +kernel
theorem dX9_chance_83 : decode cX9_chance 83 = .ok (.iinc 8 1, 3) := by decide +kernel
theorem dX9_chance_86 : decode cX9_chance 86 = .ok (.goto (-33), 3) := by decide +kernel
theorem dX9_chance_89 : decode cX9_chance 89 = .ok (.lload 6, 2) := by decide +kernel
theorem dX9_chance_91 : decode cX9_chance 91 = .ok (.lstore 8, 2) := by decide +kernel
theorem dX9_chance_93 : decode cX9_chance 93 = .ok (.iload_n 3, 1) := by decide +kernel
theorem dX9_chance_94 : decode cX9_chance 94 = .ok (.i2l, 1) := by decide +kernel
theorem dX9_chance_95 : decode cX9_chance 95 = .ok (.lstore 10, 2) := by decide +kernel
theorem dX9_chance_97 : decode cX9_chance 97 = .ok (.lload 10, 2) := by decide +kernel
theorem dX9_chance_99 : decode cX9_chance 99 = .ok (.lconst 0, 1) := by decide +kernel
theorem dX9_chance_100 : decode cX9_chance 100 = .ok (.lcmp, 1) := by decide +kernel
theorem dX9_chance_101 : decode cX9_chance 101 = .ok (.ifCond .eq 21, 3) := by decide +kernel
theorem dX9_chance_104 : decode cX9_chance 104 = .ok (.lload 8, 2) := by decide +kernel
theorem dX9_chance_106 : decode cX9_chance 106 = .ok (.lload 10, 2) := by decide +kernel
theorem dX9_chance_108 : decode cX9_chance 108 = .ok (.lrem, 1) := by decide +kernel
theorem dX9_chance_109 : decode cX9_chance 109 = .ok (.lstore 12, 2) := by decide +kernel
theorem dX9_chance_111 : decode cX9_chance 111 = .ok (.lload 10, 2) := by decide +kernel
theorem dX9_chance_113 : decode cX9_chance 113 = .ok (.lstore 8, 2) := by decide +kernel
theorem dX9_chance_115 : decode cX9_chance 115 = .ok (.lload 12, 2) := by decide +kernel
theorem dX9_chance_117 : decode cX9_chance 117 = .ok (.lstore 10, 2) := by decide +kernel
theorem dX9_chance_119 : decode cX9_chance 119 = .ok (.goto (-22), 3) := by decide +kernel
theorem dX9_chance_122 : decode cX9_chance 122 = .ok (.iload 5, 2) := by decide +kernel
theorem dX9_chance_124 : decode cX9_chance 124 = .ok (.ifCond .ne 11, 3) := by decide +kernel
theorem dX9_chance_127 : decode cX9_chance 127 = .ok (.lload 6, 2) := by decide +kernel
theorem dX9_chance_129 : decode cX9_chance 129 = .ok (.lload 8, 2) := by decide +kernel
theorem dX9_chance_131 : decode cX9_chance 131 = .ok (.ldiv, 1) := by decide +kernel
theorem dX9_chance_132 : decode cX9_chance 132 = .ok (.goto 8, 3) := by decide +kernel
theorem dX9_chance_135 : decode cX9_chance 135 = .ok (.iload_n 3, 1) := by decide +kernel
theorem dX9_chance_136 : decode cX9_chance 136 = .ok (.i2l, 1) := by decide +kernel
theorem dX9_chance_137 : decode cX9_chance 137 = .ok (.lload 8, 2) := by decide +kernel
theorem dX9_chance_139 : decode cX9_chance 139 = .ok (.ldiv, 1) := by decide +kernel
theorem dX9_chance_140 : decode cX9_chance 140 = .ok (.lreturn, 1) := by decide +kernel
theorem dX9_image_0 : decode cX9_image 0 = .ok (.iconst 0, 1) := by decide +kernel
theorem dX9_image_1 : decode cX9_image 1 = .ok (.istore_n 1, 1) := by decide +kernel
theorem dX9_image_2 : decode cX9_image 2 = .ok (.iload_n 1, 1) := by decide +kernel
theorem dX9_image_3 : decode cX9_image 3 = .ok (.bipush 32, 2) := by decide +kernel
theorem dX9_image_5 : decode cX9_image 5 = .ok (.if_icmp .ge 21, 3) := by decide +kernel
theorem dX9_image_8 : decode cX9_image 8 = .ok (.aload_n 0, 1) := by decide +kernel
theorem dX9_image_9 : decode cX9_image 9 = .ok (.getfield 53, 3) := by decide +kernel
theorem dX9_image_12 : decode cX9_image 12 = .ok (.iload_n 1, 1) := by decide +kernel
theorem dX9_image_13 : decode cX9_image 13 = .ok (.aload_n 0, 1) := by decide +kernel
theorem dX9_image_14 : decode cX9_image 14 = .ok (.getfield 23, 3) := by decide +kernel
theorem dX9_image_17 : decode cX9_image 17 = .ok (.iload_n 1, 1) := by decide +kernel
theorem dX9_image_18 : decode cX9_image 18 = .ok (.iaload, 1) := by decide +kernel
theorem dX9_image_19 : decode cX9_image 19 = .ok (.iastore, 1) := by decide +kernel
theorem dX9_image_20 : decode cX9_image 20 = .ok (.iinc 1 1, 3) := by decide +kernel
theorem dX9_image_23 : decode cX9_image 23 = .ok (.goto (-21), 3) := by decide +kernel
theorem dX9_image_26 : decode cX9_image 26 = .ok (.iconst 0, 1) := by decide +kernel
theorem dX9_image_27 : decode cX9_image 27 = .ok (.istore_n 1, 1) := by decide +kernel
theorem dX9_image_28 : decode cX9_image 28 = .ok (.iload_n 1, 1) := by decide +kernel
theorem dX9_image_29 : decode cX9_image 29 = .ok (.bipush 8, 2) := by decide +kernel
theorem dX9_image_31 : decode cX9_image 31 = .ok (.if_icmp .ge 66, 3) := by decide +kernel
theorem dX9_image_34 : decode cX9_image 34 = .ok (.aload_n 0, 1) := by decide +kernel
theorem dX9_image_35 : decode cX9_image 35 = .ok (.getfield 56, 3) := by decide +kernel
theorem dX9_image_38 : decode cX9_image 38 = .ok (.iload_n 1, 1) := by decide +kernel
theorem dX9_image_39 : decode cX9_image 39 = .ok (.aload_n 0, 1) := by decide +kernel
theorem dX9_image_40 : decode cX9_image 40 = .ok (.getfield 29, 3) := by decide +kernel
theorem dX9_image_43 : decode cX9_image 43 = .ok (.iload_n 1, 1) := by decide +kernel
theorem dX9_image_44 : decode cX9_image 44 = .ok (.iaload, 1) := by decide +kernel
theorem dX9_image_45 : decode cX9_image 45 = .ok (.iastore, 1) := by decide +kernel
theorem dX9_image_46 : decode cX9_image 46 = .ok (.aload_n 0, 1) := by decide +kernel
theorem dX9_image_47 : decode cX9_image 47 = .ok (.getfield 56, 3) := by decide +kernel
theorem dX9_image_50 : decode cX9_image 50 = .ok (.bipush 8, 2) := by decide +kernel
theorem dX9_image_52 : decode cX9_image 52 = .ok (.iload_n 1, 1) := by decide +kernel
theorem dX9_image_53 : decode cX9_image 53 = .ok (.iadd, 1) := by decide +kernel
theorem dX9_image_54 : decode cX9_image 54 = .ok (.aload_n 0, 1) := by decide +kernel
theorem dX9_image_55 : decode cX9_image 55 = .ok (.getfield 32, 3) := by decide +kernel
theorem dX9_image_58 : decode cX9_image 58 = .ok (.iload_n 1, 1) := by decide +kernel
theorem dX9_image_59 : decode cX9_image 59 = .ok (.iaload, 1) := by decide +kernel
theorem dX9_image_60 : decode cX9_image 60 = .ok (.iastore, 1) := by decide +kernel
theorem dX9_image_61 : decode cX9_image 61 = .ok (.aload_n 0, 1) := by decide +kernel
theorem dX9_image_62 : decode cX9_image 62 = .ok (.getfield 56, 3) := by decide +kernel
theorem dX9_image_65 : decode cX9_image 65 = .ok (.bipush 16, 2) := by decide +kernel
theorem dX9_image_67 : decode cX9_image 67 = .ok (.iload_n 1, 1) := by decide +kernel
theorem dX9_image_68 : decode cX9_image 68 = .ok (.iadd, 1) := by decide +kernel
theorem dX9_image_69 : decode cX9_image 69 = .ok (.aload_n 0, 1) := by decide +kernel
theorem dX9_image_70 : decode cX9_image 70 = .ok (.getfield 35, 3) := by decide +kernel
theorem dX9_image_73 : decode cX9_image 73 = .ok (.iload_n 1, 1) := by decide +kernel
theorem dX9_image_74 : decode cX9_image 74 = .ok (.iaload, 1) := by decide +kernel
theorem dX9_image_75 : decode cX9_image 75 = .ok (.iastore, 1) := by decide +kernel
theorem dX9_image_76 : decode cX9_image 76 = .ok (.aload_n 0, 1) := by decide +kernel
theorem dX9_image_77 : decode cX9_image 77 = .ok (.getfield 56, 3) := by decide +kernel
theorem dX9_image_80 : decode cX9_image 80 = .ok (.bipush 24, 2) := by decide +kernel
theorem dX9_image_82 : decode cX9_image 82 = .ok (.iload_n 1, 1) := by decide +kernel
theorem dX9_image_83 : decode cX9_image 83 = .ok (.iadd, 1) := by decide +kernel
theorem dX9_image_84 : decode cX9_image 84 = .ok (.aload_n 0, 1) := by decide +kernel
theorem dX9_image_85 : decode cX9_image 85 = .ok (.getfield 38, 3) := by decide +kernel
theorem dX9_image_88 : decode cX9_image 88 = .ok (.iload_n 1, 1) := by decide +kernel
theorem dX9_image_89 : decode cX9_image 89 = .ok (.iaload, 1) := by decide +kernel
theorem dX9_image_90 : decode cX9_image 90 = .ok (.iastore, 1) := by decide +kernel
theorem dX9_image_91 : decode cX9_image 91 = .ok (.iinc 1 1, 3) := by decide +kernel
theorem dX9_image_94 : decode cX9_image 94 = .ok (.goto (-66), 3) := by decide +kernel
theorem dX9_image_97 : decode cX9_image 97 = .ok (.aload_n 0, 1) := by decide +kernel
theorem dX9_image_98 : decode cX9_image 98 = .ok (.aload_n 0, 1) := by decide +kernel
theorem dX9_image_99 : decode cX9_image 99 = .ok (.getfield 82, 3) := by decide +kernel
theorem dX9_image_102 : decode cX9_image 102 = .ok (.putfield 59, 3) := by decide +kernel
theorem dX9_image_105 : decode cX9_image 105 = .ok (.aload_n 0, 1) := by decide +kernel
theorem dX9_image_106 : decode cX9_image 106 = .ok (.aload_n 0, 1) := by decide +kernel
theorem dX9_image_107 : decode cX9_image 107 = .ok (.getfield 256, 3) := by decide +kernel
theorem dX9_image_110 : decode cX9_image 110 = .ok (.putfield 339, 3) := by decide +kernel
theorem dX9_image_113 : decode cX9_image 113 = .ok (.aload_n 0, 1) := by decide +kernel
theorem dX9_image_114 : decode cX9_image 114 = .ok (.getfield 82, 3) := by decide +kernel
theorem dX9_image_117 : decode cX9_image 117 = .ok (.ireturn, 1) := by decide +kernel
theorem dX9_back_0 : decode cX9_back 0 = .ok (.aload_n 0, 1) := by decide +kernel
theorem dX9_back_1 : decode cX9_back 1 = .ok (.getfield 59, 3) := by decide +kernel
theorem dX9_back_4 : decode cX9_back 4 = .ok (.iconst (-1), 1) := by decide +kernel
theorem dX9_back_5 : decode cX9_back 5 = .ok (.if_icmp .ne 6, 3) := by decide +kernel
theorem dX9_back_8 : decode cX9_back 8 = .ok (.bipush (-3), 2) := by decide +kernel
theorem dX9_back_10 : decode cX9_back 10 = .ok (.ireturn, 1) := by decide +kernel
theorem dX9_back_11 : decode cX9_back 11 = .ok (.iconst 0, 1) := by decide +kernel
theorem dX9_back_12 : decode cX9_back 12 = .ok (.istore_n 1, 1) := by decide +kernel
theorem dX9_back_13 : decode cX9_back 13 = .ok (.iload_n 1, 1) := by decide +kernel
theorem dX9_back_14 : decode cX9_back 14 = .ok (.bipush 32, 2) := by decide +kernel
theorem dX9_back_16 : decode cX9_back 16 = .ok (.if_icmp .ge 21, 3) := by decide +kernel
theorem dX9_back_19 : decode cX9_back 19 = .ok (.aload_n 0, 1) := by decide +kernel
theorem dX9_back_20 : decode cX9_back 20 = .ok (.getfield 23, 3) := by decide +kernel
theorem dX9_back_23 : decode cX9_back 23 = .ok (.iload_n 1, 1) := by decide +kernel
theorem dX9_back_24 : decode cX9_back 24 = .ok (.aload_n 0, 1) := by decide +kernel
theorem dX9_back_25 : decode cX9_back 25 = .ok (.getfield 53, 3) := by decide +kernel
theorem dX9_back_28 : decode cX9_back 28 = .ok (.iload_n 1, 1) := by decide +kernel
theorem dX9_back_29 : decode cX9_back 29 = .ok (.iaload, 1) := by decide +kernel
theorem dX9_back_30 : decode cX9_back 30 = .ok (.iastore, 1) := by decide +kernel
theorem dX9_back_31 : decode cX9_back 31 = .ok (.iinc 1 1, 3) := by decide +kernel
theorem dX9_back_34 : decode cX9_back 34 = .ok (.goto (-21), 3) := by decide +kernel
theorem dX9_back_37 : decode cX9_back 37 = .ok (.iconst 0, 1) := by decide +kernel
theorem dX9_back_38 : decode cX9_back 38 = .ok (.istore_n 1, 1) := by decide +kernel
theorem dX9_back_39 : decode cX9_back 39 = .ok (.iload_n 1, 1) := by decide +kernel
theorem dX9_back_40 : decode cX9_back 40 = .ok (.bipush 8, 2) := by decide +kernel
theorem dX9_back_42 : decode cX9_back 42 = .ok (.if_icmp .ge 66, 3) := by decide +kernel
theorem dX9_back_45 : decode cX9_back 45 = .ok (.aload_n 0, 1) := by decide +kernel
theorem dX9_back_46 : decode cX9_back 46 = .ok (.getfield 29, 3) := by decide +kernel
theorem dX9_back_49 : decode cX9_back 49 = .ok (.iload_n 1, 1) := by decide +kernel
theorem dX9_back_50 : decode cX9_back 50 = .ok (.aload_n 0, 1) := by decide +kernel
theorem dX9_back_51 : decode cX9_back 51 = .ok (.getfield 56, 3) := by decide +kernel
theorem dX9_back_54 : decode cX9_back 54 = .ok (.iload_n 1, 1) := by decide +kernel
theorem dX9_back_55 : decode cX9_back 55 = .ok (.iaload, 1) := by decide +kernel
theorem dX9_back_56 : decode cX9_back 56 = .ok (.iastore, 1) := by decide +kernel
theorem dX9_back_57 : decode cX9_back 57 = .ok (.aload_n 0, 1) := by decide +kernel
theorem dX9_back_58 : decode cX9_back 58 = .ok (.getfield 32, 3) := by decide +kernel
theorem dX9_back_61 : decode cX9_back 61 = .ok (.iload_n 1, 1) := by decide +kernel
theorem dX9_back_62 : decode cX9_back 62 = .ok (.aload_n 0, 1) := by decide +kernel
theorem dX9_back_63 : decode cX9_back 63 = .ok (.getfield 56, 3) := by decide +kernel
theorem dX9_back_66 : decode cX9_back 66 = .ok (.bipush 8, 2) := by decide +kernel
theorem dX9_back_68 : decode cX9_back 68 = .ok (.iload_n 1, 1) := by decide +kernel
theorem dX9_back_69 : decode cX9_back 69 = .ok (.iadd, 1) := by decide +kernel
theorem dX9_back_70 : decode cX9_back 70 = .ok (.iaload, 1) := by decide +kernel
theorem dX9_back_71 : decode cX9_back 71 = .ok (.iastore, 1) := by decide +kernel
theorem dX9_back_72 : decode cX9_back 72 = .ok (.aload_n 0, 1) := by decide +kernel
theorem dX9_back_73 : decode cX9_back 73 = .ok (.getfield 35, 3) := by decide +kernel
theorem dX9_back_76 : decode cX9_back 76 = .ok (.iload_n 1, 1) := by decide +kernel
theorem dX9_back_77 : decode cX9_back 77 = .ok (.aload_n 0, 1) := by decide +kernel
theorem dX9_back_78 : decode cX9_back 78 = .ok (.getfield 56, 3) := by decide +kernel
theorem dX9_back_81 : decode cX9_back 81 = .ok (.bipush 16, 2) := by decide +kernel
theorem dX9_back_83 : decode cX9_back 83 = .ok (.iload_n 1, 1) := by decide +kernel
theorem dX9_back_84 : decode cX9_back 84 = .ok (.iadd, 1) := by decide +kernel
theorem dX9_back_85 : decode cX9_back 85 = .ok (.iaload, 1) := by decide +kernel
theorem dX9_back_86 : decode cX9_back 86 = .ok (.iastore, 1) := by decide +kernel
theorem dX9_back_87 : decode cX9_back 87 = .ok (.aload_n 0, 1) := by decide +kernel
theorem dX9_back_88 : decode cX9_back 88 = .ok (.getfield 38, 3) := by decide +kernel
theorem dX9_back_91 : decode cX9_back 91 = .ok (.iload_n 1, 1) := by decide +kernel
theorem dX9_back_92 : decode cX9_back 92 = .ok (.aload_n 0, 1) := by decide +kernel
theorem dX9_back_93 : decode cX9_back 93 = .ok (.getfield 56, 3) := by decide +kernel
theorem dX9_back_96 : decode cX9_back 96 = .ok (.bipush 24, 2) := by decide +kernel
theorem dX9_back_98 : decode cX9_back 98 = .ok (.iload_n 1, 1) := by decide +kernel
theorem dX9_back_99 : decode cX9_back 99 = .ok (.iadd, 1) := by decide +kernel
theorem dX9_back_100 : decode cX9_back 100 = .ok (.iaload, 1) := by decide +kernel
theorem dX9_back_101 : decode cX9_back 101 = .ok (.iastore, 1) := by decide +kernel
theorem dX9_back_102 : decode cX9_back 102 = .ok (.iinc 1 1, 3) := by decide +kernel
theorem dX9_back_105 : decode cX9_back 105 = .ok (.goto (-66), 3) := by decide +kernel
theorem dX9_back_108 : decode cX9_back 108 = .ok (.aload_n 0, 1) := by decide +kernel
theorem dX9_back_109 : decode cX9_back 109 = .ok (.aload_n 0, 1) := by decide +kernel
theorem dX9_back_110 : decode cX9_back 110 = .ok (.getfield 59, 3) := by decide +kernel
theorem dX9_back_113 : decode cX9_back 113 = .ok (.putfield 82, 3) := by decide +kernel
theorem dX9_back_116 : decode cX9_back 116 = .ok (.aload_n 0, 1) := by decide +kernel
theorem dX9_back_117 : decode cX9_back 117 = .ok (.aload_n 0, 1) := by decide +kernel
theorem dX9_back_118 : decode cX9_back 118 = .ok (.getfield 339, 3) := by decide +kernel
theorem dX9_back_121 : decode cX9_back 121 = .ok (.putfield 256, 3) := by decide +kernel
theorem dX9_back_124 : decode cX9_back 124 = .ok (.aload_n 0, 1) := by decide +kernel
theorem dX9_back_125 : decode cX9_back 125 = .ok (.getfield 82, 3) := by decide +kernel
theorem dX9_back_128 : decode cX9_back 128 = .ok (.ireturn, 1) := by decide +kernel
theorem dX9_count_0 : decode cX9_count 0 = .ok (.iload_n 1, 1) := by decide +kernel
theorem dX9_count_1 : decode cX9_count 1 = .ok (.i2l, 1) := by decide +kernel
theorem dX9_count_2 : decode cX9_count 2 = .ok (.lconst 0, 1) := by decide +kernel
theorem dX9_count_3 : decode cX9_count 3 = .ok (.ldc2_w 97, 3) := by decide +kernel
theorem dX9_count_6 : decode cX9_count 6 = .ok (.invokestatic 85, 3) := by decide +kernel
theorem dX9_count_9 : decode cX9_count 9 = .ok (.ifCond .ne 6, 3) := by decide +kernel
theorem dX9_count_12 : decode cX9_count 12 = .ok (.bipush (-2), 2) := by decide +kernel
theorem dX9_count_14 : decode cX9_count 14 = .ok (.ireturn, 1) := by decide +kernel
theorem dX9_count_15 : decode cX9_count 15 = .ok (.iload_n 1, 1) := by decide +kernel
theorem dX9_count_16 : decode cX9_count 16 = .ok (.iconst 4, 1) := by decide +kernel
theorem dX9_count_17 : decode cX9_count 17 = .ok (.if_icmp .ge 43, 3) := by decide +kernel
theorem dX9_count_20 : decode cX9_count 20 = .ok (.iload_n 1, 1) := by decide +kernel
theorem dX9_count_21 : decode cX9_count 21 = .ok (.ifCond .ne 10, 3) := by decide +kernel
theorem dX9_count_24 : decode cX9_count 24 = .ok (.aload_n 0, 1) := by decide +kernel
theorem dX9_count_25 : decode cX9_count 25 = .ok (.getfield 82, 3) := by decide +kernel
theorem dX9_count_28 : decode cX9_count 28 = .ok (.goto 31, 3) := by decide +kernel
theorem dX9_count_31 : decode cX9_count 31 = .ok (.iload_n 1, 1) := by decide +kernel
theorem dX9_count_32 : decode cX9_count 32 = .ok (.iconst 1, 1) := by decide +kernel
theorem dX9_count_33 : decode cX9_count 33 = .ok (.if_icmp .ne 10, 3) := by decide +kernel
theorem dX9_count_36 : decode cX9_count 36 = .ok (.aload_n 0, 1) := by decide +kernel
theorem dX9_count_37 : decode cX9_count 37 = .ok (.getfield 79, 3) := by decide +kernel
theorem dX9_count_40 : decode cX9_count 40 = .ok (.goto 19, 3) := by decide +kernel
theorem dX9_count_43 : decode cX9_count 43 = .ok (.iload_n 1, 1) := by decide +kernel
theorem dX9_count_44 : decode cX9_count 44 = .ok (.iconst 2, 1) := by decide +kernel
theorem dX9_count_45 : decode cX9_count 45 = .ok (.if_icmp .ne 10, 3) := by decide +kernel
theorem dX9_count_48 : decode cX9_count 48 = .ok (.aload_n 0, 1) := by decide +kernel
theorem dX9_count_49 : decode cX9_count 49 = .ok (.getfield 139, 3) := by decide +kernel
theorem dX9_count_52 : decode cX9_count 52 = .ok (.goto 7, 3) := by decide +kernel
theorem dX9_count_55 : decode cX9_count 55 = .ok (.aload_n 0, 1) := by decide +kernel
theorem dX9_count_56 : decode cX9_count 56 = .ok (.getfield 256, 3) := by decide +kernel
theorem dX9_count_59 : decode cX9_count 59 = .ok (.ireturn, 1) := by decide +kernel
theorem dX9_count_60 : decode cX9_count 60 = .ok (.iconst 0, 1) := by decide +kernel
theorem dX9_count_61 : decode cX9_count 61 = .ok (.istore_n 2, 1) := by decide +kernel
theorem dX9_count_62 : decode cX9_count 62 = .ok (.iconst 0, 1) := by decide +kernel
theorem dX9_count_63 : decode cX9_count 63 = .ok (.istore_n 3, 1) := by decide +kernel
theorem dX9_count_64 : decode cX9_count 64 = .ok (.iload_n 3, 1) := by decide +kernel
theorem dX9_count_65 : decode cX9_count 65 = .ok (.bipush 32, 2) := by decide +kernel
theorem dX9_count_67 : decode cX9_count 67 = .ok (.if_icmp .ge 18, 3) := by decide +kernel
theorem dX9_count_70 : decode cX9_count 70 = .ok (.iload_n 2, 1) := by decide +kernel
theorem dX9_count_71 : decode cX9_count 71 = .ok (.aload_n 0, 1) := by decide +kernel
theorem dX9_count_72 : decode cX9_count 72 = .ok (.getfield 23, 3) := by decide +kernel
theorem dX9_count_75 : decode cX9_count 75 = .ok (.iload_n 3, 1) := by decide +kernel
theorem dX9_count_76 : decode cX9_count 76 = .ok (.iaload, 1) := by decide +kernel
theorem dX9_count_77 : decode cX9_count 77 = .ok (.iadd, 1) := by decide +kernel
theorem dX9_count_78 : decode cX9_count 78 = .ok (.istore_n 2, 1) := by decide +kernel
theorem dX9_count_79 : decode cX9_count 79 = .ok (.iinc 3 1, 3) := by decide +kernel
theorem dX9_count_82 : decode cX9_count 82 = .ok (.goto (-18), 3) := by decide +kernel
theorem dX9_count_85 : decode cX9_count 85 = .ok (.iload_n 2, 1) := by decide +kernel
theorem dX9_count_86 : decode cX9_count 86 = .ok (.ireturn, 1) := by decide +kernel
theorem dX9_isSheet_0 : decode cX9_isSheet 0 = .ok (.iload_n 0, 1) := by decide +kernel
theorem dX9_isSheet_1 : decode cX9_isSheet 1 = .ok (.i2l, 1) := by decide +kernel
theorem dX9_isSheet_2 : decode cX9_isSheet 2 = .ok (.lconst 0, 1) := by decide +kernel
theorem dX9_isSheet_3 : decode cX9_isSheet 3 = .ok (.ldc2_w 342, 3) := by decide +kernel
theorem dX9_isSheet_6 : decode cX9_isSheet 6 = .ok (.invokestatic 85, 3) := by decide +kernel
theorem dX9_isSheet_9 : decode cX9_isSheet 9 = .ok (.ireturn, 1) := by decide +kernel
theorem dX9_sheet_0 : decode cX9_sheet 0 = .ok (.iload_n 1, 1) := by decide +kernel
theorem dX9_sheet_1 : decode cX9_sheet 1 = .ok (.invokestatic 294, 3) := by decide +kernel
theorem dX9_sheet_4 : decode cX9_sheet 4 = .ok (.ifCond .eq 27, 3) := by decide +kernel
theorem dX9_sheet_7 : decode cX9_sheet 7 = .ok (.iload_n 2, 1) := by decide +kernel
theorem dX9_sheet_8 : decode cX9_sheet 8 = .ok (.i2l, 1) := by decide +kernel
theorem dX9_sheet_9 : decode cX9_sheet 9 = .ok (.ldc2_w 344, 3) := by decide +kernel
theorem dX9_sheet_12 : decode cX9_sheet 12 = .ok (.ldc2_w 95, 3) := by decide +kernel
theorem dX9_sheet_15 : decode cX9_sheet 15 = .ok (.invokestatic 85, 3) := by decide +kernel
theorem dX9_sheet_18 : decode cX9_sheet 18 = .ok (.ifCond .eq 13, 3) := by decide +kernel
theorem dX9_sheet_21 : decode cX9_sheet 21 = .ok (.iload_n 2, 1) := by decide +kernel
theorem dX9_sheet_22 : decode cX9_sheet 22 = .ok (.ifCond .lt 12, 3) := by decide +kernel
theorem dX9_sheet_25 : decode cX9_sheet 25 = .ok (.iload_n 3, 1) := by decide +kernel
theorem dX9_sheet_26 : decode cX9_sheet 26 = .ok (.bipush 40, 2) := by decide +kernel
theorem dX9_sheet_28 : decode cX9_sheet 28 = .ok (.if_icmp .le 6, 3) := by decide +kernel
theorem dX9_sheet_31 : decode cX9_sheet 31 = .ok (.bipush (-2), 2) := by decide +kernel
theorem dX9_sheet_33 : decode cX9_sheet 33 = .ok (.ireturn, 1) := by decide +kernel
theorem dX9_sheet_34 : decode cX9_sheet 34 = .ok (.iload_n 2, 1) := by decide +kernel
theorem dX9_sheet_35 : decode cX9_sheet 35 = .ok (.ifCond .lt 10, 3) := by decide +kernel
theorem dX9_sheet_38 : decode cX9_sheet 38 = .ok (.iload_n 3, 1) := by decide +kernel
theorem dX9_sheet_39 : decode cX9_sheet 39 = .ok (.ifCond .ge 6, 3) := by decide +kernel
theorem dX9_sheet_42 : decode cX9_sheet 42 = .ok (.bipush (-14), 2) := by decide +kernel
theorem dX9_sheet_44 : decode cX9_sheet 44 = .ok (.ireturn, 1) := by decide +kernel
theorem dX9_sheet_45 : decode cX9_sheet 45 = .ok (.aload_n 0, 1) := by decide +kernel
theorem dX9_sheet_46 : decode cX9_sheet 46 = .ok (.getfield 62, 3) := by decide +kernel
theorem dX9_sheet_49 : decode cX9_sheet 49 = .ok (.iload_n 1, 1) := by decide +kernel
theorem dX9_sheet_50 : decode cX9_sheet 50 = .ok (.iload_n 2, 1) := by decide +kernel
theorem dX9_sheet_51 : decode cX9_sheet 51 = .ok (.ifCond .lt 7, 3) := by decide +kernel
theorem dX9_sheet_54 : decode cX9_sheet 54 = .ok (.iconst 1, 1) := by decide +kernel
theorem dX9_sheet_55 : decode cX9_sheet 55 = .ok (.goto 4, 3) := by decide +kernel
theorem dX9_sheet_58 : decode cX9_sheet 58 = .ok (.iconst 0, 1) := by decide +kernel
theorem dX9_sheet_59 : decode cX9_sheet 59 = .ok (.bastore, 1) := by decide +kernel
theorem dX9_sheet_60 : decode cX9_sheet 60 = .ok (.aload_n 0, 1) := by decide +kernel
theorem dX9_sheet_61 : decode cX9_sheet 61 = .ok (.getfield 66, 3) := by decide +kernel
theorem dX9_sheet_64 : decode cX9_sheet 64 = .ok (.iload_n 1, 1) := by decide +kernel
theorem dX9_sheet_65 : decode cX9_sheet 65 = .ok (.iload_n 2, 1) := by decide +kernel
theorem dX9_sheet_66 : decode cX9_sheet 66 = .ok (.iastore, 1) := by decide +kernel
theorem dX9_sheet_67 : decode cX9_sheet 67 = .ok (.aload_n 0, 1) := by decide +kernel
theorem dX9_sheet_68 : decode cX9_sheet 68 = .ok (.getfield 69, 3) := by decide +kernel
theorem dX9_sheet_71 : decode cX9_sheet 71 = .ok (.iload_n 1, 1) := by decide +kernel
theorem dX9_sheet_72 : decode cX9_sheet 72 = .ok (.iload_n 3, 1) := by decide +kernel
theorem dX9_sheet_73 : decode cX9_sheet 73 = .ok (.iastore, 1) := by decide +kernel
theorem dX9_sheet_74 : decode cX9_sheet 74 = .ok (.iconst 0, 1) := by decide +kernel
theorem dX9_sheet_75 : decode cX9_sheet 75 = .ok (.istore 4, 2) := by decide +kernel
theorem dX9_sheet_77 : decode cX9_sheet 77 = .ok (.iload 4, 2) := by decide +kernel
theorem dX9_sheet_79 : decode cX9_sheet 79 = .ok (.iload_n 3, 1) := by decide +kernel
theorem dX9_sheet_80 : decode cX9_sheet 80 = .ok (.if_icmp .ge 26, 3) := by decide +kernel
theorem dX9_sheet_83 : decode cX9_sheet 83 = .ok (.iload_n 2, 1) := by decide +kernel
theorem dX9_sheet_84 : decode cX9_sheet 84 = .ok (.ifCond .lt 22, 3) := by decide +kernel
theorem dX9_sheet_87 : decode cX9_sheet 87 = .ok (.aload_n 0, 1) := by decide +kernel
theorem dX9_sheet_88 : decode cX9_sheet 88 = .ok (.getfield 72, 3) := by decide +kernel
theorem dX9_sheet_91 : decode cX9_sheet 91 = .ok (.bipush 40, 2) := by decide +kernel
theorem dX9_sheet_93 : decode cX9_sheet 93 = .ok (.iload_n 1, 1) := by decide +kernel
theorem dX9_sheet_94 : decode cX9_sheet 94 = .ok (.imul, 1) := by decide +kernel
theorem dX9_sheet_95 : decode cX9_sheet 95 = .ok (.iload 4, 2) := by decide +kernel
theorem dX9_sheet_97 : decode cX9_sheet 97 = .ok (.iadd, 1) := by decide +kernel
theorem dX9_sheet_98 : decode cX9_sheet 98 = .ok (.iconst 0, 1) := by decide +kernel
theorem dX9_sheet_99 : decode cX9_sheet 99 = .ok (.iastore, 1) := by decide +kernel
theorem dX9_sheet_100 : decode cX9_sheet 100 = .ok (.iinc 4 1, 3) := by decide +kernel
theorem dX9_sheet_103 : decode cX9_sheet 103 = .ok (.goto (-26), 3) := by decide +kernel
theorem dX9_sheet_106 : decode cX9_sheet 106 = .ok (.iconst 1, 1) := by decide +kernel
theorem dX9_sheet_107 : decode cX9_sheet 107 = .ok (.ireturn, 1) := by decide +kernel
theorem dX9_cell_0 : decode cX9_cell 0 = .ok (.iload_n 1, 1) := by decide +kernel
theorem dX9_cell_1 : decode cX9_cell 1 = .ok (.invokestatic 294, 3) := by decide +kernel
theorem dX9_cell_4 : decode cX9_cell 4 = .ok (.ifCond .ne 6, 3) := by decide +kernel
theorem dX9_cell_7 : decode cX9_cell 7 = .ok (.bipush (-2), 2) := by decide +kernel
theorem dX9_cell_9 : decode cX9_cell 9 = .ok (.ireturn, 1) := by decide +kernel
theorem dX9_cell_10 : decode cX9_cell 10 = .ok (.aload_n 0, 1) := by decide +kernel
theorem dX9_cell_11 : decode cX9_cell 11 = .ok (.getfield 62, 3) := by decide +kernel
theorem dX9_cell_14 : decode cX9_cell 14 = .ok (.iload_n 1, 1) := by decide +kernel
theorem dX9_cell_15 : decode cX9_cell 15 = .ok (.baload, 1) := by decide +kernel
theorem dX9_cell_16 : decode cX9_cell 16 = .ok (.ifCond .ne 6, 3) := by decide +kernel
theorem dX9_cell_19 : decode cX9_cell 19 = .ok (.bipush (-11), 2) := by decide +kernel
theorem dX9_cell_21 : decode cX9_cell 21 = .ok (.ireturn, 1) := by decide +kernel
theorem dX9_cell_22 : decode cX9_cell 22 = .ok (.iload_n 2, 1) := by decide +kernel
theorem dX9_cell_23 : decode cX9_cell 23 = .ok (.i2l, 1) := by decide +kernel
theorem dX9_cell_24 : decode cX9_cell 24 = .ok (.lconst 0, 1) := by decide +kernel
theorem dX9_cell_25 : decode cX9_cell 25 = .ok (.aload_n 0, 1) := by decide +kernel
theorem dX9_cell_26 : decode cX9_cell 26 = .ok (.getfield 69, 3) := by decide +kernel
theorem dX9_cell_29 : decode cX9_cell 29 = .ok (.iload_n 1, 1) := by decide +kernel
theorem dX9_cell_30 : decode cX9_cell 30 = .ok (.iaload, 1) := by decide +kernel
theorem dX9_cell_31 : decode cX9_cell 31 = .ok (.iconst 1, 1) := by decide +kernel
theorem dX9_cell_32 : decode cX9_cell 32 = .ok (.isub, 1) := by decide +kernel
theorem dX9_cell_33 : decode cX9_cell 33 = .ok (.i2l, 1) := by decide +kernel
theorem dX9_cell_34 : decode cX9_cell 34 = .ok (.invokestatic 85, 3) := by decide +kernel
theorem dX9_cell_37 : decode cX9_cell 37 = .ok (.ifCond .ne 6, 3) := by decide +kernel
theorem dX9_cell_40 : decode cX9_cell 40 = .ok (.bipush (-12), 2) := by decide +kernel
theorem dX9_cell_42 : decode cX9_cell 42 = .ok (.ireturn, 1) := by decide +kernel
theorem dX9_cell_43 : decode cX9_cell 43 = .ok (.aload_n 0, 1) := by decide +kernel
theorem dX9_cell_44 : decode cX9_cell 44 = .ok (.getfield 72, 3) := by decide +kernel
theorem dX9_cell_47 : decode cX9_cell 47 = .ok (.bipush 40, 2) := by decide +kernel
theorem dX9_cell_49 : decode cX9_cell 49 = .ok (.iload_n 1, 1) := by decide +kernel
theorem dX9_cell_50 : decode cX9_cell 50 = .ok (.imul, 1) := by decide +kernel
theorem dX9_cell_51 : decode cX9_cell 51 = .ok (.iload_n 2, 1) := by decide +kernel
theorem dX9_cell_52 : decode cX9_cell 52 = .ok (.iadd, 1) := by decide +kernel
theorem dX9_cell_53 : decode cX9_cell 53 = .ok (.aload_n 0, 1) := by decide +kernel
theorem dX9_cell_54 : decode cX9_cell 54 = .ok (.getfield 66, 3) := by decide +kernel
theorem dX9_cell_57 : decode cX9_cell 57 = .ok (.iload_n 1, 1) := by decide +kernel
theorem dX9_cell_58 : decode cX9_cell 58 = .ok (.iaload, 1) := by decide +kernel
theorem dX9_cell_59 : decode cX9_cell 59 = .ok (.ifCond .ne 8, 3) := by decide +kernel
theorem dX9_cell_62 : decode cX9_cell 62 = .ok (.iload_n 3, 1) := by decide +kernel
theorem dX9_cell_63 : decode cX9_cell 63 = .ok (.i2b, 1) := by decide +kernel
theorem dX9_cell_64 : decode cX9_cell 64 = .ok (.goto 19, 3) := by decide +kernel
theorem dX9_cell_67 : decode cX9_cell 67 = .ok (.aload_n 0, 1) := by decide +kernel
theorem dX9_cell_68 : decode cX9_cell 68 = .ok (.getfield 66, 3) := by decide +kernel
theorem dX9_cell_71 : decode cX9_cell 71 = .ok (.iload_n 1, 1) := by decide +kernel
theorem dX9_cell_72 : decode cX9_cell 72 = .ok (.iaload, 1) := by decide +kernel
theorem dX9_cell_73 : decode cX9_cell 73 = .ok (.iconst 1, 1) := by decide +kernel
theorem dX9_cell_74 : decode cX9_cell 74 = .ok (.if_icmp .ne 8, 3) := by decide +kernel
theorem dX9_cell_77 : decode cX9_cell 77 = .ok (.iload_n 3, 1) := by decide +kernel
theorem dX9_cell_78 : decode cX9_cell 78 = .ok (.i2s, 1) := by decide +kernel
theorem dX9_cell_79 : decode cX9_cell 79 = .ok (.goto 4, 3) := by decide +kernel
theorem dX9_cell_82 : decode cX9_cell 82 = .ok (.iload_n 3, 1) := by decide +kernel
theorem dX9_cell_83 : decode cX9_cell 83 = .ok (.iastore, 1) := by decide +kernel
theorem dX9_cell_84 : decode cX9_cell 84 = .ok (.iconst 1, 1) := by decide +kernel
theorem dX9_cell_85 : decode cX9_cell 85 = .ok (.ireturn, 1) := by decide +kernel
theorem dX9_copy_0 : decode cX9_copy 0 = .ok (.iload_n 1, 1) := by decide +kernel
theorem dX9_copy_1 : decode cX9_copy 1 = .ok (.invokestatic 294, 3) := by decide +kernel
theorem dX9_copy_4 : decode cX9_copy 4 = .ok (.ifCond .eq 10, 3) := by decide +kernel
theorem dX9_copy_7 : decode cX9_copy 7 = .ok (.iload_n 3, 1) := by decide +kernel
theorem dX9_copy_8 : decode cX9_copy 8 = .ok (.invokestatic 294, 3) := by decide +kernel
theorem dX9_copy_11 : decode cX9_copy 11 = .ok (.ifCond .ne 6, 3) := by decide +kernel
theorem dX9_copy_14 : decode cX9_copy 14 = .ok (.bipush (-2), 2) := by decide +kernel
theorem dX9_copy_16 : decode cX9_copy 16 = .ok (.ireturn, 1) := by decide +kernel
theorem dX9_copy_17 : decode cX9_copy 17 = .ok (.aload_n 0, 1) := by decide +kernel
theorem dX9_copy_18 : decode cX9_copy 18 = .ok (.getfield 62, 3) := by decide +kernel
theorem dX9_copy_21 : decode cX9_copy 21 = .ok (.iload_n 1, 1) := by decide +kernel
theorem dX9_copy_22 : decode cX9_copy 22 = .ok (.baload, 1) := by decide +kernel
theorem dX9_copy_23 : decode cX9_copy 23 = .ok (.ifCond .eq 12, 3) := by decide +kernel
theorem dX9_copy_26 : decode cX9_copy 26 = .ok (.aload_n 0, 1) := by decide +kernel
theorem dX9_copy_27 : decode cX9_copy 27 = .ok (.getfield 62, 3) := by decide +kernel
theorem dX9_copy_30 : decode cX9_copy 30 = .ok (.iload_n 3, 1) := by decide +kernel
theorem dX9_copy_31 : decode cX9_copy 31 = .ok (.baload, 1) := by decide +kernel
theorem dX9_copy_32 : decode cX9_copy 32 = .ok (.ifCond .ne 6, 3) := by decide +kernel
theorem dX9_copy_35 : decode cX9_copy 35 = .ok (.bipush (-11), 2) := by decide +kernel
theorem dX9_copy_37 : decode cX9_copy 37 = .ok (.ireturn, 1) := by decide +kernel
theorem dX9_copy_38 : decode cX9_copy 38 = .ok (.aload_n 0, 1) := by decide +kernel
theorem dX9_copy_39 : decode cX9_copy 39 = .ok (.getfield 66, 3) := by decide +kernel
theorem dX9_copy_42 : decode cX9_copy 42 = .ok (.iload_n 1, 1) := by decide +kernel
theorem dX9_copy_43 : decode cX9_copy 43 = .ok (.iaload, 1) := by decide +kernel
theorem dX9_copy_44 : decode cX9_copy 44 = .ok (.aload_n 0, 1) := by decide +kernel
theorem dX9_copy_45 : decode cX9_copy 45 = .ok (.getfield 66, 3) := by decide +kernel
theorem dX9_copy_48 : decode cX9_copy 48 = .ok (.iload_n 3, 1) := by decide +kernel
theorem dX9_copy_49 : decode cX9_copy 49 = .ok (.iaload, 1) := by decide +kernel
theorem dX9_copy_50 : decode cX9_copy 50 = .ok (.if_icmp .eq 6, 3) := by decide +kernel
theorem dX9_copy_53 : decode cX9_copy 53 = .ok (.bipush (-13), 2) := by decide +kernel
theorem dX9_copy_55 : decode cX9_copy 55 = .ok (.ireturn, 1) := by decide +kernel
theorem dX9_copy_56 : decode cX9_copy 56 = .ok (.iload 5, 2) := by decide +kernel
theorem dX9_copy_58 : decode cX9_copy 58 = .ok (.ifCond .lt 39, 3) := by decide +kernel
theorem dX9_copy_61 : decode cX9_copy 61 = .ok (.iload_n 2, 1) := by decide +kernel
theorem dX9_copy_62 : decode cX9_copy 62 = .ok (.ifCond .lt 35, 3) := by decide +kernel
theorem dX9_copy_65 : decode cX9_copy 65 = .ok (.iload 4, 2) := by decide +kernel
theorem dX9_copy_67 : decode cX9_copy 67 = .ok (.ifCond .lt 30, 3) := by decide +kernel
theorem dX9_copy_70 : decode cX9_copy 70 = .ok (.iload_n 2, 1) := by decide +kernel
theorem dX9_copy_71 : decode cX9_copy 71 = .ok (.aload_n 0, 1) := by decide +kernel
theorem dX9_copy_72 : decode cX9_copy 72 = .ok (.getfield 69, 3) := by decide +kernel
theorem dX9_copy_75 : decode cX9_copy 75 = .ok (.iload_n 1, 1) := by decide +kernel
theorem dX9_copy_76 : decode cX9_copy 76 = .ok (.iaload, 1) := by decide +kernel
theorem dX9_copy_77 : decode cX9_copy 77 = .ok (.iload 5, 2) := by decide +kernel
theorem dX9_copy_79 : decode cX9_copy 79 = .ok (.isub, 1) := by decide +kernel
theorem dX9_copy_80 : decode cX9_copy 80 = .ok (.if_icmp .gt 17, 3) := by decide +kernel
theorem dX9_copy_83 : decode cX9_copy 83 = .ok (.iload 4, 2) := by decide +kernel
theorem dX9_copy_85 : decode cX9_copy 85 = .ok (.aload_n 0, 1) := by decide +kernel
theorem dX9_copy_86 : decode cX9_copy 86 = .ok (.getfield 69, 3) := by decide +kernel
theorem dX9_copy_89 : decode cX9_copy 89 = .ok (.iload_n 3, 1) := by decide +kernel
theorem dX9_copy_90 : decode cX9_copy 90 = .ok (.iaload, 1) := by decide +kernel
theorem dX9_copy_91 : decode cX9_copy 91 = .ok (.iload 5, 2) := by decide +kernel
theorem dX9_copy_93 : decode cX9_copy 93 = .ok (.isub, 1) := by decide +kernel
theorem dX9_copy_94 : decode cX9_copy 94 = .ok (.if_icmp .le 6, 3) := by decide +kernel
theorem dX9_copy_97 : decode cX9_copy 97 = .ok (.bipush (-12), 2) := by decide +kernel
theorem dX9_copy_99 : decode cX9_copy 99 = .ok (.ireturn, 1) := by decide +kernel
theorem dX9_copy_100 : decode cX9_copy 100 = .ok (.iload_n 1, 1) := by decide +kernel
theorem dX9_copy_101 : decode cX9_copy 101 = .ok (.iload_n 3, 1) := by decide +kernel
theorem dX9_copy_102 : decode cX9_copy 102 = .ok (.if_icmp .ne 13, 3) := by decide +kernel
theorem dX9_copy_105 : decode cX9_copy 105 = .ok (.iload_n 2, 1) := by decide +kernel
theorem dX9_copy_106 : decode cX9_copy 106 = .ok (.iload 4, 2) := by decide +kernel
theorem dX9_copy_108 : decode cX9_copy 108 = .ok (.if_icmp .ge 7, 3) := by decide +kernel
theorem dX9_copy_111 : decode cX9_copy 111 = .ok (.iconst 1, 1) := by decide +kernel
theorem dX9_copy_112 : decode cX9_copy 112 = .ok (.goto 4, 3) := by decide +kernel
theorem dX9_copy_115 : decode cX9_copy 115 = .ok (.iconst 0, 1) := by decide +kernel
theorem dX9_copy_116 : decode cX9_copy 116 = .ok (.istore 6, 2) := by decide +kernel
theorem dX9_copy_118 : decode cX9_copy 118 = .ok (.iconst 0, 1) := by decide +kernel
theorem dX9_copy_119 : decode cX9_copy 119 = .ok (.istore 7, 2) := by decide +kernel
theorem dX9_copy_121 : decode cX9_copy 121 = .ok (.iload 7, 2) := by decide +kernel
theorem dX9_copy_123 : decode cX9_copy 123 = .ok (.iload 5, 2) := by decide +kernel
theorem dX9_copy_125 : decode cX9_copy 125 = .ok (.if_icmp .ge 57, 3) := by decide +kernel
theorem dX9_copy_128 : decode cX9_copy 128 = .ok (.iload 6, 2) := by decide +kernel
theorem dX9_copy_130 : decode cX9_copy 130 = .ok (.ifCond .eq 13, 3) := by decide +kernel
theorem dX9_copy_133 : decode cX9_copy 133 = .ok (.iload 5, 2) := by decide +kernel
theorem dX9_copy_135 : decode cX9_copy 135 = .ok (.iconst 1, 1) := by decide +kernel
theorem dX9_copy_136 : decode cX9_copy 136 = .ok (.isub, 1) := by decide +kernel
theorem dX9_copy_137 : decode cX9_copy 137 = .ok (.iload 7, 2) := by decide +kernel
theorem dX9_copy_139 : decode cX9_copy 139 = .ok (.isub, 1) := by decide +kernel
theorem dX9_copy_140 : decode cX9_copy 140 = .ok (.goto 5, 3) := by decide +kernel
theorem dX9_copy_143 : decode cX9_copy 143 = .ok (.iload 7, 2) := by decide +kernel
theorem dX9_copy_145 : decode cX9_copy 145 = .ok (.istore 8, 2) := by decide +kernel
theorem dX9_copy_147 : decode cX9_copy 147 = .ok (.aload_n 0, 1) := by decide +kernel
theorem dX9_copy_148 : decode cX9_copy 148 = .ok (.getfield 72, 3) := by decide +kernel
theorem dX9_copy_151 : decode cX9_copy 151 = .ok (.bipush 40, 2) := by decide +kernel
theorem dX9_copy_153 : decode cX9_copy 153 = .ok (.iload_n 3, 1) := by decide +kernel
theorem dX9_copy_154 : decode cX9_copy 154 = .ok (.imul, 1) := by decide +kernel
theorem dX9_copy_155 : decode cX9_copy 155 = .ok (.iload 4, 2) := by decide +kernel
theorem dX9_copy_157 : decode cX9_copy 157 = .ok (.iadd, 1) := by decide +kernel
theorem dX9_copy_158 : decode cX9_copy 158 = .ok (.iload 8, 2) := by decide +kernel
theorem dX9_copy_160 : decode cX9_copy 160 = .ok (.iadd, 1) := by decide +kernel
theorem dX9_copy_161 : decode cX9_copy 161 = .ok (.aload_n 0, 1) := by decide +kernel
theorem dX9_copy_162 : decode cX9_copy 162 = .ok (.getfield 72, 3) := by decide +kernel
theorem dX9_copy_165 : decode cX9_copy 165 = .ok (.bipush 40, 2) := by decide +kernel
theorem dX9_copy_167 : decode cX9_copy 167 = .ok (.iload_n 1, 1) := by decide +kernel
theorem dX9_copy_168 : decode cX9_copy 168 = .ok (.imul, 1) := by decide +kernel
theorem dX9_copy_169 : decode cX9_copy 169 = .ok (.iload_n 2, 1) := by decide +kernel
theorem dX9_copy_170 : decode cX9_copy 170 = .ok (.iadd, 1) := by decide +kernel
theorem dX9_copy_171 : decode cX9_copy 171 = .ok (.iload 8, 2) := by decide +kernel
theorem dX9_copy_173 : decode cX9_copy 173 = .ok (.iadd, 1) := by decide +kernel
theorem dX9_copy_174 : decode cX9_copy 174 = .ok (.iaload, 1) := by decide +kernel
theorem dX9_copy_175 : decode cX9_copy 175 = .ok (.iastore, 1) := by decide +kernel
theorem dX9_copy_176 : decode cX9_copy 176 = .ok (.iinc 7 1, 3) := by decide +kernel
theorem dX9_copy_179 : decode cX9_copy 179 = .ok (.goto (-58), 3) := by decide +kernel
theorem dX9_copy_182 : decode cX9_copy 182 = .ok (.iload 5, 2) := by decide +kernel
theorem dX9_copy_184 : decode cX9_copy 184 = .ok (.ireturn, 1) := by decide +kernel
theorem dX9_weathers_0 : decode cX9_weathers 0 = .ok (.iload_n 1, 1) := by decide +kernel
theorem dX9_weathers_1 : decode cX9_weathers 1 = .ok (.invokestatic 294, 3) := by decide +kernel
theorem dX9_weathers_4 : decode cX9_weathers 4 = .ok (.ifCond .eq 28, 3) := by decide +kernel
theorem dX9_weathers_7 : decode cX9_weathers 7 = .ok (.iload_n 2, 1) := by decide +kernel
theorem dX9_weathers_8 : decode cX9_weathers 8 = .ok (.i2l, 1) := by decide +kernel
theorem dX9_weathers_9 : decode cX9_weathers 9 = .ok (.lconst 0, 1) := by decide +kernel
theorem dX9_weathers_10 : decode cX9_weathers 10 = .ok (.ldc2_w 95, 3) := by decide +kernel
theorem dX9_weathers_13 : decode cX9_weathers 13 = .ok (.invokestatic 85, 3) := by decide +kernel
theorem dX9_weathers_16 : decode cX9_weathers 16 = .ok (.ifCond .eq 16, 3) := by decide +kernel
theorem dX9_weathers_19 : decode cX9_weathers 19 = .ok (.iload 4, 2) := by decide +kernel
theorem dX9_weathers_21 : decode cX9_weathers 21 = .ok (.i2l, 1) := by decide +kernel
theorem dX9_weathers_22 : decode cX9_weathers 22 = .ok (.lconst 0, 1) := by decide +kernel
theorem dX9_weathers_23 : decode cX9_weathers 23 = .ok (.ldc2_w 333, 3) := by decide +kernel
theorem dX9_weathers_26 : decode cX9_weathers 26 = .ok (.invokestatic 85, 3) := by decide +kernel
theorem dX9_weathers_29 : decode cX9_weathers 29 = .ok (.ifCond .ne 6, 3) := by decide +kernel
theorem dX9_weathers_32 : decode cX9_weathers 32 = .ok (.bipush (-2), 2) := by decide +kernel
theorem dX9_weathers_34 : decode cX9_weathers 34 = .ok (.ireturn, 1) := by decide +kernel
theorem dX9_weathers_35 : decode cX9_weathers 35 = .ok (.aload_n 0, 1) := by decide +kernel
theorem dX9_weathers_36 : decode cX9_weathers 36 = .ok (.getfield 62, 3) := by decide +kernel
theorem dX9_weathers_39 : decode cX9_weathers 39 = .ok (.iload_n 1, 1) := by decide +kernel
theorem dX9_weathers_40 : decode cX9_weathers 40 = .ok (.baload, 1) := by decide +kernel
theorem dX9_weathers_41 : decode cX9_weathers 41 = .ok (.ifCond .eq 16, 3) := by decide +kernel
theorem dX9_weathers_44 : decode cX9_weathers 44 = .ok (.aload_n 0, 1) := by decide +kernel
theorem dX9_weathers_45 : decode cX9_weathers 45 = .ok (.getfield 66, 3) := by decide +kernel
theorem dX9_weathers_48 : decode cX9_weathers 48 = .ok (.iload_n 1, 1) := by decide +kernel
theorem dX9_weathers_49 : decode cX9_weathers 49 = .ok (.iaload, 1) := by decide +kernel
theorem dX9_weathers_50 : decode cX9_weathers 50 = .ok (.iload_n 2, 1) := by decide +kernel
theorem dX9_weathers_51 : decode cX9_weathers 51 = .ok (.if_icmp .eq 6, 3) := by decide +kernel
theorem dX9_weathers_54 : decode cX9_weathers 54 = .ok (.bipush (-13), 2) := by decide +kernel
theorem dX9_weathers_56 : decode cX9_weathers 56 = .ok (.ireturn, 1) := by decide +kernel
theorem dX9_weathers_57 : decode cX9_weathers 57 = .ok (.aload_n 0, 1) := by decide +kernel
theorem dX9_weathers_58 : decode cX9_weathers 58 = .ok (.getfield 62, 3) := by decide +kernel
theorem dX9_weathers_61 : decode cX9_weathers 61 = .ok (.iload_n 1, 1) := by decide +kernel
theorem dX9_weathers_62 : decode cX9_weathers 62 = .ok (.baload, 1) := by decide +kernel
theorem dX9_weathers_63 : decode cX9_weathers 63 = .ok (.ifCond .ne 6, 3) := by decide +kernel
theorem dX9_weathers_66 : decode cX9_weathers 66 = .ok (.bipush (-11), 2) := by decide +kernel
theorem dX9_weathers_68 : decode cX9_weathers 68 = .ok (.ireturn, 1) := by decide +kernel
theorem dX9_weathers_69 : decode cX9_weathers 69 = .ok (.iconst 0, 1) := by decide +kernel
theorem dX9_weathers_70 : decode cX9_weathers 70 = .ok (.istore 5, 2) := by decide +kernel
theorem dX9_weathers_72 : decode cX9_weathers 72 = .ok (.iconst 0, 1) := by decide +kernel
theorem dX9_weathers_73 : decode cX9_weathers 73 = .ok (.istore 6, 2) := by decide +kernel
theorem dX9_weathers_75 : decode cX9_weathers 75 = .ok (.iload 6, 2) := by decide +kernel
theorem dX9_weathers_77 : decode cX9_weathers 77 = .ok (.iload 4, 2) := by decide +kernel
theorem dX9_weathers_79 : decode cX9_weathers 79 = .ok (.if_icmp .ge 80, 3) := by decide +kernel
theorem dX9_weathers_82 : decode cX9_weathers 82 = .ok (.iload_n 3, 1) := by decide +kernel
theorem dX9_weathers_83 : decode cX9_weathers 83 = .ok (.ifCond .lt 20, 3) := by decide +kernel
theorem dX9_weathers_86 : decode cX9_weathers 86 = .ok (.iload_n 3, 1) := by decide +kernel
theorem dX9_weathers_87 : decode cX9_weathers 87 = .ok (.aload_n 0, 1) := by decide +kernel
theorem dX9_weathers_88 : decode cX9_weathers 88 = .ok (.getfield 69, 3) := by decide +kernel
theorem dX9_weathers_91 : decode cX9_weathers 91 = .ok (.iload_n 1, 1) := by decide +kernel
theorem dX9_weathers_92 : decode cX9_weathers 92 = .ok (.iaload, 1) := by decide +kernel
theorem dX9_weathers_93 : decode cX9_weathers 93 = .ok (.iconst 2, 1) := by decide +kernel
theorem dX9_weathers_94 : decode cX9_weathers 94 = .ok (.iload 6, 2) := by decide +kernel
theorem dX9_weathers_96 : decode cX9_weathers 96 = .ok (.imul, 1) := by decide +kernel
theorem dX9_weathers_97 : decode cX9_weathers 97 = .ok (.isub, 1) := by decide +kernel
theorem dX9_weathers_98 : decode cX9_weathers 98 = .ok (.iconst 2, 1) := by decide +kernel
theorem dX9_weathers_99 : decode cX9_weathers 99 = .ok (.isub, 1) := by decide +kernel
theorem dX9_weathers_100 : decode cX9_weathers 100 = .ok (.if_icmp .le 6, 3) := by decide +kernel
theorem dX9_weathers_103 : decode cX9_weathers 103 = .ok (.bipush (-12), 2) := by decide +kernel
theorem dX9_weathers_105 : decode cX9_weathers 105 = .ok (.ireturn, 1) := by decide +kernel
theorem dX9_weathers_106 : decode cX9_weathers 106 = .ok (.bipush 40, 2) := by decide +kernel
theorem dX9_weathers_108 : decode cX9_weathers 108 = .ok (.iload_n 1, 1) := by decide +kernel
theorem dX9_weathers_109 : decode cX9_weathers 109 = .ok (.imul, 1) := by decide +kernel
theorem dX9_weathers_110 : decode cX9_weathers 110 = .ok (.iload_n 3, 1) := by decide +kernel
theorem dX9_weathers_111 : decode cX9_weathers 111 = .ok (.iadd, 1) := by decide +kernel
theorem dX9_weathers_112 : decode cX9_weathers 112 = .ok (.iconst 2, 1) := by decide +kernel
theorem dX9_weathers_113 : decode cX9_weathers 113 = .ok (.iload 6, 2) := by decide +kernel
theorem dX9_weathers_115 : decode cX9_weathers 115 = .ok (.imul, 1) := by decide +kernel
theorem dX9_weathers_116 : decode cX9_weathers 116 = .ok (.iadd, 1) := by decide +kernel
theorem dX9_weathers_117 : decode cX9_weathers 117 = .ok (.istore 7, 2) := by decide +kernel
theorem dX9_weathers_119 : decode cX9_weathers 119 = .ok (.iload 5, 2) := by decide +kernel
theorem dX9_weathers_121 : decode cX9_weathers 121 = .ok (.aload_n 0, 1) := by decide +kernel
theorem dX9_weathers_122 : decode cX9_weathers 122 = .ok (.iconst 0, 1) := by decide +kernel
theorem dX9_weathers_123 : decode cX9_weathers 123 = .ok (.aload_n 0, 1) := by decide +kernel
theorem dX9_weathers_124 : decode cX9_weathers 124 = .ok (.getfield 72, 3) := by decide +kernel
theorem dX9_weathers_127 : decode cX9_weathers 127 = .ok (.iload 7, 2) := by decide +kernel
theorem dX9_weathers_129 : decode cX9_weathers 129 = .ok (.iaload, 1) := by decide +kernel
theorem dX9_weathers_130 : decode cX9_weathers 130 = .ok (.aload_n 0, 1) := by decide +kernel
theorem dX9_weathers_131 : decode cX9_weathers 131 = .ok (.getfield 72, 3) := by decide +kernel
theorem dX9_weathers_134 : decode cX9_weathers 134 = .ok (.iload 7, 2) := by decide +kernel
theorem dX9_weathers_136 : decode cX9_weathers 136 = .ok (.iconst 1, 1) := by decide +kernel
theorem dX9_weathers_137 : decode cX9_weathers 137 = .ok (.iadd, 1) := by decide +kernel
theorem dX9_weathers_138 : decode cX9_weathers 138 = .ok (.iaload, 1) := by decide +kernel
theorem dX9_weathers_139 : decode cX9_weathers 139 = .ok (.invokevirtual 346, 3) := by decide +kernel
theorem dX9_weathers_142 : decode cX9_weathers 142 = .ok (.ifCond .lt 7, 3) := by decide +kernel
theorem dX9_weathers_145 : decode cX9_weathers 145 = .ok (.iconst 1, 1) := by decide +kernel
theorem dX9_weathers_146 : decode cX9_weathers 146 = .ok (.goto 4, 3) := by decide +kernel
theorem dX9_weathers_149 : decode cX9_weathers 149 = .ok (.iconst 0, 1) := by decide +kernel
theorem dX9_weathers_150 : decode cX9_weathers 150 = .ok (.iadd, 1) := by decide +kernel
theorem dX9_weathers_151 : decode cX9_weathers 151 = .ok (.istore 5, 2) := by decide +kernel
theorem dX9_weathers_153 : decode cX9_weathers 153 = .ok (.iinc 6 1, 3) := by decide +kernel
theorem dX9_weathers_156 : decode cX9_weathers 156 = .ok (.goto (-81), 3) := by decide +kernel
theorem dX9_weathers_159 : decode cX9_weathers 159 = .ok (.iload 5, 2) := by decide +kernel
theorem dX9_weathers_161 : decode cX9_weathers 161 = .ok (.ireturn, 1) := by decide +kernel
theorem dX9_over_0 : decode cX9_over 0 = .ok (.iload_n 0, 1) := by decide +kernel
theorem dX9_over_1 : decode cX9_over 1 = .ok (.ifCond .ne 7, 3) := by decide +kernel
theorem dX9_over_4 : decode cX9_over 4 = .ok (.iconst (-1), 1) := by decide +kernel
theorem dX9_over_5 : decode cX9_over 5 = .ok (.goto 22, 3) := by decide +kernel
theorem dX9_over_8 : decode cX9_over 8 = .ok (.iload_n 0, 1) := by decide +kernel
theorem dX9_over_9 : decode cX9_over 9 = .ok (.iconst 3, 1) := by decide +kernel
theorem dX9_over_10 : decode cX9_over 10 = .ok (.if_icmp .ne 7, 3) := by decide +kernel
theorem dX9_over_13 : decode cX9_over 13 = .ok (.iconst 1, 1) := by decide +kernel
theorem dX9_over_14 : decode cX9_over 14 = .ok (.goto 13, 3) := by decide +kernel
theorem dX9_over_17 : decode cX9_over 17 = .ok (.iload_n 0, 1) := by decide +kernel
theorem dX9_over_18 : decode cX9_over 18 = .ok (.iconst 4, 1) := by decide +kernel
theorem dX9_over_19 : decode cX9_over 19 = .ok (.if_icmp .ne 7, 3) := by decide +kernel
theorem dX9_over_22 : decode cX9_over 22 = .ok (.iconst 2, 1) := by decide +kernel
theorem dX9_over_23 : decode cX9_over 23 = .ok (.goto 4, 3) := by decide +kernel
theorem dX9_over_26 : decode cX9_over 26 = .ok (.iconst 0, 1) := by decide +kernel
theorem dX9_over_27 : decode cX9_over 27 = .ok (.ireturn, 1) := by decide +kernel
theorem dX9_taken_0 : decode cX9_taken 0 = .ok (.iload_n 2, 1) := by decide +kernel
theorem dX9_taken_1 : decode cX9_taken 1 = .ok (.i2l, 1) := by decide +kernel
theorem dX9_taken_2 : decode cX9_taken 2 = .ok (.lconst 0, 1) := by decide +kernel
theorem dX9_taken_3 : decode cX9_taken 3 = .ok (.ldc2_w 91, 3) := by decide +kernel
theorem dX9_taken_6 : decode cX9_taken 6 = .ok (.invokestatic 85, 3) := by decide +kernel
theorem dX9_taken_9 : decode cX9_taken 9 = .ok (.ifCond .ne 6, 3) := by decide +kernel
theorem dX9_taken_12 : decode cX9_taken 12 = .ok (.bipush (-2), 2) := by decide +kernel
theorem dX9_taken_14 : decode cX9_taken 14 = .ok (.ireturn, 1) := by decide +kernel
theorem dX9_taken_15 : decode cX9_taken 15 = .ok (.aload_n 0, 1) := by decide +kernel
theorem dX9_taken_16 : decode cX9_taken 16 = .ok (.iload_n 1, 1) := by decide +kernel
theorem dX9_taken_17 : decode cX9_taken 17 = .ok (.invokevirtual 103, 3) := by decide +kernel
theorem dX9_taken_20 : decode cX9_taken 20 = .ok (.ifCond .ne 6, 3) := by decide +kernel
theorem dX9_taken_23 : decode cX9_taken 23 = .ok (.bipush (-11), 2) := by decide +kernel
theorem dX9_taken_25 : decode cX9_taken 25 = .ok (.ireturn, 1) := by decide +kernel
theorem dX9_taken_26 : decode cX9_taken 26 = .ok (.aload_n 0, 1) := by decide +kernel
theorem dX9_taken_27 : decode cX9_taken 27 = .ok (.getfield 26, 3) := by decide +kernel
theorem dX9_taken_30 : decode cX9_taken 30 = .ok (.iload_n 1, 1) := by decide +kernel
theorem dX9_taken_31 : decode cX9_taken 31 = .ok (.iaload, 1) := by decide +kernel
theorem dX9_taken_32 : decode cX9_taken 32 = .ok (.istore_n 3, 1) := by decide +kernel
theorem dX9_taken_33 : decode cX9_taken 33 = .ok (.iload_n 3, 1) := by decide +kernel
theorem dX9_taken_34 : decode cX9_taken 34 = .ok (.iconst (-1), 1) := by decide +kernel
theorem dX9_taken_35 : decode cX9_taken 35 = .ok (.if_icmp .eq 16, 3) := by decide +kernel
theorem dX9_taken_38 : decode cX9_taken 38 = .ok (.iload_n 3, 1) := by decide +kernel
theorem dX9_taken_39 : decode cX9_taken 39 = .ok (.iload_n 2, 1) := by decide +kernel
theorem dX9_taken_40 : decode cX9_taken 40 = .ok (.if_icmp .eq 11, 3) := by decide +kernel
theorem dX9_taken_43 : decode cX9_taken 43 = .ok (.iload_n 3, 1) := by decide +kernel
theorem dX9_taken_44 : decode cX9_taken 44 = .ok (.invokestatic 349, 3) := by decide +kernel
theorem dX9_taken_47 : decode cX9_taken 47 = .ok (.istore_n 3, 1) := by decide +kernel
theorem dX9_taken_48 : decode cX9_taken 48 = .ok (.goto (-15), 3) := by decide +kernel
theorem dX9_taken_51 : decode cX9_taken 51 = .ok (.iload_n 3, 1) := by decide +kernel
theorem dX9_taken_52 : decode cX9_taken 52 = .ok (.iload_n 2, 1) := by decide +kernel
theorem dX9_taken_53 : decode cX9_taken 53 = .ok (.if_icmp .ne 12, 3) := by decide +kernel
theorem dX9_taken_56 : decode cX9_taken 56 = .ok (.aload_n 0, 1) := by decide +kernel
theorem dX9_taken_57 : decode cX9_taken 57 = .ok (.getfield 29, 3) := by decide +kernel
theorem dX9_taken_60 : decode cX9_taken 60 = .ok (.iload_n 1, 1) := by decide +kernel
theorem dX9_taken_61 : decode cX9_taken 61 = .ok (.iaload, 1) := by decide +kernel
theorem dX9_taken_62 : decode cX9_taken 62 = .ok (.goto 5, 3) := by decide +kernel
theorem dX9_taken_65 : decode cX9_taken 65 = .ok (.bipush (-13), 2) := by decide +kernel
theorem dX9_taken_67 : decode cX9_taken 67 = .ok (.ireturn, 1) := by decide +kernel
end
section
theorem dL_law_0 : decode cL_law 0 = .ok (.new 7, 3) := by decide +kernel
theorem dL_law_3 : decode cL_law 3 = .ok (.dup, 1) := by decide +kernel
theorem dL_law_4 : decode cL_law 4 = .ok (.invokespecial 9, 3) := by decide +kernel
theorem dL_law_7 : decode cL_law 7 = .ok (.astore_n 1, 1) := by decide +kernel
theorem dL_law_8 : decode cL_law 8 = .ok (.new 10, 3) := by decide +kernel
theorem dL_law_11 : decode cL_law 11 = .ok (.dup, 1) := by decide +kernel
theorem dL_law_12 : decode cL_law 12 = .ok (.invokespecial 12, 3) := by decide +kernel
theorem dL_law_15 : decode cL_law 15 = .ok (.astore_n 2, 1) := by decide +kernel
theorem dL_law_16 : decode cL_law 16 = .ok (.iconst 0, 1) := by decide +kernel
theorem dL_law_17 : decode cL_law 17 = .ok (.istore_n 3, 1) := by decide +kernel
theorem dL_law_18 : decode cL_law 18 = .ok (.iload_n 3, 1) := by decide +kernel
theorem dL_law_19 : decode cL_law 19 = .ok (.aload_n 0, 1) := by decide +kernel
theorem dL_law_20 : decode cL_law 20 = .ok (.arraylength, 1) := by decide +kernel
theorem dL_law_21 : decode cL_law 21 = .ok (.bipush 6, 2) := by decide +kernel
theorem dL_law_23 : decode cL_law 23 = .ok (.isub, 1) := by decide +kernel
theorem dL_law_24 : decode cL_law 24 = .ok (.if_icmp .gt 1274, 3) := by decide +kernel
theorem dL_law_27 : decode cL_law 27 = .ok (.aload_n 0, 1) := by decide +kernel
theorem dL_law_28 : decode cL_law 28 = .ok (.iload_n 3, 1) := by decide +kernel
theorem dL_law_29 : decode cL_law 29 = .ok (.iaload, 1) := by decide +kernel
theorem dL_law_30 : decode cL_law 30 = .ok (.bipush 31, 2) := by decide +kernel
theorem dL_law_32 : decode cL_law 32 = .ok (.iand, 1) := by decide +kernel
theorem dL_law_33 : decode cL_law 33 = .ok (.tableswitch 1259 0 28 #[131, 174, 217, 250, 293, 316, 329, 352, 405, 448, 491, 524, 557, 610, 663, 716, 769, 802, 835, 878, 911, 975, 988, 1001, 1024, 1067, 1110, 1173, 1226], 131) := by decide +kernel
theorem dL_law_164 : decode cL_law 164 = .ok (.aload_n 1, 1) := by decide +kernel
theorem dL_law_165 : decode cL_law 165 = .ok (.aload_n 0, 1) := by decide +kernel
theorem dL_law_166 : decode cL_law 166 = .ok (.iload_n 3, 1) := by decide +kernel
theorem dL_law_167 : decode cL_law 167 = .ok (.iconst 1, 1) := by decide +kernel
theorem dL_law_168 : decode cL_law 168 = .ok (.iadd, 1) := by decide +kernel
theorem dL_law_169 : decode cL_law 169 = .ok (.iaload, 1) := by decide +kernel
theorem dL_law_170 : decode cL_law 170 = .ok (.aload_n 0, 1) := by decide +kernel
theorem dL_law_171 : decode cL_law 171 = .ok (.iload_n 3, 1) := by decide +kernel
theorem dL_law_172 : decode cL_law 172 = .ok (.iconst 2, 1) := by decide +kernel
theorem dL_law_173 : decode cL_law 173 = .ok (.iadd, 1) := by decide +kernel
theorem dL_law_174 : decode cL_law 174 = .ok (.iaload, 1) := by decide +kernel
theorem dL_law_175 : decode cL_law 175 = .ok (.aload_n 0, 1) := by decide +kernel
theorem dL_law_176 : decode cL_law 176 = .ok (.iload_n 3, 1) := by decide +kernel
theorem dL_law_177 : decode cL_law 177 = .ok (.iconst 3, 1) := by decide +kernel
theorem dL_law_178 : decode cL_law 178 = .ok (.iadd, 1) := by decide +kernel
theorem dL_law_179 : decode cL_law 179 = .ok (.iaload, 1) := by decide +kernel
theorem dL_law_180 : decode cL_law 180 = .ok (.invokevirtual 13, 3) := by decide +kernel
theorem dL_law_183 : decode cL_law 183 = .ok (.aload_n 2, 1) := by decide +kernel
theorem dL_law_184 : decode cL_law 184 = .ok (.aload_n 0, 1) := by decide +kernel
theorem dL_law_185 : decode cL_law 185 = .ok (.iload_n 3, 1) := by decide +kernel
theorem dL_law_186 : decode cL_law 186 = .ok (.iconst 1, 1) := by decide +kernel
theorem dL_law_187 : decode cL_law 187 = .ok (.iadd, 1) := by decide +kernel
theorem dL_law_188 : decode cL_law 188 = .ok (.iaload, 1) := by decide +kernel
theorem dL_law_189 : decode cL_law 189 = .ok (.aload_n 0, 1) := by decide +kernel
theorem dL_law_190 : decode cL_law 190 = .ok (.iload_n 3, 1) := by decide +kernel
theorem dL_law_191 : decode cL_law 191 = .ok (.iconst 2, 1) := by decide +kernel
theorem dL_law_192 : decode cL_law 192 = .ok (.iadd, 1) := by decide +kernel
theorem dL_law_193 : decode cL_law 193 = .ok (.iaload, 1) := by decide +kernel
theorem dL_law_194 : decode cL_law 194 = .ok (.aload_n 0, 1) := by decide +kernel
theorem dL_law_195 : decode cL_law 195 = .ok (.iload_n 3, 1) := by decide +kernel
theorem dL_law_196 : decode cL_law 196 = .ok (.iconst 3, 1) := by decide +kernel
theorem dL_law_197 : decode cL_law 197 = .ok (.iadd, 1) := by decide +kernel
theorem dL_law_198 : decode cL_law 198 = .ok (.iaload, 1) := by decide +kernel
theorem dL_law_199 : decode cL_law 199 = .ok (.invokevirtual 17, 3) := by decide +kernel
theorem dL_law_202 : decode cL_law 202 = .ok (.if_icmp .eq 1090, 3) := by decide +kernel
theorem dL_law_205 : decode cL_law 205 = .ok (.iconst 0, 1) := by decide +kernel
theorem dL_law_206 : decode cL_law 206 = .ok (.ireturn, 1) := by decide +kernel
theorem dL_law_207 : decode cL_law 207 = .ok (.aload_n 1, 1) := by decide +kernel
theorem dL_law_208 : decode cL_law 208 = .ok (.aload_n 0, 1) := by decide +kernel
theorem dL_law_209 : decode cL_law 209 = .ok (.iload_n 3, 1) := by decide +kernel
theorem dL_law_210 : decode cL_law 210 = .ok (.iconst 1, 1) := by decide +kernel
theorem dL_law_211 : decode cL_law 211 = .ok (.iadd, 1) := by decide +kernel
theorem dL_law_212 : decode cL_law 212 = .ok (.iaload, 1) := by decide +kernel
theorem dL_law_213 : decode cL_law 213 = .ok (.aload_n 0, 1) := by decide +kernel
theorem dL_law_214 : decode cL_law 214 = .ok (.iload_n 3, 1) := by decide +kernel
theorem dL_law_215 : decode cL_law 215 = .ok (.iconst 2, 1) := by decide +kernel
theorem dL_law_216 : decode cL_law 216 = .ok (.iadd, 1) := by decide +kernel
theorem dL_law_217 : decode cL_law 217 = .ok (.iaload, 1) := by decide +kernel
theorem dL_law_218 : decode cL_law 218 = .ok (.aload_n 0, 1) := by decide +kernel
theorem dL_law_219 : decode cL_law 219 = .ok (.iload_n 3, 1) := by decide +kernel
theorem dL_law_220 : decode cL_law 220 = .ok (.iconst 3, 1) := by decide +kernel
theorem dL_law_221 : decode cL_law 221 = .ok (.iadd, 1) := by decide +kernel
theorem dL_law_222 : decode cL_law 222 = .ok (.iaload, 1) := by decide +kernel
theorem dL_law_223 : decode cL_law 223 = .ok (.invokevirtual 18, 3) := by decide +kernel
theorem dL_law_226 : decode cL_law 226 = .ok (.aload_n 2, 1) := by decide +kernel
theorem dL_law_227 : decode cL_law 227 = .ok (.aload_n 0, 1) := by decide +kernel
theorem dL_law_228 : decode cL_law 228 = .ok (.iload_n 3, 1) := by decide +kernel
theorem dL_law_229 : decode cL_law 229 = .ok (.iconst 1, 1) := by decide +kernel
theorem dL_law_230 : decode cL_law 230 = .ok (.iadd, 1) := by decide +kernel
theorem dL_law_231 : decode cL_law 231 = .ok (.iaload, 1) := by decide +kernel
theorem dL_law_232 : decode cL_law 232 = .ok (.aload_n 0, 1) := by decide +kernel
theorem dL_law_233 : decode cL_law 233 = .ok (.iload_n 3, 1) := by decide +kernel
theorem dL_law_234 : decode cL_law 234 = .ok (.iconst 2, 1) := by decide +kernel
theorem dL_law_235 : decode cL_law 235 = .ok (.iadd, 1) := by decide +kernel
theorem dL_law_236 : decode cL_law 236 = .ok (.iaload, 1) := by decide +kernel
theorem dL_law_237 : decode cL_law 237 = .ok (.aload_n 0, 1) := by decide +kernel
theorem dL_law_238 : decode cL_law 238 = .ok (.iload_n 3, 1) := by decide +kernel
theorem dL_law_239 : decode cL_law 239 = .ok (.iconst 3, 1) := by decide +kernel
theorem dL_law_240 : decode cL_law 240 = .ok (.iadd, 1) := by decide +kernel
theorem dL_law_241 : decode cL_law 241 = .ok (.iaload, 1) := by decide +kernel
theorem dL_law_242 : decode cL_law 242 = .ok (.invokevirtual 21, 3) := by decide +kernel
theorem dL_law_245 : decode cL_law 245 = .ok (.if_icmp .eq 1047, 3) := by decide +kernel
theorem dL_law_248 : decode cL_law 248 = .ok (.iconst 0, 1) := by decide +kernel
theorem dL_law_249 : decode cL_law 249 = .ok (.ireturn, 1) := by decide +kernel
theorem dL_law_250 : decode cL_law 250 = .ok (.aload_n 1, 1) := by decide +kernel
theorem dL_law_251 : decode cL_law 251 = .ok (.aload_n 0, 1) := by decide +kernel
theorem dL_law_252 : decode cL_law 252 = .ok (.iload_n 3, 1) := by decide +kernel
theorem dL_law_253 : decode cL_law 253 = .ok (.iconst 1, 1) := by decide +kernel
theorem dL_law_254 : decode cL_law 254 = .ok (.iadd, 1) := by decide +kernel
theorem dL_law_255 : decode cL_law 255 = .ok (.iaload, 1) := by decide +kernel
theorem dL_law_256 : decode cL_law 256 = .ok (.aload_n 0, 1) := by decide +kernel
theorem dL_law_257 : decode cL_law 257 = .ok (.iload_n 3, 1) := by decide +kernel
theorem dL_law_258 : decode cL_law 258 = .ok (.iconst 2, 1) := by decide +kernel
theorem dL_law_259 : decode cL_law 259 = .ok (.iadd, 1) := by decide +kernel
theorem dL_law_260 : decode cL_law 260 = .ok (.iaload, 1) := by decide +kernel
theorem dL_law_261 : decode cL_law 261 = .ok (.invokevirtual 22, 3) := by decide +kernel
theorem dL_law_264 : decode cL_law 264 = .ok (.aload_n 2, 1) := by decide +kernel
theorem dL_law_265 : decode cL_law 265 = .ok (.aload_n 0, 1) := by decide +kernel
theorem dL_law_266 : decode cL_law 266 = .ok (.iload_n 3, 1) := by decide +kernel
theorem dL_law_267 : decode cL_law 267 = .ok (.iconst 1, 1) := by decide +kernel
theorem dL_law_268 : decode cL_law 268 = .ok (.iadd, 1) := by decide +kernel
theorem dL_law_269 : decode cL_law 269 = .ok (.iaload, 1) := by decide +kernel
theorem dL_law_270 : decode cL_law 270 = .ok (.aload_n 0, 1) := by decide +kernel
theorem dL_law_271 : decode cL_law 271 = .ok (.iload_n 3, 1) := by decide +kernel
theorem dL_law_272 : decode cL_law 272 = .ok (.iconst 2, 1) := by decide +kernel
theorem dL_law_273 : decode cL_law 273 = .ok (.iadd, 1) := by decide +kernel
theorem dL_law_274 : decode cL_law 274 = .ok (.iaload, 1) := by decide +kernel
theorem dL_law_275 : decode cL_law 275 = .ok (.invokevirtual 26, 3) := by decide +kernel
theorem dL_law_278 : decode cL_law 278 = .ok (.if_icmp .eq 1014, 3) := by decide +kernel
theorem dL_law_281 : decode cL_law 281 = .ok (.iconst 0, 1) := by decide +kernel
theorem dL_law_282 : decode cL_law 282 = .ok (.ireturn, 1) := by decide +kernel
theorem dL_law_283 : decode cL_law 283 = .ok (.aload_n 1, 1) := by decide +kernel
theorem dL_law_284 : decode cL_law 284 = .ok (.aload_n 0, 1) := by decide +kernel
theorem dL_law_285 : decode cL_law 285 = .ok (.iload_n 3, 1) := by decide +kernel
theorem dL_law_286 : decode cL_law 286 = .ok (.iconst 1, 1) := by decide +kernel
theorem dL_law_287 : decode cL_law 287 = .ok (.iadd, 1) := by decide +kernel
theorem dL_law_288 : decode cL_law 288 = .ok (.iaload, 1) := by decide +kernel
theorem dL_law_289 : decode cL_law 289 = .ok (.aload_n 0, 1) := by decide +kernel
theorem dL_law_290 : decode cL_law 290 = .ok (.iload_n 3, 1) := by decide +kernel
theorem dL_law_291 : decode cL_law 291 = .ok (.iconst 2, 1) := by decide +kernel
theorem dL_law_292 : decode cL_law 292 = .ok (.iadd, 1) := by decide +kernel
theorem dL_law_293 : decode cL_law 293 = .ok (.iaload, 1) := by decide +kernel
theorem dL_law_294 : decode cL_law 294 = .ok (.aload_n 0, 1) := by decide +kernel
theorem dL_law_295 : decode cL_law 295 = .ok (.iload_n 3, 1) := by decide +kernel
theorem dL_law_296 : decode cL_law 296 = .ok (.iconst 3, 1) := by decide +kernel
theorem dL_law_297 : decode cL_law 297 = .ok (.iadd, 1) := by decide +kernel
theorem dL_law_298 : decode cL_law 298 = .ok (.iaload, 1) := by decide +kernel
theorem dL_law_299 : decode cL_law 299 = .ok (.invokevirtual 27, 3) := by decide +kernel
theorem dL_law_302 : decode cL_law 302 = .ok (.aload_n 2, 1) := by decide +kernel
theorem dL_law_303 : decode cL_law 303 = .ok (.aload_n 0, 1) := by decide +kernel
theorem dL_law_304 : decode cL_law 304 = .ok (.iload_n 3, 1) := by decide +kernel
theorem dL_law_305 : decode cL_law 305 = .ok (.iconst 1, 1) := by decide +kernel
theorem dL_law_306 : decode cL_law 306 = .ok (.iadd, 1) := by decide +kernel
theorem dL_law_307 : decode cL_law 307 = .ok (.iaload, 1) := by decide +kernel
theorem dL_law_308 : decode cL_law 308 = .ok (.aload_n 0, 1) := by decide +kernel
theorem dL_law_309 : decode cL_law 309 = .ok (.iload_n 3, 1) := by decide +kernel
theorem dL_law_310 : decode cL_law 310 = .ok (.iconst 2, 1) := by decide +kernel
theorem dL_law_311 : decode cL_law 311 = .ok (.iadd, 1) := by decide +kernel
theorem dL_law_312 : decode cL_law 312 = .ok (.iaload, 1) := by decide +kernel
theorem dL_law_313 : decode cL_law 313 = .ok (.aload_n 0, 1) := by decide +kernel
theorem dL_law_314 : decode cL_law 314 = .ok (.iload_n 3, 1) := by decide +kernel
theorem dL_law_315 : decode cL_law 315 = .ok (.iconst 3, 1) := by decide +kernel
theorem dL_law_316 : decode cL_law 316 = .ok (.iadd, 1) := by decide +kernel
theorem dL_law_317 : decode cL_law 317 = .ok (.iaload, 1) := by decide +kernel
theorem dL_law_318 : decode cL_law 318 = .ok (.invokevirtual 30, 3) := by decide +kernel
theorem dL_law_321 : decode cL_law 321 = .ok (.if_icmp .eq 971, 3) := by decide +kernel
theorem dL_law_324 : decode cL_law 324 = .ok (.iconst 0, 1) := by decide +kernel
theorem dL_law_325 : decode cL_law 325 = .ok (.ireturn, 1) := by decide +kernel
theorem dL_law_326 : decode cL_law 326 = .ok (.aload_n 1, 1) := by decide +kernel
theorem dL_law_327 : decode cL_law 327 = .ok (.aload_n 0, 1) := by decide +kernel
theorem dL_law_328 : decode cL_law 328 = .ok (.iload_n 3, 1) := by decide +kernel
theorem dL_law_329 : decode cL_law 329 = .ok (.iconst 1, 1) := by decide +kernel
theorem dL_law_330 : decode cL_law 330 = .ok (.iadd, 1) := by decide +kernel
theorem dL_law_331 : decode cL_law 331 = .ok (.iaload, 1) := by decide +kernel
theorem dL_law_332 : decode cL_law 332 = .ok (.invokevirtual 31, 3) := by decide +kernel
theorem dL_law_335 : decode cL_law 335 = .ok (.aload_n 2, 1) := by decide +kernel
theorem dL_law_336 : decode cL_law 336 = .ok (.aload_n 0, 1) := by decide +kernel
theorem dL_law_337 : decode cL_law 337 = .ok (.iload_n 3, 1) := by decide +kernel
theorem dL_law_338 : decode cL_law 338 = .ok (.iconst 1, 1) := by decide +kernel
theorem dL_law_339 : decode cL_law 339 = .ok (.iadd, 1) := by decide +kernel
theorem dL_law_340 : decode cL_law 340 = .ok (.iaload, 1) := by decide +kernel
theorem dL_law_341 : decode cL_law 341 = .ok (.invokevirtual 35, 3) := by decide +kernel
theorem dL_law_344 : decode cL_law 344 = .ok (.if_icmp .eq 948, 3) := by decide +kernel
theorem dL_law_347 : decode cL_law 347 = .ok (.iconst 0, 1) := by decide +kernel
theorem dL_law_348 : decode cL_law 348 = .ok (.ireturn, 1) := by decide +kernel
theorem dL_law_349 : decode cL_law 349 = .ok (.aload_n 1, 1) := by decide +kernel
theorem dL_law_350 : decode cL_law 350 = .ok (.invokevirtual 36, 3) := by decide +kernel
theorem dL_law_353 : decode cL_law 353 = .ok (.aload_n 2, 1) := by decide +kernel
theorem dL_law_354 : decode cL_law 354 = .ok (.invokevirtual 40, 3) := by decide +kernel
theorem dL_law_357 : decode cL_law 357 = .ok (.if_icmp .eq 935, 3) := by decide +kernel
theorem dL_law_360 : decode cL_law 360 = .ok (.iconst 0, 1) := by decide +kernel
theorem dL_law_361 : decode cL_law 361 = .ok (.ireturn, 1) := by decide +kernel
theorem dL_law_362 : decode cL_law 362 = .ok (.aload_n 1, 1) := by decide +kernel
theorem dL_law_363 : decode cL_law 363 = .ok (.aload_n 0, 1) := by decide +kernel
theorem dL_law_364 : decode cL_law 364 = .ok (.iload_n 3, 1) := by decide +kernel
theorem dL_law_365 : decode cL_law 365 = .ok (.iconst 1, 1) := by decide +kernel
theorem dL_law_366 : decode cL_law 366 = .ok (.iadd, 1) := by decide +kernel
theorem dL_law_367 : decode cL_law 367 = .ok (.iaload, 1) := by decide +kernel
theorem dL_law_368 : decode cL_law 368 = .ok (.invokevirtual 41, 3) := by decide +kernel
theorem dL_law_371 : decode cL_law 371 = .ok (.aload_n 2, 1) := by decide +kernel
theorem dL_law_372 : decode cL_law 372 = .ok (.aload_n 0, 1) := by decide +kernel
theorem dL_law_373 : decode cL_law 373 = .ok (.iload_n 3, 1) := by decide +kernel
theorem dL_law_374 : decode cL_law 374 = .ok (.iconst 1, 1) := by decide +kernel
theorem dL_law_375 : decode cL_law 375 = .ok (.iadd, 1) := by decide +kernel
theorem dL_law_376 : decode cL_law 376 = .ok (.iaload, 1) := by decide +kernel
theorem dL_law_377 : decode cL_law 377 = .ok (.invokevirtual 44, 3) := by decide +kernel
theorem dL_law_380 : decode cL_law 380 = .ok (.if_icmp .eq 912, 3) := by decide +kernel
theorem dL_law_383 : decode cL_law 383 = .ok (.iconst 0, 1) := by decide +kernel
theorem dL_law_384 : decode cL_law 384 = .ok (.ireturn, 1) := by decide +kernel
theorem dL_law_385 : decode cL_law 385 = .ok (.aload_n 1, 1) := by decide +kernel
theorem dL_law_386 : decode cL_law 386 = .ok (.aload_n 0, 1) := by decide +kernel
theorem dL_law_387 : decode cL_law 387 = .ok (.iload_n 3, 1) := by decide +kernel
theorem dL_law_388 : decode cL_law 388 = .ok (.iconst 1, 1) := by decide +kernel
theorem dL_law_389 : decode cL_law 389 = .ok (.iadd, 1) := by decide +kernel
theorem dL_law_390 : decode cL_law 390 = .ok (.iaload, 1) := by decide +kernel
theorem dL_law_391 : decode cL_law 391 = .ok (.aload_n 0, 1) := by decide +kernel
theorem dL_law_392 : decode cL_law 392 = .ok (.iload_n 3, 1) := by decide +kernel
theorem dL_law_393 : decode cL_law 393 = .ok (.iconst 2, 1) := by decide +kernel
theorem dL_law_394 : decode cL_law 394 = .ok (.iadd, 1) := by decide +kernel
theorem dL_law_395 : decode cL_law 395 = .ok (.iaload, 1) := by decide +kernel
theorem dL_law_396 : decode cL_law 396 = .ok (.aload_n 0, 1) := by decide +kernel
theorem dL_law_397 : decode cL_law 397 = .ok (.iload_n 3, 1) := by decide +kernel
theorem dL_law_398 : decode cL_law 398 = .ok (.iconst 3, 1) := by decide +kernel
theorem dL_law_399 : decode cL_law 399 = .ok (.iadd, 1) := by decide +kernel
theorem dL_law_400 : decode cL_law 400 = .ok (.iaload, 1) := by decide +kernel
theorem dL_law_401 : decode cL_law 401 = .ok (.aload_n 0, 1) := by decide +kernel
theorem dL_law_402 : decode cL_law 402 = .ok (.iload_n 3, 1) := by decide +kernel
theorem dL_law_403 : decode cL_law 403 = .ok (.iconst 4, 1) := by decide +kernel
theorem dL_law_404 : decode cL_law 404 = .ok (.iadd, 1) := by decide +kernel
theorem dL_law_405 : decode cL_law 405 = .ok (.iaload, 1) := by decide +kernel
theorem dL_law_406 : decode cL_law 406 = .ok (.invokevirtual 45, 3) := by decide +kernel
theorem dL_law_409 : decode cL_law 409 = .ok (.aload_n 2, 1) := by decide +kernel
theorem dL_law_410 : decode cL_law 410 = .ok (.aload_n 0, 1) := by decide +kernel
theorem dL_law_411 : decode cL_law 411 = .ok (.iload_n 3, 1) := by decide +kernel
theorem dL_law_412 : decode cL_law 412 = .ok (.iconst 1, 1) := by decide +kernel
theorem dL_law_413 : decode cL_law 413 = .ok (.iadd, 1) := by decide +kernel
theorem dL_law_414 : decode cL_law 414 = .ok (.iaload, 1) := by decide +kernel
theorem dL_law_415 : decode cL_law 415 = .ok (.aload_n 0, 1) := by decide +kernel
theorem dL_law_416 : decode cL_law 416 = .ok (.iload_n 3, 1) := by decide +kernel
theorem dL_law_417 : decode cL_law 417 = .ok (.iconst 2, 1) := by decide +kernel
theorem dL_law_418 : decode cL_law 418 = .ok (.iadd, 1) := by decide +kernel
theorem dL_law_419 : decode cL_law 419 = .ok (.iaload, 1) := by decide +kernel
theorem dL_law_420 : decode cL_law 420 = .ok (.aload_n 0, 1) := by decide +kernel
theorem dL_law_421 : decode cL_law 421 = .ok (.iload_n 3, 1) := by decide +kernel
theorem dL_law_422 : decode cL_law 422 = .ok (.iconst 3, 1) := by decide +kernel
theorem dL_law_423 : decode cL_law 423 = .ok (.iadd, 1) := by decide +kernel
theorem dL_law_424 : decode cL_law 424 = .ok (.iaload, 1) := by decide +kernel
theorem dL_law_425 : decode cL_law 425 = .ok (.aload_n 0, 1) := by decide +kernel
theorem dL_law_426 : decode cL_law 426 = .ok (.iload_n 3, 1) := by decide +kernel
theorem dL_law_427 : decode cL_law 427 = .ok (.iconst 4, 1) := by decide +kernel
theorem dL_law_428 : decode cL_law 428 = .ok (.iadd, 1) := by decide +kernel
theorem dL_law_429 : decode cL_law 429 = .ok (.iaload, 1) := by decide +kernel
theorem dL_law_430 : decode cL_law 430 = .ok (.invokevirtual 49, 3) := by decide +kernel
theorem dL_law_433 : decode cL_law 433 = .ok (.if_icmp .eq 859, 3) := by decide +kernel
theorem dL_law_436 : decode cL_law 436 = .ok (.iconst 0, 1) := by decide +kernel
theorem dL_law_437 : decode cL_law 437 = .ok (.ireturn, 1) := by decide +kernel
theorem dL_law_438 : decode cL_law 438 = .ok (.aload_n 1, 1) := by decide +kernel
theorem dL_law_439 : decode cL_law 439 = .ok (.aload_n 0, 1) := by decide +kernel
theorem dL_law_440 : decode cL_law 440 = .ok (.iload_n 3, 1) := by decide +kernel
theorem dL_law_441 : decode cL_law 441 = .ok (.iconst 1, 1) := by decide +kernel
theorem dL_law_442 : decode cL_law 442 = .ok (.iadd, 1) := by decide +kernel
theorem dL_law_443 : decode cL_law 443 = .ok (.iaload, 1) := by decide +kernel
theorem dL_law_444 : decode cL_law 444 = .ok (.aload_n 0, 1) := by decide +kernel
theorem dL_law_445 : decode cL_law 445 = .ok (.iload_n 3, 1) := by decide +kernel
theorem dL_law_446 : decode cL_law 446 = .ok (.iconst 2, 1) := by decide +kernel
theorem dL_law_447 : decode cL_law 447 = .ok (.iadd, 1) := by decide +kernel
theorem dL_law_448 : decode cL_law 448 = .ok (.iaload, 1) := by decide +kernel
theorem dL_law_449 : decode cL_law 449 = .ok (.aload_n 0, 1) := by decide +kernel
theorem dL_law_450 : decode cL_law 450 = .ok (.iload_n 3, 1) := by decide +kernel
theorem dL_law_451 : decode cL_law 451 = .ok (.iconst 3, 1) := by decide +kernel
theorem dL_law_452 : decode cL_law 452 = .ok (.iadd, 1) := by decide +kernel
theorem dL_law_453 : decode cL_law 453 = .ok (.iaload, 1) := by decide +kernel
theorem dL_law_454 : decode cL_law 454 = .ok (.invokevirtual 50, 3) := by decide +kernel
theorem dL_law_457 : decode cL_law 457 = .ok (.aload_n 2, 1) := by decide +kernel
theorem dL_law_458 : decode cL_law 458 = .ok (.aload_n 0, 1) := by decide +kernel
theorem dL_law_459 : decode cL_law 459 = .ok (.iload_n 3, 1) := by decide +kernel
theorem dL_law_460 : decode cL_law 460 = .ok (.iconst 1, 1) := by decide +kernel
theorem dL_law_461 : decode cL_law 461 = .ok (.iadd, 1) := by decide +kernel
theorem dL_law_462 : decode cL_law 462 = .ok (.iaload, 1) := by decide +kernel
theorem dL_law_463 : decode cL_law 463 = .ok (.aload_n 0, 1) := by decide +kernel
theorem dL_law_464 : decode cL_law 464 = .ok (.iload_n 3, 1) := by decide +kernel
theorem dL_law_465 : decode cL_law 465 = .ok (.iconst 2, 1) := by decide +kernel
theorem dL_law_466 : decode cL_law 466 = .ok (.iadd, 1) := by decide +kernel
theorem dL_law_467 : decode cL_law 467 = .ok (.iaload, 1) := by decide +kernel
theorem dL_law_468 : decode cL_law 468 = .ok (.aload_n 0, 1) := by decide +kernel
theorem dL_law_469 : decode cL_law 469 = .ok (.iload_n 3, 1) := by decide +kernel
theorem dL_law_470 : decode cL_law 470 = .ok (.iconst 3, 1) := by decide +kernel
theorem dL_law_471 : decode cL_law 471 = .ok (.iadd, 1) := by decide +kernel
theorem dL_law_472 : decode cL_law 472 = .ok (.iaload, 1) := by decide +kernel
theorem dL_law_473 : decode cL_law 473 = .ok (.invokevirtual 53, 3) := by decide +kernel
theorem dL_law_476 : decode cL_law 476 = .ok (.if_icmp .eq 816, 3) := by decide +kernel
theorem dL_law_479 : decode cL_law 479 = .ok (.iconst 0, 1) := by decide +kernel
theorem dL_law_480 : decode cL_law 480 = .ok (.ireturn, 1) := by decide +kernel
theorem dL_law_481 : decode cL_law 481 = .ok (.aload_n 1, 1) := by decide +kernel
theorem dL_law_482 : decode cL_law 482 = .ok (.aload_n 0, 1) := by decide +kernel
theorem dL_law_483 : decode cL_law 483 = .ok (.iload_n 3, 1) := by decide +kernel
theorem dL_law_484 : decode cL_law 484 = .ok (.iconst 1, 1) := by decide +kernel
theorem dL_law_485 : decode cL_law 485 = .ok (.iadd, 1) := by decide +kernel
theorem dL_law_486 : decode cL_law 486 = .ok (.iaload, 1) := by decide +kernel
theorem dL_law_487 : decode cL_law 487 = .ok (.aload_n 0, 1) := by decide +kernel
theorem dL_law_488 : decode cL_law 488 = .ok (.iload_n 3, 1) := by decide +kernel
theorem dL_law_489 : decode cL_law 489 = .ok (.iconst 2, 1) := by decide +kernel
theorem dL_law_490 : decode cL_law 490 = .ok (.iadd, 1) := by decide +kernel
theorem dL_law_491 : decode cL_law 491 = .ok (.iaload, 1) := by decide +kernel
theorem dL_law_492 : decode cL_law 492 = .ok (.aload_n 0, 1) := by decide +kernel
theorem dL_law_493 : decode cL_law 493 = .ok (.iload_n 3, 1) := by decide +kernel
theorem dL_law_494 : decode cL_law 494 = .ok (.iconst 3, 1) := by decide +kernel
theorem dL_law_495 : decode cL_law 495 = .ok (.iadd, 1) := by decide +kernel
theorem dL_law_496 : decode cL_law 496 = .ok (.iaload, 1) := by decide +kernel
theorem dL_law_497 : decode cL_law 497 = .ok (.invokevirtual 54, 3) := by decide +kernel
theorem dL_law_500 : decode cL_law 500 = .ok (.aload_n 2, 1) := by decide +kernel
theorem dL_law_501 : decode cL_law 501 = .ok (.aload_n 0, 1) := by decide +kernel
theorem dL_law_502 : decode cL_law 502 = .ok (.iload_n 3, 1) := by decide +kernel
theorem dL_law_503 : decode cL_law 503 = .ok (.iconst 1, 1) := by decide +kernel
theorem dL_law_504 : decode cL_law 504 = .ok (.iadd, 1) := by decide +kernel
theorem dL_law_505 : decode cL_law 505 = .ok (.iaload, 1) := by decide +kernel
theorem dL_law_506 : decode cL_law 506 = .ok (.aload_n 0, 1) := by decide +kernel
theorem dL_law_507 : decode cL_law 507 = .ok (.iload_n 3, 1) := by decide +kernel
theorem dL_law_508 : decode cL_law 508 = .ok (.iconst 2, 1) := by decide +kernel
theorem dL_law_509 : decode cL_law 509 = .ok (.iadd, 1) := by decide +kernel
theorem dL_law_510 : decode cL_law 510 = .ok (.iaload, 1) := by decide +kernel
theorem dL_law_511 : decode cL_law 511 = .ok (.aload_n 0, 1) := by decide +kernel
theorem dL_law_512 : decode cL_law 512 = .ok (.iload_n 3, 1) := by decide +kernel
theorem dL_law_513 : decode cL_law 513 = .ok (.iconst 3, 1) := by decide +kernel
theorem dL_law_514 : decode cL_law 514 = .ok (.iadd, 1) := by decide +kernel
theorem dL_law_515 : decode cL_law 515 = .ok (.iaload, 1) := by decide +kernel
theorem dL_law_516 : decode cL_law 516 = .ok (.invokevirtual 57, 3) := by decide +kernel
theorem dL_law_519 : decode cL_law 519 = .ok (.if_icmp .eq 773, 3) := by decide +kernel
theorem dL_law_522 : decode cL_law 522 = .ok (.iconst 0, 1) := by decide +kernel
theorem dL_law_523 : decode cL_law 523 = .ok (.ireturn, 1) := by decide +kernel
theorem dL_law_524 : decode cL_law 524 = .ok (.aload_n 1, 1) := by decide +kernel
theorem dL_law_525 : decode cL_law 525 = .ok (.aload_n 0, 1) := by decide +kernel
theorem dL_law_526 : decode cL_law 526 = .ok (.iload_n 3, 1) := by decide +kernel
theorem dL_law_527 : decode cL_law 527 = .ok (.iconst 1, 1) := by decide +kernel
theorem dL_law_528 : decode cL_law 528 = .ok (.iadd, 1) := by decide +kernel
theorem dL_law_529 : decode cL_law 529 = .ok (.iaload, 1) := by decide +kernel
theorem dL_law_530 : decode cL_law 530 = .ok (.aload_n 0, 1) := by decide +kernel
theorem dL_law_531 : decode cL_law 531 = .ok (.iload_n 3, 1) := by decide +kernel
theorem dL_law_532 : decode cL_law 532 = .ok (.iconst 2, 1) := by decide +kernel
theorem dL_law_533 : decode cL_law 533 = .ok (.iadd, 1) := by decide +kernel
theorem dL_law_534 : decode cL_law 534 = .ok (.iaload, 1) := by decide +kernel
theorem dL_law_535 : decode cL_law 535 = .ok (.invokevirtual 58, 3) := by decide +kernel
theorem dL_law_538 : decode cL_law 538 = .ok (.aload_n 2, 1) := by decide +kernel
theorem dL_law_539 : decode cL_law 539 = .ok (.aload_n 0, 1) := by decide +kernel
theorem dL_law_540 : decode cL_law 540 = .ok (.iload_n 3, 1) := by decide +kernel
theorem dL_law_541 : decode cL_law 541 = .ok (.iconst 1, 1) := by decide +kernel
theorem dL_law_542 : decode cL_law 542 = .ok (.iadd, 1) := by decide +kernel
theorem dL_law_543 : decode cL_law 543 = .ok (.iaload, 1) := by decide +kernel
theorem dL_law_544 : decode cL_law 544 = .ok (.aload_n 0, 1) := by decide +kernel
theorem dL_law_545 : decode cL_law 545 = .ok (.iload_n 3, 1) := by decide +kernel
theorem dL_law_546 : decode cL_law 546 = .ok (.iconst 2, 1) := by decide +kernel
theorem dL_law_547 : decode cL_law 547 = .ok (.iadd, 1) := by decide +kernel
theorem dL_law_548 : decode cL_law 548 = .ok (.iaload, 1) := by decide +kernel
theorem dL_law_549 : decode cL_law 549 = .ok (.invokevirtual 61, 3) := by decide +kernel
theorem dL_law_552 : decode cL_law 552 = .ok (.if_icmp .eq 740, 3) := by decide +kernel
theorem dL_law_555 : decode cL_law 555 = .ok (.iconst 0, 1) := by decide +kernel
theorem dL_law_556 : decode cL_law 556 = .ok (.ireturn, 1) := by decide +kernel
theorem dL_law_557 : decode cL_law 557 = .ok (.aload_n 1, 1) := by decide +kernel
theorem dL_law_558 : decode cL_law 558 = .ok (.aload_n 0, 1) := by decide +kernel
theorem dL_law_559 : decode cL_law 559 = .ok (.iload_n 3, 1) := by decide +kernel
theorem dL_law_560 : decode cL_law 560 = .ok (.iconst 1, 1) := by decide +kernel
theorem dL_law_561 : decode cL_law 561 = .ok (.iadd, 1) := by decide +kernel
theorem dL_law_562 : decode cL_law 562 = .ok (.iaload, 1) := by decide +kernel
theorem dL_law_563 : decode cL_law 563 = .ok (.aload_n 0, 1) := by decide +kernel
theorem dL_law_564 : decode cL_law 564 = .ok (.iload_n 3, 1) := by decide +kernel
theorem dL_law_565 : decode cL_law 565 = .ok (.iconst 2, 1) := by decide +kernel
theorem dL_law_566 : decode cL_law 566 = .ok (.iadd, 1) := by decide +kernel
theorem dL_law_567 : decode cL_law 567 = .ok (.iaload, 1) := by decide +kernel
theorem dL_law_568 : decode cL_law 568 = .ok (.invokevirtual 62, 3) := by decide +kernel
theorem dL_law_571 : decode cL_law 571 = .ok (.aload_n 2, 1) := by decide +kernel
theorem dL_law_572 : decode cL_law 572 = .ok (.aload_n 0, 1) := by decide +kernel
theorem dL_law_573 : decode cL_law 573 = .ok (.iload_n 3, 1) := by decide +kernel
theorem dL_law_574 : decode cL_law 574 = .ok (.iconst 1, 1) := by decide +kernel
theorem dL_law_575 : decode cL_law 575 = .ok (.iadd, 1) := by decide +kernel
theorem dL_law_576 : decode cL_law 576 = .ok (.iaload, 1) := by decide +kernel
theorem dL_law_577 : decode cL_law 577 = .ok (.aload_n 0, 1) := by decide +kernel
theorem dL_law_578 : decode cL_law 578 = .ok (.iload_n 3, 1) := by decide +kernel
theorem dL_law_579 : decode cL_law 579 = .ok (.iconst 2, 1) := by decide +kernel
theorem dL_law_580 : decode cL_law 580 = .ok (.iadd, 1) := by decide +kernel
theorem dL_law_581 : decode cL_law 581 = .ok (.iaload, 1) := by decide +kernel
theorem dL_law_582 : decode cL_law 582 = .ok (.invokevirtual 65, 3) := by decide +kernel
theorem dL_law_585 : decode cL_law 585 = .ok (.if_icmp .eq 707, 3) := by decide +kernel
theorem dL_law_588 : decode cL_law 588 = .ok (.iconst 0, 1) := by decide +kernel
theorem dL_law_589 : decode cL_law 589 = .ok (.ireturn, 1) := by decide +kernel
theorem dL_law_590 : decode cL_law 590 = .ok (.aload_n 1, 1) := by decide +kernel
theorem dL_law_591 : decode cL_law 591 = .ok (.aload_n 0, 1) := by decide +kernel
theorem dL_law_592 : decode cL_law 592 = .ok (.iload_n 3, 1) := by decide +kernel
theorem dL_law_593 : decode cL_law 593 = .ok (.iconst 1, 1) := by decide +kernel
theorem dL_law_594 : decode cL_law 594 = .ok (.iadd, 1) := by decide +kernel
theorem dL_law_595 : decode cL_law 595 = .ok (.iaload, 1) := by decide +kernel
theorem dL_law_596 : decode cL_law 596 = .ok (.aload_n 0, 1) := by decide +kernel
theorem dL_law_597 : decode cL_law 597 = .ok (.iload_n 3, 1) := by decide +kernel
theorem dL_law_598 : decode cL_law 598 = .ok (.iconst 2, 1) := by decide +kernel
theorem dL_law_599 : decode cL_law 599 = .ok (.iadd, 1) := by decide +kernel
theorem dL_law_600 : decode cL_law 600 = .ok (.iaload, 1) := by decide +kernel
theorem dL_law_601 : decode cL_law 601 = .ok (.aload_n 0, 1) := by decide +kernel
theorem dL_law_602 : decode cL_law 602 = .ok (.iload_n 3, 1) := by decide +kernel
theorem dL_law_603 : decode cL_law 603 = .ok (.iconst 3, 1) := by decide +kernel
theorem dL_law_604 : decode cL_law 604 = .ok (.iadd, 1) := by decide +kernel
theorem dL_law_605 : decode cL_law 605 = .ok (.iaload, 1) := by decide +kernel
theorem dL_law_606 : decode cL_law 606 = .ok (.aload_n 0, 1) := by decide +kernel
theorem dL_law_607 : decode cL_law 607 = .ok (.iload_n 3, 1) := by decide +kernel
theorem dL_law_608 : decode cL_law 608 = .ok (.iconst 4, 1) := by decide +kernel
theorem dL_law_609 : decode cL_law 609 = .ok (.iadd, 1) := by decide +kernel
theorem dL_law_610 : decode cL_law 610 = .ok (.iaload, 1) := by decide +kernel
theorem dL_law_611 : decode cL_law 611 = .ok (.invokevirtual 66, 3) := by decide +kernel
theorem dL_law_614 : decode cL_law 614 = .ok (.aload_n 2, 1) := by decide +kernel
theorem dL_law_615 : decode cL_law 615 = .ok (.aload_n 0, 1) := by decide +kernel
theorem dL_law_616 : decode cL_law 616 = .ok (.iload_n 3, 1) := by decide +kernel
theorem dL_law_617 : decode cL_law 617 = .ok (.iconst 1, 1) := by decide +kernel
theorem dL_law_618 : decode cL_law 618 = .ok (.iadd, 1) := by decide +kernel
theorem dL_law_619 : decode cL_law 619 = .ok (.iaload, 1) := by decide +kernel
theorem dL_law_620 : decode cL_law 620 = .ok (.aload_n 0, 1) := by decide +kernel
theorem dL_law_621 : decode cL_law 621 = .ok (.iload_n 3, 1) := by decide +kernel
theorem dL_law_622 : decode cL_law 622 = .ok (.iconst 2, 1) := by decide +kernel
theorem dL_law_623 : decode cL_law 623 = .ok (.iadd, 1) := by decide +kernel
theorem dL_law_624 : decode cL_law 624 = .ok (.iaload, 1) := by decide +kernel
theorem dL_law_625 : decode cL_law 625 = .ok (.aload_n 0, 1) := by decide +kernel
theorem dL_law_626 : decode cL_law 626 = .ok (.iload_n 3, 1) := by decide +kernel
theorem dL_law_627 : decode cL_law 627 = .ok (.iconst 3, 1) := by decide +kernel
theorem dL_law_628 : decode cL_law 628 = .ok (.iadd, 1) := by decide +kernel
theorem dL_law_629 : decode cL_law 629 = .ok (.iaload, 1) := by decide +kernel
theorem dL_law_630 : decode cL_law 630 = .ok (.aload_n 0, 1) := by decide +kernel
theorem dL_law_631 : decode cL_law 631 = .ok (.iload_n 3, 1) := by decide +kernel
theorem dL_law_632 : decode cL_law 632 = .ok (.iconst 4, 1) := by decide +kernel
theorem dL_law_633 : decode cL_law 633 = .ok (.iadd, 1) := by decide +kernel
theorem dL_law_634 : decode cL_law 634 = .ok (.iaload, 1) := by decide +kernel
theorem dL_law_635 : decode cL_law 635 = .ok (.invokevirtual 69, 3) := by decide +kernel
theorem dL_law_638 : decode cL_law 638 = .ok (.if_icmp .eq 654, 3) := by decide +kernel
theorem dL_law_641 : decode cL_law 641 = .ok (.iconst 0, 1) := by decide +kernel
theorem dL_law_642 : decode cL_law 642 = .ok (.ireturn, 1) := by decide +kernel
theorem dL_law_643 : decode cL_law 643 = .ok (.aload_n 1, 1) := by decide +kernel
theorem dL_law_644 : decode cL_law 644 = .ok (.aload_n 0, 1) := by decide +kernel
theorem dL_law_645 : decode cL_law 645 = .ok (.iload_n 3, 1) := by decide +kernel
theorem dL_law_646 : decode cL_law 646 = .ok (.iconst 1, 1) := by decide +kernel
theorem dL_law_647 : decode cL_law 647 = .ok (.iadd, 1) := by decide +kernel
theorem dL_law_648 : decode cL_law 648 = .ok (.iaload, 1) := by decide +kernel
theorem dL_law_649 : decode cL_law 649 = .ok (.aload_n 0, 1) := by decide +kernel
theorem dL_law_650 : decode cL_law 650 = .ok (.iload_n 3, 1) := by decide +kernel
theorem dL_law_651 : decode cL_law 651 = .ok (.iconst 2, 1) := by decide +kernel
theorem dL_law_652 : decode cL_law 652 = .ok (.iadd, 1) := by decide +kernel
theorem dL_law_653 : decode cL_law 653 = .ok (.iaload, 1) := by decide +kernel
theorem dL_law_654 : decode cL_law 654 = .ok (.aload_n 0, 1) := by decide +kernel
theorem dL_law_655 : decode cL_law 655 = .ok (.iload_n 3, 1) := by decide +kernel
theorem dL_law_656 : decode cL_law 656 = .ok (.iconst 3, 1) := by decide +kernel
theorem dL_law_657 : decode cL_law 657 = .ok (.iadd, 1) := by decide +kernel
theorem dL_law_658 : decode cL_law 658 = .ok (.iaload, 1) := by decide +kernel
theorem dL_law_659 : decode cL_law 659 = .ok (.aload_n 0, 1) := by decide +kernel
theorem dL_law_660 : decode cL_law 660 = .ok (.iload_n 3, 1) := by decide +kernel
theorem dL_law_661 : decode cL_law 661 = .ok (.iconst 4, 1) := by decide +kernel
theorem dL_law_662 : decode cL_law 662 = .ok (.iadd, 1) := by decide +kernel
theorem dL_law_663 : decode cL_law 663 = .ok (.iaload, 1) := by decide +kernel
theorem dL_law_664 : decode cL_law 664 = .ok (.invokevirtual 70, 3) := by decide +kernel
theorem dL_law_667 : decode cL_law 667 = .ok (.aload_n 2, 1) := by decide +kernel
theorem dL_law_668 : decode cL_law 668 = .ok (.aload_n 0, 1) := by decide +kernel
theorem dL_law_669 : decode cL_law 669 = .ok (.iload_n 3, 1) := by decide +kernel
theorem dL_law_670 : decode cL_law 670 = .ok (.iconst 1, 1) := by decide +kernel
theorem dL_law_671 : decode cL_law 671 = .ok (.iadd, 1) := by decide +kernel
theorem dL_law_672 : decode cL_law 672 = .ok (.iaload, 1) := by decide +kernel
theorem dL_law_673 : decode cL_law 673 = .ok (.aload_n 0, 1) := by decide +kernel
theorem dL_law_674 : decode cL_law 674 = .ok (.iload_n 3, 1) := by decide +kernel
theorem dL_law_675 : decode cL_law 675 = .ok (.iconst 2, 1) := by decide +kernel
theorem dL_law_676 : decode cL_law 676 = .ok (.iadd, 1) := by decide +kernel
theorem dL_law_677 : decode cL_law 677 = .ok (.iaload, 1) := by decide +kernel
theorem dL_law_678 : decode cL_law 678 = .ok (.aload_n 0, 1) := by decide +kernel
theorem dL_law_679 : decode cL_law 679 = .ok (.iload_n 3, 1) := by decide +kernel
theorem dL_law_680 : decode cL_law 680 = .ok (.iconst 3, 1) := by decide +kernel
theorem dL_law_681 : decode cL_law 681 = .ok (.iadd, 1) := by decide +kernel
theorem dL_law_682 : decode cL_law 682 = .ok (.iaload, 1) := by decide +kernel
theorem dL_law_683 : decode cL_law 683 = .ok (.aload_n 0, 1) := by decide +kernel
theorem dL_law_684 : decode cL_law 684 = .ok (.iload_n 3, 1) := by decide +kernel
theorem dL_law_685 : decode cL_law 685 = .ok (.iconst 4, 1) := by decide +kernel
theorem dL_law_686 : decode cL_law 686 = .ok (.iadd, 1) := by decide +kernel
theorem dL_law_687 : decode cL_law 687 = .ok (.iaload, 1) := by decide +kernel
theorem dL_law_688 : decode cL_law 688 = .ok (.invokevirtual 73, 3) := by decide +kernel
theorem dL_law_691 : decode cL_law 691 = .ok (.if_icmp .eq 601, 3) := by decide +kernel
theorem dL_law_694 : decode cL_law 694 = .ok (.iconst 0, 1) := by decide +kernel
theorem dL_law_695 : decode cL_law 695 = .ok (.ireturn, 1) := by decide +kernel
theorem dL_law_696 : decode cL_law 696 = .ok (.aload_n 1, 1) := by decide +kernel
theorem dL_law_697 : decode cL_law 697 = .ok (.aload_n 0, 1) := by decide +kernel
theorem dL_law_698 : decode cL_law 698 = .ok (.iload_n 3, 1) := by decide +kernel
theorem dL_law_699 : decode cL_law 699 = .ok (.iconst 1, 1) := by decide +kernel
theorem dL_law_700 : decode cL_law 700 = .ok (.iadd, 1) := by decide +kernel
theorem dL_law_701 : decode cL_law 701 = .ok (.iaload, 1) := by decide +kernel
theorem dL_law_702 : decode cL_law 702 = .ok (.aload_n 0, 1) := by decide +kernel
theorem dL_law_703 : decode cL_law 703 = .ok (.iload_n 3, 1) := by decide +kernel
theorem dL_law_704 : decode cL_law 704 = .ok (.iconst 2, 1) := by decide +kernel
theorem dL_law_705 : decode cL_law 705 = .ok (.iadd, 1) := by decide +kernel
theorem dL_law_706 : decode cL_law 706 = .ok (.iaload, 1) := by decide +kernel
theorem dL_law_707 : decode cL_law 707 = .ok (.aload_n 0, 1) := by decide +kernel
theorem dL_law_708 : decode cL_law 708 = .ok (.iload_n 3, 1) := by decide +kernel
theorem dL_law_709 : decode cL_law 709 = .ok (.iconst 3, 1) := by decide +kernel
theorem dL_law_710 : decode cL_law 710 = .ok (.iadd, 1) := by decide +kernel
theorem dL_law_711 : decode cL_law 711 = .ok (.iaload, 1) := by decide +kernel
theorem dL_law_712 : decode cL_law 712 = .ok (.aload_n 0, 1) := by decide +kernel
theorem dL_law_713 : decode cL_law 713 = .ok (.iload_n 3, 1) := by decide +kernel
theorem dL_law_714 : decode cL_law 714 = .ok (.iconst 4, 1) := by decide +kernel
theorem dL_law_715 : decode cL_law 715 = .ok (.iadd, 1) := by decide +kernel
theorem dL_law_716 : decode cL_law 716 = .ok (.iaload, 1) := by decide +kernel
theorem dL_law_717 : decode cL_law 717 = .ok (.invokevirtual 74, 3) := by decide +kernel
theorem dL_law_720 : decode cL_law 720 = .ok (.aload_n 2, 1) := by decide +kernel
theorem dL_law_721 : decode cL_law 721 = .ok (.aload_n 0, 1) := by decide +kernel
theorem dL_law_722 : decode cL_law 722 = .ok (.iload_n 3, 1) := by decide +kernel
theorem dL_law_723 : decode cL_law 723 = .ok (.iconst 1, 1) := by decide +kernel
theorem dL_law_724 : decode cL_law 724 = .ok (.iadd, 1) := by decide +kernel
theorem dL_law_725 : decode cL_law 725 = .ok (.iaload, 1) := by decide +kernel
theorem dL_law_726 : decode cL_law 726 = .ok (.aload_n 0, 1) := by decide +kernel
theorem dL_law_727 : decode cL_law 727 = .ok (.iload_n 3, 1) := by decide +kernel
theorem dL_law_728 : decode cL_law 728 = .ok (.iconst 2, 1) := by decide +kernel
theorem dL_law_729 : decode cL_law 729 = .ok (.iadd, 1) := by decide +kernel
theorem dL_law_730 : decode cL_law 730 = .ok (.iaload, 1) := by decide +kernel
theorem dL_law_731 : decode cL_law 731 = .ok (.aload_n 0, 1) := by decide +kernel
theorem dL_law_732 : decode cL_law 732 = .ok (.iload_n 3, 1) := by decide +kernel
theorem dL_law_733 : decode cL_law 733 = .ok (.iconst 3, 1) := by decide +kernel
theorem dL_law_734 : decode cL_law 734 = .ok (.iadd, 1) := by decide +kernel
theorem dL_law_735 : decode cL_law 735 = .ok (.iaload, 1) := by decide +kernel
theorem dL_law_736 : decode cL_law 736 = .ok (.aload_n 0, 1) := by decide +kernel
theorem dL_law_737 : decode cL_law 737 = .ok (.iload_n 3, 1) := by decide +kernel
theorem dL_law_738 : decode cL_law 738 = .ok (.iconst 4, 1) := by decide +kernel
theorem dL_law_739 : decode cL_law 739 = .ok (.iadd, 1) := by decide +kernel
theorem dL_law_740 : decode cL_law 740 = .ok (.iaload, 1) := by decide +kernel
theorem dL_law_741 : decode cL_law 741 = .ok (.invokevirtual 77, 3) := by decide +kernel
theorem dL_law_744 : decode cL_law 744 = .ok (.if_icmp .eq 548, 3) := by decide +kernel
theorem dL_law_747 : decode cL_law 747 = .ok (.iconst 0, 1) := by decide +kernel
theorem dL_law_748 : decode cL_law 748 = .ok (.ireturn, 1) := by decide +kernel
theorem dL_law_749 : decode cL_law 749 = .ok (.aload_n 1, 1) := by decide +kernel
theorem dL_law_750 : decode cL_law 750 = .ok (.aload_n 0, 1) := by decide +kernel
theorem dL_law_751 : decode cL_law 751 = .ok (.iload_n 3, 1) := by decide +kernel
theorem dL_law_752 : decode cL_law 752 = .ok (.iconst 1, 1) := by decide +kernel
theorem dL_law_753 : decode cL_law 753 = .ok (.iadd, 1) := by decide +kernel
theorem dL_law_754 : decode cL_law 754 = .ok (.iaload, 1) := by decide +kernel
theorem dL_law_755 : decode cL_law 755 = .ok (.aload_n 0, 1) := by decide +kernel
theorem dL_law_756 : decode cL_law 756 = .ok (.iload_n 3, 1) := by decide +kernel
theorem dL_law_757 : decode cL_law 757 = .ok (.iconst 2, 1) := by decide +kernel
theorem dL_law_758 : decode cL_law 758 = .ok (.iadd, 1) := by decide +kernel
theorem dL_law_759 : decode cL_law 759 = .ok (.iaload, 1) := by decide +kernel
theorem dL_law_760 : decode cL_law 760 = .ok (.aload_n 0, 1) := by decide +kernel
theorem dL_law_761 : decode cL_law 761 = .ok (.iload_n 3, 1) := by decide +kernel
theorem dL_law_762 : decode cL_law 762 = .ok (.iconst 3, 1) := by decide +kernel
theorem dL_law_763 : decode cL_law 763 = .ok (.iadd, 1) := by decide +kernel
theorem dL_law_764 : decode cL_law 764 = .ok (.iaload, 1) := by decide +kernel
theorem dL_law_765 : decode cL_law 765 = .ok (.aload_n 0, 1) := by decide +kernel
theorem dL_law_766 : decode cL_law 766 = .ok (.iload_n 3, 1) := by decide +kernel
theorem dL_law_767 : decode cL_law 767 = .ok (.iconst 4, 1) := by decide +kernel
theorem dL_law_768 : decode cL_law 768 = .ok (.iadd, 1) := by decide +kernel
theorem dL_law_769 : decode cL_law 769 = .ok (.iaload, 1) := by decide +kernel
theorem dL_law_770 : decode cL_law 770 = .ok (.invokevirtual 78, 3) := by decide +kernel
theorem dL_law_773 : decode cL_law 773 = .ok (.aload_n 2, 1) := by decide +kernel
theorem dL_law_774 : decode cL_law 774 = .ok (.aload_n 0, 1) := by decide +kernel
theorem dL_law_775 : decode cL_law 775 = .ok (.iload_n 3, 1) := by decide +kernel
theorem dL_law_776 : decode cL_law 776 = .ok (.iconst 1, 1) := by decide +kernel
theorem dL_law_777 : decode cL_law 777 = .ok (.iadd, 1) := by decide +kernel
theorem dL_law_778 : decode cL_law 778 = .ok (.iaload, 1) := by decide +kernel
theorem dL_law_779 : decode cL_law 779 = .ok (.aload_n 0, 1) := by decide +kernel
theorem dL_law_780 : decode cL_law 780 = .ok (.iload_n 3, 1) := by decide +kernel
theorem dL_law_781 : decode cL_law 781 = .ok (.iconst 2, 1) := by decide +kernel
theorem dL_law_782 : decode cL_law 782 = .ok (.iadd, 1) := by decide +kernel
theorem dL_law_783 : decode cL_law 783 = .ok (.iaload, 1) := by decide +kernel
theorem dL_law_784 : decode cL_law 784 = .ok (.aload_n 0, 1) := by decide +kernel
theorem dL_law_785 : decode cL_law 785 = .ok (.iload_n 3, 1) := by decide +kernel
theorem dL_law_786 : decode cL_law 786 = .ok (.iconst 3, 1) := by decide +kernel
theorem dL_law_787 : decode cL_law 787 = .ok (.iadd, 1) := by decide +kernel
theorem dL_law_788 : decode cL_law 788 = .ok (.iaload, 1) := by decide +kernel
theorem dL_law_789 : decode cL_law 789 = .ok (.aload_n 0, 1) := by decide +kernel
theorem dL_law_790 : decode cL_law 790 = .ok (.iload_n 3, 1) := by decide +kernel
theorem dL_law_791 : decode cL_law 791 = .ok (.iconst 4, 1) := by decide +kernel
theorem dL_law_792 : decode cL_law 792 = .ok (.iadd, 1) := by decide +kernel
theorem dL_law_793 : decode cL_law 793 = .ok (.iaload, 1) := by decide +kernel
theorem dL_law_794 : decode cL_law 794 = .ok (.invokevirtual 81, 3) := by decide +kernel
theorem dL_law_797 : decode cL_law 797 = .ok (.if_icmp .eq 495, 3) := by decide +kernel
theorem dL_law_800 : decode cL_law 800 = .ok (.iconst 0, 1) := by decide +kernel
theorem dL_law_801 : decode cL_law 801 = .ok (.ireturn, 1) := by decide +kernel
theorem dL_law_802 : decode cL_law 802 = .ok (.aload_n 1, 1) := by decide +kernel
theorem dL_law_803 : decode cL_law 803 = .ok (.aload_n 0, 1) := by decide +kernel
theorem dL_law_804 : decode cL_law 804 = .ok (.iload_n 3, 1) := by decide +kernel
theorem dL_law_805 : decode cL_law 805 = .ok (.iconst 1, 1) := by decide +kernel
theorem dL_law_806 : decode cL_law 806 = .ok (.iadd, 1) := by decide +kernel
theorem dL_law_807 : decode cL_law 807 = .ok (.iaload, 1) := by decide +kernel
theorem dL_law_808 : decode cL_law 808 = .ok (.aload_n 0, 1) := by decide +kernel
theorem dL_law_809 : decode cL_law 809 = .ok (.iload_n 3, 1) := by decide +kernel
theorem dL_law_810 : decode cL_law 810 = .ok (.iconst 2, 1) := by decide +kernel
theorem dL_law_811 : decode cL_law 811 = .ok (.iadd, 1) := by decide +kernel
theorem dL_law_812 : decode cL_law 812 = .ok (.iaload, 1) := by decide +kernel
theorem dL_law_813 : decode cL_law 813 = .ok (.invokevirtual 82, 3) := by decide +kernel
theorem dL_law_816 : decode cL_law 816 = .ok (.aload_n 2, 1) := by decide +kernel
theorem dL_law_817 : decode cL_law 817 = .ok (.aload_n 0, 1) := by decide +kernel
theorem dL_law_818 : decode cL_law 818 = .ok (.iload_n 3, 1) := by decide +kernel
theorem dL_law_819 : decode cL_law 819 = .ok (.iconst 1, 1) := by decide +kernel
theorem dL_law_820 : decode cL_law 820 = .ok (.iadd, 1) := by decide +kernel
theorem dL_law_821 : decode cL_law 821 = .ok (.iaload, 1) := by decide +kernel
theorem dL_law_822 : decode cL_law 822 = .ok (.aload_n 0, 1) := by decide +kernel
theorem dL_law_823 : decode cL_law 823 = .ok (.iload_n 3, 1) := by decide +kernel
theorem dL_law_824 : decode cL_law 824 = .ok (.iconst 2, 1) := by decide +kernel
theorem dL_law_825 : decode cL_law 825 = .ok (.iadd, 1) := by decide +kernel
theorem dL_law_826 : decode cL_law 826 = .ok (.iaload, 1) := by decide +kernel
theorem dL_law_827 : decode cL_law 827 = .ok (.invokevirtual 85, 3) := by decide +kernel
theorem dL_law_830 : decode cL_law 830 = .ok (.if_icmp .eq 462, 3) := by decide +kernel
theorem dL_law_833 : decode cL_law 833 = .ok (.iconst 0, 1) := by decide +kernel
theorem dL_law_834 : decode cL_law 834 = .ok (.ireturn, 1) := by decide +kernel
theorem dL_law_835 : decode cL_law 835 = .ok (.aload_n 1, 1) := by decide +kernel
theorem dL_law_836 : decode cL_law 836 = .ok (.aload_n 0, 1) := by decide +kernel
theorem dL_law_837 : decode cL_law 837 = .ok (.iload_n 3, 1) := by decide +kernel
theorem dL_law_838 : decode cL_law 838 = .ok (.iconst 1, 1) := by decide +kernel
theorem dL_law_839 : decode cL_law 839 = .ok (.iadd, 1) := by decide +kernel
theorem dL_law_840 : decode cL_law 840 = .ok (.iaload, 1) := by decide +kernel
theorem dL_law_841 : decode cL_law 841 = .ok (.aload_n 0, 1) := by decide +kernel
theorem dL_law_842 : decode cL_law 842 = .ok (.iload_n 3, 1) := by decide +kernel
theorem dL_law_843 : decode cL_law 843 = .ok (.iconst 2, 1) := by decide +kernel
theorem dL_law_844 : decode cL_law 844 = .ok (.iadd, 1) := by decide +kernel
theorem dL_law_845 : decode cL_law 845 = .ok (.iaload, 1) := by decide +kernel
theorem dL_law_846 : decode cL_law 846 = .ok (.invokevirtual 86, 3) := by decide +kernel
theorem dL_law_849 : decode cL_law 849 = .ok (.aload_n 2, 1) := by decide +kernel
theorem dL_law_850 : decode cL_law 850 = .ok (.aload_n 0, 1) := by decide +kernel
theorem dL_law_851 : decode cL_law 851 = .ok (.iload_n 3, 1) := by decide +kernel
theorem dL_law_852 : decode cL_law 852 = .ok (.iconst 1, 1) := by decide +kernel
theorem dL_law_853 : decode cL_law 853 = .ok (.iadd, 1) := by decide +kernel
theorem dL_law_854 : decode cL_law 854 = .ok (.iaload, 1) := by decide +kernel
theorem dL_law_855 : decode cL_law 855 = .ok (.aload_n 0, 1) := by decide +kernel
theorem dL_law_856 : decode cL_law 856 = .ok (.iload_n 3, 1) := by decide +kernel
theorem dL_law_857 : decode cL_law 857 = .ok (.iconst 2, 1) := by decide +kernel
theorem dL_law_858 : decode cL_law 858 = .ok (.iadd, 1) := by decide +kernel
theorem dL_law_859 : decode cL_law 859 = .ok (.iaload, 1) := by decide +kernel
theorem dL_law_860 : decode cL_law 860 = .ok (.invokevirtual 89, 3) := by decide +kernel
theorem dL_law_863 : decode cL_law 863 = .ok (.if_icmp .eq 429, 3) := by decide +kernel
theorem dL_law_866 : decode cL_law 866 = .ok (.iconst 0, 1) := by decide +kernel
theorem dL_law_867 : decode cL_law 867 = .ok (.ireturn, 1) := by decide +kernel
theorem dL_law_868 : decode cL_law 868 = .ok (.aload_n 1, 1) := by decide +kernel
theorem dL_law_869 : decode cL_law 869 = .ok (.aload_n 0, 1) := by decide +kernel
theorem dL_law_870 : decode cL_law 870 = .ok (.iload_n 3, 1) := by decide +kernel
theorem dL_law_871 : decode cL_law 871 = .ok (.iconst 1, 1) := by decide +kernel
theorem dL_law_872 : decode cL_law 872 = .ok (.iadd, 1) := by decide +kernel
theorem dL_law_873 : decode cL_law 873 = .ok (.iaload, 1) := by decide +kernel
theorem dL_law_874 : decode cL_law 874 = .ok (.aload_n 0, 1) := by decide +kernel
theorem dL_law_875 : decode cL_law 875 = .ok (.iload_n 3, 1) := by decide +kernel
theorem dL_law_876 : decode cL_law 876 = .ok (.iconst 2, 1) := by decide +kernel
theorem dL_law_877 : decode cL_law 877 = .ok (.iadd, 1) := by decide +kernel
theorem dL_law_878 : decode cL_law 878 = .ok (.iaload, 1) := by decide +kernel
theorem dL_law_879 : decode cL_law 879 = .ok (.aload_n 0, 1) := by decide +kernel
theorem dL_law_880 : decode cL_law 880 = .ok (.iload_n 3, 1) := by decide +kernel
theorem dL_law_881 : decode cL_law 881 = .ok (.iconst 3, 1) := by decide +kernel
theorem dL_law_882 : decode cL_law 882 = .ok (.iadd, 1) := by decide +kernel
theorem dL_law_883 : decode cL_law 883 = .ok (.iaload, 1) := by decide +kernel
theorem dL_law_884 : decode cL_law 884 = .ok (.invokevirtual 90, 3) := by decide +kernel
theorem dL_law_887 : decode cL_law 887 = .ok (.aload_n 2, 1) := by decide +kernel
theorem dL_law_888 : decode cL_law 888 = .ok (.aload_n 0, 1) := by decide +kernel
theorem dL_law_889 : decode cL_law 889 = .ok (.iload_n 3, 1) := by decide +kernel
theorem dL_law_890 : decode cL_law 890 = .ok (.iconst 1, 1) := by decide +kernel
theorem dL_law_891 : decode cL_law 891 = .ok (.iadd, 1) := by decide +kernel
theorem dL_law_892 : decode cL_law 892 = .ok (.iaload, 1) := by decide +kernel
theorem dL_law_893 : decode cL_law 893 = .ok (.aload_n 0, 1) := by decide +kernel
theorem dL_law_894 : decode cL_law 894 = .ok (.iload_n 3, 1) := by decide +kernel
theorem dL_law_895 : decode cL_law 895 = .ok (.iconst 2, 1) := by decide +kernel
theorem dL_law_896 : decode cL_law 896 = .ok (.iadd, 1) := by decide +kernel
theorem dL_law_897 : decode cL_law 897 = .ok (.iaload, 1) := by decide +kernel
theorem dL_law_898 : decode cL_law 898 = .ok (.aload_n 0, 1) := by decide +kernel
theorem dL_law_899 : decode cL_law 899 = .ok (.iload_n 3, 1) := by decide +kernel
theorem dL_law_900 : decode cL_law 900 = .ok (.iconst 3, 1) := by decide +kernel
theorem dL_law_901 : decode cL_law 901 = .ok (.iadd, 1) := by decide +kernel
theorem dL_law_902 : decode cL_law 902 = .ok (.iaload, 1) := by decide +kernel
theorem dL_law_903 : decode cL_law 903 = .ok (.invokevirtual 93, 3) := by decide +kernel
theorem dL_law_906 : decode cL_law 906 = .ok (.if_icmp .eq 386, 3) := by decide +kernel
theorem dL_law_909 : decode cL_law 909 = .ok (.iconst 0, 1) := by decide +kernel
theorem dL_law_910 : decode cL_law 910 = .ok (.ireturn, 1) := by decide +kernel
theorem dL_law_911 : decode cL_law 911 = .ok (.aload_n 1, 1) := by decide +kernel
theorem dL_law_912 : decode cL_law 912 = .ok (.aload_n 0, 1) := by decide +kernel
theorem dL_law_913 : decode cL_law 913 = .ok (.iload_n 3, 1) := by decide +kernel
theorem dL_law_914 : decode cL_law 914 = .ok (.iconst 1, 1) := by decide +kernel
theorem dL_law_915 : decode cL_law 915 = .ok (.iadd, 1) := by decide +kernel
theorem dL_law_916 : decode cL_law 916 = .ok (.iaload, 1) := by decide +kernel
theorem dL_law_917 : decode cL_law 917 = .ok (.aload_n 0, 1) := by decide +kernel
theorem dL_law_918 : decode cL_law 918 = .ok (.iload_n 3, 1) := by decide +kernel
theorem dL_law_919 : decode cL_law 919 = .ok (.iconst 2, 1) := by decide +kernel
theorem dL_law_920 : decode cL_law 920 = .ok (.iadd, 1) := by decide +kernel
theorem dL_law_921 : decode cL_law 921 = .ok (.iaload, 1) := by decide +kernel
theorem dL_law_922 : decode cL_law 922 = .ok (.invokevirtual 94, 3) := by decide +kernel
theorem dL_law_925 : decode cL_law 925 = .ok (.aload_n 2, 1) := by decide +kernel
theorem dL_law_926 : decode cL_law 926 = .ok (.aload_n 0, 1) := by decide +kernel
theorem dL_law_927 : decode cL_law 927 = .ok (.iload_n 3, 1) := by decide +kernel
theorem dL_law_928 : decode cL_law 928 = .ok (.iconst 1, 1) := by decide +kernel
theorem dL_law_929 : decode cL_law 929 = .ok (.iadd, 1) := by decide +kernel
theorem dL_law_930 : decode cL_law 930 = .ok (.iaload, 1) := by decide +kernel
theorem dL_law_931 : decode cL_law 931 = .ok (.aload_n 0, 1) := by decide +kernel
theorem dL_law_932 : decode cL_law 932 = .ok (.iload_n 3, 1) := by decide +kernel
theorem dL_law_933 : decode cL_law 933 = .ok (.iconst 2, 1) := by decide +kernel
theorem dL_law_934 : decode cL_law 934 = .ok (.iadd, 1) := by decide +kernel
theorem dL_law_935 : decode cL_law 935 = .ok (.iaload, 1) := by decide +kernel
theorem dL_law_936 : decode cL_law 936 = .ok (.invokevirtual 97, 3) := by decide +kernel
theorem dL_law_939 : decode cL_law 939 = .ok (.if_icmp .eq 353, 3) := by decide +kernel
theorem dL_law_942 : decode cL_law 942 = .ok (.iconst 0, 1) := by decide +kernel
theorem dL_law_943 : decode cL_law 943 = .ok (.ireturn, 1) := by decide +kernel
theorem dL_law_944 : decode cL_law 944 = .ok (.aload_n 1, 1) := by decide +kernel
theorem dL_law_945 : decode cL_law 945 = .ok (.aload_n 0, 1) := by decide +kernel
theorem dL_law_946 : decode cL_law 946 = .ok (.iload_n 3, 1) := by decide +kernel
theorem dL_law_947 : decode cL_law 947 = .ok (.iconst 1, 1) := by decide +kernel
theorem dL_law_948 : decode cL_law 948 = .ok (.iadd, 1) := by decide +kernel
theorem dL_law_949 : decode cL_law 949 = .ok (.iaload, 1) := by decide +kernel
theorem dL_law_950 : decode cL_law 950 = .ok (.aload_n 0, 1) := by decide +kernel
theorem dL_law_951 : decode cL_law 951 = .ok (.iload_n 3, 1) := by decide +kernel
theorem dL_law_952 : decode cL_law 952 = .ok (.iconst 2, 1) := by decide +kernel
theorem dL_law_953 : decode cL_law 953 = .ok (.iadd, 1) := by decide +kernel
theorem dL_law_954 : decode cL_law 954 = .ok (.iaload, 1) := by decide +kernel
theorem dL_law_955 : decode cL_law 955 = .ok (.aload_n 0, 1) := by decide +kernel
theorem dL_law_956 : decode cL_law 956 = .ok (.iload_n 3, 1) := by decide +kernel
theorem dL_law_957 : decode cL_law 957 = .ok (.iconst 3, 1) := by decide +kernel
theorem dL_law_958 : decode cL_law 958 = .ok (.iadd, 1) := by decide +kernel
theorem dL_law_959 : decode cL_law 959 = .ok (.iaload, 1) := by decide +kernel
theorem dL_law_960 : decode cL_law 960 = .ok (.aload_n 0, 1) := by decide +kernel
theorem dL_law_961 : decode cL_law 961 = .ok (.iload_n 3, 1) := by decide +kernel
theorem dL_law_962 : decode cL_law 962 = .ok (.iconst 4, 1) := by decide +kernel
theorem dL_law_963 : decode cL_law 963 = .ok (.iadd, 1) := by decide +kernel
theorem dL_law_964 : decode cL_law 964 = .ok (.iaload, 1) := by decide +kernel
theorem dL_law_965 : decode cL_law 965 = .ok (.aload_n 0, 1) := by decide +kernel
theorem dL_law_966 : decode cL_law 966 = .ok (.iload_n 3, 1) := by decide +kernel
theorem dL_law_967 : decode cL_law 967 = .ok (.iconst 5, 1) := by decide +kernel
theorem dL_law_968 : decode cL_law 968 = .ok (.iadd, 1) := by decide +kernel
theorem dL_law_969 : decode cL_law 969 = .ok (.iaload, 1) := by decide +kernel
theorem dL_law_970 : decode cL_law 970 = .ok (.invokevirtual 98, 3) := by decide +kernel
theorem dL_law_973 : decode cL_law 973 = .ok (.aload_n 2, 1) := by decide +kernel
theorem dL_law_974 : decode cL_law 974 = .ok (.aload_n 0, 1) := by decide +kernel
theorem dL_law_975 : decode cL_law 975 = .ok (.iload_n 3, 1) := by decide +kernel
theorem dL_law_976 : decode cL_law 976 = .ok (.iconst 1, 1) := by decide +kernel
theorem dL_law_977 : decode cL_law 977 = .ok (.iadd, 1) := by decide +kernel
theorem dL_law_978 : decode cL_law 978 = .ok (.iaload, 1) := by decide +kernel
theorem dL_law_979 : decode cL_law 979 = .ok (.aload_n 0, 1) := by decide +kernel
theorem dL_law_980 : decode cL_law 980 = .ok (.iload_n 3, 1) := by decide +kernel
theorem dL_law_981 : decode cL_law 981 = .ok (.iconst 2, 1) := by decide +kernel
theorem dL_law_982 : decode cL_law 982 = .ok (.iadd, 1) := by decide +kernel
theorem dL_law_983 : decode cL_law 983 = .ok (.iaload, 1) := by decide +kernel
theorem dL_law_984 : decode cL_law 984 = .ok (.aload_n 0, 1) := by decide +kernel
theorem dL_law_985 : decode cL_law 985 = .ok (.iload_n 3, 1) := by decide +kernel
theorem dL_law_986 : decode cL_law 986 = .ok (.iconst 3, 1) := by decide +kernel
theorem dL_law_987 : decode cL_law 987 = .ok (.iadd, 1) := by decide +kernel
theorem dL_law_988 : decode cL_law 988 = .ok (.iaload, 1) := by decide +kernel
theorem dL_law_989 : decode cL_law 989 = .ok (.aload_n 0, 1) := by decide +kernel
theorem dL_law_990 : decode cL_law 990 = .ok (.iload_n 3, 1) := by decide +kernel
theorem dL_law_991 : decode cL_law 991 = .ok (.iconst 4, 1) := by decide +kernel
theorem dL_law_992 : decode cL_law 992 = .ok (.iadd, 1) := by decide +kernel
theorem dL_law_993 : decode cL_law 993 = .ok (.iaload, 1) := by decide +kernel
theorem dL_law_994 : decode cL_law 994 = .ok (.aload_n 0, 1) := by decide +kernel
theorem dL_law_995 : decode cL_law 995 = .ok (.iload_n 3, 1) := by decide +kernel
theorem dL_law_996 : decode cL_law 996 = .ok (.iconst 5, 1) := by decide +kernel
theorem dL_law_997 : decode cL_law 997 = .ok (.iadd, 1) := by decide +kernel
theorem dL_law_998 : decode cL_law 998 = .ok (.iaload, 1) := by decide +kernel
theorem dL_law_999 : decode cL_law 999 = .ok (.invokevirtual 102, 3) := by decide +kernel
theorem dL_law_1002 : decode cL_law 1002 = .ok (.lcmp, 1) := by decide +kernel
theorem dL_law_1003 : decode cL_law 1003 = .ok (.ifCond .eq 289, 3) := by decide +kernel
theorem dL_law_1006 : decode cL_law 1006 = .ok (.iconst 0, 1) := by decide +kernel
theorem dL_law_1007 : decode cL_law 1007 = .ok (.ireturn, 1) := by decide +kernel
theorem dL_law_1008 : decode cL_law 1008 = .ok (.aload_n 1, 1) := by decide +kernel
theorem dL_law_1009 : decode cL_law 1009 = .ok (.invokevirtual 103, 3) := by decide +kernel
theorem dL_law_1012 : decode cL_law 1012 = .ok (.aload_n 2, 1) := by decide +kernel
theorem dL_law_1013 : decode cL_law 1013 = .ok (.invokevirtual 106, 3) := by decide +kernel
theorem dL_law_1016 : decode cL_law 1016 = .ok (.if_icmp .eq 276, 3) := by decide +kernel
theorem dL_law_1019 : decode cL_law 1019 = .ok (.iconst 0, 1) := by decide +kernel
theorem dL_law_1020 : decode cL_law 1020 = .ok (.ireturn, 1) := by decide +kernel
theorem dL_law_1021 : decode cL_law 1021 = .ok (.aload_n 1, 1) := by decide +kernel
theorem dL_law_1022 : decode cL_law 1022 = .ok (.invokevirtual 107, 3) := by decide +kernel
theorem dL_law_1025 : decode cL_law 1025 = .ok (.aload_n 2, 1) := by decide +kernel
theorem dL_law_1026 : decode cL_law 1026 = .ok (.invokevirtual 110, 3) := by decide +kernel
theorem dL_law_1029 : decode cL_law 1029 = .ok (.if_icmp .eq 263, 3) := by decide +kernel
theorem dL_law_1032 : decode cL_law 1032 = .ok (.iconst 0, 1) := by decide +kernel
theorem dL_law_1033 : decode cL_law 1033 = .ok (.ireturn, 1) := by decide +kernel
theorem dL_law_1034 : decode cL_law 1034 = .ok (.aload_n 1, 1) := by decide +kernel
theorem dL_law_1035 : decode cL_law 1035 = .ok (.aload_n 0, 1) := by decide +kernel
theorem dL_law_1036 : decode cL_law 1036 = .ok (.iload_n 3, 1) := by decide +kernel
theorem dL_law_1037 : decode cL_law 1037 = .ok (.iconst 1, 1) := by decide +kernel
theorem dL_law_1038 : decode cL_law 1038 = .ok (.iadd, 1) := by decide +kernel
theorem dL_law_1039 : decode cL_law 1039 = .ok (.iaload, 1) := by decide +kernel
theorem dL_law_1040 : decode cL_law 1040 = .ok (.invokevirtual 111, 3) := by decide +kernel
theorem dL_law_1043 : decode cL_law 1043 = .ok (.aload_n 2, 1) := by decide +kernel
theorem dL_law_1044 : decode cL_law 1044 = .ok (.aload_n 0, 1) := by decide +kernel
theorem dL_law_1045 : decode cL_law 1045 = .ok (.iload_n 3, 1) := by decide +kernel
theorem dL_law_1046 : decode cL_law 1046 = .ok (.iconst 1, 1) := by decide +kernel
theorem dL_law_1047 : decode cL_law 1047 = .ok (.iadd, 1) := by decide +kernel
theorem dL_law_1048 : decode cL_law 1048 = .ok (.iaload, 1) := by decide +kernel
theorem dL_law_1049 : decode cL_law 1049 = .ok (.invokevirtual 114, 3) := by decide +kernel
theorem dL_law_1052 : decode cL_law 1052 = .ok (.if_icmp .eq 240, 3) := by decide +kernel
theorem dL_law_1055 : decode cL_law 1055 = .ok (.iconst 0, 1) := by decide +kernel
theorem dL_law_1056 : decode cL_law 1056 = .ok (.ireturn, 1) := by decide +kernel
theorem dL_law_1057 : decode cL_law 1057 = .ok (.aload_n 1, 1) := by decide +kernel
theorem dL_law_1058 : decode cL_law 1058 = .ok (.aload_n 0, 1) := by decide +kernel
theorem dL_law_1059 : decode cL_law 1059 = .ok (.iload_n 3, 1) := by decide +kernel
theorem dL_law_1060 : decode cL_law 1060 = .ok (.iconst 1, 1) := by decide +kernel
theorem dL_law_1061 : decode cL_law 1061 = .ok (.iadd, 1) := by decide +kernel
theorem dL_law_1062 : decode cL_law 1062 = .ok (.iaload, 1) := by decide +kernel
theorem dL_law_1063 : decode cL_law 1063 = .ok (.aload_n 0, 1) := by decide +kernel
theorem dL_law_1064 : decode cL_law 1064 = .ok (.iload_n 3, 1) := by decide +kernel
theorem dL_law_1065 : decode cL_law 1065 = .ok (.iconst 2, 1) := by decide +kernel
theorem dL_law_1066 : decode cL_law 1066 = .ok (.iadd, 1) := by decide +kernel
theorem dL_law_1067 : decode cL_law 1067 = .ok (.iaload, 1) := by decide +kernel
theorem dL_law_1068 : decode cL_law 1068 = .ok (.aload_n 0, 1) := by decide +kernel
theorem dL_law_1069 : decode cL_law 1069 = .ok (.iload_n 3, 1) := by decide +kernel
theorem dL_law_1070 : decode cL_law 1070 = .ok (.iconst 3, 1) := by decide +kernel
theorem dL_law_1071 : decode cL_law 1071 = .ok (.iadd, 1) := by decide +kernel
theorem dL_law_1072 : decode cL_law 1072 = .ok (.iaload, 1) := by decide +kernel
theorem dL_law_1073 : decode cL_law 1073 = .ok (.invokevirtual 115, 3) := by decide +kernel
theorem dL_law_1076 : decode cL_law 1076 = .ok (.aload_n 2, 1) := by decide +kernel
theorem dL_law_1077 : decode cL_law 1077 = .ok (.aload_n 0, 1) := by decide +kernel
theorem dL_law_1078 : decode cL_law 1078 = .ok (.iload_n 3, 1) := by decide +kernel
theorem dL_law_1079 : decode cL_law 1079 = .ok (.iconst 1, 1) := by decide +kernel
theorem dL_law_1080 : decode cL_law 1080 = .ok (.iadd, 1) := by decide +kernel
theorem dL_law_1081 : decode cL_law 1081 = .ok (.iaload, 1) := by decide +kernel
theorem dL_law_1082 : decode cL_law 1082 = .ok (.aload_n 0, 1) := by decide +kernel
theorem dL_law_1083 : decode cL_law 1083 = .ok (.iload_n 3, 1) := by decide +kernel
theorem dL_law_1084 : decode cL_law 1084 = .ok (.iconst 2, 1) := by decide +kernel
theorem dL_law_1085 : decode cL_law 1085 = .ok (.iadd, 1) := by decide +kernel
theorem dL_law_1086 : decode cL_law 1086 = .ok (.iaload, 1) := by decide +kernel
theorem dL_law_1087 : decode cL_law 1087 = .ok (.aload_n 0, 1) := by decide +kernel
theorem dL_law_1088 : decode cL_law 1088 = .ok (.iload_n 3, 1) := by decide +kernel
theorem dL_law_1089 : decode cL_law 1089 = .ok (.iconst 3, 1) := by decide +kernel
theorem dL_law_1090 : decode cL_law 1090 = .ok (.iadd, 1) := by decide +kernel
theorem dL_law_1091 : decode cL_law 1091 = .ok (.iaload, 1) := by decide +kernel
theorem dL_law_1092 : decode cL_law 1092 = .ok (.invokevirtual 118, 3) := by decide +kernel
theorem dL_law_1095 : decode cL_law 1095 = .ok (.if_icmp .eq 197, 3) := by decide +kernel
theorem dL_law_1098 : decode cL_law 1098 = .ok (.iconst 0, 1) := by decide +kernel
theorem dL_law_1099 : decode cL_law 1099 = .ok (.ireturn, 1) := by decide +kernel
theorem dL_law_1100 : decode cL_law 1100 = .ok (.aload_n 1, 1) := by decide +kernel
theorem dL_law_1101 : decode cL_law 1101 = .ok (.aload_n 0, 1) := by decide +kernel
theorem dL_law_1102 : decode cL_law 1102 = .ok (.iload_n 3, 1) := by decide +kernel
theorem dL_law_1103 : decode cL_law 1103 = .ok (.iconst 1, 1) := by decide +kernel
theorem dL_law_1104 : decode cL_law 1104 = .ok (.iadd, 1) := by decide +kernel
theorem dL_law_1105 : decode cL_law 1105 = .ok (.iaload, 1) := by decide +kernel
theorem dL_law_1106 : decode cL_law 1106 = .ok (.aload_n 0, 1) := by decide +kernel
theorem dL_law_1107 : decode cL_law 1107 = .ok (.iload_n 3, 1) := by decide +kernel
theorem dL_law_1108 : decode cL_law 1108 = .ok (.iconst 2, 1) := by decide +kernel
theorem dL_law_1109 : decode cL_law 1109 = .ok (.iadd, 1) := by decide +kernel
theorem dL_law_1110 : decode cL_law 1110 = .ok (.iaload, 1) := by decide +kernel
theorem dL_law_1111 : decode cL_law 1111 = .ok (.aload_n 0, 1) := by decide +kernel
theorem dL_law_1112 : decode cL_law 1112 = .ok (.iload_n 3, 1) := by decide +kernel
theorem dL_law_1113 : decode cL_law 1113 = .ok (.iconst 3, 1) := by decide +kernel
theorem dL_law_1114 : decode cL_law 1114 = .ok (.iadd, 1) := by decide +kernel
theorem dL_law_1115 : decode cL_law 1115 = .ok (.iaload, 1) := by decide +kernel
theorem dL_law_1116 : decode cL_law 1116 = .ok (.invokevirtual 119, 3) := by decide +kernel
theorem dL_law_1119 : decode cL_law 1119 = .ok (.aload_n 2, 1) := by decide +kernel
theorem dL_law_1120 : decode cL_law 1120 = .ok (.aload_n 0, 1) := by decide +kernel
theorem dL_law_1121 : decode cL_law 1121 = .ok (.iload_n 3, 1) := by decide +kernel
theorem dL_law_1122 : decode cL_law 1122 = .ok (.iconst 1, 1) := by decide +kernel
theorem dL_law_1123 : decode cL_law 1123 = .ok (.iadd, 1) := by decide +kernel
theorem dL_law_1124 : decode cL_law 1124 = .ok (.iaload, 1) := by decide +kernel
theorem dL_law_1125 : decode cL_law 1125 = .ok (.aload_n 0, 1) := by decide +kernel
theorem dL_law_1126 : decode cL_law 1126 = .ok (.iload_n 3, 1) := by decide +kernel
theorem dL_law_1127 : decode cL_law 1127 = .ok (.iconst 2, 1) := by decide +kernel
theorem dL_law_1128 : decode cL_law 1128 = .ok (.iadd, 1) := by decide +kernel
theorem dL_law_1129 : decode cL_law 1129 = .ok (.iaload, 1) := by decide +kernel
theorem dL_law_1130 : decode cL_law 1130 = .ok (.aload_n 0, 1) := by decide +kernel
theorem dL_law_1131 : decode cL_law 1131 = .ok (.iload_n 3, 1) := by decide +kernel
theorem dL_law_1132 : decode cL_law 1132 = .ok (.iconst 3, 1) := by decide +kernel
theorem dL_law_1133 : decode cL_law 1133 = .ok (.iadd, 1) := by decide +kernel
theorem dL_law_1134 : decode cL_law 1134 = .ok (.iaload, 1) := by decide +kernel
theorem dL_law_1135 : decode cL_law 1135 = .ok (.invokevirtual 122, 3) := by decide +kernel
theorem dL_law_1138 : decode cL_law 1138 = .ok (.if_icmp .eq 154, 3) := by decide +kernel
theorem dL_law_1141 : decode cL_law 1141 = .ok (.iconst 0, 1) := by decide +kernel
theorem dL_law_1142 : decode cL_law 1142 = .ok (.ireturn, 1) := by decide +kernel
theorem dL_law_1143 : decode cL_law 1143 = .ok (.aload_n 1, 1) := by decide +kernel
theorem dL_law_1144 : decode cL_law 1144 = .ok (.aload_n 0, 1) := by decide +kernel
theorem dL_law_1145 : decode cL_law 1145 = .ok (.iload_n 3, 1) := by decide +kernel
theorem dL_law_1146 : decode cL_law 1146 = .ok (.iconst 1, 1) := by decide +kernel
theorem dL_law_1147 : decode cL_law 1147 = .ok (.iadd, 1) := by decide +kernel
theorem dL_law_1148 : decode cL_law 1148 = .ok (.iaload, 1) := by decide +kernel
theorem dL_law_1149 : decode cL_law 1149 = .ok (.aload_n 0, 1) := by decide +kernel
theorem dL_law_1150 : decode cL_law 1150 = .ok (.iload_n 3, 1) := by decide +kernel
theorem dL_law_1151 : decode cL_law 1151 = .ok (.iconst 2, 1) := by decide +kernel
theorem dL_law_1152 : decode cL_law 1152 = .ok (.iadd, 1) := by decide +kernel
theorem dL_law_1153 : decode cL_law 1153 = .ok (.iaload, 1) := by decide +kernel
theorem dL_law_1154 : decode cL_law 1154 = .ok (.aload_n 0, 1) := by decide +kernel
theorem dL_law_1155 : decode cL_law 1155 = .ok (.iload_n 3, 1) := by decide +kernel
theorem dL_law_1156 : decode cL_law 1156 = .ok (.iconst 3, 1) := by decide +kernel
theorem dL_law_1157 : decode cL_law 1157 = .ok (.iadd, 1) := by decide +kernel
theorem dL_law_1158 : decode cL_law 1158 = .ok (.iaload, 1) := by decide +kernel
theorem dL_law_1159 : decode cL_law 1159 = .ok (.aload_n 0, 1) := by decide +kernel
theorem dL_law_1160 : decode cL_law 1160 = .ok (.iload_n 3, 1) := by decide +kernel
theorem dL_law_1161 : decode cL_law 1161 = .ok (.iconst 4, 1) := by decide +kernel
theorem dL_law_1162 : decode cL_law 1162 = .ok (.iadd, 1) := by decide +kernel
theorem dL_law_1163 : decode cL_law 1163 = .ok (.iaload, 1) := by decide +kernel
theorem dL_law_1164 : decode cL_law 1164 = .ok (.aload_n 0, 1) := by decide +kernel
theorem dL_law_1165 : decode cL_law 1165 = .ok (.iload_n 3, 1) := by decide +kernel
theorem dL_law_1166 : decode cL_law 1166 = .ok (.iconst 5, 1) := by decide +kernel
theorem dL_law_1167 : decode cL_law 1167 = .ok (.iadd, 1) := by decide +kernel
theorem dL_law_1168 : decode cL_law 1168 = .ok (.iaload, 1) := by decide +kernel
theorem dL_law_1169 : decode cL_law 1169 = .ok (.invokevirtual 123, 3) := by decide +kernel
theorem dL_law_1172 : decode cL_law 1172 = .ok (.aload_n 2, 1) := by decide +kernel
theorem dL_law_1173 : decode cL_law 1173 = .ok (.aload_n 0, 1) := by decide +kernel
theorem dL_law_1174 : decode cL_law 1174 = .ok (.iload_n 3, 1) := by decide +kernel
theorem dL_law_1175 : decode cL_law 1175 = .ok (.iconst 1, 1) := by decide +kernel
theorem dL_law_1176 : decode cL_law 1176 = .ok (.iadd, 1) := by decide +kernel
theorem dL_law_1177 : decode cL_law 1177 = .ok (.iaload, 1) := by decide +kernel
theorem dL_law_1178 : decode cL_law 1178 = .ok (.aload_n 0, 1) := by decide +kernel
theorem dL_law_1179 : decode cL_law 1179 = .ok (.iload_n 3, 1) := by decide +kernel
theorem dL_law_1180 : decode cL_law 1180 = .ok (.iconst 2, 1) := by decide +kernel
theorem dL_law_1181 : decode cL_law 1181 = .ok (.iadd, 1) := by decide +kernel
theorem dL_law_1182 : decode cL_law 1182 = .ok (.iaload, 1) := by decide +kernel
theorem dL_law_1183 : decode cL_law 1183 = .ok (.aload_n 0, 1) := by decide +kernel
theorem dL_law_1184 : decode cL_law 1184 = .ok (.iload_n 3, 1) := by decide +kernel
theorem dL_law_1185 : decode cL_law 1185 = .ok (.iconst 3, 1) := by decide +kernel
theorem dL_law_1186 : decode cL_law 1186 = .ok (.iadd, 1) := by decide +kernel
theorem dL_law_1187 : decode cL_law 1187 = .ok (.iaload, 1) := by decide +kernel
theorem dL_law_1188 : decode cL_law 1188 = .ok (.aload_n 0, 1) := by decide +kernel
theorem dL_law_1189 : decode cL_law 1189 = .ok (.iload_n 3, 1) := by decide +kernel
theorem dL_law_1190 : decode cL_law 1190 = .ok (.iconst 4, 1) := by decide +kernel
theorem dL_law_1191 : decode cL_law 1191 = .ok (.iadd, 1) := by decide +kernel
theorem dL_law_1192 : decode cL_law 1192 = .ok (.iaload, 1) := by decide +kernel
theorem dL_law_1193 : decode cL_law 1193 = .ok (.aload_n 0, 1) := by decide +kernel
theorem dL_law_1194 : decode cL_law 1194 = .ok (.iload_n 3, 1) := by decide +kernel
theorem dL_law_1195 : decode cL_law 1195 = .ok (.iconst 5, 1) := by decide +kernel
theorem dL_law_1196 : decode cL_law 1196 = .ok (.iadd, 1) := by decide +kernel
theorem dL_law_1197 : decode cL_law 1197 = .ok (.iaload, 1) := by decide +kernel
theorem dL_law_1198 : decode cL_law 1198 = .ok (.invokevirtual 127, 3) := by decide +kernel
theorem dL_law_1201 : decode cL_law 1201 = .ok (.if_icmp .eq 91, 3) := by decide +kernel
theorem dL_law_1204 : decode cL_law 1204 = .ok (.iconst 0, 1) := by decide +kernel
theorem dL_law_1205 : decode cL_law 1205 = .ok (.ireturn, 1) := by decide +kernel
theorem dL_law_1206 : decode cL_law 1206 = .ok (.aload_n 1, 1) := by decide +kernel
theorem dL_law_1207 : decode cL_law 1207 = .ok (.aload_n 0, 1) := by decide +kernel
theorem dL_law_1208 : decode cL_law 1208 = .ok (.iload_n 3, 1) := by decide +kernel
theorem dL_law_1209 : decode cL_law 1209 = .ok (.iconst 1, 1) := by decide +kernel
theorem dL_law_1210 : decode cL_law 1210 = .ok (.iadd, 1) := by decide +kernel
theorem dL_law_1211 : decode cL_law 1211 = .ok (.iaload, 1) := by decide +kernel
theorem dL_law_1212 : decode cL_law 1212 = .ok (.aload_n 0, 1) := by decide +kernel
theorem dL_law_1213 : decode cL_law 1213 = .ok (.iload_n 3, 1) := by decide +kernel
theorem dL_law_1214 : decode cL_law 1214 = .ok (.iconst 2, 1) := by decide +kernel
theorem dL_law_1215 : decode cL_law 1215 = .ok (.iadd, 1) := by decide +kernel
theorem dL_law_1216 : decode cL_law 1216 = .ok (.iaload, 1) := by decide +kernel
theorem dL_law_1217 : decode cL_law 1217 = .ok (.aload_n 0, 1) := by decide +kernel
theorem dL_law_1218 : decode cL_law 1218 = .ok (.iload_n 3, 1) := by decide +kernel
theorem dL_law_1219 : decode cL_law 1219 = .ok (.iconst 3, 1) := by decide +kernel
theorem dL_law_1220 : decode cL_law 1220 = .ok (.iadd, 1) := by decide +kernel
theorem dL_law_1221 : decode cL_law 1221 = .ok (.iaload, 1) := by decide +kernel
theorem dL_law_1222 : decode cL_law 1222 = .ok (.aload_n 0, 1) := by decide +kernel
theorem dL_law_1223 : decode cL_law 1223 = .ok (.iload_n 3, 1) := by decide +kernel
theorem dL_law_1224 : decode cL_law 1224 = .ok (.iconst 4, 1) := by decide +kernel
theorem dL_law_1225 : decode cL_law 1225 = .ok (.iadd, 1) := by decide +kernel
theorem dL_law_1226 : decode cL_law 1226 = .ok (.iaload, 1) := by decide +kernel
theorem dL_law_1227 : decode cL_law 1227 = .ok (.invokevirtual 128, 3) := by decide +kernel
theorem dL_law_1230 : decode cL_law 1230 = .ok (.aload_n 2, 1) := by decide +kernel
theorem dL_law_1231 : decode cL_law 1231 = .ok (.aload_n 0, 1) := by decide +kernel
theorem dL_law_1232 : decode cL_law 1232 = .ok (.iload_n 3, 1) := by decide +kernel
theorem dL_law_1233 : decode cL_law 1233 = .ok (.iconst 1, 1) := by decide +kernel
theorem dL_law_1234 : decode cL_law 1234 = .ok (.iadd, 1) := by decide +kernel
theorem dL_law_1235 : decode cL_law 1235 = .ok (.iaload, 1) := by decide +kernel
theorem dL_law_1236 : decode cL_law 1236 = .ok (.aload_n 0, 1) := by decide +kernel
theorem dL_law_1237 : decode cL_law 1237 = .ok (.iload_n 3, 1) := by decide +kernel
theorem dL_law_1238 : decode cL_law 1238 = .ok (.iconst 2, 1) := by decide +kernel
theorem dL_law_1239 : decode cL_law 1239 = .ok (.iadd, 1) := by decide +kernel
theorem dL_law_1240 : decode cL_law 1240 = .ok (.iaload, 1) := by decide +kernel
theorem dL_law_1241 : decode cL_law 1241 = .ok (.aload_n 0, 1) := by decide +kernel
theorem dL_law_1242 : decode cL_law 1242 = .ok (.iload_n 3, 1) := by decide +kernel
theorem dL_law_1243 : decode cL_law 1243 = .ok (.iconst 3, 1) := by decide +kernel
theorem dL_law_1244 : decode cL_law 1244 = .ok (.iadd, 1) := by decide +kernel
theorem dL_law_1245 : decode cL_law 1245 = .ok (.iaload, 1) := by decide +kernel
theorem dL_law_1246 : decode cL_law 1246 = .ok (.aload_n 0, 1) := by decide +kernel
theorem dL_law_1247 : decode cL_law 1247 = .ok (.iload_n 3, 1) := by decide +kernel
theorem dL_law_1248 : decode cL_law 1248 = .ok (.iconst 4, 1) := by decide +kernel
theorem dL_law_1249 : decode cL_law 1249 = .ok (.iadd, 1) := by decide +kernel
theorem dL_law_1250 : decode cL_law 1250 = .ok (.iaload, 1) := by decide +kernel
theorem dL_law_1251 : decode cL_law 1251 = .ok (.invokevirtual 131, 3) := by decide +kernel
theorem dL_law_1254 : decode cL_law 1254 = .ok (.if_icmp .eq 38, 3) := by decide +kernel
theorem dL_law_1257 : decode cL_law 1257 = .ok (.iconst 0, 1) := by decide +kernel
theorem dL_law_1258 : decode cL_law 1258 = .ok (.ireturn, 1) := by decide +kernel
theorem dL_law_1259 : decode cL_law 1259 = .ok (.aload_n 1, 1) := by decide +kernel
theorem dL_law_1260 : decode cL_law 1260 = .ok (.aload_n 0, 1) := by decide +kernel
theorem dL_law_1261 : decode cL_law 1261 = .ok (.iload_n 3, 1) := by decide +kernel
theorem dL_law_1262 : decode cL_law 1262 = .ok (.iconst 1, 1) := by decide +kernel
theorem dL_law_1263 : decode cL_law 1263 = .ok (.iadd, 1) := by decide +kernel
theorem dL_law_1264 : decode cL_law 1264 = .ok (.iaload, 1) := by decide +kernel
theorem dL_law_1265 : decode cL_law 1265 = .ok (.aload_n 0, 1) := by decide +kernel
theorem dL_law_1266 : decode cL_law 1266 = .ok (.iload_n 3, 1) := by decide +kernel
theorem dL_law_1267 : decode cL_law 1267 = .ok (.iconst 2, 1) := by decide +kernel
theorem dL_law_1268 : decode cL_law 1268 = .ok (.iadd, 1) := by decide +kernel
theorem dL_law_1269 : decode cL_law 1269 = .ok (.iaload, 1) := by decide +kernel
theorem dL_law_1270 : decode cL_law 1270 = .ok (.invokevirtual 132, 3) := by decide +kernel
theorem dL_law_1273 : decode cL_law 1273 = .ok (.aload_n 2, 1) := by decide +kernel
theorem dL_law_1274 : decode cL_law 1274 = .ok (.aload_n 0, 1) := by decide +kernel
theorem dL_law_1275 : decode cL_law 1275 = .ok (.iload_n 3, 1) := by decide +kernel
theorem dL_law_1276 : decode cL_law 1276 = .ok (.iconst 1, 1) := by decide +kernel
theorem dL_law_1277 : decode cL_law 1277 = .ok (.iadd, 1) := by decide +kernel
theorem dL_law_1278 : decode cL_law 1278 = .ok (.iaload, 1) := by decide +kernel
theorem dL_law_1279 : decode cL_law 1279 = .ok (.aload_n 0, 1) := by decide +kernel
theorem dL_law_1280 : decode cL_law 1280 = .ok (.iload_n 3, 1) := by decide +kernel
theorem dL_law_1281 : decode cL_law 1281 = .ok (.iconst 2, 1) := by decide +kernel
theorem dL_law_1282 : decode cL_law 1282 = .ok (.iadd, 1) := by decide +kernel
theorem dL_law_1283 : decode cL_law 1283 = .ok (.iaload, 1) := by decide +kernel
theorem dL_law_1284 : decode cL_law 1284 = .ok (.invokevirtual 135, 3) := by decide +kernel
theorem dL_law_1287 : decode cL_law 1287 = .ok (.if_icmp .eq 5, 3) := by decide +kernel
theorem dL_law_1290 : decode cL_law 1290 = .ok (.iconst 0, 1) := by decide +kernel
theorem dL_law_1291 : decode cL_law 1291 = .ok (.ireturn, 1) := by decide +kernel
theorem dL_law_1292 : decode cL_law 1292 = .ok (.iinc 3 6, 3) := by decide +kernel
theorem dL_law_1295 : decode cL_law 1295 = .ok (.goto (-1277), 3) := by decide +kernel
theorem dL_law_1298 : decode cL_law 1298 = .ok (.iconst 1, 1) := by decide +kernel
theorem dL_law_1299 : decode cL_law 1299 = .ok (.ireturn, 1) := by decide +kernel
end
section
/-- the words that a call may hand on, out of the tables -/
def TB : List Cond := lw_tbl.filter goodWord
theorem TB_in {w : Cond} (i : Nat) (h : lw_tbl[i]? = some w) (g : goodWord w = true) : w ∈ TB := List.mem_filter.mpr ⟨List.mem_of_getElem? h, g⟩
theorem TB_lw {w : Cond} (h : w ∈ TB) : w ∈ lw_tbl := (List.mem_filter.mp h).1
theorem TB_good : GoodIn TB TB := fun w h => ⟨h, good_of_word (List.mem_filter.mp h).2⟩
/-- a method's words: its own code, and all that may be handed on -/
abbrev WS (y : MethodName) (b : ByteArray) (n : Nat) (r : Option FieldType) : List Cond := Cond.code y b n r :: TB
theorem WS_good {y : MethodName} {b : ByteArray} {n : Nat} {r : Option FieldType} (h : Cond.code y b n r ∈ TB) : GoodIn TB (WS y b n r) := fun w hw => (List.mem_cons.mp hw).elim (fun e => e ▸ TB_good _ h) (fun hw => TB_good _ hw)
theorem TB_V {own C : String} {idx : Nat} {y : MethodName} {b : ByteArray} {n : Nat} {r : Option FieldType} (h1 : Cond.methodLink own idx y ∈ TB) (h2 : Cond.instanceMethod y ∈ TB) (h3 : Cond.selects C y y ∈ TB) (h4 : Cond.initialized C ∈ TB) (h5 : Cond.code y b n r ∈ TB) : GoodIn TB (wsV own idx C y (WS y b n r)) := by
  intro w hw
  rcases List.mem_append.mp hw with h | h
  · simp only [List.mem_cons, List.not_mem_nil, or_false] at h
    rcases h with rfl | rfl | rfl | rfl
    · exact TB_good _ h1
    · exact TB_good _ h2
    · exact TB_good _ h3
    · exact TB_good _ h4
  · exact WS_good h5 w h
theorem TB_S {own : String} {idx : Nat} {y : MethodName} {b : ByteArray} {n : Nat} {r : Option FieldType} (h1 : Cond.methodLink own idx y ∈ TB) (h2 : Cond.static y ∈ TB) (h4 : Cond.initialized y.cls ∈ TB) (h5 : Cond.code y b n r ∈ TB) : GoodIn TB (va_wsS own idx y (WS y b n r)) := by
  intro w hw
  rcases List.mem_append.mp hw with h | h
  · simp only [List.mem_cons, List.not_mem_nil, or_false] at h
    rcases h with rfl | rfl | rfl
    · exact TB_good _ h1
    · exact TB_good _ h2
    · exact TB_good _ h4
  · exact WS_good h5 w h
theorem k_0 : Cond.selects RX5 yX5_skipBlanks yX5_skipBlanks ∈ TB := TB_in 0 (by decide +kernel) (by decide +kernel)
theorem k_1 : Cond.selects RX5 yX5_cutOne yX5_cutOne ∈ TB := TB_in 1 (by decide +kernel) (by decide +kernel)
theorem k_2 : Cond.selects RX5 yX5_cutWord yX5_cutWord ∈ TB := TB_in 2 (by decide +kernel) (by decide +kernel)
theorem k_3 : Cond.selects RX5 yX5_stands yX5_stands ∈ TB := TB_in 3 (by decide +kernel) (by decide +kernel)
theorem k_4 : Cond.selects RX5 yX5_cutNumber yX5_cutNumber ∈ TB := TB_in 4 (by decide +kernel) (by decide +kernel)
theorem k_5 : Cond.selects RX2 yX2_readPart yX2_readPart ∈ TB := TB_in 5 (by decide +kernel) (by decide +kernel)
theorem k_6 : Cond.selects RX2 yX2_expect yX2_expect ∈ TB := TB_in 6 (by decide +kernel) (by decide +kernel)
theorem k_7 : Cond.selects RX2 yX2_advance yX2_advance ∈ TB := TB_in 7 (by decide +kernel) (by decide +kernel)
theorem k_8 : Cond.selects RX2 yX2_fail yX2_fail ∈ TB := TB_in 8 (by decide +kernel) (by decide +kernel)
theorem k_9 : Cond.selects RX2 yX2_readOr yX2_readOr ∈ TB := TB_in 9 (by decide +kernel) (by decide +kernel)
theorem k_10 : Cond.selects RX2 yX2_readAnd yX2_readAnd ∈ TB := TB_in 10 (by decide +kernel) (by decide +kernel)
theorem k_11 : Cond.selects RX2 yX2_readNot yX2_readNot ∈ TB := TB_in 11 (by decide +kernel) (by decide +kernel)
theorem k_12 : Cond.selects RX2 yX2_emit yX2_emit ∈ TB := TB_in 12 (by decide +kernel) (by decide +kernel)
theorem k_13 : Cond.selects RX2 yX2_readSum yX2_readSum ∈ TB := TB_in 13 (by decide +kernel) (by decide +kernel)
theorem k_14 : Cond.selects RX2 yX2_readTerm yX2_readTerm ∈ TB := TB_in 14 (by decide +kernel) (by decide +kernel)
theorem k_15 : Cond.selects RX2 yX2_readOne yX2_readOne ∈ TB := TB_in 15 (by decide +kernel) (by decide +kernel)
theorem k_16 : Cond.selects RX1 yX1_lets yX1_lets ∈ TB := TB_in 16 (by decide +kernel) (by decide +kernel)
theorem k_17 : Cond.selects RX7 yX7_nearest yX7_nearest ∈ TB := TB_in 17 (by decide +kernel) (by decide +kernel)
theorem k_18 : Cond.selects RX7 yX7_leave yX7_leave ∈ TB := TB_in 18 (by decide +kernel) (by decide +kernel)
theorem k_19 : Cond.selects RX7 yX7_shorten yX7_shorten ∈ TB := TB_in 19 (by decide +kernel) (by decide +kernel)
theorem k_20 : Cond.selects RX3 yX3_reckon yX3_reckon ∈ TB := TB_in 20 (by decide +kernel) (by decide +kernel)
theorem k_21 : Cond.selects RX3 yX3_nameOf yX3_nameOf ∈ TB := TB_in 21 (by decide +kernel) (by decide +kernel)
theorem k_22 : Cond.selects RX7 yX7_passAll yX7_passAll ∈ TB := TB_in 22 (by decide +kernel) (by decide +kernel)
theorem k_23 : Cond.selects RX8 yX8_fewestToBrick yX8_fewestToBrick ∈ TB := TB_in 23 (by decide +kernel) (by decide +kernel)
theorem k_24 : Cond.selects RX8 yX8_neededAlone yX8_neededAlone ∈ TB := TB_in 24 (by decide +kernel) (by decide +kernel)
theorem k_25 : Cond.selects RX8 yX8_refusalOfLook yX8_refusalOfLook ∈ TB := TB_in 25 (by decide +kernel) (by decide +kernel)
theorem k_26 : Cond.selects RX8 yX8_firstOther yX8_firstOther ∈ TB := TB_in 26 (by decide +kernel) (by decide +kernel)
theorem k_27 : Cond.selects RX8 yX8_fittingShifts yX8_fittingShifts ∈ TB := TB_in 27 (by decide +kernel) (by decide +kernel)
theorem k_28 : Cond.selects RX8 yX8_fittingKinds yX8_fittingKinds ∈ TB := TB_in 28 (by decide +kernel) (by decide +kernel)
theorem k_29 : Cond.selects RX8 yX8_unlikeShown yX8_unlikeShown ∈ TB := TB_in 29 (by decide +kernel) (by decide +kernel)
theorem k_30 : Cond.selects RX8 yX8_flood yX8_flood ∈ TB := TB_in 30 (by decide +kernel) (by decide +kernel)
theorem k_31 : Cond.selects RX8 yX8_fillPrices yX8_fillPrices ∈ TB := TB_in 31 (by decide +kernel) (by decide +kernel)
theorem k_32 : Cond.selects RX8 yX8_priceTogether yX8_priceTogether ∈ TB := TB_in 32 (by decide +kernel) (by decide +kernel)
theorem k_33 : Cond.selects RX8 yX8_drawnWater yX8_drawnWater ∈ TB := TB_in 33 (by decide +kernel) (by decide +kernel)
theorem k_34 : Cond.selects RX9 yX9_spell yX9_spell ∈ TB := TB_in 34 (by decide +kernel) (by decide +kernel)
theorem k_35 : Cond.selects RX9 yX9_isPane yX9_isPane ∈ TB := TB_in 35 (by decide +kernel) (by decide +kernel)
theorem k_36 : Cond.selects RX9 yX9_leads yX9_leads ∈ TB := TB_in 36 (by decide +kernel) (by decide +kernel)
theorem k_37 : Cond.selects RX9 yX9_on yX9_on ∈ TB := TB_in 37 (by decide +kernel) (by decide +kernel)
theorem k_38 : Cond.selects RX9 yX9_passes yX9_passes ∈ TB := TB_in 38 (by decide +kernel) (by decide +kernel)
theorem k_39 : Cond.selects RX9 yX9_read yX9_read ∈ TB := TB_in 39 (by decide +kernel) (by decide +kernel)
theorem k_40 : Cond.selects RX9 yX9_next yX9_next ∈ TB := TB_in 40 (by decide +kernel) (by decide +kernel)
theorem k_41 : Cond.selects RX9 yX9_byteAt yX9_byteAt ∈ TB := TB_in 41 (by decide +kernel) (by decide +kernel)
theorem k_42 : Cond.selects RX9 yX9_isWord yX9_isWord ∈ TB := TB_in 42 (by decide +kernel) (by decide +kernel)
theorem k_43 : Cond.selects RX9 yX9_isLetter yX9_isLetter ∈ TB := TB_in 43 (by decide +kernel) (by decide +kernel)
theorem k_44 : Cond.selects RX9 yX9_part yX9_part ∈ TB := TB_in 44 (by decide +kernel) (by decide +kernel)
theorem k_45 : Cond.selects RX9 yX9_fail yX9_fail ∈ TB := TB_in 45 (by decide +kernel) (by decide +kernel)
theorem k_46 : Cond.selects RX9 yX9_either yX9_either ∈ TB := TB_in 46 (by decide +kernel) (by decide +kernel)
theorem k_47 : Cond.selects RX9 yX9_both yX9_both ∈ TB := TB_in 47 (by decide +kernel) (by decide +kernel)
theorem k_48 : Cond.selects RX9 yX9_not yX9_not ∈ TB := TB_in 48 (by decide +kernel) (by decide +kernel)
theorem k_49 : Cond.selects RX9 yX9_opens yX9_opens ∈ TB := TB_in 49 (by decide +kernel) (by decide +kernel)
theorem k_50 : Cond.selects RX9 yX9_added yX9_added ∈ TB := TB_in 50 (by decide +kernel) (by decide +kernel)
theorem k_51 : Cond.selects RX9 yX9_term yX9_term ∈ TB := TB_in 51 (by decide +kernel) (by decide +kernel)
theorem k_52 : Cond.selects RX9 yX9_atom yX9_atom ∈ TB := TB_in 52 (by decide +kernel) (by decide +kernel)
theorem k_53 : Cond.selects RX9 yX9_isSign yX9_isSign ∈ TB := TB_in 53 (by decide +kernel) (by decide +kernel)
theorem k_54 : Cond.selects RX9 yX9_name yX9_name ∈ TB := TB_in 54 (by decide +kernel) (by decide +kernel)
theorem k_55 : Cond.selects RX9 yX9_spreads yX9_spreads ∈ TB := TB_in 55 (by decide +kernel) (by decide +kernel)
theorem k_56 : Cond.selects RX9 yX9_says yX9_says ∈ TB := TB_in 56 (by decide +kernel) (by decide +kernel)
theorem k_57 : Cond.selects RX9 yX9_goesOn yX9_goesOn ∈ TB := TB_in 57 (by decide +kernel) (by decide +kernel)
theorem k_58 : Cond.selects RX9 yX9_eases yX9_eases ∈ TB := TB_in 58 (by decide +kernel) (by decide +kernel)
theorem k_59 : Cond.selects RX9 yX9_comesBut yX9_comesBut ∈ TB := TB_in 59 (by decide +kernel) (by decide +kernel)
theorem k_60 : Cond.selects RX9 yX9_seenBad yX9_seenBad ∈ TB := TB_in 60 (by decide +kernel) (by decide +kernel)
theorem k_61 : Cond.selects RX9 yX9_wrongAt yX9_wrongAt ∈ TB := TB_in 61 (by decide +kernel) (by decide +kernel)
theorem k_62 : Cond.selects RX9 yX9_shows yX9_shows ∈ TB := TB_in 62 (by decide +kernel) (by decide +kernel)
theorem k_63 : Cond.selects RX9 yX9_shiftsOf yX9_shiftsOf ∈ TB := TB_in 63 (by decide +kernel) (by decide +kernel)
theorem k_64 : Cond.selects RX9 yX9_unlikeOn yX9_unlikeOn ∈ TB := TB_in 64 (by decide +kernel) (by decide +kernel)
theorem k_65 : Cond.selects RX9 yX9_rains yX9_rains ∈ TB := TB_in 65 (by decide +kernel) (by decide +kernel)
theorem k_66 : Cond.selects RX9 yX9_wetAll yX9_wetAll ∈ TB := TB_in 66 (by decide +kernel) (by decide +kernel)
theorem k_67 : Cond.selects RX9 yX9_viewsFrom yX9_viewsFrom ∈ TB := TB_in 67 (by decide +kernel) (by decide +kernel)
theorem k_68 : Cond.selects RX9 yX9_draws yX9_draws ∈ TB := TB_in 68 (by decide +kernel) (by decide +kernel)
theorem k_69 : Cond.initialized RL ∈ TB := TB_in 69 (by decide +kernel) (by decide +kernel)
theorem k_70 : Cond.initialized RX8 ∈ TB := TB_in 70 (by decide +kernel) (by decide +kernel)
theorem k_71 : Cond.initialized RX0 ∈ TB := TB_in 71 (by decide +kernel) (by decide +kernel)
theorem k_72 : Cond.initialized RX1 ∈ TB := TB_in 72 (by decide +kernel) (by decide +kernel)
theorem k_73 : Cond.initialized RX5 ∈ TB := TB_in 73 (by decide +kernel) (by decide +kernel)
theorem k_74 : Cond.initialized RX2 ∈ TB := TB_in 74 (by decide +kernel) (by decide +kernel)
theorem k_75 : Cond.initialized RX3 ∈ TB := TB_in 75 (by decide +kernel) (by decide +kernel)
theorem k_76 : Cond.initialized RX7 ∈ TB := TB_in 76 (by decide +kernel) (by decide +kernel)
theorem k_77 : Cond.initialized RX4 ∈ TB := TB_in 77 (by decide +kernel) (by decide +kernel)
theorem k_78 : Cond.initialized RJ0 ∈ TB := TB_in 78 (by decide +kernel) (by decide +kernel)
theorem k_79 : Cond.initialized RJ1 ∈ TB := TB_in 79 (by decide +kernel) (by decide +kernel)
theorem k_80 : Cond.initialized RJ3 ∈ TB := TB_in 80 (by decide +kernel) (by decide +kernel)
theorem k_81 : Cond.initialized RJ2 ∈ TB := TB_in 81 (by decide +kernel) (by decide +kernel)
theorem k_82 : Cond.initialized RX6 ∈ TB := TB_in 82 (by decide +kernel) (by decide +kernel)
theorem k_83 : Cond.initialized RJ7 ∈ TB := TB_in 83 (by decide +kernel) (by decide +kernel)
theorem k_84 : Cond.initialized RJ9 ∈ TB := TB_in 84 (by decide +kernel) (by decide +kernel)
theorem k_85 : Cond.initialized RJ10 ∈ TB := TB_in 85 (by decide +kernel) (by decide +kernel)
theorem k_86 : Cond.initialized RX9 ∈ TB := TB_in 86 (by decide +kernel) (by decide +kernel)
theorem k_87 : Cond.initialized RJ6 ∈ TB := TB_in 87 (by decide +kernel) (by decide +kernel)
theorem k_88 : Cond.classLink RL 7 RX8 ∈ TB := TB_in 88 (by decide +kernel) (by decide +kernel)
theorem k_89 : Cond.instantiable RX8 12 ∈ TB := TB_in 89 (by decide +kernel) (by decide +kernel)
theorem k_90 : Cond.methodLink RL 9 yX8_init ∈ TB := TB_in 90 (by decide +kernel) (by decide +kernel)
theorem k_91 : Cond.instanceMethod yX8_init ∈ TB := TB_in 91 (by decide +kernel) (by decide +kernel)
theorem k_92 : Cond.code yX8_init cX8_init 2 none ∈ TB := TB_in 92 (by decide +kernel) (by decide +kernel)
theorem k_93 : Cond.methodLink RX8 3 ⟨"java/lang/Object", "<init>", "()V"⟩ ∈ TB := TB_in 93 (by decide +kernel) (by decide +kernel)
theorem k_94 : Cond.instanceMethod ⟨"java/lang/Object", "<init>", "()V"⟩ ∈ TB := TB_in 94 (by decide +kernel) (by decide +kernel)
theorem k_95 : Cond.code ⟨"java/lang/Object", "<init>", "()V"⟩ object_method_1_code 1 none ∈ TB := TB_in 95 (by decide +kernel) (by decide +kernel)
theorem k_96 : Cond.classLink RX8 9 RX0 ∈ TB := TB_in 96 (by decide +kernel) (by decide +kernel)
theorem k_97 : Cond.instantiable RX0 4 ∈ TB := TB_in 97 (by decide +kernel) (by decide +kernel)
theorem k_98 : Cond.methodLink RX8 11 yX0_init ∈ TB := TB_in 98 (by decide +kernel) (by decide +kernel)
theorem k_99 : Cond.instanceMethod yX0_init ∈ TB := TB_in 99 (by decide +kernel) (by decide +kernel)
theorem k_100 : Cond.code yX0_init cX0_init 2 none ∈ TB := TB_in 100 (by decide +kernel) (by decide +kernel)
theorem k_101 : Cond.methodLink RX0 3 ⟨"java/lang/Object", "<init>", "()V"⟩ ∈ TB := TB_in 101 (by decide +kernel) (by decide +kernel)
theorem k_102 : Cond.classLink RX0 15 RX1 ∈ TB := TB_in 102 (by decide +kernel) (by decide +kernel)
theorem k_104 : Cond.instantiable RX1 6 ∈ TB := TB_in 104 (by decide +kernel) (by decide +kernel)
theorem k_105 : Cond.methodLink RX0 21 yX1_init ∈ TB := TB_in 105 (by decide +kernel) (by decide +kernel)
theorem k_106 : Cond.instanceMethod yX1_init ∈ TB := TB_in 106 (by decide +kernel) (by decide +kernel)
theorem k_107 : Cond.code yX1_init cX1_init 2 none ∈ TB := TB_in 107 (by decide +kernel) (by decide +kernel)
theorem k_108 : Cond.methodLink RX1 3 ⟨"java/lang/Object", "<init>", "()V"⟩ ∈ TB := TB_in 108 (by decide +kernel) (by decide +kernel)
theorem k_109 : Cond.fieldLink RX1 9 "WindowsGive$Pane" "window" "I" ∈ TB := TB_in 109 (by decide +kernel) (by decide +kernel)
theorem k_110 : Cond.fieldLink RX3 44 "WindowsGive$Pane" "window" "I" ∈ TB := TB_in 110 (by decide +kernel) (by decide +kernel)
theorem k_111 : Cond.fieldLink RX8 144 "WindowsGive$Pane" "window" "I" ∈ TB := TB_in 111 (by decide +kernel) (by decide +kernel)
theorem k_112 : Cond.fieldLink RX1 15 "WindowsGive$Pane" "kind" "I" ∈ TB := TB_in 112 (by decide +kernel) (by decide +kernel)
theorem k_113 : Cond.fieldLink RX8 129 "WindowsGive$Pane" "kind" "I" ∈ TB := TB_in 113 (by decide +kernel) (by decide +kernel)
theorem k_114 : Cond.fieldLink RX1 18 "WindowsGive$Pane" "number" "I" ∈ TB := TB_in 114 (by decide +kernel) (by decide +kernel)
theorem k_115 : Cond.fieldLink RX3 37 "WindowsGive$Pane" "number" "I" ∈ TB := TB_in 115 (by decide +kernel) (by decide +kernel)
theorem k_116 : Cond.fieldLink RX8 132 "WindowsGive$Pane" "number" "I" ∈ TB := TB_in 116 (by decide +kernel) (by decide +kernel)
theorem k_117 : Cond.fieldLink RX1 21 "WindowsGive$Pane" "shift" "I" ∈ TB := TB_in 117 (by decide +kernel) (by decide +kernel)
theorem k_118 : Cond.fieldLink RX3 34 "WindowsGive$Pane" "shift" "I" ∈ TB := TB_in 118 (by decide +kernel) (by decide +kernel)
theorem k_119 : Cond.fieldLink RX8 135 "WindowsGive$Pane" "shift" "I" ∈ TB := TB_in 119 (by decide +kernel) (by decide +kernel)
theorem k_120 : Cond.fieldLink RX1 24 "WindowsGive$Pane" "room" "I" ∈ TB := TB_in 120 (by decide +kernel) (by decide +kernel)
theorem k_121 : Cond.fieldLink RX3 47 "WindowsGive$Pane" "room" "I" ∈ TB := TB_in 121 (by decide +kernel) (by decide +kernel)
theorem k_122 : Cond.fieldLink RX8 138 "WindowsGive$Pane" "room" "I" ∈ TB := TB_in 122 (by decide +kernel) (by decide +kernel)
theorem k_123 : Cond.fieldLink RX7 45 "WindowsGive$Pane" "room" "I" ∈ TB := TB_in 123 (by decide +kernel) (by decide +kernel)
theorem k_124 : Cond.fieldLink RX1 27 "WindowsGive$Pane" "into" "I" ∈ TB := TB_in 124 (by decide +kernel) (by decide +kernel)
theorem k_125 : Cond.fieldLink RX8 141 "WindowsGive$Pane" "into" "I" ∈ TB := TB_in 125 (by decide +kernel) (by decide +kernel)
theorem k_126 : Cond.laysFinal RX1 "WindowsGive$Pane" "window" "I" ∈ TB := TB_in 126 (by decide +kernel) (by decide +kernel)
theorem k_128 : Cond.lays RX1 "WindowsGive$Pane" "kind" "I" ∈ TB := TB_in 128 (by decide +kernel) (by decide +kernel)
theorem k_130 : Cond.lays RX1 "WindowsGive$Pane" "number" "I" ∈ TB := TB_in 130 (by decide +kernel) (by decide +kernel)
theorem k_132 : Cond.lays RX1 "WindowsGive$Pane" "shift" "I" ∈ TB := TB_in 132 (by decide +kernel) (by decide +kernel)
theorem k_134 : Cond.lays RX1 "WindowsGive$Pane" "room" "I" ∈ TB := TB_in 134 (by decide +kernel) (by decide +kernel)
theorem k_136 : Cond.lays RX1 "WindowsGive$Pane" "into" "I" ∈ TB := TB_in 136 (by decide +kernel) (by decide +kernel)
theorem k_139 : Cond.arrayClass .int ∈ TB := TB_in 139 (by decide +kernel) (by decide +kernel)
theorem k_140 : Cond.fieldLink RX0 9 "WindowsGive$House" "sky" "[I" ∈ TB := TB_in 140 (by decide +kernel) (by decide +kernel)
theorem k_141 : Cond.fieldLink RX8 108 "WindowsGive$House" "sky" "[I" ∈ TB := TB_in 141 (by decide +kernel) (by decide +kernel)
theorem k_142 : Cond.fieldLink RX7 77 "WindowsGive$House" "sky" "[I" ∈ TB := TB_in 142 (by decide +kernel) (by decide +kernel)
theorem k_143 : Cond.fieldLink RX0 17 "WindowsGive$House" "panes" "[LWindowsGive$Pane;" ∈ TB := TB_in 143 (by decide +kernel) (by decide +kernel)
theorem k_144 : Cond.fieldLink RX8 111 "WindowsGive$House" "panes" "[LWindowsGive$Pane;" ∈ TB := TB_in 144 (by decide +kernel) (by decide +kernel)
theorem k_145 : Cond.fieldLink RX7 41 "WindowsGive$House" "panes" "[LWindowsGive$Pane;" ∈ TB := TB_in 145 (by decide +kernel) (by decide +kernel)
theorem k_146 : Cond.fieldLink RX0 24 "WindowsGive$House" "size" "I" ∈ TB := TB_in 146 (by decide +kernel) (by decide +kernel)
theorem k_147 : Cond.fieldLink RX8 125 "WindowsGive$House" "size" "I" ∈ TB := TB_in 147 (by decide +kernel) (by decide +kernel)
theorem k_148 : Cond.fieldLink RX7 35 "WindowsGive$House" "size" "I" ∈ TB := TB_in 148 (by decide +kernel) (by decide +kernel)
theorem k_149 : Cond.fieldLink RX0 38 "WindowsGive$House" "rule" "I" ∈ TB := TB_in 149 (by decide +kernel) (by decide +kernel)
theorem k_150 : Cond.fieldLink RX7 74 "WindowsGive$House" "rule" "I" ∈ TB := TB_in 150 (by decide +kernel) (by decide +kernel)
theorem k_151 : Cond.fieldLink RX8 171 "WindowsGive$House" "rule" "I" ∈ TB := TB_in 151 (by decide +kernel) (by decide +kernel)
theorem k_152 : Cond.laysFinal RX0 "WindowsGive$House" "sky" "[I" ∈ TB := TB_in 152 (by decide +kernel) (by decide +kernel)
theorem k_154 : Cond.laysFinal RX0 "WindowsGive$House" "panes" "[LWindowsGive$Pane;" ∈ TB := TB_in 154 (by decide +kernel) (by decide +kernel)
theorem k_156 : Cond.lays RX0 "WindowsGive$House" "size" "I" ∈ TB := TB_in 156 (by decide +kernel) (by decide +kernel)
theorem k_158 : Cond.lays RX0 "WindowsGive$House" "rule" "I" ∈ TB := TB_in 158 (by decide +kernel) (by decide +kernel)
theorem k_161 : Cond.classLink RX8 19 RX5 ∈ TB := TB_in 161 (by decide +kernel) (by decide +kernel)
theorem k_162 : Cond.instantiable RX5 7 ∈ TB := TB_in 162 (by decide +kernel) (by decide +kernel)
theorem k_164 : Cond.instanceMethod yX5_init ∈ TB := TB_in 164 (by decide +kernel) (by decide +kernel)
theorem k_165 : Cond.code yX5_init cX5_init 1 none ∈ TB := TB_in 165 (by decide +kernel) (by decide +kernel)
theorem k_166 : Cond.methodLink RX5 3 ⟨"java/lang/Object", "<init>", "()V"⟩ ∈ TB := TB_in 166 (by decide +kernel) (by decide +kernel)
theorem k_167 : Cond.fieldLink RX5 9 "WindowsGive$Tape" "bytes" "[I" ∈ TB := TB_in 167 (by decide +kernel) (by decide +kernel)
theorem k_168 : Cond.fieldLink RX5 24 "WindowsGive$Tape" "size" "I" ∈ TB := TB_in 168 (by decide +kernel) (by decide +kernel)
theorem k_169 : Cond.fieldLink RX8 166 "WindowsGive$Tape" "size" "I" ∈ TB := TB_in 169 (by decide +kernel) (by decide +kernel)
theorem k_170 : Cond.fieldLink RX5 28 "WindowsGive$Tape" "at" "I" ∈ TB := TB_in 170 (by decide +kernel) (by decide +kernel)
theorem k_171 : Cond.fieldLink RX5 15 "WindowsGive$Tape" "tokens" "[I" ∈ TB := TB_in 171 (by decide +kernel) (by decide +kernel)
theorem k_172 : Cond.fieldLink RX2 33 "WindowsGive$Tape" "tokens" "[I" ∈ TB := TB_in 172 (by decide +kernel) (by decide +kernel)
theorem k_173 : Cond.fieldLink RX5 18 "WindowsGive$Tape" "values" "[I" ∈ TB := TB_in 173 (by decide +kernel) (by decide +kernel)
theorem k_174 : Cond.fieldLink RX2 86 "WindowsGive$Tape" "values" "[I" ∈ TB := TB_in 174 (by decide +kernel) (by decide +kernel)
theorem k_175 : Cond.fieldLink RX5 21 "WindowsGive$Tape" "places" "[I" ∈ TB := TB_in 175 (by decide +kernel) (by decide +kernel)
theorem k_176 : Cond.fieldLink RX2 95 "WindowsGive$Tape" "places" "[I" ∈ TB := TB_in 176 (by decide +kernel) (by decide +kernel)
theorem k_177 : Cond.fieldLink RX5 31 "WindowsGive$Tape" "many" "I" ∈ TB := TB_in 177 (by decide +kernel) (by decide +kernel)
theorem k_178 : Cond.fieldLink RX2 92 "WindowsGive$Tape" "many" "I" ∈ TB := TB_in 178 (by decide +kernel) (by decide +kernel)
theorem k_179 : Cond.laysFinal RX5 "WindowsGive$Tape" "bytes" "[I" ∈ TB := TB_in 179 (by decide +kernel) (by decide +kernel)
theorem k_181 : Cond.lays RX5 "WindowsGive$Tape" "size" "I" ∈ TB := TB_in 181 (by decide +kernel) (by decide +kernel)
theorem k_183 : Cond.lays RX5 "WindowsGive$Tape" "at" "I" ∈ TB := TB_in 183 (by decide +kernel) (by decide +kernel)
theorem k_185 : Cond.laysFinal RX5 "WindowsGive$Tape" "tokens" "[I" ∈ TB := TB_in 185 (by decide +kernel) (by decide +kernel)
theorem k_187 : Cond.laysFinal RX5 "WindowsGive$Tape" "values" "[I" ∈ TB := TB_in 187 (by decide +kernel) (by decide +kernel)
theorem k_189 : Cond.laysFinal RX5 "WindowsGive$Tape" "places" "[I" ∈ TB := TB_in 189 (by decide +kernel) (by decide +kernel)
theorem k_191 : Cond.lays RX5 "WindowsGive$Tape" "many" "I" ∈ TB := TB_in 191 (by decide +kernel) (by decide +kernel)
theorem k_194 : Cond.classLink RX8 26 RX2 ∈ TB := TB_in 194 (by decide +kernel) (by decide +kernel)
theorem k_195 : Cond.instantiable RX2 6 ∈ TB := TB_in 195 (by decide +kernel) (by decide +kernel)
theorem k_197 : Cond.instanceMethod yX2_init ∈ TB := TB_in 197 (by decide +kernel) (by decide +kernel)
theorem k_198 : Cond.code yX2_init cX2_init 1 none ∈ TB := TB_in 198 (by decide +kernel) (by decide +kernel)
theorem k_199 : Cond.methodLink RX2 3 ⟨"java/lang/Object", "<init>", "()V"⟩ ∈ TB := TB_in 199 (by decide +kernel) (by decide +kernel)
theorem k_200 : Cond.fieldLink RX2 30 "WindowsGive$Reader" "fault" "I" ∈ TB := TB_in 200 (by decide +kernel) (by decide +kernel)
theorem k_201 : Cond.fieldLink RX8 168 "WindowsGive$Reader" "fault" "I" ∈ TB := TB_in 201 (by decide +kernel) (by decide +kernel)
theorem k_202 : Cond.fieldLink RX2 23 "WindowsGive$Reader" "at" "I" ∈ TB := TB_in 202 (by decide +kernel) (by decide +kernel)
theorem k_203 : Cond.fieldLink RX2 36 "WindowsGive$Reader" "token" "I" ∈ TB := TB_in 203 (by decide +kernel) (by decide +kernel)
theorem k_204 : Cond.fieldLink RX2 27 "WindowsGive$Reader" "length" "I" ∈ TB := TB_in 204 (by decide +kernel) (by decide +kernel)
theorem k_205 : Cond.fieldLink RX2 9 "WindowsGive$Reader" "code" "[I" ∈ TB := TB_in 205 (by decide +kernel) (by decide +kernel)
theorem k_206 : Cond.fieldLink RX2 15 "WindowsGive$Reader" "ends" "[I" ∈ TB := TB_in 206 (by decide +kernel) (by decide +kernel)
theorem k_207 : Cond.lays RX2 "WindowsGive$Reader" "fault" "I" ∈ TB := TB_in 207 (by decide +kernel) (by decide +kernel)
theorem k_209 : Cond.lays RX2 "WindowsGive$Reader" "at" "I" ∈ TB := TB_in 209 (by decide +kernel) (by decide +kernel)
theorem k_211 : Cond.lays RX2 "WindowsGive$Reader" "token" "I" ∈ TB := TB_in 211 (by decide +kernel) (by decide +kernel)
theorem k_213 : Cond.lays RX2 "WindowsGive$Reader" "length" "I" ∈ TB := TB_in 213 (by decide +kernel) (by decide +kernel)
theorem k_215 : Cond.laysFinal RX2 "WindowsGive$Reader" "code" "[I" ∈ TB := TB_in 215 (by decide +kernel) (by decide +kernel)
theorem k_217 : Cond.laysFinal RX2 "WindowsGive$Reader" "ends" "[I" ∈ TB := TB_in 217 (by decide +kernel) (by decide +kernel)
theorem k_220 : Cond.classLink RX8 33 RX3 ∈ TB := TB_in 220 (by decide +kernel) (by decide +kernel)
theorem k_221 : Cond.instantiable RX3 4 ∈ TB := TB_in 221 (by decide +kernel) (by decide +kernel)
theorem k_223 : Cond.instanceMethod yX3_init ∈ TB := TB_in 223 (by decide +kernel) (by decide +kernel)
theorem k_224 : Cond.code yX3_init cX3_init 1 none ∈ TB := TB_in 224 (by decide +kernel) (by decide +kernel)
theorem k_225 : Cond.methodLink RX3 3 ⟨"java/lang/Object", "<init>", "()V"⟩ ∈ TB := TB_in 225 (by decide +kernel) (by decide +kernel)
theorem k_226 : Cond.classLink RX3 9 RX6 ∈ TB := TB_in 226 (by decide +kernel) (by decide +kernel)
theorem k_228 : Cond.fieldLink RX3 11 "WindowsGive$Rules" "texts" "[LWindowsGive$Text;" ∈ TB := TB_in 228 (by decide +kernel) (by decide +kernel)
theorem k_229 : Cond.fieldLink RX3 24 "WindowsGive$Rules" "size" "I" ∈ TB := TB_in 229 (by decide +kernel) (by decide +kernel)
theorem k_230 : Cond.fieldLink RX8 167 "WindowsGive$Rules" "size" "I" ∈ TB := TB_in 230 (by decide +kernel) (by decide +kernel)
theorem k_231 : Cond.fieldLink RX3 17 "WindowsGive$Rules" "names" "[I" ∈ TB := TB_in 231 (by decide +kernel) (by decide +kernel)
theorem k_232 : Cond.fieldLink RX3 21 "WindowsGive$Rules" "stack" "[I" ∈ TB := TB_in 232 (by decide +kernel) (by decide +kernel)
theorem k_233 : Cond.laysFinal RX3 "WindowsGive$Rules" "texts" "[LWindowsGive$Text;" ∈ TB := TB_in 233 (by decide +kernel) (by decide +kernel)
theorem k_235 : Cond.lays RX3 "WindowsGive$Rules" "size" "I" ∈ TB := TB_in 235 (by decide +kernel) (by decide +kernel)
theorem k_237 : Cond.laysFinal RX3 "WindowsGive$Rules" "names" "[I" ∈ TB := TB_in 237 (by decide +kernel) (by decide +kernel)
theorem k_239 : Cond.laysFinal RX3 "WindowsGive$Rules" "stack" "[I" ∈ TB := TB_in 239 (by decide +kernel) (by decide +kernel)
theorem k_242 : Cond.classLink RX8 40 RX7 ∈ TB := TB_in 242 (by decide +kernel) (by decide +kernel)
theorem k_243 : Cond.instantiable RX7 3 ∈ TB := TB_in 243 (by decide +kernel) (by decide +kernel)
theorem k_245 : Cond.instanceMethod yX7_init ∈ TB := TB_in 245 (by decide +kernel) (by decide +kernel)
theorem k_246 : Cond.code yX7_init cX7_init 1 none ∈ TB := TB_in 246 (by decide +kernel) (by decide +kernel)
theorem k_247 : Cond.methodLink RX7 3 ⟨"java/lang/Object", "<init>", "()V"⟩ ∈ TB := TB_in 247 (by decide +kernel) (by decide +kernel)
theorem k_248 : Cond.fieldLink RX7 9 "WindowsGive$Walk" "firstDay" "[I" ∈ TB := TB_in 248 (by decide +kernel) (by decide +kernel)
theorem k_249 : Cond.fieldLink RX8 189 "WindowsGive$Walk" "firstDay" "[I" ∈ TB := TB_in 249 (by decide +kernel) (by decide +kernel)
theorem k_250 : Cond.fieldLink RX7 15 "WindowsGive$Walk" "far" "[I" ∈ TB := TB_in 250 (by decide +kernel) (by decide +kernel)
theorem k_251 : Cond.fieldLink RX8 181 "WindowsGive$Walk" "far" "[I" ∈ TB := TB_in 251 (by decide +kernel) (by decide +kernel)
theorem k_252 : Cond.fieldLink RX7 18 "WindowsGive$Walk" "settled" "[I" ∈ TB := TB_in 252 (by decide +kernel) (by decide +kernel)
theorem k_253 : Cond.laysFinal RX7 "WindowsGive$Walk" "firstDay" "[I" ∈ TB := TB_in 253 (by decide +kernel) (by decide +kernel)
theorem k_255 : Cond.laysFinal RX7 "WindowsGive$Walk" "far" "[I" ∈ TB := TB_in 255 (by decide +kernel) (by decide +kernel)
theorem k_257 : Cond.laysFinal RX7 "WindowsGive$Walk" "settled" "[I" ∈ TB := TB_in 257 (by decide +kernel) (by decide +kernel)
theorem k_260 : Cond.classLink RX8 47 RX4 ∈ TB := TB_in 260 (by decide +kernel) (by decide +kernel)
theorem k_262 : Cond.classLink RX8 53 RX1 ∈ TB := TB_in 262 (by decide +kernel) (by decide +kernel)
theorem k_263 : Cond.methodLink RX8 55 yX1_init ∈ TB := TB_in 263 (by decide +kernel) (by decide +kernel)
theorem k_264 : Cond.instantiable RX4 3 ∈ TB := TB_in 264 (by decide +kernel) (by decide +kernel)
theorem k_266 : Cond.instanceMethod yX4_init ∈ TB := TB_in 266 (by decide +kernel) (by decide +kernel)
theorem k_267 : Cond.code yX4_init cX4_init 1 none ∈ TB := TB_in 267 (by decide +kernel) (by decide +kernel)
theorem k_268 : Cond.methodLink RX4 3 ⟨"java/lang/Object", "<init>", "()V"⟩ ∈ TB := TB_in 268 (by decide +kernel) (by decide +kernel)
theorem k_269 : Cond.fieldLink RX4 9 "WindowsGive$Sheet" "items" "[I" ∈ TB := TB_in 269 (by decide +kernel) (by decide +kernel)
theorem k_270 : Cond.fieldLink RX8 284 "WindowsGive$Sheet" "items" "[I" ∈ TB := TB_in 270 (by decide +kernel) (by decide +kernel)
theorem k_271 : Cond.fieldLink RX4 15 "WindowsGive$Sheet" "sort" "I" ∈ TB := TB_in 271 (by decide +kernel) (by decide +kernel)
theorem k_272 : Cond.fieldLink RX8 278 "WindowsGive$Sheet" "sort" "I" ∈ TB := TB_in 272 (by decide +kernel) (by decide +kernel)
theorem k_273 : Cond.fieldLink RX4 19 "WindowsGive$Sheet" "size" "I" ∈ TB := TB_in 273 (by decide +kernel) (by decide +kernel)
theorem k_274 : Cond.fieldLink RX8 306 "WindowsGive$Sheet" "size" "I" ∈ TB := TB_in 274 (by decide +kernel) (by decide +kernel)
theorem k_275 : Cond.laysFinal RX4 "WindowsGive$Sheet" "items" "[I" ∈ TB := TB_in 275 (by decide +kernel) (by decide +kernel)
theorem k_277 : Cond.lays RX4 "WindowsGive$Sheet" "sort" "I" ∈ TB := TB_in 277 (by decide +kernel) (by decide +kernel)
theorem k_279 : Cond.lays RX4 "WindowsGive$Sheet" "size" "I" ∈ TB := TB_in 279 (by decide +kernel) (by decide +kernel)
theorem k_283 : Cond.methodLink RX8 75 yJ0_length_8abf5 ∈ TB := TB_in 283 (by decide +kernel) (by decide +kernel)
theorem k_284 : Cond.instanceMethod yJ0_length_8abf5 ∈ TB := TB_in 284 (by decide +kernel) (by decide +kernel)
theorem k_285 : Cond.selects RJ0 yJ0_length_8abf5 yJ0_length_8abf5 ∈ TB := TB_in 285 (by decide +kernel) (by decide +kernel)
theorem k_286 : Cond.code yJ0_length_8abf5 cJ0_length_8abf5 1 (some .int) ∈ TB := TB_in 286 (by decide +kernel) (by decide +kernel)
theorem k_287 : Cond.methodLink RJ0 335 yJ0_coder_7d493 ∈ TB := TB_in 287 (by decide +kernel) (by decide +kernel)
theorem k_288 : Cond.instanceMethod yJ0_coder_7d493 ∈ TB := TB_in 288 (by decide +kernel) (by decide +kernel)
theorem k_289 : Cond.selects RJ0 yJ0_coder_7d493 yJ0_coder_7d493 ∈ TB := TB_in 289 (by decide +kernel) (by decide +kernel)
theorem k_290 : Cond.code yJ0_coder_7d493 cJ0_coder_7d493 1 (some .byte) ∈ TB := TB_in 290 (by decide +kernel) (by decide +kernel)
theorem k_291 : Cond.fieldLink RJ0 38 "java/lang/String" "COMPACT_STRINGS" "Z" ∈ TB := TB_in 291 (by decide +kernel) (by decide +kernel)
theorem k_293 : Cond.methodLink RX8 81 yJ0_charAt_5068e ∈ TB := TB_in 293 (by decide +kernel) (by decide +kernel)
theorem k_294 : Cond.instanceMethod yJ0_charAt_5068e ∈ TB := TB_in 294 (by decide +kernel) (by decide +kernel)
theorem k_295 : Cond.selects RJ0 yJ0_charAt_5068e yJ0_charAt_5068e ∈ TB := TB_in 295 (by decide +kernel) (by decide +kernel)
theorem k_296 : Cond.code yJ0_charAt_5068e cJ0_charAt_5068e 2 (some .char) ∈ TB := TB_in 296 (by decide +kernel) (by decide +kernel)
theorem k_297 : Cond.methodLink RJ0 492 yJ0_isLatin1_aae02 ∈ TB := TB_in 297 (by decide +kernel) (by decide +kernel)
theorem k_298 : Cond.instanceMethod yJ0_isLatin1_aae02 ∈ TB := TB_in 298 (by decide +kernel) (by decide +kernel)
theorem k_299 : Cond.selects RJ0 yJ0_isLatin1_aae02 yJ0_isLatin1_aae02 ∈ TB := TB_in 299 (by decide +kernel) (by decide +kernel)
theorem k_300 : Cond.code yJ0_isLatin1_aae02 cJ0_isLatin1_aae02 1 (some .boolean) ∈ TB := TB_in 300 (by decide +kernel) (by decide +kernel)
theorem k_301 : Cond.methodLink RJ0 495 yJ1_charAt_3b067 ∈ TB := TB_in 301 (by decide +kernel) (by decide +kernel)
theorem k_302 : Cond.static yJ1_charAt_3b067 ∈ TB := TB_in 302 (by decide +kernel) (by decide +kernel)
theorem k_303 : Cond.code yJ1_charAt_3b067 cJ1_charAt_3b067 2 (some .char) ∈ TB := TB_in 303 (by decide +kernel) (by decide +kernel)
theorem k_304 : Cond.methodLink RJ1 9 yJ0_checkIndex_df160 ∈ TB := TB_in 304 (by decide +kernel) (by decide +kernel)
theorem k_305 : Cond.static yJ0_checkIndex_df160 ∈ TB := TB_in 305 (by decide +kernel) (by decide +kernel)
theorem k_306 : Cond.code yJ0_checkIndex_df160 cJ0_checkIndex_df160 2 none ∈ TB := TB_in 306 (by decide +kernel) (by decide +kernel)
theorem k_307 : Cond.fieldLink RJ0 1053 "jdk/internal/util/Preconditions" "SIOOBE_FORMATTER" "Ljava/util/function/BiFunction;" ∈ TB := TB_in 307 (by decide +kernel) (by decide +kernel)
theorem k_309 : Cond.methodLink RJ0 1059 yJ3_checkIndex_8e157 ∈ TB := TB_in 309 (by decide +kernel) (by decide +kernel)
theorem k_310 : Cond.static yJ3_checkIndex_8e157 ∈ TB := TB_in 310 (by decide +kernel) (by decide +kernel)
theorem k_311 : Cond.code yJ3_checkIndex_8e157 cJ3_checkIndex_8e157 3 (some .int) ∈ TB := TB_in 311 (by decide +kernel) (by decide +kernel)
theorem k_312 : Cond.methodLink RJ0 498 yJ2_charAt_3b067 ∈ TB := TB_in 312 (by decide +kernel) (by decide +kernel)
theorem k_313 : Cond.static yJ2_charAt_3b067 ∈ TB := TB_in 313 (by decide +kernel) (by decide +kernel)
theorem k_314 : Cond.code yJ2_charAt_3b067 cJ2_charAt_3b067 2 (some .char) ∈ TB := TB_in 314 (by decide +kernel) (by decide +kernel)
theorem k_315 : Cond.methodLink RJ2 67 yJ2_checkIndex_2214a ∈ TB := TB_in 315 (by decide +kernel) (by decide +kernel)
theorem k_316 : Cond.static yJ2_checkIndex_2214a ∈ TB := TB_in 316 (by decide +kernel) (by decide +kernel)
theorem k_317 : Cond.code yJ2_checkIndex_2214a cJ2_checkIndex_2214a 2 none ∈ TB := TB_in 317 (by decide +kernel) (by decide +kernel)
theorem k_318 : Cond.methodLink RJ2 48 yJ2_length_9d52b ∈ TB := TB_in 318 (by decide +kernel) (by decide +kernel)
theorem k_319 : Cond.static yJ2_length_9d52b ∈ TB := TB_in 319 (by decide +kernel) (by decide +kernel)
theorem k_320 : Cond.code yJ2_length_9d52b cJ2_length_9d52b 1 (some .int) ∈ TB := TB_in 320 (by decide +kernel) (by decide +kernel)
theorem k_321 : Cond.methodLink RJ2 414 yJ0_checkIndex_df160 ∈ TB := TB_in 321 (by decide +kernel) (by decide +kernel)
theorem k_322 : Cond.methodLink RJ2 71 yJ2_getChar_3b067 ∈ TB := TB_in 322 (by decide +kernel) (by decide +kernel)
theorem k_323 : Cond.static yJ2_getChar_3b067 ∈ TB := TB_in 323 (by decide +kernel) (by decide +kernel)
theorem k_324 : Cond.code yJ2_getChar_3b067 cJ2_getChar_3b067 2 (some .char) ∈ TB := TB_in 324 (by decide +kernel) (by decide +kernel)
theorem k_325 : Cond.fieldLink RJ2 44 "java/lang/StringUTF16" "$assertionsDisabled" "Z" ∈ TB := TB_in 325 (by decide +kernel) (by decide +kernel)
theorem k_327 : Cond.fieldLink RJ2 59 "java/lang/StringUTF16" "HI_BYTE_SHIFT" "I" ∈ TB := TB_in 327 (by decide +kernel) (by decide +kernel)
theorem k_329 : Cond.fieldLink RJ2 63 "java/lang/StringUTF16" "LO_BYTE_SHIFT" "I" ∈ TB := TB_in 329 (by decide +kernel) (by decide +kernel)
theorem k_331 : Cond.methodLink RX8 85 yX5_put ∈ TB := TB_in 331 (by decide +kernel) (by decide +kernel)
theorem k_332 : Cond.instanceMethod yX5_put ∈ TB := TB_in 332 (by decide +kernel) (by decide +kernel)
theorem k_333 : Cond.selects RX5 yX5_put yX5_put ∈ TB := TB_in 333 (by decide +kernel) (by decide +kernel)
theorem k_334 : Cond.code yX5_put cX5_put 2 (some .boolean) ∈ TB := TB_in 334 (by decide +kernel) (by decide +kernel)
theorem k_335 : Cond.methodLink RX8 89 yX2_read ∈ TB := TB_in 335 (by decide +kernel) (by decide +kernel)
theorem k_336 : Cond.instanceMethod yX2_read ∈ TB := TB_in 336 (by decide +kernel) (by decide +kernel)
theorem k_337 : Cond.selects RX2 yX2_read yX2_read ∈ TB := TB_in 337 (by decide +kernel) (by decide +kernel)
theorem k_338 : Cond.code yX2_read cX2_read 2 (some (.object "WindowsGive$Text")) ∈ TB := TB_in 338 (by decide +kernel) (by decide +kernel)
theorem k_339 : Cond.methodLink RX2 18 yX5_cut ∈ TB := TB_in 339 (by decide +kernel) (by decide +kernel)
theorem k_340 : Cond.instanceMethod yX5_cut ∈ TB := TB_in 340 (by decide +kernel) (by decide +kernel)
theorem k_341 : Cond.selects RX5 yX5_cut yX5_cut ∈ TB := TB_in 341 (by decide +kernel) (by decide +kernel)
theorem k_342 : Cond.code yX5_cut cX5_cut 2 none ∈ TB := TB_in 342 (by decide +kernel) (by decide +kernel)
theorem k_343 : Cond.methodLink RX5 34 yX5_skipBlanks ∈ TB := TB_in 343 (by decide +kernel) (by decide +kernel)
theorem k_345 : Cond.instanceMethod yX5_skipBlanks ∈ TB := TB_in 345 (by decide +kernel) (by decide +kernel)
theorem k_346 : Cond.code yX5_skipBlanks cX5_skipBlanks 1 none ∈ TB := TB_in 346 (by decide +kernel) (by decide +kernel)
theorem k_347 : Cond.methodLink RX5 37 yX5_cutOne ∈ TB := TB_in 347 (by decide +kernel) (by decide +kernel)
theorem k_349 : Cond.instanceMethod yX5_cutOne ∈ TB := TB_in 349 (by decide +kernel) (by decide +kernel)
theorem k_350 : Cond.code yX5_cutOne cX5_cutOne 2 (some .int) ∈ TB := TB_in 350 (by decide +kernel) (by decide +kernel)
theorem k_351 : Cond.methodLink RX5 41 yX5_isLetter ∈ TB := TB_in 351 (by decide +kernel) (by decide +kernel)
theorem k_352 : Cond.static yX5_isLetter ∈ TB := TB_in 352 (by decide +kernel) (by decide +kernel)
theorem k_353 : Cond.code yX5_isLetter cX5_isLetter 1 (some .boolean) ∈ TB := TB_in 353 (by decide +kernel) (by decide +kernel)
theorem k_354 : Cond.methodLink RX5 45 yX5_cutWord ∈ TB := TB_in 354 (by decide +kernel) (by decide +kernel)
theorem k_356 : Cond.instanceMethod yX5_cutWord ∈ TB := TB_in 356 (by decide +kernel) (by decide +kernel)
theorem k_357 : Cond.code yX5_cutWord cX5_cutWord 3 (some .int) ∈ TB := TB_in 357 (by decide +kernel) (by decide +kernel)
theorem k_358 : Cond.methodLink RX5 57 yX5_spelling ∈ TB := TB_in 358 (by decide +kernel) (by decide +kernel)
theorem k_359 : Cond.static yX5_spelling ∈ TB := TB_in 359 (by decide +kernel) (by decide +kernel)
theorem k_360 : Cond.code yX5_spelling cX5_spelling 1 (some (.object "java/lang/String")) ∈ TB := TB_in 360 (by decide +kernel) (by decide +kernel)
theorem k_373 : Cond.methodLink RX5 61 yX5_stands ∈ TB := TB_in 373 (by decide +kernel) (by decide +kernel)
theorem k_375 : Cond.instanceMethod yX5_stands ∈ TB := TB_in 375 (by decide +kernel) (by decide +kernel)
theorem k_376 : Cond.code yX5_stands cX5_stands 4 (some .boolean) ∈ TB := TB_in 376 (by decide +kernel) (by decide +kernel)
theorem k_377 : Cond.methodLink RX5 65 yJ0_length_8abf5 ∈ TB := TB_in 377 (by decide +kernel) (by decide +kernel)
theorem k_378 : Cond.methodLink RX5 70 yJ0_charAt_5068e ∈ TB := TB_in 378 (by decide +kernel) (by decide +kernel)
theorem k_379 : Cond.methodLink RX5 48 yX5_isDigit ∈ TB := TB_in 379 (by decide +kernel) (by decide +kernel)
theorem k_380 : Cond.static yX5_isDigit ∈ TB := TB_in 380 (by decide +kernel) (by decide +kernel)
theorem k_381 : Cond.code yX5_isDigit cX5_isDigit 1 (some .boolean) ∈ TB := TB_in 381 (by decide +kernel) (by decide +kernel)
theorem k_382 : Cond.methodLink RX5 51 yX5_cutNumber ∈ TB := TB_in 382 (by decide +kernel) (by decide +kernel)
theorem k_384 : Cond.instanceMethod yX5_cutNumber ∈ TB := TB_in 384 (by decide +kernel) (by decide +kernel)
theorem k_385 : Cond.code yX5_cutNumber cX5_cutNumber 3 (some .int) ∈ TB := TB_in 385 (by decide +kernel) (by decide +kernel)
theorem k_386 : Cond.methodLink RX5 54 yX5_isSign ∈ TB := TB_in 386 (by decide +kernel) (by decide +kernel)
theorem k_387 : Cond.static yX5_isSign ∈ TB := TB_in 387 (by decide +kernel) (by decide +kernel)
theorem k_388 : Cond.code yX5_isSign cX5_isSign 1 (some .boolean) ∈ TB := TB_in 388 (by decide +kernel) (by decide +kernel)
theorem k_389 : Cond.methodLink RX2 39 yX2_readPart ∈ TB := TB_in 389 (by decide +kernel) (by decide +kernel)
theorem k_391 : Cond.instanceMethod yX2_readPart ∈ TB := TB_in 391 (by decide +kernel) (by decide +kernel)
theorem k_392 : Cond.code yX2_readPart cX2_readPart 4 none ∈ TB := TB_in 392 (by decide +kernel) (by decide +kernel)
theorem k_393 : Cond.methodLink RX2 43 yX2_expect ∈ TB := TB_in 393 (by decide +kernel) (by decide +kernel)
theorem k_395 : Cond.instanceMethod yX2_expect ∈ TB := TB_in 395 (by decide +kernel) (by decide +kernel)
theorem k_396 : Cond.code yX2_expect cX2_expect 3 none ∈ TB := TB_in 396 (by decide +kernel) (by decide +kernel)
theorem k_397 : Cond.methodLink RX2 64 yX2_advance ∈ TB := TB_in 397 (by decide +kernel) (by decide +kernel)
theorem k_399 : Cond.instanceMethod yX2_advance ∈ TB := TB_in 399 (by decide +kernel) (by decide +kernel)
theorem k_400 : Cond.code yX2_advance cX2_advance 2 none ∈ TB := TB_in 400 (by decide +kernel) (by decide +kernel)
theorem k_401 : Cond.methodLink RX2 89 yX2_fail ∈ TB := TB_in 401 (by decide +kernel) (by decide +kernel)
theorem k_403 : Cond.instanceMethod yX2_fail ∈ TB := TB_in 403 (by decide +kernel) (by decide +kernel)
theorem k_404 : Cond.code yX2_fail cX2_fail 2 none ∈ TB := TB_in 404 (by decide +kernel) (by decide +kernel)
theorem k_405 : Cond.methodLink RX2 58 yX2_readOr ∈ TB := TB_in 405 (by decide +kernel) (by decide +kernel)
theorem k_407 : Cond.instanceMethod yX2_readOr ∈ TB := TB_in 407 (by decide +kernel) (by decide +kernel)
theorem k_408 : Cond.code yX2_readOr cX2_readOr 4 none ∈ TB := TB_in 408 (by decide +kernel) (by decide +kernel)
theorem k_409 : Cond.methodLink RX2 61 yX2_readAnd ∈ TB := TB_in 409 (by decide +kernel) (by decide +kernel)
theorem k_411 : Cond.instanceMethod yX2_readAnd ∈ TB := TB_in 411 (by decide +kernel) (by decide +kernel)
theorem k_412 : Cond.code yX2_readAnd cX2_readAnd 4 none ∈ TB := TB_in 412 (by decide +kernel) (by decide +kernel)
theorem k_413 : Cond.methodLink RX2 74 yX2_readNot ∈ TB := TB_in 413 (by decide +kernel) (by decide +kernel)
theorem k_415 : Cond.instanceMethod yX2_readNot ∈ TB := TB_in 415 (by decide +kernel) (by decide +kernel)
theorem k_416 : Cond.code yX2_readNot cX2_readNot 4 none ∈ TB := TB_in 416 (by decide +kernel) (by decide +kernel)
theorem k_417 : Cond.methodLink RX2 70 yX2_emit ∈ TB := TB_in 417 (by decide +kernel) (by decide +kernel)
theorem k_419 : Cond.instanceMethod yX2_emit ∈ TB := TB_in 419 (by decide +kernel) (by decide +kernel)
theorem k_420 : Cond.code yX2_emit cX2_emit 3 none ∈ TB := TB_in 420 (by decide +kernel) (by decide +kernel)
theorem k_421 : Cond.methodLink RX2 77 yX2_readSum ∈ TB := TB_in 421 (by decide +kernel) (by decide +kernel)
theorem k_423 : Cond.instanceMethod yX2_readSum ∈ TB := TB_in 423 (by decide +kernel) (by decide +kernel)
theorem k_424 : Cond.code yX2_readSum cX2_readSum 5 none ∈ TB := TB_in 424 (by decide +kernel) (by decide +kernel)
theorem k_425 : Cond.methodLink RX2 80 yX2_readTerm ∈ TB := TB_in 425 (by decide +kernel) (by decide +kernel)
theorem k_427 : Cond.instanceMethod yX2_readTerm ∈ TB := TB_in 427 (by decide +kernel) (by decide +kernel)
theorem k_428 : Cond.code yX2_readTerm cX2_readTerm 4 none ∈ TB := TB_in 428 (by decide +kernel) (by decide +kernel)
theorem k_429 : Cond.methodLink RX2 83 yX2_readOne ∈ TB := TB_in 429 (by decide +kernel) (by decide +kernel)
theorem k_431 : Cond.instanceMethod yX2_readOne ∈ TB := TB_in 431 (by decide +kernel) (by decide +kernel)
theorem k_432 : Cond.code yX2_readOne cX2_readOne 3 none ∈ TB := TB_in 432 (by decide +kernel) (by decide +kernel)
theorem k_433 : Cond.classLink RX2 47 RX6 ∈ TB := TB_in 433 (by decide +kernel) (by decide +kernel)
theorem k_434 : Cond.instantiable RX6 2 ∈ TB := TB_in 434 (by decide +kernel) (by decide +kernel)
theorem k_435 : Cond.methodLink RX2 49 yJ7_copyOf_59c91 ∈ TB := TB_in 435 (by decide +kernel) (by decide +kernel)
theorem k_436 : Cond.static yJ7_copyOf_59c91 ∈ TB := TB_in 436 (by decide +kernel) (by decide +kernel)
theorem k_437 : Cond.code yJ7_copyOf_59c91 cJ7_copyOf_59c91 3 (some (.array .int)) ∈ TB := TB_in 437 (by decide +kernel) (by decide +kernel)
theorem k_438 : Cond.methodLink RJ7 316 ⟨"[I", "clone", "()Ljava/lang/Object;"⟩ ∈ TB := TB_in 438 (by decide +kernel) (by decide +kernel)
theorem k_439 : Cond.sameMethod "[I" "java/lang/Object" "clone" "()Ljava/lang/Object;" ∈ TB := TB_in 439 (by decide +kernel) (by decide +kernel)
theorem k_440 : Cond.native ⟨"java/lang/Object", "clone", "()Ljava/lang/Object;"⟩ ∈ TB := TB_in 440 (by decide +kernel) (by decide +kernel)
theorem k_441 : Cond.instanceMethod ⟨"java/lang/Object", "clone", "()Ljava/lang/Object;"⟩ ∈ TB := TB_in 441 (by decide +kernel) (by decide +kernel)
theorem k_442 : Cond.selects "[I" ⟨"[I", "clone", "()Ljava/lang/Object;"⟩ ⟨"java/lang/Object", "clone", "()Ljava/lang/Object;"⟩ ∈ TB := TB_in 442 (by decide +kernel) (by decide +kernel)
theorem k_444 : Cond.classLink RJ7 317 "[I" ∈ TB := TB_in 444 (by decide +kernel) (by decide +kernel)
theorem k_445 : Cond.methodLink RJ7 304 yJ9_min_7cf53 ∈ TB := TB_in 445 (by decide +kernel) (by decide +kernel)
theorem k_446 : Cond.static yJ9_min_7cf53 ∈ TB := TB_in 446 (by decide +kernel) (by decide +kernel)
theorem k_447 : Cond.code yJ9_min_7cf53 cJ9_min_7cf53 2 (some .int) ∈ TB := TB_in 447 (by decide +kernel) (by decide +kernel)
theorem k_448 : Cond.methodLink RJ7 150 ⟨"java/lang/System", "arraycopy", "(Ljava/lang/Object;ILjava/lang/Object;II)V"⟩ ∈ TB := TB_in 448 (by decide +kernel) (by decide +kernel)
theorem k_449 : Cond.static ⟨"java/lang/System", "arraycopy", "(Ljava/lang/Object;ILjava/lang/Object;II)V"⟩ ∈ TB := TB_in 449 (by decide +kernel) (by decide +kernel)
theorem k_450 : Cond.native ⟨"java/lang/System", "arraycopy", "(Ljava/lang/Object;ILjava/lang/Object;II)V"⟩ ∈ TB := TB_in 450 (by decide +kernel) (by decide +kernel)
theorem k_451 : Cond.methodLink RX2 55 yX6_init ∈ TB := TB_in 451 (by decide +kernel) (by decide +kernel)
theorem k_452 : Cond.instanceMethod yX6_init ∈ TB := TB_in 452 (by decide +kernel) (by decide +kernel)
theorem k_453 : Cond.code yX6_init cX6_init 3 none ∈ TB := TB_in 453 (by decide +kernel) (by decide +kernel)
theorem k_454 : Cond.methodLink RX6 1 ⟨"java/lang/Object", "<init>", "()V"⟩ ∈ TB := TB_in 454 (by decide +kernel) (by decide +kernel)
theorem k_455 : Cond.fieldLink RX6 7 "WindowsGive$Text" "code" "[I" ∈ TB := TB_in 455 (by decide +kernel) (by decide +kernel)
theorem k_456 : Cond.fieldLink RX3 69 "WindowsGive$Text" "code" "[I" ∈ TB := TB_in 456 (by decide +kernel) (by decide +kernel)
theorem k_457 : Cond.fieldLink RX6 13 "WindowsGive$Text" "ends" "[I" ∈ TB := TB_in 457 (by decide +kernel) (by decide +kernel)
theorem k_458 : Cond.laysFinal RX6 "WindowsGive$Text" "code" "[I" ∈ TB := TB_in 458 (by decide +kernel) (by decide +kernel)
theorem k_460 : Cond.laysFinal RX6 "WindowsGive$Text" "ends" "[I" ∈ TB := TB_in 460 (by decide +kernel) (by decide +kernel)
theorem k_463 : Cond.arrayClass .byte ∈ TB := TB_in 463 (by decide +kernel) (by decide +kernel)
theorem k_464 : Cond.methodLink RX8 93 yX3_add ∈ TB := TB_in 464 (by decide +kernel) (by decide +kernel)
theorem k_465 : Cond.instanceMethod yX3_add ∈ TB := TB_in 465 (by decide +kernel) (by decide +kernel)
theorem k_466 : Cond.selects RX3 yX3_add yX3_add ∈ TB := TB_in 466 (by decide +kernel) (by decide +kernel)
theorem k_467 : Cond.code yX3_add cX3_add 2 (some .int) ∈ TB := TB_in 467 (by decide +kernel) (by decide +kernel)
theorem k_468 : Cond.methodLink RX8 97 yX5_empty ∈ TB := TB_in 468 (by decide +kernel) (by decide +kernel)
theorem k_469 : Cond.instanceMethod yX5_empty ∈ TB := TB_in 469 (by decide +kernel) (by decide +kernel)
theorem k_470 : Cond.selects RX5 yX5_empty yX5_empty ∈ TB := TB_in 470 (by decide +kernel) (by decide +kernel)
theorem k_471 : Cond.code yX5_empty cX5_empty 1 none ∈ TB := TB_in 471 (by decide +kernel) (by decide +kernel)
theorem k_472 : Cond.fieldLink RX8 12 "WindowsGive" "house" "LWindowsGive$House;" ∈ TB := TB_in 472 (by decide +kernel) (by decide +kernel)
theorem k_473 : Cond.fieldLink RX8 16 "WindowsGive" "kept" "LWindowsGive$House;" ∈ TB := TB_in 473 (by decide +kernel) (by decide +kernel)
theorem k_474 : Cond.fieldLink RX8 263 "WindowsGive" "imageKept" "Z" ∈ TB := TB_in 474 (by decide +kernel) (by decide +kernel)
theorem k_475 : Cond.fieldLink RX8 22 "WindowsGive" "tape" "LWindowsGive$Tape;" ∈ TB := TB_in 475 (by decide +kernel) (by decide +kernel)
theorem k_476 : Cond.fieldLink RX8 29 "WindowsGive" "reader" "LWindowsGive$Reader;" ∈ TB := TB_in 476 (by decide +kernel) (by decide +kernel)
theorem k_477 : Cond.fieldLink RX8 36 "WindowsGive" "rules" "LWindowsGive$Rules;" ∈ TB := TB_in 477 (by decide +kernel) (by decide +kernel)
theorem k_478 : Cond.fieldLink RX8 43 "WindowsGive" "walk" "LWindowsGive$Walk;" ∈ TB := TB_in 478 (by decide +kernel) (by decide +kernel)
theorem k_479 : Cond.fieldLink RX8 49 "WindowsGive" "sheets" "[LWindowsGive$Sheet;" ∈ TB := TB_in 479 (by decide +kernel) (by decide +kernel)
theorem k_480 : Cond.fieldLink RX8 58 "WindowsGive" "guess" "LWindowsGive$Pane;" ∈ TB := TB_in 480 (by decide +kernel) (by decide +kernel)
theorem k_481 : Cond.fieldLink RX8 62 "WindowsGive" "waters" "[I" ∈ TB := TB_in 481 (by decide +kernel) (by decide +kernel)
theorem k_482 : Cond.fieldLink RX8 66 "WindowsGive" "drawnSky" "[I" ∈ TB := TB_in 482 (by decide +kernel) (by decide +kernel)
theorem k_483 : Cond.fieldLink RX8 69 "WindowsGive" "prices" "[I" ∈ TB := TB_in 483 (by decide +kernel) (by decide +kernel)
theorem k_484 : Cond.laysFinal RX8 "WindowsGive" "house" "LWindowsGive$House;" ∈ TB := TB_in 484 (by decide +kernel) (by decide +kernel)
theorem k_486 : Cond.laysFinal RX8 "WindowsGive" "kept" "LWindowsGive$House;" ∈ TB := TB_in 486 (by decide +kernel) (by decide +kernel)
theorem k_488 : Cond.lays RX8 "WindowsGive" "imageKept" "Z" ∈ TB := TB_in 488 (by decide +kernel) (by decide +kernel)
theorem k_490 : Cond.laysFinal RX8 "WindowsGive" "tape" "LWindowsGive$Tape;" ∈ TB := TB_in 490 (by decide +kernel) (by decide +kernel)
theorem k_492 : Cond.laysFinal RX8 "WindowsGive" "reader" "LWindowsGive$Reader;" ∈ TB := TB_in 492 (by decide +kernel) (by decide +kernel)
theorem k_494 : Cond.laysFinal RX8 "WindowsGive" "rules" "LWindowsGive$Rules;" ∈ TB := TB_in 494 (by decide +kernel) (by decide +kernel)
theorem k_496 : Cond.laysFinal RX8 "WindowsGive" "walk" "LWindowsGive$Walk;" ∈ TB := TB_in 496 (by decide +kernel) (by decide +kernel)
theorem k_498 : Cond.laysFinal RX8 "WindowsGive" "sheets" "[LWindowsGive$Sheet;" ∈ TB := TB_in 498 (by decide +kernel) (by decide +kernel)
theorem k_500 : Cond.laysFinal RX8 "WindowsGive" "guess" "LWindowsGive$Pane;" ∈ TB := TB_in 500 (by decide +kernel) (by decide +kernel)
theorem k_502 : Cond.laysFinal RX8 "WindowsGive" "waters" "[I" ∈ TB := TB_in 502 (by decide +kernel) (by decide +kernel)
theorem k_504 : Cond.laysFinal RX8 "WindowsGive" "drawnSky" "[I" ∈ TB := TB_in 504 (by decide +kernel) (by decide +kernel)
theorem k_506 : Cond.laysFinal RX8 "WindowsGive" "prices" "[I" ∈ TB := TB_in 506 (by decide +kernel) (by decide +kernel)
theorem k_509 : Cond.methodLink RL 13 yX8_set ∈ TB := TB_in 509 (by decide +kernel) (by decide +kernel)
theorem k_510 : Cond.instanceMethod yX8_set ∈ TB := TB_in 510 (by decide +kernel) (by decide +kernel)
theorem k_511 : Cond.selects RX8 yX8_set yX8_set ∈ TB := TB_in 511 (by decide +kernel) (by decide +kernel)
theorem k_512 : Cond.code yX8_set cX8_set 5 (some .int) ∈ TB := TB_in 512 (by decide +kernel) (by decide +kernel)
theorem k_513 : Cond.methodLink RX8 100 yX8_told ∈ TB := TB_in 513 (by decide +kernel) (by decide +kernel)
theorem k_514 : Cond.instanceMethod yX8_told ∈ TB := TB_in 514 (by decide +kernel) (by decide +kernel)
theorem k_515 : Cond.selects RX8 yX8_told yX8_told ∈ TB := TB_in 515 (by decide +kernel) (by decide +kernel)
theorem k_516 : Cond.code yX8_told cX8_told 3 (some .int) ∈ TB := TB_in 516 (by decide +kernel) (by decide +kernel)
theorem k_517 : Cond.methodLink RX8 147 yX8_isDay ∈ TB := TB_in 517 (by decide +kernel) (by decide +kernel)
theorem k_518 : Cond.static yX8_isDay ∈ TB := TB_in 518 (by decide +kernel) (by decide +kernel)
theorem k_519 : Cond.code yX8_isDay cX8_isDay 1 (some .boolean) ∈ TB := TB_in 519 (by decide +kernel) (by decide +kernel)
theorem k_520 : Cond.methodLink RX8 150 yX0_has ∈ TB := TB_in 520 (by decide +kernel) (by decide +kernel)
theorem k_521 : Cond.instanceMethod yX0_has ∈ TB := TB_in 521 (by decide +kernel) (by decide +kernel)
theorem k_522 : Cond.selects RX0 yX0_has yX0_has ∈ TB := TB_in 522 (by decide +kernel) (by decide +kernel)
theorem k_523 : Cond.code yX0_has cX0_has 2 (some .boolean) ∈ TB := TB_in 523 (by decide +kernel) (by decide +kernel)
theorem k_524 : Cond.methodLink RX8 153 yX1_tell ∈ TB := TB_in 524 (by decide +kernel) (by decide +kernel)
theorem k_525 : Cond.instanceMethod yX1_tell ∈ TB := TB_in 525 (by decide +kernel) (by decide +kernel)
theorem k_526 : Cond.selects RX1 yX1_tell yX1_tell ∈ TB := TB_in 526 (by decide +kernel) (by decide +kernel)
theorem k_527 : Cond.code yX1_tell cX1_tell 2 (some .int) ∈ TB := TB_in 527 (by decide +kernel) (by decide +kernel)
theorem k_528 : Cond.methodLink RX1 30 yX1_leads ∈ TB := TB_in 528 (by decide +kernel) (by decide +kernel)
theorem k_529 : Cond.instanceMethod yX1_leads ∈ TB := TB_in 529 (by decide +kernel) (by decide +kernel)
theorem k_530 : Cond.selects RX1 yX1_leads yX1_leads ∈ TB := TB_in 530 (by decide +kernel) (by decide +kernel)
theorem k_531 : Cond.code yX1_leads cX1_leads 1 (some .int) ∈ TB := TB_in 531 (by decide +kernel) (by decide +kernel)
theorem k_532 : Cond.methodLink RX8 104 yX8_fits ∈ TB := TB_in 532 (by decide +kernel) (by decide +kernel)
theorem k_533 : Cond.static yX8_fits ∈ TB := TB_in 533 (by decide +kernel) (by decide +kernel)
theorem k_534 : Cond.code yX8_fits cX8_fits 2 (some .boolean) ∈ TB := TB_in 534 (by decide +kernel) (by decide +kernel)
theorem k_535 : Cond.methodLink RX8 122 yX8_isRoom ∈ TB := TB_in 535 (by decide +kernel) (by decide +kernel)
theorem k_536 : Cond.static yX8_isRoom ∈ TB := TB_in 536 (by decide +kernel) (by decide +kernel)
theorem k_537 : Cond.code yX8_isRoom cX8_isRoom 1 (some .boolean) ∈ TB := TB_in 537 (by decide +kernel) (by decide +kernel)
theorem k_538 : Cond.methodLink RX8 115 yX1_change ∈ TB := TB_in 538 (by decide +kernel) (by decide +kernel)
theorem k_539 : Cond.instanceMethod yX1_change ∈ TB := TB_in 539 (by decide +kernel) (by decide +kernel)
theorem k_540 : Cond.selects RX1 yX1_change yX1_change ∈ TB := TB_in 540 (by decide +kernel) (by decide +kernel)
theorem k_541 : Cond.code yX1_change cX1_change 3 none ∈ TB := TB_in 541 (by decide +kernel) (by decide +kernel)
theorem k_542 : Cond.methodLink RL 18 yX8_pane ∈ TB := TB_in 542 (by decide +kernel) (by decide +kernel)
theorem k_543 : Cond.instanceMethod yX8_pane ∈ TB := TB_in 543 (by decide +kernel) (by decide +kernel)
theorem k_544 : Cond.selects RX8 yX8_pane yX8_pane ∈ TB := TB_in 544 (by decide +kernel) (by decide +kernel)
theorem k_545 : Cond.code yX8_pane cX8_pane 9 (some .int) ∈ TB := TB_in 545 (by decide +kernel) (by decide +kernel)
theorem k_546 : Cond.methodLink RX8 119 yX8_isKind ∈ TB := TB_in 546 (by decide +kernel) (by decide +kernel)
theorem k_547 : Cond.static yX8_isKind ∈ TB := TB_in 547 (by decide +kernel) (by decide +kernel)
theorem k_548 : Cond.code yX8_isKind cX8_isKind 1 (some .boolean) ∈ TB := TB_in 548 (by decide +kernel) (by decide +kernel)
theorem k_549 : Cond.methodLink RL 22 yX8_told ∈ TB := TB_in 549 (by decide +kernel) (by decide +kernel)
theorem k_550 : Cond.methodLink RL 27 yX8_gives ∈ TB := TB_in 550 (by decide +kernel) (by decide +kernel)
theorem k_551 : Cond.instanceMethod yX8_gives ∈ TB := TB_in 551 (by decide +kernel) (by decide +kernel)
theorem k_552 : Cond.selects RX8 yX8_gives yX8_gives ∈ TB := TB_in 552 (by decide +kernel) (by decide +kernel)
theorem k_553 : Cond.code yX8_gives cX8_gives 5 (some .int) ∈ TB := TB_in 553 (by decide +kernel) (by decide +kernel)
theorem k_554 : Cond.methodLink RX8 157 yX8_isSort ∈ TB := TB_in 554 (by decide +kernel) (by decide +kernel)
theorem k_555 : Cond.static yX8_isSort ∈ TB := TB_in 555 (by decide +kernel) (by decide +kernel)
theorem k_556 : Cond.code yX8_isSort cX8_isSort 1 (some .boolean) ∈ TB := TB_in 556 (by decide +kernel) (by decide +kernel)
theorem k_557 : Cond.methodLink RX8 160 yX1_on ∈ TB := TB_in 557 (by decide +kernel) (by decide +kernel)
theorem k_558 : Cond.instanceMethod yX1_on ∈ TB := TB_in 558 (by decide +kernel) (by decide +kernel)
theorem k_559 : Cond.selects RX1 yX1_on yX1_on ∈ TB := TB_in 559 (by decide +kernel) (by decide +kernel)
theorem k_560 : Cond.code yX1_on cX1_on 2 (some .int) ∈ TB := TB_in 560 (by decide +kernel) (by decide +kernel)
theorem k_561 : Cond.methodLink RX8 163 yX1_passes ∈ TB := TB_in 561 (by decide +kernel) (by decide +kernel)
theorem k_562 : Cond.instanceMethod yX1_passes ∈ TB := TB_in 562 (by decide +kernel) (by decide +kernel)
theorem k_563 : Cond.selects RX1 yX1_passes yX1_passes ∈ TB := TB_in 563 (by decide +kernel) (by decide +kernel)
theorem k_564 : Cond.code yX1_passes cX1_passes 3 (some .boolean) ∈ TB := TB_in 564 (by decide +kernel) (by decide +kernel)
theorem k_565 : Cond.methodLink RX1 34 yX1_on ∈ TB := TB_in 565 (by decide +kernel) (by decide +kernel)
theorem k_567 : Cond.methodLink RX1 42 yX1_lets ∈ TB := TB_in 567 (by decide +kernel) (by decide +kernel)
theorem k_569 : Cond.instanceMethod yX1_lets ∈ TB := TB_in 569 (by decide +kernel) (by decide +kernel)
theorem k_570 : Cond.code yX1_lets cX1_lets 3 (some .boolean) ∈ TB := TB_in 570 (by decide +kernel) (by decide +kernel)
theorem k_571 : Cond.methodLink RL 31 yX8_feed ∈ TB := TB_in 571 (by decide +kernel) (by decide +kernel)
theorem k_572 : Cond.instanceMethod yX8_feed ∈ TB := TB_in 572 (by decide +kernel) (by decide +kernel)
theorem k_573 : Cond.selects RX8 yX8_feed yX8_feed ∈ TB := TB_in 573 (by decide +kernel) (by decide +kernel)
theorem k_574 : Cond.code yX8_feed cX8_feed 2 (some .int) ∈ TB := TB_in 574 (by decide +kernel) (by decide +kernel)
theorem k_575 : Cond.methodLink RL 36 yX8_text ∈ TB := TB_in 575 (by decide +kernel) (by decide +kernel)
theorem k_576 : Cond.instanceMethod yX8_text ∈ TB := TB_in 576 (by decide +kernel) (by decide +kernel)
theorem k_577 : Cond.selects RX8 yX8_text yX8_text ∈ TB := TB_in 577 (by decide +kernel) (by decide +kernel)
theorem k_578 : Cond.code yX8_text cX8_text 2 (some .int) ∈ TB := TB_in 578 (by decide +kernel) (by decide +kernel)
theorem k_579 : Cond.methodLink RL 41 yX8_force ∈ TB := TB_in 579 (by decide +kernel) (by decide +kernel)
theorem k_580 : Cond.instanceMethod yX8_force ∈ TB := TB_in 580 (by decide +kernel) (by decide +kernel)
theorem k_581 : Cond.selects RX8 yX8_force yX8_force ∈ TB := TB_in 581 (by decide +kernel) (by decide +kernel)
theorem k_582 : Cond.code yX8_force cX8_force 3 (some .int) ∈ TB := TB_in 582 (by decide +kernel) (by decide +kernel)
theorem k_583 : Cond.methodLink RL 45 yX8_panes ∈ TB := TB_in 583 (by decide +kernel) (by decide +kernel)
theorem k_584 : Cond.instanceMethod yX8_panes ∈ TB := TB_in 584 (by decide +kernel) (by decide +kernel)
theorem k_585 : Cond.selects RX8 yX8_panes yX8_panes ∈ TB := TB_in 585 (by decide +kernel) (by decide +kernel)
theorem k_586 : Cond.code yX8_panes cX8_panes 6 (some .int) ∈ TB := TB_in 586 (by decide +kernel) (by decide +kernel)
theorem k_587 : Cond.methodLink RX8 174 yX8_isSpot ∈ TB := TB_in 587 (by decide +kernel) (by decide +kernel)
theorem k_588 : Cond.static yX8_isSpot ∈ TB := TB_in 588 (by decide +kernel) (by decide +kernel)
theorem k_589 : Cond.code yX8_isSpot cX8_isSpot 1 (some .boolean) ∈ TB := TB_in 589 (by decide +kernel) (by decide +kernel)
theorem k_590 : Cond.methodLink RX8 177 yX7_search ∈ TB := TB_in 590 (by decide +kernel) (by decide +kernel)
theorem k_591 : Cond.instanceMethod yX7_search ∈ TB := TB_in 591 (by decide +kernel) (by decide +kernel)
theorem k_592 : Cond.selects RX7 yX7_search yX7_search ∈ TB := TB_in 592 (by decide +kernel) (by decide +kernel)
theorem k_593 : Cond.code yX7_search cX7_search 7 none ∈ TB := TB_in 593 (by decide +kernel) (by decide +kernel)
theorem k_594 : Cond.constant RX7 58 1000000000 ∈ TB := TB_in 594 (by decide +kernel) (by decide +kernel)
theorem k_595 : Cond.methodLink RX7 21 yJ7_fill_53178 ∈ TB := TB_in 595 (by decide +kernel) (by decide +kernel)
theorem k_596 : Cond.static yJ7_fill_53178 ∈ TB := TB_in 596 (by decide +kernel) (by decide +kernel)
theorem k_597 : Cond.code yJ7_fill_53178 cJ7_fill_53178 4 none ∈ TB := TB_in 597 (by decide +kernel) (by decide +kernel)
theorem k_598 : Cond.methodLink RX7 59 yX7_nearest ∈ TB := TB_in 598 (by decide +kernel) (by decide +kernel)
theorem k_600 : Cond.instanceMethod yX7_nearest ∈ TB := TB_in 600 (by decide +kernel) (by decide +kernel)
theorem k_601 : Cond.code yX7_nearest cX7_nearest 4 (some .int) ∈ TB := TB_in 601 (by decide +kernel) (by decide +kernel)
theorem k_602 : Cond.methodLink RX7 62 yX7_leave ∈ TB := TB_in 602 (by decide +kernel) (by decide +kernel)
theorem k_604 : Cond.instanceMethod yX7_leave ∈ TB := TB_in 604 (by decide +kernel) (by decide +kernel)
theorem k_605 : Cond.code yX7_leave cX7_leave 10 none ∈ TB := TB_in 605 (by decide +kernel) (by decide +kernel)
theorem k_606 : Cond.methodLink RX7 66 yX7_shorten ∈ TB := TB_in 606 (by decide +kernel) (by decide +kernel)
theorem k_608 : Cond.instanceMethod yX7_shorten ∈ TB := TB_in 608 (by decide +kernel) (by decide +kernel)
theorem k_609 : Cond.code yX7_shorten cX7_shorten 3 none ∈ TB := TB_in 609 (by decide +kernel) (by decide +kernel)
theorem k_610 : Cond.methodLink RX7 70 yX1_passes ∈ TB := TB_in 610 (by decide +kernel) (by decide +kernel)
theorem k_611 : Cond.methodLink RX7 80 yX3_worth ∈ TB := TB_in 611 (by decide +kernel) (by decide +kernel)
theorem k_612 : Cond.instanceMethod yX3_worth ∈ TB := TB_in 612 (by decide +kernel) (by decide +kernel)
theorem k_613 : Cond.selects RX3 yX3_worth yX3_worth ∈ TB := TB_in 613 (by decide +kernel) (by decide +kernel)
theorem k_614 : Cond.code yX3_worth cX3_worth 8 (some .int) ∈ TB := TB_in 614 (by decide +kernel) (by decide +kernel)
theorem k_615 : Cond.methodLink RX3 28 yX1_on ∈ TB := TB_in 615 (by decide +kernel) (by decide +kernel)
theorem k_617 : Cond.methodLink RX3 50 yX3_reckon ∈ TB := TB_in 617 (by decide +kernel) (by decide +kernel)
theorem k_619 : Cond.instanceMethod yX3_reckon ∈ TB := TB_in 619 (by decide +kernel) (by decide +kernel)
theorem k_620 : Cond.code yX3_reckon cX3_reckon 8 (some .int) ∈ TB := TB_in 620 (by decide +kernel) (by decide +kernel)
theorem k_621 : Cond.methodLink RX3 63 yX6_start ∈ TB := TB_in 621 (by decide +kernel) (by decide +kernel)
theorem k_622 : Cond.instanceMethod yX6_start ∈ TB := TB_in 622 (by decide +kernel) (by decide +kernel)
theorem k_623 : Cond.selects RX6 yX6_start yX6_start ∈ TB := TB_in 623 (by decide +kernel) (by decide +kernel)
theorem k_624 : Cond.code yX6_start cX6_start 2 (some .int) ∈ TB := TB_in 624 (by decide +kernel) (by decide +kernel)
theorem k_625 : Cond.methodLink RX3 66 yX6_end ∈ TB := TB_in 625 (by decide +kernel) (by decide +kernel)
theorem k_626 : Cond.instanceMethod yX6_end ∈ TB := TB_in 626 (by decide +kernel) (by decide +kernel)
theorem k_627 : Cond.selects RX6 yX6_end yX6_end ∈ TB := TB_in 627 (by decide +kernel) (by decide +kernel)
theorem k_628 : Cond.code yX6_end cX6_end 2 (some .int) ∈ TB := TB_in 628 (by decide +kernel) (by decide +kernel)
theorem k_629 : Cond.methodLink RX3 72 yX3_nameOf ∈ TB := TB_in 629 (by decide +kernel) (by decide +kernel)
theorem k_631 : Cond.instanceMethod yX3_nameOf ∈ TB := TB_in 631 (by decide +kernel) (by decide +kernel)
theorem k_632 : Cond.code yX3_nameOf cX3_nameOf 2 (some .int) ∈ TB := TB_in 632 (by decide +kernel) (by decide +kernel)
theorem k_633 : Cond.methodLink RX3 75 yX3_truth ∈ TB := TB_in 633 (by decide +kernel) (by decide +kernel)
theorem k_634 : Cond.static yX3_truth ∈ TB := TB_in 634 (by decide +kernel) (by decide +kernel)
theorem k_635 : Cond.code yX3_truth cX3_truth 1 (some .int) ∈ TB := TB_in 635 (by decide +kernel) (by decide +kernel)
theorem k_636 : Cond.methodLink RX3 79 yX3_joined ∈ TB := TB_in 636 (by decide +kernel) (by decide +kernel)
theorem k_637 : Cond.static yX3_joined ∈ TB := TB_in 637 (by decide +kernel) (by decide +kernel)
theorem k_638 : Cond.code yX3_joined cX3_joined 3 (some .int) ∈ TB := TB_in 638 (by decide +kernel) (by decide +kernel)
theorem k_639 : Cond.methodLink RX3 54 yJ9_min_7cf53 ∈ TB := TB_in 639 (by decide +kernel) (by decide +kernel)
theorem k_640 : Cond.methodLink RX3 60 yJ9_max_7cf53 ∈ TB := TB_in 640 (by decide +kernel) (by decide +kernel)
theorem k_641 : Cond.static yJ9_max_7cf53 ∈ TB := TB_in 641 (by decide +kernel) (by decide +kernel)
theorem k_642 : Cond.code yJ9_max_7cf53 cJ9_max_7cf53 2 (some .int) ∈ TB := TB_in 642 (by decide +kernel) (by decide +kernel)
theorem k_643 : Cond.methodLink RX7 54 yX1_leads ∈ TB := TB_in 643 (by decide +kernel) (by decide +kernel)
theorem k_644 : Cond.methodLink RX7 86 yX1_on ∈ TB := TB_in 644 (by decide +kernel) (by decide +kernel)
theorem k_645 : Cond.constant RX8 184 1000000000 ∈ TB := TB_in 645 (by decide +kernel) (by decide +kernel)
theorem k_646 : Cond.methodLink RL 50 yX8_cost ∈ TB := TB_in 646 (by decide +kernel) (by decide +kernel)
theorem k_647 : Cond.instanceMethod yX8_cost ∈ TB := TB_in 647 (by decide +kernel) (by decide +kernel)
theorem k_648 : Cond.selects RX8 yX8_cost yX8_cost ∈ TB := TB_in 648 (by decide +kernel) (by decide +kernel)
theorem k_649 : Cond.code yX8_cost cX8_cost 4 (some .int) ∈ TB := TB_in 649 (by decide +kernel) (by decide +kernel)
theorem k_650 : Cond.methodLink RL 54 yX8_earliest ∈ TB := TB_in 650 (by decide +kernel) (by decide +kernel)
theorem k_651 : Cond.instanceMethod yX8_earliest ∈ TB := TB_in 651 (by decide +kernel) (by decide +kernel)
theorem k_652 : Cond.selects RX8 yX8_earliest yX8_earliest ∈ TB := TB_in 652 (by decide +kernel) (by decide +kernel)
theorem k_653 : Cond.code yX8_earliest cX8_earliest 4 (some .int) ∈ TB := TB_in 653 (by decide +kernel) (by decide +kernel)
theorem k_654 : Cond.methodLink RX8 185 yX7_reach ∈ TB := TB_in 654 (by decide +kernel) (by decide +kernel)
theorem k_655 : Cond.instanceMethod yX7_reach ∈ TB := TB_in 655 (by decide +kernel) (by decide +kernel)
theorem k_656 : Cond.selects RX7 yX7_reach yX7_reach ∈ TB := TB_in 656 (by decide +kernel) (by decide +kernel)
theorem k_657 : Cond.code yX7_reach cX7_reach 7 none ∈ TB := TB_in 657 (by decide +kernel) (by decide +kernel)
theorem k_658 : Cond.methodLink RX7 27 yX7_passAll ∈ TB := TB_in 658 (by decide +kernel) (by decide +kernel)
theorem k_660 : Cond.instanceMethod yX7_passAll ∈ TB := TB_in 660 (by decide +kernel) (by decide +kernel)
theorem k_661 : Cond.code yX7_passAll cX7_passAll 8 (some .boolean) ∈ TB := TB_in 661 (by decide +kernel) (by decide +kernel)
theorem k_662 : Cond.methodLink RX7 50 yX1_firstOut ∈ TB := TB_in 662 (by decide +kernel) (by decide +kernel)
theorem k_663 : Cond.instanceMethod yX1_firstOut ∈ TB := TB_in 663 (by decide +kernel) (by decide +kernel)
theorem k_664 : Cond.selects RX1 yX1_firstOut yX1_firstOut ∈ TB := TB_in 664 (by decide +kernel) (by decide +kernel)
theorem k_665 : Cond.code yX1_firstOut cX1_firstOut 4 (some .int) ∈ TB := TB_in 665 (by decide +kernel) (by decide +kernel)
theorem k_666 : Cond.methodLink RX1 46 yX1_passes ∈ TB := TB_in 666 (by decide +kernel) (by decide +kernel)
theorem k_667 : Cond.methodLink RL 58 yX8_loop ∈ TB := TB_in 667 (by decide +kernel) (by decide +kernel)
theorem k_668 : Cond.instanceMethod yX8_loop ∈ TB := TB_in 668 (by decide +kernel) (by decide +kernel)
theorem k_669 : Cond.selects RX8 yX8_loop yX8_loop ∈ TB := TB_in 669 (by decide +kernel) (by decide +kernel)
theorem k_670 : Cond.code yX8_loop cX8_loop 4 (some .int) ∈ TB := TB_in 670 (by decide +kernel) (by decide +kernel)
theorem k_671 : Cond.methodLink RX8 192 yX7_fewestBackTo ∈ TB := TB_in 671 (by decide +kernel) (by decide +kernel)
theorem k_672 : Cond.instanceMethod yX7_fewestBackTo ∈ TB := TB_in 672 (by decide +kernel) (by decide +kernel)
theorem k_673 : Cond.selects RX7 yX7_fewestBackTo yX7_fewestBackTo ∈ TB := TB_in 673 (by decide +kernel) (by decide +kernel)
theorem k_674 : Cond.code yX7_fewestBackTo cX7_fewestBackTo 9 (some .int) ∈ TB := TB_in 674 (by decide +kernel) (by decide +kernel)
theorem k_675 : Cond.methodLink RX7 90 yJ9_min_7cf53 ∈ TB := TB_in 675 (by decide +kernel) (by decide +kernel)
theorem k_676 : Cond.methodLink RL 62 yX8_spots ∈ TB := TB_in 676 (by decide +kernel) (by decide +kernel)
theorem k_677 : Cond.instanceMethod yX8_spots ∈ TB := TB_in 677 (by decide +kernel) (by decide +kernel)
theorem k_678 : Cond.selects RX8 yX8_spots yX8_spots ∈ TB := TB_in 678 (by decide +kernel) (by decide +kernel)
theorem k_679 : Cond.code yX8_spots cX8_spots 5 (some .int) ∈ TB := TB_in 679 (by decide +kernel) (by decide +kernel)
theorem k_680 : Cond.methodLink RL 66 yX8_brick ∈ TB := TB_in 680 (by decide +kernel) (by decide +kernel)
theorem k_681 : Cond.instanceMethod yX8_brick ∈ TB := TB_in 681 (by decide +kernel) (by decide +kernel)
theorem k_682 : Cond.selects RX8 yX8_brick yX8_brick ∈ TB := TB_in 682 (by decide +kernel) (by decide +kernel)
theorem k_683 : Cond.code yX8_brick cX8_brick 5 (some .int) ∈ TB := TB_in 683 (by decide +kernel) (by decide +kernel)
theorem k_684 : Cond.methodLink RX8 196 yX8_fewestToBrick ∈ TB := TB_in 684 (by decide +kernel) (by decide +kernel)
theorem k_686 : Cond.instanceMethod yX8_fewestToBrick ∈ TB := TB_in 686 (by decide +kernel) (by decide +kernel)
theorem k_687 : Cond.code yX8_fewestToBrick cX8_fewestToBrick 7 (some .int) ∈ TB := TB_in 687 (by decide +kernel) (by decide +kernel)
theorem k_688 : Cond.methodLink RX8 302 yX7_comes ∈ TB := TB_in 688 (by decide +kernel) (by decide +kernel)
theorem k_689 : Cond.instanceMethod yX7_comes ∈ TB := TB_in 689 (by decide +kernel) (by decide +kernel)
theorem k_690 : Cond.selects RX7 yX7_comes yX7_comes ∈ TB := TB_in 690 (by decide +kernel) (by decide +kernel)
theorem k_691 : Cond.code yX7_comes cX7_comes 6 (some .boolean) ∈ TB := TB_in 691 (by decide +kernel) (by decide +kernel)
theorem k_692 : Cond.methodLink RX7 31 yX7_reach ∈ TB := TB_in 692 (by decide +kernel) (by decide +kernel)
theorem k_693 : Cond.methodLink RX8 240 yJ6_bitCount_0f7a4 ∈ TB := TB_in 693 (by decide +kernel) (by decide +kernel)
theorem k_694 : Cond.static yJ6_bitCount_0f7a4 ∈ TB := TB_in 694 (by decide +kernel) (by decide +kernel)
theorem k_695 : Cond.code yJ6_bitCount_0f7a4 cJ6_bitCount_0f7a4 1 (some .int) ∈ TB := TB_in 695 (by decide +kernel) (by decide +kernel)
theorem k_696 : Cond.constant RJ6 265 1431655765 ∈ TB := TB_in 696 (by decide +kernel) (by decide +kernel)
theorem k_697 : Cond.constant RJ6 266 858993459 ∈ TB := TB_in 697 (by decide +kernel) (by decide +kernel)
theorem k_698 : Cond.constant RJ6 267 252645135 ∈ TB := TB_in 698 (by decide +kernel) (by decide +kernel)
theorem k_699 : Cond.methodLink RX8 200 yX8_neededAlone ∈ TB := TB_in 699 (by decide +kernel) (by decide +kernel)
theorem k_701 : Cond.instanceMethod yX8_neededAlone ∈ TB := TB_in 701 (by decide +kernel) (by decide +kernel)
theorem k_702 : Cond.code yX8_neededAlone cX8_neededAlone 6 (some .int) ∈ TB := TB_in 702 (by decide +kernel) (by decide +kernel)
theorem k_703 : Cond.methodLink RL 70 yX8_seen ∈ TB := TB_in 703 (by decide +kernel) (by decide +kernel)
theorem k_704 : Cond.instanceMethod yX8_seen ∈ TB := TB_in 704 (by decide +kernel) (by decide +kernel)
theorem k_705 : Cond.selects RX8 yX8_seen yX8_seen ∈ TB := TB_in 705 (by decide +kernel) (by decide +kernel)
theorem k_706 : Cond.code yX8_seen cX8_seen 8 (some .int) ∈ TB := TB_in 706 (by decide +kernel) (by decide +kernel)
theorem k_707 : Cond.methodLink RX8 203 yX8_refusalOfLook ∈ TB := TB_in 707 (by decide +kernel) (by decide +kernel)
theorem k_709 : Cond.instanceMethod yX8_refusalOfLook ∈ TB := TB_in 709 (by decide +kernel) (by decide +kernel)
theorem k_710 : Cond.code yX8_refusalOfLook cX8_refusalOfLook 6 (some .int) ∈ TB := TB_in 710 (by decide +kernel) (by decide +kernel)
theorem k_711 : Cond.methodLink RX8 221 yX8_isSheet ∈ TB := TB_in 711 (by decide +kernel) (by decide +kernel)
theorem k_712 : Cond.static yX8_isSheet ∈ TB := TB_in 712 (by decide +kernel) (by decide +kernel)
theorem k_713 : Cond.code yX8_isSheet cX8_isSheet 1 (some .boolean) ∈ TB := TB_in 713 (by decide +kernel) (by decide +kernel)
theorem k_714 : Cond.methodLink RX8 273 yX4_isMissing ∈ TB := TB_in 714 (by decide +kernel) (by decide +kernel)
theorem k_715 : Cond.instanceMethod yX4_isMissing ∈ TB := TB_in 715 (by decide +kernel) (by decide +kernel)
theorem k_716 : Cond.selects RX4 yX4_isMissing yX4_isMissing ∈ TB := TB_in 716 (by decide +kernel) (by decide +kernel)
theorem k_717 : Cond.code yX4_isMissing cX4_isMissing 1 (some .boolean) ∈ TB := TB_in 717 (by decide +kernel) (by decide +kernel)
theorem k_718 : Cond.methodLink RX8 207 yX8_firstOther ∈ TB := TB_in 718 (by decide +kernel) (by decide +kernel)
theorem k_720 : Cond.instanceMethod yX8_firstOther ∈ TB := TB_in 720 (by decide +kernel) (by decide +kernel)
theorem k_721 : Cond.code yX8_firstOther cX8_firstOther 5 (some .int) ∈ TB := TB_in 721 (by decide +kernel) (by decide +kernel)
theorem k_722 : Cond.methodLink RX8 227 yX0_shows ∈ TB := TB_in 722 (by decide +kernel) (by decide +kernel)
theorem k_723 : Cond.instanceMethod yX0_shows ∈ TB := TB_in 723 (by decide +kernel) (by decide +kernel)
theorem k_724 : Cond.selects RX0 yX0_shows yX0_shows ∈ TB := TB_in 724 (by decide +kernel) (by decide +kernel)
theorem k_725 : Cond.code yX0_shows cX0_shows 3 (some .int) ∈ TB := TB_in 725 (by decide +kernel) (by decide +kernel)
theorem k_727 : Cond.methodLink RX0 45 yX1_passes ∈ TB := TB_in 727 (by decide +kernel) (by decide +kernel)
theorem k_728 : Cond.methodLink RX0 49 yX1_on ∈ TB := TB_in 728 (by decide +kernel) (by decide +kernel)
theorem k_729 : Cond.methodLink RX8 211 yX8_fittingShifts ∈ TB := TB_in 729 (by decide +kernel) (by decide +kernel)
theorem k_731 : Cond.instanceMethod yX8_fittingShifts ∈ TB := TB_in 731 (by decide +kernel) (by decide +kernel)
theorem k_732 : Cond.code yX8_fittingShifts cX8_fittingShifts 6 (some .int) ∈ TB := TB_in 732 (by decide +kernel) (by decide +kernel)
theorem k_733 : Cond.methodLink RX8 307 yX1_become ∈ TB := TB_in 733 (by decide +kernel) (by decide +kernel)
theorem k_734 : Cond.instanceMethod yX1_become ∈ TB := TB_in 734 (by decide +kernel) (by decide +kernel)
theorem k_735 : Cond.selects RX1 yX1_become yX1_become ∈ TB := TB_in 735 (by decide +kernel) (by decide +kernel)
theorem k_736 : Cond.code yX1_become cX1_become 2 none ∈ TB := TB_in 736 (by decide +kernel) (by decide +kernel)
theorem k_737 : Cond.methodLink RX8 214 yX8_fittingKinds ∈ TB := TB_in 737 (by decide +kernel) (by decide +kernel)
theorem k_739 : Cond.instanceMethod yX8_fittingKinds ∈ TB := TB_in 739 (by decide +kernel) (by decide +kernel)
theorem k_740 : Cond.code yX8_fittingKinds cX8_fittingKinds 6 (some .int) ∈ TB := TB_in 740 (by decide +kernel) (by decide +kernel)
theorem k_741 : Cond.methodLink RL 74 yX8_lookNext ∈ TB := TB_in 741 (by decide +kernel) (by decide +kernel)
theorem k_742 : Cond.instanceMethod yX8_lookNext ∈ TB := TB_in 742 (by decide +kernel) (by decide +kernel)
theorem k_743 : Cond.selects RX8 yX8_lookNext yX8_lookNext ∈ TB := TB_in 743 (by decide +kernel) (by decide +kernel)
theorem k_744 : Cond.code yX8_lookNext cX8_lookNext 12 (some .int) ∈ TB := TB_in 744 (by decide +kernel) (by decide +kernel)
theorem k_745 : Cond.methodLink RX8 217 yX8_unlikeShown ∈ TB := TB_in 745 (by decide +kernel) (by decide +kernel)
theorem k_747 : Cond.instanceMethod yX8_unlikeShown ∈ TB := TB_in 747 (by decide +kernel) (by decide +kernel)
theorem k_748 : Cond.code yX8_unlikeShown cX8_unlikeShown 6 (some .int) ∈ TB := TB_in 748 (by decide +kernel) (by decide +kernel)
theorem k_749 : Cond.methodLink RL 78 yX8_film ∈ TB := TB_in 749 (by decide +kernel) (by decide +kernel)
theorem k_750 : Cond.instanceMethod yX8_film ∈ TB := TB_in 750 (by decide +kernel) (by decide +kernel)
theorem k_751 : Cond.selects RX8 yX8_film yX8_film ∈ TB := TB_in 751 (by decide +kernel) (by decide +kernel)
theorem k_752 : Cond.code yX8_film cX8_film 7 (some .int) ∈ TB := TB_in 752 (by decide +kernel) (by decide +kernel)
theorem k_753 : Cond.methodLink RX8 224 yX4_become ∈ TB := TB_in 753 (by decide +kernel) (by decide +kernel)
theorem k_754 : Cond.instanceMethod yX4_become ∈ TB := TB_in 754 (by decide +kernel) (by decide +kernel)
theorem k_755 : Cond.selects RX4 yX4_become yX4_become ∈ TB := TB_in 755 (by decide +kernel) (by decide +kernel)
theorem k_756 : Cond.code yX4_become cX4_become 3 none ∈ TB := TB_in 756 (by decide +kernel) (by decide +kernel)
theorem k_757 : Cond.methodLink RX4 22 yJ7_fill_53178 ∈ TB := TB_in 757 (by decide +kernel) (by decide +kernel)
theorem k_758 : Cond.methodLink RX8 231 yX4_put ∈ TB := TB_in 758 (by decide +kernel) (by decide +kernel)
theorem k_759 : Cond.instanceMethod yX4_put ∈ TB := TB_in 759 (by decide +kernel) (by decide +kernel)
theorem k_760 : Cond.selects RX4 yX4_put yX4_put ∈ TB := TB_in 760 (by decide +kernel) (by decide +kernel)
theorem k_761 : Cond.code yX4_put cX4_put 3 none ∈ TB := TB_in 761 (by decide +kernel) (by decide +kernel)
theorem k_762 : Cond.methodLink RL 82 yX8_water ∈ TB := TB_in 762 (by decide +kernel) (by decide +kernel)
theorem k_763 : Cond.instanceMethod yX8_water ∈ TB := TB_in 763 (by decide +kernel) (by decide +kernel)
theorem k_764 : Cond.selects RX8 yX8_water yX8_water ∈ TB := TB_in 764 (by decide +kernel) (by decide +kernel)
theorem k_765 : Cond.code yX8_water cX8_water 3 (some .int) ∈ TB := TB_in 765 (by decide +kernel) (by decide +kernel)
theorem k_766 : Cond.methodLink RX8 233 yX8_flood ∈ TB := TB_in 766 (by decide +kernel) (by decide +kernel)
theorem k_768 : Cond.instanceMethod yX8_flood ∈ TB := TB_in 768 (by decide +kernel) (by decide +kernel)
theorem k_769 : Cond.code yX8_flood cX8_flood 8 (some .int) ∈ TB := TB_in 769 (by decide +kernel) (by decide +kernel)
theorem k_770 : Cond.methodLink RX8 310 yJ7_fill_53178 ∈ TB := TB_in 770 (by decide +kernel) (by decide +kernel)
theorem k_771 : Cond.methodLink RX8 316 yX1_leads ∈ TB := TB_in 771 (by decide +kernel) (by decide +kernel)
theorem k_772 : Cond.methodLink RX8 319 yX3_worth ∈ TB := TB_in 772 (by decide +kernel) (by decide +kernel)
theorem k_773 : Cond.methodLink RL 86 yX8_wettest ∈ TB := TB_in 773 (by decide +kernel) (by decide +kernel)
theorem k_774 : Cond.instanceMethod yX8_wettest ∈ TB := TB_in 774 (by decide +kernel) (by decide +kernel)
theorem k_775 : Cond.selects RX8 yX8_wettest yX8_wettest ∈ TB := TB_in 775 (by decide +kernel) (by decide +kernel)
theorem k_776 : Cond.code yX8_wettest cX8_wettest 6 (some .int) ∈ TB := TB_in 776 (by decide +kernel) (by decide +kernel)
theorem k_777 : Cond.methodLink RL 90 yX8_views ∈ TB := TB_in 777 (by decide +kernel) (by decide +kernel)
theorem k_778 : Cond.instanceMethod yX8_views ∈ TB := TB_in 778 (by decide +kernel) (by decide +kernel)
theorem k_779 : Cond.selects RX8 yX8_views yX8_views ∈ TB := TB_in 779 (by decide +kernel) (by decide +kernel)
theorem k_780 : Cond.code yX8_views cX8_views 8 (some .int) ∈ TB := TB_in 780 (by decide +kernel) (by decide +kernel)
theorem k_781 : Cond.methodLink RX8 237 yX8_fillPrices ∈ TB := TB_in 781 (by decide +kernel) (by decide +kernel)
theorem k_783 : Cond.instanceMethod yX8_fillPrices ∈ TB := TB_in 783 (by decide +kernel) (by decide +kernel)
theorem k_784 : Cond.code yX8_fillPrices cX8_fillPrices 4 none ∈ TB := TB_in 784 (by decide +kernel) (by decide +kernel)
theorem k_785 : Cond.methodLink RX8 245 yX8_priceTogether ∈ TB := TB_in 785 (by decide +kernel) (by decide +kernel)
theorem k_787 : Cond.instanceMethod yX8_priceTogether ∈ TB := TB_in 787 (by decide +kernel) (by decide +kernel)
theorem k_788 : Cond.code yX8_priceTogether cX8_priceTogether 4 (some .int) ∈ TB := TB_in 788 (by decide +kernel) (by decide +kernel)
theorem k_789 : Cond.methodLink RX8 324 yX8_holds ∈ TB := TB_in 789 (by decide +kernel) (by decide +kernel)
theorem k_790 : Cond.static yX8_holds ∈ TB := TB_in 790 (by decide +kernel) (by decide +kernel)
theorem k_791 : Cond.code yX8_holds cX8_holds 2 (some .boolean) ∈ TB := TB_in 791 (by decide +kernel) (by decide +kernel)
theorem k_792 : Cond.methodLink RX8 248 yX8_digitsOf ∈ TB := TB_in 792 (by decide +kernel) (by decide +kernel)
theorem k_793 : Cond.static yX8_digitsOf ∈ TB := TB_in 793 (by decide +kernel) (by decide +kernel)
theorem k_794 : Cond.code yX8_digitsOf cX8_digitsOf 3 (some .int) ∈ TB := TB_in 794 (by decide +kernel) (by decide +kernel)
theorem k_795 : Cond.methodLink RL 94 yX8_drawn ∈ TB := TB_in 795 (by decide +kernel) (by decide +kernel)
theorem k_796 : Cond.instanceMethod yX8_drawn ∈ TB := TB_in 796 (by decide +kernel) (by decide +kernel)
theorem k_797 : Cond.selects RX8 yX8_drawn yX8_drawn ∈ TB := TB_in 797 (by decide +kernel) (by decide +kernel)
theorem k_798 : Cond.code yX8_drawn cX8_drawn 3 (some .int) ∈ TB := TB_in 798 (by decide +kernel) (by decide +kernel)
theorem k_799 : Cond.methodLink RX8 251 yX8_drawnWater ∈ TB := TB_in 799 (by decide +kernel) (by decide +kernel)
theorem k_801 : Cond.instanceMethod yX8_drawnWater ∈ TB := TB_in 801 (by decide +kernel) (by decide +kernel)
theorem k_802 : Cond.code yX8_drawnWater cX8_drawnWater 5 (some .int) ∈ TB := TB_in 802 (by decide +kernel) (by decide +kernel)
theorem k_803 : Cond.constant RX8 323 1103515245 ∈ TB := TB_in 803 (by decide +kernel) (by decide +kernel)
theorem k_804 : Cond.methodLink RL 98 yX8_chance ∈ TB := TB_in 804 (by decide +kernel) (by decide +kernel)
theorem k_805 : Cond.instanceMethod yX8_chance ∈ TB := TB_in 805 (by decide +kernel) (by decide +kernel)
theorem k_806 : Cond.selects RX8 yX8_chance yX8_chance ∈ TB := TB_in 806 (by decide +kernel) (by decide +kernel)
theorem k_807 : Cond.code yX8_chance cX8_chance 8 (some .long) ∈ TB := TB_in 807 (by decide +kernel) (by decide +kernel)
theorem k_808 : Cond.constantLong RX8 254 (-4611686018427387904) ∈ TB := TB_in 808 (by decide +kernel) (by decide +kernel)
theorem k_809 : Cond.constant RX8 256 99999 ∈ TB := TB_in 809 (by decide +kernel) (by decide +kernel)
theorem k_810 : Cond.methodLink RX8 257 yX8_commonDivisor ∈ TB := TB_in 810 (by decide +kernel) (by decide +kernel)
theorem k_811 : Cond.static yX8_commonDivisor ∈ TB := TB_in 811 (by decide +kernel) (by decide +kernel)
theorem k_812 : Cond.code yX8_commonDivisor cX8_commonDivisor 6 (some .int) ∈ TB := TB_in 812 (by decide +kernel) (by decide +kernel)
theorem k_813 : Cond.methodLink RL 103 yX8_image ∈ TB := TB_in 813 (by decide +kernel) (by decide +kernel)
theorem k_814 : Cond.instanceMethod yX8_image ∈ TB := TB_in 814 (by decide +kernel) (by decide +kernel)
theorem k_815 : Cond.selects RX8 yX8_image yX8_image ∈ TB := TB_in 815 (by decide +kernel) (by decide +kernel)
theorem k_816 : Cond.code yX8_image cX8_image 1 (some .int) ∈ TB := TB_in 816 (by decide +kernel) (by decide +kernel)
theorem k_817 : Cond.methodLink RX8 260 yX0_become ∈ TB := TB_in 817 (by decide +kernel) (by decide +kernel)
theorem k_818 : Cond.instanceMethod yX0_become ∈ TB := TB_in 818 (by decide +kernel) (by decide +kernel)
theorem k_819 : Cond.selects RX0 yX0_become yX0_become ∈ TB := TB_in 819 (by decide +kernel) (by decide +kernel)
theorem k_820 : Cond.code yX0_become cX0_become 3 none ∈ TB := TB_in 820 (by decide +kernel) (by decide +kernel)
theorem k_821 : Cond.methodLink RX0 28 ⟨"java/lang/System", "arraycopy", "(Ljava/lang/Object;ILjava/lang/Object;II)V"⟩ ∈ TB := TB_in 821 (by decide +kernel) (by decide +kernel)
theorem k_822 : Cond.methodLink RX0 34 yX1_become ∈ TB := TB_in 822 (by decide +kernel) (by decide +kernel)
theorem k_823 : Cond.methodLink RL 107 yX8_back ∈ TB := TB_in 823 (by decide +kernel) (by decide +kernel)
theorem k_824 : Cond.instanceMethod yX8_back ∈ TB := TB_in 824 (by decide +kernel) (by decide +kernel)
theorem k_825 : Cond.selects RX8 yX8_back yX8_back ∈ TB := TB_in 825 (by decide +kernel) (by decide +kernel)
theorem k_826 : Cond.code yX8_back cX8_back 1 (some .int) ∈ TB := TB_in 826 (by decide +kernel) (by decide +kernel)
theorem k_827 : Cond.methodLink RL 111 yX8_count ∈ TB := TB_in 827 (by decide +kernel) (by decide +kernel)
theorem k_828 : Cond.instanceMethod yX8_count ∈ TB := TB_in 828 (by decide +kernel) (by decide +kernel)
theorem k_829 : Cond.selects RX8 yX8_count yX8_count ∈ TB := TB_in 829 (by decide +kernel) (by decide +kernel)
theorem k_830 : Cond.code yX8_count cX8_count 2 (some .int) ∈ TB := TB_in 830 (by decide +kernel) (by decide +kernel)
theorem k_831 : Cond.methodLink RX8 267 yX0_weatherTogether ∈ TB := TB_in 831 (by decide +kernel) (by decide +kernel)
theorem k_832 : Cond.instanceMethod yX0_weatherTogether ∈ TB := TB_in 832 (by decide +kernel) (by decide +kernel)
theorem k_833 : Cond.selects RX0 yX0_weatherTogether yX0_weatherTogether ∈ TB := TB_in 833 (by decide +kernel) (by decide +kernel)
theorem k_834 : Cond.code yX0_weatherTogether cX0_weatherTogether 3 (some .int) ∈ TB := TB_in 834 (by decide +kernel) (by decide +kernel)
theorem k_835 : Cond.methodLink RL 115 yX8_sheet ∈ TB := TB_in 835 (by decide +kernel) (by decide +kernel)
theorem k_836 : Cond.instanceMethod yX8_sheet ∈ TB := TB_in 836 (by decide +kernel) (by decide +kernel)
theorem k_837 : Cond.selects RX8 yX8_sheet yX8_sheet ∈ TB := TB_in 837 (by decide +kernel) (by decide +kernel)
theorem k_838 : Cond.code yX8_sheet cX8_sheet 4 (some .int) ∈ TB := TB_in 838 (by decide +kernel) (by decide +kernel)
theorem k_839 : Cond.methodLink RX8 270 yX8_isRowSort ∈ TB := TB_in 839 (by decide +kernel) (by decide +kernel)
theorem k_840 : Cond.static yX8_isRowSort ∈ TB := TB_in 840 (by decide +kernel) (by decide +kernel)
theorem k_841 : Cond.code yX8_isRowSort cX8_isRowSort 1 (some .boolean) ∈ TB := TB_in 841 (by decide +kernel) (by decide +kernel)
theorem k_842 : Cond.methodLink RL 119 yX8_cell ∈ TB := TB_in 842 (by decide +kernel) (by decide +kernel)
theorem k_843 : Cond.instanceMethod yX8_cell ∈ TB := TB_in 843 (by decide +kernel) (by decide +kernel)
theorem k_844 : Cond.selects RX8 yX8_cell yX8_cell ∈ TB := TB_in 844 (by decide +kernel) (by decide +kernel)
theorem k_845 : Cond.code yX8_cell cX8_cell 5 (some .int) ∈ TB := TB_in 845 (by decide +kernel) (by decide +kernel)
theorem k_846 : Cond.methodLink RX8 277 yX4_has ∈ TB := TB_in 846 (by decide +kernel) (by decide +kernel)
theorem k_847 : Cond.instanceMethod yX4_has ∈ TB := TB_in 847 (by decide +kernel) (by decide +kernel)
theorem k_848 : Cond.selects RX4 yX4_has yX4_has ∈ TB := TB_in 848 (by decide +kernel) (by decide +kernel)
theorem k_849 : Cond.code yX4_has cX4_has 2 (some .boolean) ∈ TB := TB_in 849 (by decide +kernel) (by decide +kernel)
theorem k_850 : Cond.methodLink RL 123 yX8_copy ∈ TB := TB_in 850 (by decide +kernel) (by decide +kernel)
theorem k_851 : Cond.instanceMethod yX8_copy ∈ TB := TB_in 851 (by decide +kernel) (by decide +kernel)
theorem k_852 : Cond.selects RX8 yX8_copy yX8_copy ∈ TB := TB_in 852 (by decide +kernel) (by decide +kernel)
theorem k_853 : Cond.code yX8_copy cX8_copy 8 (some .int) ∈ TB := TB_in 853 (by decide +kernel) (by decide +kernel)
theorem k_854 : Cond.methodLink RX8 281 yX4_hasRun ∈ TB := TB_in 854 (by decide +kernel) (by decide +kernel)
theorem k_855 : Cond.instanceMethod yX4_hasRun ∈ TB := TB_in 855 (by decide +kernel) (by decide +kernel)
theorem k_856 : Cond.selects RX4 yX4_hasRun yX4_hasRun ∈ TB := TB_in 856 (by decide +kernel) (by decide +kernel)
theorem k_857 : Cond.code yX4_hasRun cX4_hasRun 3 (some .boolean) ∈ TB := TB_in 857 (by decide +kernel) (by decide +kernel)
theorem k_858 : Cond.methodLink RX8 287 ⟨"java/lang/System", "arraycopy", "(Ljava/lang/Object;ILjava/lang/Object;II)V"⟩ ∈ TB := TB_in 858 (by decide +kernel) (by decide +kernel)
theorem k_859 : Cond.methodLink RL 128 yX8_weathers ∈ TB := TB_in 859 (by decide +kernel) (by decide +kernel)
theorem k_860 : Cond.instanceMethod yX8_weathers ∈ TB := TB_in 860 (by decide +kernel) (by decide +kernel)
theorem k_861 : Cond.selects RX8 yX8_weathers yX8_weathers ∈ TB := TB_in 861 (by decide +kernel) (by decide +kernel)
theorem k_862 : Cond.code yX8_weathers cX8_weathers 9 (some .int) ∈ TB := TB_in 862 (by decide +kernel) (by decide +kernel)
theorem k_863 : Cond.methodLink RX8 293 yX8_set ∈ TB := TB_in 863 (by decide +kernel) (by decide +kernel)
theorem k_864 : Cond.methodLink RL 132 yX8_taken ∈ TB := TB_in 864 (by decide +kernel) (by decide +kernel)
theorem k_865 : Cond.instanceMethod yX8_taken ∈ TB := TB_in 865 (by decide +kernel) (by decide +kernel)
theorem k_866 : Cond.selects RX8 yX8_taken yX8_taken ∈ TB := TB_in 866 (by decide +kernel) (by decide +kernel)
theorem k_867 : Cond.code yX8_taken cX8_taken 4 (some .int) ∈ TB := TB_in 867 (by decide +kernel) (by decide +kernel)
theorem k_868 : Cond.methodLink RX8 296 yX8_isUnder ∈ TB := TB_in 868 (by decide +kernel) (by decide +kernel)
theorem k_869 : Cond.static yX8_isUnder ∈ TB := TB_in 869 (by decide +kernel) (by decide +kernel)
theorem k_870 : Cond.code yX8_isUnder cX8_isUnder 4 (some .boolean) ∈ TB := TB_in 870 (by decide +kernel) (by decide +kernel)
theorem k_871 : Cond.fieldLink RX8 299 "WindowsGive" "KIND_ABOVE" "[I" ∈ TB := TB_in 871 (by decide +kernel) (by decide +kernel)
theorem k_873 : Cond.classLink RL 10 RX9 ∈ TB := TB_in 873 (by decide +kernel) (by decide +kernel)
theorem k_874 : Cond.instantiable RX9 44 ∈ TB := TB_in 874 (by decide +kernel) (by decide +kernel)
theorem k_875 : Cond.methodLink RL 12 yX9_init ∈ TB := TB_in 875 (by decide +kernel) (by decide +kernel)
theorem k_876 : Cond.instanceMethod yX9_init ∈ TB := TB_in 876 (by decide +kernel) (by decide +kernel)
theorem k_877 : Cond.code yX9_init cX9_init 1 none ∈ TB := TB_in 877 (by decide +kernel) (by decide +kernel)
theorem k_878 : Cond.methodLink RX9 7 ⟨"java/lang/Object", "<init>", "()V"⟩ ∈ TB := TB_in 878 (by decide +kernel) (by decide +kernel)
theorem k_879 : Cond.methodLink RX9 75 yX9_spell ∈ TB := TB_in 879 (by decide +kernel) (by decide +kernel)
theorem k_881 : Cond.instanceMethod yX9_spell ∈ TB := TB_in 881 (by decide +kernel) (by decide +kernel)
theorem k_882 : Cond.code yX9_spell cX9_spell 10 none ∈ TB := TB_in 882 (by decide +kernel) (by decide +kernel)
theorem k_883 : Cond.fieldLink RX9 13 "WindowsGiveModel" "texts" "[I" ∈ TB := TB_in 883 (by decide +kernel) (by decide +kernel)
theorem k_884 : Cond.fieldLink RX9 17 "WindowsGiveModel" "textSize" "[I" ∈ TB := TB_in 884 (by decide +kernel) (by decide +kernel)
theorem k_885 : Cond.fieldLink RX9 79 "WindowsGiveModel" "textCount" "I" ∈ TB := TB_in 885 (by decide +kernel) (by decide +kernel)
theorem k_886 : Cond.fieldLink RX9 256 "WindowsGiveModel" "rule" "I" ∈ TB := TB_in 886 (by decide +kernel) (by decide +kernel)
theorem k_887 : Cond.fieldLink RX9 20 "WindowsGiveModel" "tape" "[I" ∈ TB := TB_in 887 (by decide +kernel) (by decide +kernel)
theorem k_888 : Cond.fieldLink RX9 139 "WindowsGiveModel" "taped" "I" ∈ TB := TB_in 888 (by decide +kernel) (by decide +kernel)
theorem k_889 : Cond.fieldLink RX9 23 "WindowsGiveModel" "weatherOf" "[I" ∈ TB := TB_in 889 (by decide +kernel) (by decide +kernel)
theorem k_890 : Cond.fieldLink RX9 26 "WindowsGiveModel" "kinds" "[I" ∈ TB := TB_in 890 (by decide +kernel) (by decide +kernel)
theorem k_891 : Cond.fieldLink RX9 29 "WindowsGiveModel" "numbers" "[I" ∈ TB := TB_in 891 (by decide +kernel) (by decide +kernel)
theorem k_892 : Cond.fieldLink RX9 32 "WindowsGiveModel" "shifts" "[I" ∈ TB := TB_in 892 (by decide +kernel) (by decide +kernel)
theorem k_893 : Cond.fieldLink RX9 35 "WindowsGiveModel" "roomIn" "[I" ∈ TB := TB_in 893 (by decide +kernel) (by decide +kernel)
theorem k_894 : Cond.fieldLink RX9 38 "WindowsGiveModel" "roomInto" "[I" ∈ TB := TB_in 894 (by decide +kernel) (by decide +kernel)
theorem k_895 : Cond.fieldLink RX9 82 "WindowsGiveModel" "paneMany" "I" ∈ TB := TB_in 895 (by decide +kernel) (by decide +kernel)
theorem k_896 : Cond.fieldLink RX9 274 "WindowsGiveModel" "bricks" "I" ∈ TB := TB_in 896 (by decide +kernel) (by decide +kernel)
theorem k_897 : Cond.fieldLink RX9 198 "WindowsGiveModel" "ofDay" "I" ∈ TB := TB_in 897 (by decide +kernel) (by decide +kernel)
theorem k_898 : Cond.fieldLink RX9 201 "WindowsGiveModel" "ofShift" "I" ∈ TB := TB_in 898 (by decide +kernel) (by decide +kernel)
theorem k_899 : Cond.fieldLink RX9 204 "WindowsGiveModel" "ofNumber" "I" ∈ TB := TB_in 899 (by decide +kernel) (by decide +kernel)
theorem k_900 : Cond.fieldLink RX9 207 "WindowsGiveModel" "ofWeather" "I" ∈ TB := TB_in 900 (by decide +kernel) (by decide +kernel)
theorem k_901 : Cond.fieldLink RX9 210 "WindowsGiveModel" "ofWindow" "I" ∈ TB := TB_in 901 (by decide +kernel) (by decide +kernel)
theorem k_902 : Cond.fieldLink RX9 213 "WindowsGiveModel" "ofRoom" "I" ∈ TB := TB_in 902 (by decide +kernel) (by decide +kernel)
theorem k_903 : Cond.fieldLink RX9 145 "WindowsGiveModel" "from" "I" ∈ TB := TB_in 903 (by decide +kernel) (by decide +kernel)
theorem k_904 : Cond.fieldLink RX9 142 "WindowsGiveModel" "size" "I" ∈ TB := TB_in 904 (by decide +kernel) (by decide +kernel)
theorem k_905 : Cond.fieldLink RX9 148 "WindowsGiveModel" "here" "I" ∈ TB := TB_in 905 (by decide +kernel) (by decide +kernel)
theorem k_906 : Cond.fieldLink RX9 157 "WindowsGiveModel" "token" "I" ∈ TB := TB_in 906 (by decide +kernel) (by decide +kernel)
theorem k_907 : Cond.fieldLink RX9 154 "WindowsGiveModel" "tokenAt" "I" ∈ TB := TB_in 907 (by decide +kernel) (by decide +kernel)
theorem k_908 : Cond.fieldLink RX9 168 "WindowsGiveModel" "tokenWorth" "J" ∈ TB := TB_in 908 (by decide +kernel) (by decide +kernel)
theorem k_909 : Cond.fieldLink RX9 185 "WindowsGiveModel" "open" "I" ∈ TB := TB_in 909 (by decide +kernel) (by decide +kernel)
theorem k_910 : Cond.fieldLink RX9 174 "WindowsGiveModel" "bad" "Z" ∈ TB := TB_in 910 (by decide +kernel) (by decide +kernel)
theorem k_911 : Cond.fieldLink RX9 178 "WindowsGiveModel" "fault" "I" ∈ TB := TB_in 911 (by decide +kernel) (by decide +kernel)
theorem k_912 : Cond.fieldLink RX9 41 "WindowsGiveModel" "far" "[I" ∈ TB := TB_in 912 (by decide +kernel) (by decide +kernel)
theorem k_913 : Cond.fieldLink RX9 44 "WindowsGiveModel" "costRow" "[I" ∈ TB := TB_in 913 (by decide +kernel) (by decide +kernel)
theorem k_914 : Cond.fieldLink RX9 47 "WindowsGiveModel" "wet" "[I" ∈ TB := TB_in 914 (by decide +kernel) (by decide +kernel)
theorem k_915 : Cond.fieldLink RX9 319 "WindowsGiveModel" "bestPrice" "I" ∈ TB := TB_in 915 (by decide +kernel) (by decide +kernel)
theorem k_916 : Cond.fieldLink RX9 322 "WindowsGiveModel" "bestDigits" "I" ∈ TB := TB_in 916 (by decide +kernel) (by decide +kernel)
theorem k_917 : Cond.fieldLink RX9 50 "WindowsGiveModel" "weatherWas" "[I" ∈ TB := TB_in 917 (by decide +kernel) (by decide +kernel)
theorem k_918 : Cond.fieldLink RX9 53 "WindowsGiveModel" "weatherKept" "[I" ∈ TB := TB_in 918 (by decide +kernel) (by decide +kernel)
theorem k_919 : Cond.fieldLink RX9 56 "WindowsGiveModel" "panesKept" "[I" ∈ TB := TB_in 919 (by decide +kernel) (by decide +kernel)
theorem k_920 : Cond.fieldLink RX9 59 "WindowsGiveModel" "manyKept" "I" ∈ TB := TB_in 920 (by decide +kernel) (by decide +kernel)
theorem k_921 : Cond.fieldLink RX9 339 "WindowsGiveModel" "ruleKept" "I" ∈ TB := TB_in 921 (by decide +kernel) (by decide +kernel)
theorem k_922 : Cond.fieldLink RX9 62 "WindowsGiveModel" "isThere" "[Z" ∈ TB := TB_in 922 (by decide +kernel) (by decide +kernel)
theorem k_923 : Cond.fieldLink RX9 66 "WindowsGiveModel" "sorts" "[I" ∈ TB := TB_in 923 (by decide +kernel) (by decide +kernel)
theorem k_924 : Cond.fieldLink RX9 69 "WindowsGiveModel" "sheetSize" "[I" ∈ TB := TB_in 924 (by decide +kernel) (by decide +kernel)
theorem k_925 : Cond.fieldLink RX9 72 "WindowsGiveModel" "items" "[I" ∈ TB := TB_in 925 (by decide +kernel) (by decide +kernel)
theorem k_926 : Cond.lays RX9 "WindowsGiveModel" "thrown" "I" ∈ TB := TB_in 926 (by decide +kernel) (by decide +kernel)
theorem k_928 : Cond.laysFinal RX9 "WindowsGiveModel" "texts" "[I" ∈ TB := TB_in 928 (by decide +kernel) (by decide +kernel)
theorem k_930 : Cond.laysFinal RX9 "WindowsGiveModel" "textSize" "[I" ∈ TB := TB_in 930 (by decide +kernel) (by decide +kernel)
theorem k_932 : Cond.lays RX9 "WindowsGiveModel" "textCount" "I" ∈ TB := TB_in 932 (by decide +kernel) (by decide +kernel)
theorem k_934 : Cond.lays RX9 "WindowsGiveModel" "rule" "I" ∈ TB := TB_in 934 (by decide +kernel) (by decide +kernel)
theorem k_936 : Cond.laysFinal RX9 "WindowsGiveModel" "tape" "[I" ∈ TB := TB_in 936 (by decide +kernel) (by decide +kernel)
theorem k_938 : Cond.lays RX9 "WindowsGiveModel" "taped" "I" ∈ TB := TB_in 938 (by decide +kernel) (by decide +kernel)
theorem k_940 : Cond.laysFinal RX9 "WindowsGiveModel" "weatherOf" "[I" ∈ TB := TB_in 940 (by decide +kernel) (by decide +kernel)
theorem k_942 : Cond.laysFinal RX9 "WindowsGiveModel" "kinds" "[I" ∈ TB := TB_in 942 (by decide +kernel) (by decide +kernel)
theorem k_944 : Cond.laysFinal RX9 "WindowsGiveModel" "numbers" "[I" ∈ TB := TB_in 944 (by decide +kernel) (by decide +kernel)
theorem k_946 : Cond.laysFinal RX9 "WindowsGiveModel" "shifts" "[I" ∈ TB := TB_in 946 (by decide +kernel) (by decide +kernel)
theorem k_948 : Cond.laysFinal RX9 "WindowsGiveModel" "roomIn" "[I" ∈ TB := TB_in 948 (by decide +kernel) (by decide +kernel)
theorem k_950 : Cond.laysFinal RX9 "WindowsGiveModel" "roomInto" "[I" ∈ TB := TB_in 950 (by decide +kernel) (by decide +kernel)
theorem k_952 : Cond.lays RX9 "WindowsGiveModel" "paneMany" "I" ∈ TB := TB_in 952 (by decide +kernel) (by decide +kernel)
theorem k_954 : Cond.lays RX9 "WindowsGiveModel" "bricks" "I" ∈ TB := TB_in 954 (by decide +kernel) (by decide +kernel)
theorem k_956 : Cond.lays RX9 "WindowsGiveModel" "ofDay" "I" ∈ TB := TB_in 956 (by decide +kernel) (by decide +kernel)
theorem k_958 : Cond.lays RX9 "WindowsGiveModel" "ofShift" "I" ∈ TB := TB_in 958 (by decide +kernel) (by decide +kernel)
theorem k_960 : Cond.lays RX9 "WindowsGiveModel" "ofNumber" "I" ∈ TB := TB_in 960 (by decide +kernel) (by decide +kernel)
theorem k_962 : Cond.lays RX9 "WindowsGiveModel" "ofWeather" "I" ∈ TB := TB_in 962 (by decide +kernel) (by decide +kernel)
theorem k_964 : Cond.lays RX9 "WindowsGiveModel" "ofWindow" "I" ∈ TB := TB_in 964 (by decide +kernel) (by decide +kernel)
theorem k_966 : Cond.lays RX9 "WindowsGiveModel" "ofRoom" "I" ∈ TB := TB_in 966 (by decide +kernel) (by decide +kernel)
theorem k_968 : Cond.lays RX9 "WindowsGiveModel" "from" "I" ∈ TB := TB_in 968 (by decide +kernel) (by decide +kernel)
theorem k_970 : Cond.lays RX9 "WindowsGiveModel" "size" "I" ∈ TB := TB_in 970 (by decide +kernel) (by decide +kernel)
theorem k_972 : Cond.lays RX9 "WindowsGiveModel" "here" "I" ∈ TB := TB_in 972 (by decide +kernel) (by decide +kernel)
theorem k_974 : Cond.lays RX9 "WindowsGiveModel" "token" "I" ∈ TB := TB_in 974 (by decide +kernel) (by decide +kernel)
theorem k_976 : Cond.lays RX9 "WindowsGiveModel" "tokenAt" "I" ∈ TB := TB_in 976 (by decide +kernel) (by decide +kernel)
theorem k_978 : Cond.lays RX9 "WindowsGiveModel" "tokenWorth" "J" ∈ TB := TB_in 978 (by decide +kernel) (by decide +kernel)
theorem k_980 : Cond.lays RX9 "WindowsGiveModel" "open" "I" ∈ TB := TB_in 980 (by decide +kernel) (by decide +kernel)
theorem k_982 : Cond.lays RX9 "WindowsGiveModel" "bad" "Z" ∈ TB := TB_in 982 (by decide +kernel) (by decide +kernel)
theorem k_984 : Cond.lays RX9 "WindowsGiveModel" "fault" "I" ∈ TB := TB_in 984 (by decide +kernel) (by decide +kernel)
theorem k_986 : Cond.laysFinal RX9 "WindowsGiveModel" "far" "[I" ∈ TB := TB_in 986 (by decide +kernel) (by decide +kernel)
theorem k_988 : Cond.laysFinal RX9 "WindowsGiveModel" "costRow" "[I" ∈ TB := TB_in 988 (by decide +kernel) (by decide +kernel)
theorem k_990 : Cond.laysFinal RX9 "WindowsGiveModel" "wet" "[I" ∈ TB := TB_in 990 (by decide +kernel) (by decide +kernel)
theorem k_992 : Cond.lays RX9 "WindowsGiveModel" "bestPrice" "I" ∈ TB := TB_in 992 (by decide +kernel) (by decide +kernel)
theorem k_994 : Cond.lays RX9 "WindowsGiveModel" "bestDigits" "I" ∈ TB := TB_in 994 (by decide +kernel) (by decide +kernel)
theorem k_996 : Cond.laysFinal RX9 "WindowsGiveModel" "weatherWas" "[I" ∈ TB := TB_in 996 (by decide +kernel) (by decide +kernel)
theorem k_998 : Cond.laysFinal RX9 "WindowsGiveModel" "weatherKept" "[I" ∈ TB := TB_in 998 (by decide +kernel) (by decide +kernel)
theorem k_1000 : Cond.laysFinal RX9 "WindowsGiveModel" "panesKept" "[I" ∈ TB := TB_in 1000 (by decide +kernel) (by decide +kernel)
theorem k_1002 : Cond.lays RX9 "WindowsGiveModel" "manyKept" "I" ∈ TB := TB_in 1002 (by decide +kernel) (by decide +kernel)
theorem k_1004 : Cond.lays RX9 "WindowsGiveModel" "ruleKept" "I" ∈ TB := TB_in 1004 (by decide +kernel) (by decide +kernel)
theorem k_1006 : Cond.laysFinal RX9 "WindowsGiveModel" "isThere" "[Z" ∈ TB := TB_in 1006 (by decide +kernel) (by decide +kernel)
theorem k_1008 : Cond.laysFinal RX9 "WindowsGiveModel" "sorts" "[I" ∈ TB := TB_in 1008 (by decide +kernel) (by decide +kernel)
theorem k_1010 : Cond.laysFinal RX9 "WindowsGiveModel" "sheetSize" "[I" ∈ TB := TB_in 1010 (by decide +kernel) (by decide +kernel)
theorem k_1012 : Cond.laysFinal RX9 "WindowsGiveModel" "items" "[I" ∈ TB := TB_in 1012 (by decide +kernel) (by decide +kernel)
theorem k_1015 : Cond.arrayClass .boolean ∈ TB := TB_in 1015 (by decide +kernel) (by decide +kernel)
theorem k_1016 : Cond.methodLink RL 17 yX9_set ∈ TB := TB_in 1016 (by decide +kernel) (by decide +kernel)
theorem k_1017 : Cond.instanceMethod yX9_set ∈ TB := TB_in 1017 (by decide +kernel) (by decide +kernel)
theorem k_1018 : Cond.selects RX9 yX9_set yX9_set ∈ TB := TB_in 1018 (by decide +kernel) (by decide +kernel)
theorem k_1019 : Cond.code yX9_set cX9_set 5 (some .int) ∈ TB := TB_in 1019 (by decide +kernel) (by decide +kernel)
theorem k_1020 : Cond.constantLong RX9 97 4 ∈ TB := TB_in 1020 (by decide +kernel) (by decide +kernel)
theorem k_1021 : Cond.methodLink RX9 85 yX9_in ∈ TB := TB_in 1021 (by decide +kernel) (by decide +kernel)
theorem k_1022 : Cond.static yX9_in ∈ TB := TB_in 1022 (by decide +kernel) (by decide +kernel)
theorem k_1023 : Cond.code yX9_in cX9_in 6 (some .boolean) ∈ TB := TB_in 1023 (by decide +kernel) (by decide +kernel)
theorem k_1024 : Cond.methodLink RX9 99 yX9_isDay ∈ TB := TB_in 1024 (by decide +kernel) (by decide +kernel)
theorem k_1025 : Cond.static yX9_isDay ∈ TB := TB_in 1025 (by decide +kernel) (by decide +kernel)
theorem k_1026 : Cond.code yX9_isDay cX9_isDay 1 (some .boolean) ∈ TB := TB_in 1026 (by decide +kernel) (by decide +kernel)
theorem k_1027 : Cond.constantLong RX9 89 31 ∈ TB := TB_in 1027 (by decide +kernel) (by decide +kernel)
theorem k_1028 : Cond.methodLink RX9 103 yX9_isPane ∈ TB := TB_in 1028 (by decide +kernel) (by decide +kernel)
theorem k_1030 : Cond.instanceMethod yX9_isPane ∈ TB := TB_in 1030 (by decide +kernel) (by decide +kernel)
theorem k_1031 : Cond.code yX9_isPane cX9_isPane 2 (some .boolean) ∈ TB := TB_in 1031 (by decide +kernel) (by decide +kernel)
theorem k_1032 : Cond.constantLong RX9 106 (-9) ∈ TB := TB_in 1032 (by decide +kernel) (by decide +kernel)
theorem k_1033 : Cond.constantLong RX9 91 5 ∈ TB := TB_in 1033 (by decide +kernel) (by decide +kernel)
theorem k_1034 : Cond.constantLong RX9 108 9 ∈ TB := TB_in 1034 (by decide +kernel) (by decide +kernel)
theorem k_1035 : Cond.methodLink RX9 110 yX9_told ∈ TB := TB_in 1035 (by decide +kernel) (by decide +kernel)
theorem k_1036 : Cond.instanceMethod yX9_told ∈ TB := TB_in 1036 (by decide +kernel) (by decide +kernel)
theorem k_1037 : Cond.selects RX9 yX9_told yX9_told ∈ TB := TB_in 1037 (by decide +kernel) (by decide +kernel)
theorem k_1038 : Cond.code yX9_told cX9_told 3 (some .int) ∈ TB := TB_in 1038 (by decide +kernel) (by decide +kernel)
theorem k_1039 : Cond.constantLong RX9 121 6 ∈ TB := TB_in 1039 (by decide +kernel) (by decide +kernel)
theorem k_1040 : Cond.methodLink RX9 123 yX9_leads ∈ TB := TB_in 1040 (by decide +kernel) (by decide +kernel)
theorem k_1042 : Cond.instanceMethod yX9_leads ∈ TB := TB_in 1042 (by decide +kernel) (by decide +kernel)
theorem k_1043 : Cond.code yX9_leads cX9_leads 2 (some .int) ∈ TB := TB_in 1043 (by decide +kernel) (by decide +kernel)
theorem k_1044 : Cond.methodLink RL 21 yX9_pane ∈ TB := TB_in 1044 (by decide +kernel) (by decide +kernel)
theorem k_1045 : Cond.instanceMethod yX9_pane ∈ TB := TB_in 1045 (by decide +kernel) (by decide +kernel)
theorem k_1046 : Cond.selects RX9 yX9_pane yX9_pane ∈ TB := TB_in 1046 (by decide +kernel) (by decide +kernel)
theorem k_1047 : Cond.code yX9_pane cX9_pane 4 (some .int) ∈ TB := TB_in 1047 (by decide +kernel) (by decide +kernel)
theorem k_1048 : Cond.constantLong RX9 114 918 ∈ TB := TB_in 1048 (by decide +kernel) (by decide +kernel)
theorem k_1049 : Cond.constantLong RX9 116 55 ∈ TB := TB_in 1049 (by decide +kernel) (by decide +kernel)
theorem k_1050 : Cond.methodLink RX9 118 yX9_isRoom ∈ TB := TB_in 1050 (by decide +kernel) (by decide +kernel)
theorem k_1051 : Cond.static yX9_isRoom ∈ TB := TB_in 1051 (by decide +kernel) (by decide +kernel)
theorem k_1052 : Cond.code yX9_isRoom cX9_isRoom 1 (some .boolean) ∈ TB := TB_in 1052 (by decide +kernel) (by decide +kernel)
theorem k_1053 : Cond.methodLink RL 26 yX9_told ∈ TB := TB_in 1053 (by decide +kernel) (by decide +kernel)
theorem k_1054 : Cond.methodLink RL 30 yX9_gives ∈ TB := TB_in 1054 (by decide +kernel) (by decide +kernel)
theorem k_1055 : Cond.instanceMethod yX9_gives ∈ TB := TB_in 1055 (by decide +kernel) (by decide +kernel)
theorem k_1056 : Cond.selects RX9 yX9_gives yX9_gives ∈ TB := TB_in 1056 (by decide +kernel) (by decide +kernel)
theorem k_1057 : Cond.code yX9_gives cX9_gives 4 (some .int) ∈ TB := TB_in 1057 (by decide +kernel) (by decide +kernel)
theorem k_1058 : Cond.methodLink RX9 130 yX9_isSort ∈ TB := TB_in 1058 (by decide +kernel) (by decide +kernel)
theorem k_1059 : Cond.static yX9_isSort ∈ TB := TB_in 1059 (by decide +kernel) (by decide +kernel)
theorem k_1060 : Cond.code yX9_isSort cX9_isSort 1 (some .boolean) ∈ TB := TB_in 1060 (by decide +kernel) (by decide +kernel)
theorem k_1061 : Cond.constantLong RX9 95 2 ∈ TB := TB_in 1061 (by decide +kernel) (by decide +kernel)
theorem k_1062 : Cond.methodLink RX9 127 yX9_on ∈ TB := TB_in 1062 (by decide +kernel) (by decide +kernel)
theorem k_1064 : Cond.instanceMethod yX9_on ∈ TB := TB_in 1064 (by decide +kernel) (by decide +kernel)
theorem k_1065 : Cond.code yX9_on cX9_on 4 (some .int) ∈ TB := TB_in 1065 (by decide +kernel) (by decide +kernel)
theorem k_1066 : Cond.methodLink RX9 133 yX9_passes ∈ TB := TB_in 1066 (by decide +kernel) (by decide +kernel)
theorem k_1068 : Cond.instanceMethod yX9_passes ∈ TB := TB_in 1068 (by decide +kernel) (by decide +kernel)
theorem k_1069 : Cond.code yX9_passes cX9_passes 5 (some .boolean) ∈ TB := TB_in 1069 (by decide +kernel) (by decide +kernel)
theorem k_1070 : Cond.methodLink RL 35 yX9_feed ∈ TB := TB_in 1070 (by decide +kernel) (by decide +kernel)
theorem k_1071 : Cond.instanceMethod yX9_feed ∈ TB := TB_in 1071 (by decide +kernel) (by decide +kernel)
theorem k_1072 : Cond.selects RX9 yX9_feed yX9_feed ∈ TB := TB_in 1072 (by decide +kernel) (by decide +kernel)
theorem k_1073 : Cond.code yX9_feed cX9_feed 2 (some .int) ∈ TB := TB_in 1073 (by decide +kernel) (by decide +kernel)
theorem k_1074 : Cond.constantLong RX9 137 255 ∈ TB := TB_in 1074 (by decide +kernel) (by decide +kernel)
theorem k_1075 : Cond.methodLink RL 40 yX9_text ∈ TB := TB_in 1075 (by decide +kernel) (by decide +kernel)
theorem k_1076 : Cond.instanceMethod yX9_text ∈ TB := TB_in 1076 (by decide +kernel) (by decide +kernel)
theorem k_1077 : Cond.selects RX9 yX9_text yX9_text ∈ TB := TB_in 1077 (by decide +kernel) (by decide +kernel)
theorem k_1078 : Cond.code yX9_text cX9_text 2 (some .int) ∈ TB := TB_in 1078 (by decide +kernel) (by decide +kernel)
theorem k_1079 : Cond.methodLink RX9 253 yX9_read ∈ TB := TB_in 1079 (by decide +kernel) (by decide +kernel)
theorem k_1081 : Cond.instanceMethod yX9_read ∈ TB := TB_in 1081 (by decide +kernel) (by decide +kernel)
theorem k_1082 : Cond.code yX9_read cX9_read 6 (some .int) ∈ TB := TB_in 1082 (by decide +kernel) (by decide +kernel)
theorem k_1083 : Cond.methodLink RX9 191 yX9_next ∈ TB := TB_in 1083 (by decide +kernel) (by decide +kernel)
theorem k_1085 : Cond.instanceMethod yX9_next ∈ TB := TB_in 1085 (by decide +kernel) (by decide +kernel)
theorem k_1086 : Cond.code yX9_next cX9_next 3 none ∈ TB := TB_in 1086 (by decide +kernel) (by decide +kernel)
theorem k_1087 : Cond.methodLink RX9 151 yX9_byteAt ∈ TB := TB_in 1087 (by decide +kernel) (by decide +kernel)
theorem k_1089 : Cond.instanceMethod yX9_byteAt ∈ TB := TB_in 1089 (by decide +kernel) (by decide +kernel)
theorem k_1090 : Cond.code yX9_byteAt cX9_byteAt 2 (some .int) ∈ TB := TB_in 1090 (by decide +kernel) (by decide +kernel)
theorem k_1091 : Cond.constantLong RX9 160 97 ∈ TB := TB_in 1091 (by decide +kernel) (by decide +kernel)
theorem k_1092 : Cond.constantLong RX9 162 122 ∈ TB := TB_in 1092 (by decide +kernel) (by decide +kernel)
theorem k_1093 : Cond.constantLong RX9 164 48 ∈ TB := TB_in 1093 (by decide +kernel) (by decide +kernel)
theorem k_1094 : Cond.constantLong RX9 166 57 ∈ TB := TB_in 1094 (by decide +kernel) (by decide +kernel)
theorem k_1095 : Cond.constantLong RX9 172 10 ∈ TB := TB_in 1095 (by decide +kernel) (by decide +kernel)
theorem k_1096 : Cond.methodLink RX9 194 yX9_isWord ∈ TB := TB_in 1096 (by decide +kernel) (by decide +kernel)
theorem k_1098 : Cond.instanceMethod yX9_isWord ∈ TB := TB_in 1098 (by decide +kernel) (by decide +kernel)
theorem k_1099 : Cond.code yX9_isWord cX9_isWord 9 (some .boolean) ∈ TB := TB_in 1099 (by decide +kernel) (by decide +kernel)
theorem k_1100 : Cond.methodLink RX9 181 yX9_isLetter ∈ TB := TB_in 1100 (by decide +kernel) (by decide +kernel)
theorem k_1102 : Cond.instanceMethod yX9_isLetter ∈ TB := TB_in 1102 (by decide +kernel) (by decide +kernel)
theorem k_1103 : Cond.code yX9_isLetter cX9_isLetter 3 (some .boolean) ∈ TB := TB_in 1103 (by decide +kernel) (by decide +kernel)
theorem k_1104 : Cond.methodLink RX9 249 yX9_part ∈ TB := TB_in 1104 (by decide +kernel) (by decide +kernel)
theorem k_1106 : Cond.instanceMethod yX9_part ∈ TB := TB_in 1106 (by decide +kernel) (by decide +kernel)
theorem k_1107 : Cond.code yX9_part cX9_part 3 (some .int) ∈ TB := TB_in 1107 (by decide +kernel) (by decide +kernel)
theorem k_1108 : Cond.methodLink RX9 188 yX9_fail ∈ TB := TB_in 1108 (by decide +kernel) (by decide +kernel)
theorem k_1110 : Cond.instanceMethod yX9_fail ∈ TB := TB_in 1110 (by decide +kernel) (by decide +kernel)
theorem k_1111 : Cond.code yX9_fail cX9_fail 1 none ∈ TB := TB_in 1111 (by decide +kernel) (by decide +kernel)
theorem k_1112 : Cond.methodLink RX9 227 yX9_either ∈ TB := TB_in 1112 (by decide +kernel) (by decide +kernel)
theorem k_1114 : Cond.instanceMethod yX9_either ∈ TB := TB_in 1114 (by decide +kernel) (by decide +kernel)
theorem k_1115 : Cond.code yX9_either cX9_either 3 (some .int) ∈ TB := TB_in 1115 (by decide +kernel) (by decide +kernel)
theorem k_1116 : Cond.methodLink RX9 246 yX9_both ∈ TB := TB_in 1116 (by decide +kernel) (by decide +kernel)
theorem k_1118 : Cond.instanceMethod yX9_both ∈ TB := TB_in 1118 (by decide +kernel) (by decide +kernel)
theorem k_1119 : Cond.code yX9_both cX9_both 3 (some .int) ∈ TB := TB_in 1119 (by decide +kernel) (by decide +kernel)
theorem k_1120 : Cond.methodLink RX9 238 yX9_not ∈ TB := TB_in 1120 (by decide +kernel) (by decide +kernel)
theorem k_1122 : Cond.instanceMethod yX9_not ∈ TB := TB_in 1122 (by decide +kernel) (by decide +kernel)
theorem k_1123 : Cond.code yX9_not cX9_not 4 (some .int) ∈ TB := TB_in 1123 (by decide +kernel) (by decide +kernel)
theorem k_1124 : Cond.methodLink RX9 219 yX9_opens ∈ TB := TB_in 1124 (by decide +kernel) (by decide +kernel)
theorem k_1126 : Cond.instanceMethod yX9_opens ∈ TB := TB_in 1126 (by decide +kernel) (by decide +kernel)
theorem k_1127 : Cond.code yX9_opens cX9_opens 1 (some .boolean) ∈ TB := TB_in 1127 (by decide +kernel) (by decide +kernel)
theorem k_1128 : Cond.methodLink RX9 241 yX9_added ∈ TB := TB_in 1128 (by decide +kernel) (by decide +kernel)
theorem k_1130 : Cond.instanceMethod yX9_added ∈ TB := TB_in 1130 (by decide +kernel) (by decide +kernel)
theorem k_1131 : Cond.code yX9_added cX9_added 4 (some .int) ∈ TB := TB_in 1131 (by decide +kernel) (by decide +kernel)
theorem k_1132 : Cond.methodLink RX9 233 yX9_term ∈ TB := TB_in 1132 (by decide +kernel) (by decide +kernel)
theorem k_1134 : Cond.instanceMethod yX9_term ∈ TB := TB_in 1134 (by decide +kernel) (by decide +kernel)
theorem k_1135 : Cond.code yX9_term cX9_term 2 (some .int) ∈ TB := TB_in 1135 (by decide +kernel) (by decide +kernel)
theorem k_1136 : Cond.methodLink RX9 223 yX9_atom ∈ TB := TB_in 1136 (by decide +kernel) (by decide +kernel)
theorem k_1138 : Cond.instanceMethod yX9_atom ∈ TB := TB_in 1138 (by decide +kernel) (by decide +kernel)
theorem k_1139 : Cond.code yX9_atom cX9_atom 2 (some .int) ∈ TB := TB_in 1139 (by decide +kernel) (by decide +kernel)
theorem k_1140 : Cond.methodLink RX9 216 yX9_isSign ∈ TB := TB_in 1140 (by decide +kernel) (by decide +kernel)
theorem k_1142 : Cond.instanceMethod yX9_isSign ∈ TB := TB_in 1142 (by decide +kernel) (by decide +kernel)
theorem k_1143 : Cond.code yX9_isSign cX9_isSign 2 (some .boolean) ∈ TB := TB_in 1143 (by decide +kernel) (by decide +kernel)
theorem k_1144 : Cond.methodLink RX9 230 yX9_name ∈ TB := TB_in 1144 (by decide +kernel) (by decide +kernel)
theorem k_1146 : Cond.instanceMethod yX9_name ∈ TB := TB_in 1146 (by decide +kernel) (by decide +kernel)
theorem k_1147 : Cond.code yX9_name cX9_name 1 (some .int) ∈ TB := TB_in 1147 (by decide +kernel) (by decide +kernel)
theorem k_1148 : Cond.constantLong RX9 236 43 ∈ TB := TB_in 1148 (by decide +kernel) (by decide +kernel)
theorem k_1149 : Cond.constantLong RX9 244 60 ∈ TB := TB_in 1149 (by decide +kernel) (by decide +kernel)
theorem k_1150 : Cond.methodLink RL 44 yX9_force ∈ TB := TB_in 1150 (by decide +kernel) (by decide +kernel)
theorem k_1151 : Cond.instanceMethod yX9_force ∈ TB := TB_in 1151 (by decide +kernel) (by decide +kernel)
theorem k_1152 : Cond.selects RX9 yX9_force yX9_force ∈ TB := TB_in 1152 (by decide +kernel) (by decide +kernel)
theorem k_1153 : Cond.code yX9_force cX9_force 3 (some .int) ∈ TB := TB_in 1153 (by decide +kernel) (by decide +kernel)
theorem k_1154 : Cond.methodLink RL 49 yX9_panes ∈ TB := TB_in 1154 (by decide +kernel) (by decide +kernel)
theorem k_1155 : Cond.instanceMethod yX9_panes ∈ TB := TB_in 1155 (by decide +kernel) (by decide +kernel)
theorem k_1156 : Cond.selects RX9 yX9_panes yX9_panes ∈ TB := TB_in 1156 (by decide +kernel) (by decide +kernel)
theorem k_1157 : Cond.code yX9_panes cX9_panes 5 (some .int) ∈ TB := TB_in 1157 (by decide +kernel) (by decide +kernel)
theorem k_1158 : Cond.methodLink RX9 277 yX9_isSpot ∈ TB := TB_in 1158 (by decide +kernel) (by decide +kernel)
theorem k_1159 : Cond.static yX9_isSpot ∈ TB := TB_in 1159 (by decide +kernel) (by decide +kernel)
theorem k_1160 : Cond.code yX9_isSpot cX9_isSpot 1 (some .boolean) ∈ TB := TB_in 1160 (by decide +kernel) (by decide +kernel)
theorem k_1161 : Cond.constantLong RX9 93 191 ∈ TB := TB_in 1161 (by decide +kernel) (by decide +kernel)
theorem k_1162 : Cond.methodLink RX9 280 yX9_spreads ∈ TB := TB_in 1162 (by decide +kernel) (by decide +kernel)
theorem k_1164 : Cond.instanceMethod yX9_spreads ∈ TB := TB_in 1164 (by decide +kernel) (by decide +kernel)
theorem k_1165 : Cond.code yX9_spreads cX9_spreads 6 none ∈ TB := TB_in 1165 (by decide +kernel) (by decide +kernel)
theorem k_1166 : Cond.methodLink RX9 263 yX9_says ∈ TB := TB_in 1166 (by decide +kernel) (by decide +kernel)
theorem k_1168 : Cond.instanceMethod yX9_says ∈ TB := TB_in 1168 (by decide +kernel) (by decide +kernel)
theorem k_1169 : Cond.code yX9_says cX9_says 5 (some .int) ∈ TB := TB_in 1169 (by decide +kernel) (by decide +kernel)
theorem k_1170 : Cond.methodLink RX9 259 yX9_within ∈ TB := TB_in 1170 (by decide +kernel) (by decide +kernel)
theorem k_1171 : Cond.static yX9_within ∈ TB := TB_in 1171 (by decide +kernel) (by decide +kernel)
theorem k_1172 : Cond.code yX9_within cX9_within 3 (some .int) ∈ TB := TB_in 1172 (by decide +kernel) (by decide +kernel)
theorem k_1173 : Cond.constant RX9 266 99999999 ∈ TB := TB_in 1173 (by decide +kernel) (by decide +kernel)
theorem k_1174 : Cond.methodLink RX9 267 yX9_goesOn ∈ TB := TB_in 1174 (by decide +kernel) (by decide +kernel)
theorem k_1176 : Cond.instanceMethod yX9_goesOn ∈ TB := TB_in 1176 (by decide +kernel) (by decide +kernel)
theorem k_1177 : Cond.code yX9_goesOn cX9_goesOn 8 (some .boolean) ∈ TB := TB_in 1177 (by decide +kernel) (by decide +kernel)
theorem k_1178 : Cond.methodLink RX9 271 yX9_eases ∈ TB := TB_in 1178 (by decide +kernel) (by decide +kernel)
theorem k_1180 : Cond.instanceMethod yX9_eases ∈ TB := TB_in 1180 (by decide +kernel) (by decide +kernel)
theorem k_1181 : Cond.code yX9_eases cX9_eases 3 (some .boolean) ∈ TB := TB_in 1181 (by decide +kernel) (by decide +kernel)
theorem k_1182 : Cond.methodLink RL 53 yX9_cost ∈ TB := TB_in 1182 (by decide +kernel) (by decide +kernel)
theorem k_1183 : Cond.instanceMethod yX9_cost ∈ TB := TB_in 1183 (by decide +kernel) (by decide +kernel)
theorem k_1184 : Cond.selects RX9 yX9_cost yX9_cost ∈ TB := TB_in 1184 (by decide +kernel) (by decide +kernel)
theorem k_1185 : Cond.code yX9_cost cX9_cost 4 (some .int) ∈ TB := TB_in 1185 (by decide +kernel) (by decide +kernel)
theorem k_1186 : Cond.methodLink RL 57 yX9_earliest ∈ TB := TB_in 1186 (by decide +kernel) (by decide +kernel)
theorem k_1187 : Cond.instanceMethod yX9_earliest ∈ TB := TB_in 1187 (by decide +kernel) (by decide +kernel)
theorem k_1188 : Cond.selects RX9 yX9_earliest yX9_earliest ∈ TB := TB_in 1188 (by decide +kernel) (by decide +kernel)
theorem k_1189 : Cond.code yX9_earliest cX9_earliest 5 (some .int) ∈ TB := TB_in 1189 (by decide +kernel) (by decide +kernel)
theorem k_1190 : Cond.methodLink RL 61 yX9_loop ∈ TB := TB_in 1190 (by decide +kernel) (by decide +kernel)
theorem k_1191 : Cond.instanceMethod yX9_loop ∈ TB := TB_in 1191 (by decide +kernel) (by decide +kernel)
theorem k_1192 : Cond.selects RX9 yX9_loop yX9_loop ∈ TB := TB_in 1192 (by decide +kernel) (by decide +kernel)
theorem k_1193 : Cond.code yX9_loop cX9_loop 7 (some .int) ∈ TB := TB_in 1193 (by decide +kernel) (by decide +kernel)
theorem k_1194 : Cond.methodLink RL 65 yX9_spots ∈ TB := TB_in 1194 (by decide +kernel) (by decide +kernel)
theorem k_1195 : Cond.instanceMethod yX9_spots ∈ TB := TB_in 1195 (by decide +kernel) (by decide +kernel)
theorem k_1196 : Cond.selects RX9 yX9_spots yX9_spots ∈ TB := TB_in 1196 (by decide +kernel) (by decide +kernel)
theorem k_1197 : Cond.code yX9_spots cX9_spots 5 (some .int) ∈ TB := TB_in 1197 (by decide +kernel) (by decide +kernel)
theorem k_1198 : Cond.methodLink RL 69 yX9_brick ∈ TB := TB_in 1198 (by decide +kernel) (by decide +kernel)
theorem k_1199 : Cond.instanceMethod yX9_brick ∈ TB := TB_in 1199 (by decide +kernel) (by decide +kernel)
theorem k_1200 : Cond.selects RX9 yX9_brick yX9_brick ∈ TB := TB_in 1200 (by decide +kernel) (by decide +kernel)
theorem k_1201 : Cond.code yX9_brick cX9_brick 7 (some .int) ∈ TB := TB_in 1201 (by decide +kernel) (by decide +kernel)
theorem k_1202 : Cond.methodLink RX9 284 yX9_comesBut ∈ TB := TB_in 1202 (by decide +kernel) (by decide +kernel)
theorem k_1204 : Cond.instanceMethod yX9_comesBut ∈ TB := TB_in 1204 (by decide +kernel) (by decide +kernel)
theorem k_1205 : Cond.code yX9_comesBut cX9_comesBut 5 (some .boolean) ∈ TB := TB_in 1205 (by decide +kernel) (by decide +kernel)
theorem k_1206 : Cond.methodLink RX9 288 yX9_bitsOf ∈ TB := TB_in 1206 (by decide +kernel) (by decide +kernel)
theorem k_1207 : Cond.static yX9_bitsOf ∈ TB := TB_in 1207 (by decide +kernel) (by decide +kernel)
theorem k_1208 : Cond.code yX9_bitsOf cX9_bitsOf 3 (some .int) ∈ TB := TB_in 1208 (by decide +kernel) (by decide +kernel)
theorem k_1209 : Cond.methodLink RL 73 yX9_seen ∈ TB := TB_in 1209 (by decide +kernel) (by decide +kernel)
theorem k_1210 : Cond.instanceMethod yX9_seen ∈ TB := TB_in 1210 (by decide +kernel) (by decide +kernel)
theorem k_1211 : Cond.selects RX9 yX9_seen yX9_seen ∈ TB := TB_in 1211 (by decide +kernel) (by decide +kernel)
theorem k_1212 : Cond.code yX9_seen cX9_seen 9 (some .int) ∈ TB := TB_in 1212 (by decide +kernel) (by decide +kernel)
theorem k_1213 : Cond.methodLink RX9 300 yX9_seenBad ∈ TB := TB_in 1213 (by decide +kernel) (by decide +kernel)
theorem k_1215 : Cond.instanceMethod yX9_seenBad ∈ TB := TB_in 1215 (by decide +kernel) (by decide +kernel)
theorem k_1216 : Cond.code yX9_seenBad cX9_seenBad 4 (some .int) ∈ TB := TB_in 1216 (by decide +kernel) (by decide +kernel)
theorem k_1217 : Cond.methodLink RX9 294 yX9_isSheet ∈ TB := TB_in 1217 (by decide +kernel) (by decide +kernel)
theorem k_1218 : Cond.static yX9_isSheet ∈ TB := TB_in 1218 (by decide +kernel) (by decide +kernel)
theorem k_1219 : Cond.code yX9_isSheet cX9_isSheet 1 (some .boolean) ∈ TB := TB_in 1219 (by decide +kernel) (by decide +kernel)
theorem k_1220 : Cond.constantLong RX9 342 3 ∈ TB := TB_in 1220 (by decide +kernel) (by decide +kernel)
theorem k_1221 : Cond.methodLink RX9 297 yX9_wrongAt ∈ TB := TB_in 1221 (by decide +kernel) (by decide +kernel)
theorem k_1223 : Cond.instanceMethod yX9_wrongAt ∈ TB := TB_in 1223 (by decide +kernel) (by decide +kernel)
theorem k_1224 : Cond.code yX9_wrongAt cX9_wrongAt 5 (some .int) ∈ TB := TB_in 1224 (by decide +kernel) (by decide +kernel)
theorem k_1225 : Cond.methodLink RX9 291 yX9_shows ∈ TB := TB_in 1225 (by decide +kernel) (by decide +kernel)
theorem k_1227 : Cond.instanceMethod yX9_shows ∈ TB := TB_in 1227 (by decide +kernel) (by decide +kernel)
theorem k_1228 : Cond.code yX9_shows cX9_shows 3 (some .int) ∈ TB := TB_in 1228 (by decide +kernel) (by decide +kernel)
theorem k_1229 : Cond.methodLink RX9 303 yX9_shiftsOf ∈ TB := TB_in 1229 (by decide +kernel) (by decide +kernel)
theorem k_1231 : Cond.instanceMethod yX9_shiftsOf ∈ TB := TB_in 1231 (by decide +kernel) (by decide +kernel)
theorem k_1232 : Cond.code yX9_shiftsOf cX9_shiftsOf 7 (some .int) ∈ TB := TB_in 1232 (by decide +kernel) (by decide +kernel)
theorem k_1233 : Cond.methodLink RL 77 yX9_lookNext ∈ TB := TB_in 1233 (by decide +kernel) (by decide +kernel)
theorem k_1234 : Cond.instanceMethod yX9_lookNext ∈ TB := TB_in 1234 (by decide +kernel) (by decide +kernel)
theorem k_1235 : Cond.selects RX9 yX9_lookNext yX9_lookNext ∈ TB := TB_in 1235 (by decide +kernel) (by decide +kernel)
theorem k_1236 : Cond.code yX9_lookNext cX9_lookNext 11 (some .int) ∈ TB := TB_in 1236 (by decide +kernel) (by decide +kernel)
theorem k_1237 : Cond.methodLink RX9 306 yX9_unlikeOn ∈ TB := TB_in 1237 (by decide +kernel) (by decide +kernel)
theorem k_1239 : Cond.instanceMethod yX9_unlikeOn ∈ TB := TB_in 1239 (by decide +kernel) (by decide +kernel)
theorem k_1240 : Cond.code yX9_unlikeOn cX9_unlikeOn 7 (some .int) ∈ TB := TB_in 1240 (by decide +kernel) (by decide +kernel)
theorem k_1241 : Cond.methodLink RL 81 yX9_film ∈ TB := TB_in 1241 (by decide +kernel) (by decide +kernel)
theorem k_1242 : Cond.instanceMethod yX9_film ∈ TB := TB_in 1242 (by decide +kernel) (by decide +kernel)
theorem k_1243 : Cond.selects RX9 yX9_film yX9_film ∈ TB := TB_in 1243 (by decide +kernel) (by decide +kernel)
theorem k_1244 : Cond.code yX9_film cX9_film 6 (some .int) ∈ TB := TB_in 1244 (by decide +kernel) (by decide +kernel)
theorem k_1245 : Cond.methodLink RX9 309 yX9_sheet ∈ TB := TB_in 1245 (by decide +kernel) (by decide +kernel)
theorem k_1246 : Cond.instanceMethod yX9_sheet ∈ TB := TB_in 1246 (by decide +kernel) (by decide +kernel)
theorem k_1247 : Cond.selects RX9 yX9_sheet yX9_sheet ∈ TB := TB_in 1247 (by decide +kernel) (by decide +kernel)
theorem k_1248 : Cond.code yX9_sheet cX9_sheet 5 (some .int) ∈ TB := TB_in 1248 (by decide +kernel) (by decide +kernel)
theorem k_1249 : Cond.constantLong RX9 344 (-1) ∈ TB := TB_in 1249 (by decide +kernel) (by decide +kernel)
theorem k_1250 : Cond.methodLink RL 85 yX9_water ∈ TB := TB_in 1250 (by decide +kernel) (by decide +kernel)
theorem k_1251 : Cond.instanceMethod yX9_water ∈ TB := TB_in 1251 (by decide +kernel) (by decide +kernel)
theorem k_1252 : Cond.selects RX9 yX9_water yX9_water ∈ TB := TB_in 1252 (by decide +kernel) (by decide +kernel)
theorem k_1253 : Cond.code yX9_water cX9_water 3 (some .int) ∈ TB := TB_in 1253 (by decide +kernel) (by decide +kernel)
theorem k_1254 : Cond.methodLink RX9 312 yX9_rains ∈ TB := TB_in 1254 (by decide +kernel) (by decide +kernel)
theorem k_1256 : Cond.instanceMethod yX9_rains ∈ TB := TB_in 1256 (by decide +kernel) (by decide +kernel)
theorem k_1257 : Cond.code yX9_rains cX9_rains 4 none ∈ TB := TB_in 1257 (by decide +kernel) (by decide +kernel)
theorem k_1258 : Cond.methodLink RL 89 yX9_wettest ∈ TB := TB_in 1258 (by decide +kernel) (by decide +kernel)
theorem k_1259 : Cond.instanceMethod yX9_wettest ∈ TB := TB_in 1259 (by decide +kernel) (by decide +kernel)
theorem k_1260 : Cond.selects RX9 yX9_wettest yX9_wettest ∈ TB := TB_in 1260 (by decide +kernel) (by decide +kernel)
theorem k_1261 : Cond.code yX9_wettest cX9_wettest 5 (some .int) ∈ TB := TB_in 1261 (by decide +kernel) (by decide +kernel)
theorem k_1262 : Cond.methodLink RX9 316 yX9_wetAll ∈ TB := TB_in 1262 (by decide +kernel) (by decide +kernel)
theorem k_1264 : Cond.instanceMethod yX9_wetAll ∈ TB := TB_in 1264 (by decide +kernel) (by decide +kernel)
theorem k_1265 : Cond.code yX9_wetAll cX9_wetAll 3 (some .int) ∈ TB := TB_in 1265 (by decide +kernel) (by decide +kernel)
theorem k_1266 : Cond.methodLink RL 93 yX9_views ∈ TB := TB_in 1266 (by decide +kernel) (by decide +kernel)
theorem k_1267 : Cond.instanceMethod yX9_views ∈ TB := TB_in 1267 (by decide +kernel) (by decide +kernel)
theorem k_1268 : Cond.selects RX9 yX9_views yX9_views ∈ TB := TB_in 1268 (by decide +kernel) (by decide +kernel)
theorem k_1269 : Cond.code yX9_views cX9_views 4 (some .int) ∈ TB := TB_in 1269 (by decide +kernel) (by decide +kernel)
theorem k_1270 : Cond.methodLink RX9 325 yX9_viewsFrom ∈ TB := TB_in 1270 (by decide +kernel) (by decide +kernel)
theorem k_1272 : Cond.instanceMethod yX9_viewsFrom ∈ TB := TB_in 1272 (by decide +kernel) (by decide +kernel)
theorem k_1273 : Cond.code yX9_viewsFrom cX9_viewsFrom 7 none ∈ TB := TB_in 1273 (by decide +kernel) (by decide +kernel)
theorem k_1274 : Cond.methodLink RL 97 yX9_drawn ∈ TB := TB_in 1274 (by decide +kernel) (by decide +kernel)
theorem k_1275 : Cond.instanceMethod yX9_drawn ∈ TB := TB_in 1275 (by decide +kernel) (by decide +kernel)
theorem k_1276 : Cond.selects RX9 yX9_drawn yX9_drawn ∈ TB := TB_in 1276 (by decide +kernel) (by decide +kernel)
theorem k_1277 : Cond.code yX9_drawn cX9_drawn 3 (some .int) ∈ TB := TB_in 1277 (by decide +kernel) (by decide +kernel)
theorem k_1278 : Cond.methodLink RX9 330 yX9_draws ∈ TB := TB_in 1278 (by decide +kernel) (by decide +kernel)
theorem k_1280 : Cond.instanceMethod yX9_draws ∈ TB := TB_in 1280 (by decide +kernel) (by decide +kernel)
theorem k_1281 : Cond.code yX9_draws cX9_draws 5 (some .int) ∈ TB := TB_in 1281 (by decide +kernel) (by decide +kernel)
theorem k_1282 : Cond.constant RX9 329 1103515245 ∈ TB := TB_in 1282 (by decide +kernel) (by decide +kernel)
theorem k_1283 : Cond.methodLink RL 102 yX9_chance ∈ TB := TB_in 1283 (by decide +kernel) (by decide +kernel)
theorem k_1284 : Cond.instanceMethod yX9_chance ∈ TB := TB_in 1284 (by decide +kernel) (by decide +kernel)
theorem k_1285 : Cond.selects RX9 yX9_chance yX9_chance ∈ TB := TB_in 1285 (by decide +kernel) (by decide +kernel)
theorem k_1286 : Cond.code yX9_chance cX9_chance 14 (some .long) ∈ TB := TB_in 1286 (by decide +kernel) (by decide +kernel)
theorem k_1287 : Cond.constantLong RX9 333 20 ∈ TB := TB_in 1287 (by decide +kernel) (by decide +kernel)
theorem k_1288 : Cond.constantLong RX9 335 99999 ∈ TB := TB_in 1288 (by decide +kernel) (by decide +kernel)
theorem k_1289 : Cond.constantLong RX9 337 (-4611686018427387904) ∈ TB := TB_in 1289 (by decide +kernel) (by decide +kernel)
theorem k_1290 : Cond.methodLink RL 106 yX9_image ∈ TB := TB_in 1290 (by decide +kernel) (by decide +kernel)
theorem k_1291 : Cond.instanceMethod yX9_image ∈ TB := TB_in 1291 (by decide +kernel) (by decide +kernel)
theorem k_1292 : Cond.selects RX9 yX9_image yX9_image ∈ TB := TB_in 1292 (by decide +kernel) (by decide +kernel)
theorem k_1293 : Cond.code yX9_image cX9_image 2 (some .int) ∈ TB := TB_in 1293 (by decide +kernel) (by decide +kernel)
theorem k_1294 : Cond.methodLink RL 110 yX9_back ∈ TB := TB_in 1294 (by decide +kernel) (by decide +kernel)
theorem k_1295 : Cond.instanceMethod yX9_back ∈ TB := TB_in 1295 (by decide +kernel) (by decide +kernel)
theorem k_1296 : Cond.selects RX9 yX9_back yX9_back ∈ TB := TB_in 1296 (by decide +kernel) (by decide +kernel)
theorem k_1297 : Cond.code yX9_back cX9_back 2 (some .int) ∈ TB := TB_in 1297 (by decide +kernel) (by decide +kernel)
theorem k_1298 : Cond.methodLink RL 114 yX9_count ∈ TB := TB_in 1298 (by decide +kernel) (by decide +kernel)
theorem k_1299 : Cond.instanceMethod yX9_count ∈ TB := TB_in 1299 (by decide +kernel) (by decide +kernel)
theorem k_1300 : Cond.selects RX9 yX9_count yX9_count ∈ TB := TB_in 1300 (by decide +kernel) (by decide +kernel)
theorem k_1301 : Cond.code yX9_count cX9_count 4 (some .int) ∈ TB := TB_in 1301 (by decide +kernel) (by decide +kernel)
theorem k_1302 : Cond.methodLink RL 118 yX9_sheet ∈ TB := TB_in 1302 (by decide +kernel) (by decide +kernel)
theorem k_1303 : Cond.methodLink RL 122 yX9_cell ∈ TB := TB_in 1303 (by decide +kernel) (by decide +kernel)
theorem k_1304 : Cond.instanceMethod yX9_cell ∈ TB := TB_in 1304 (by decide +kernel) (by decide +kernel)
theorem k_1305 : Cond.selects RX9 yX9_cell yX9_cell ∈ TB := TB_in 1305 (by decide +kernel) (by decide +kernel)
theorem k_1306 : Cond.code yX9_cell cX9_cell 4 (some .int) ∈ TB := TB_in 1306 (by decide +kernel) (by decide +kernel)
theorem k_1307 : Cond.methodLink RL 127 yX9_copy ∈ TB := TB_in 1307 (by decide +kernel) (by decide +kernel)
theorem k_1308 : Cond.instanceMethod yX9_copy ∈ TB := TB_in 1308 (by decide +kernel) (by decide +kernel)
theorem k_1309 : Cond.selects RX9 yX9_copy yX9_copy ∈ TB := TB_in 1309 (by decide +kernel) (by decide +kernel)
theorem k_1310 : Cond.code yX9_copy cX9_copy 9 (some .int) ∈ TB := TB_in 1310 (by decide +kernel) (by decide +kernel)
theorem k_1311 : Cond.methodLink RL 131 yX9_weathers ∈ TB := TB_in 1311 (by decide +kernel) (by decide +kernel)
theorem k_1312 : Cond.instanceMethod yX9_weathers ∈ TB := TB_in 1312 (by decide +kernel) (by decide +kernel)
theorem k_1313 : Cond.selects RX9 yX9_weathers yX9_weathers ∈ TB := TB_in 1313 (by decide +kernel) (by decide +kernel)
theorem k_1314 : Cond.code yX9_weathers cX9_weathers 8 (some .int) ∈ TB := TB_in 1314 (by decide +kernel) (by decide +kernel)
theorem k_1315 : Cond.methodLink RX9 346 yX9_set ∈ TB := TB_in 1315 (by decide +kernel) (by decide +kernel)
theorem k_1316 : Cond.methodLink RL 135 yX9_taken ∈ TB := TB_in 1316 (by decide +kernel) (by decide +kernel)
theorem k_1317 : Cond.instanceMethod yX9_taken ∈ TB := TB_in 1317 (by decide +kernel) (by decide +kernel)
theorem k_1318 : Cond.selects RX9 yX9_taken yX9_taken ∈ TB := TB_in 1318 (by decide +kernel) (by decide +kernel)
theorem k_1319 : Cond.code yX9_taken cX9_taken 4 (some .int) ∈ TB := TB_in 1319 (by decide +kernel) (by decide +kernel)
theorem k_1320 : Cond.methodLink RX9 349 yX9_over ∈ TB := TB_in 1320 (by decide +kernel) (by decide +kernel)
theorem k_1321 : Cond.static yX9_over ∈ TB := TB_in 1321 (by decide +kernel) (by decide +kernel)
theorem k_1322 : Cond.code yX9_over cX9_over 1 (some .int) ∈ TB := TB_in 1322 (by decide +kernel) (by decide +kernel)
theorem k_1323 : Cond.fieldLink RJ0 9 "java/lang/String" "value" "[B" ∈ TB := TB_in 1323 (by decide +kernel) (by decide +kernel)
theorem k_1324 : Cond.fieldLink RJ0 15 "java/lang/String" "coder" "B" ∈ TB := TB_in 1324 (by decide +kernel) (by decide +kernel)
theorem inX0 : ∀ w ∈ wsX00, w ∈ TB := by
  intro w hw
  exact List.mem_filter.mpr ⟨(show ∀ w ∈ wsX00, w ∈ lw_tbl by decide +kernel) w hw, (show ∀ w ∈ wsX00, goodWord w = true by decide +kernel) w hw⟩
theorem inX1 : ∀ w ∈ wsX10, w ∈ TB := by
  intro w hw
  exact List.mem_filter.mpr ⟨(show ∀ w ∈ wsX10, w ∈ lw_tbl by decide +kernel) w hw, (show ∀ w ∈ wsX10, goodWord w = true by decide +kernel) w hw⟩
theorem inX2 : ∀ w ∈ wsX20, w ∈ TB := by
  intro w hw
  exact List.mem_filter.mpr ⟨(show ∀ w ∈ wsX20, w ∈ lw_tbl by decide +kernel) w hw, (show ∀ w ∈ wsX20, goodWord w = true by decide +kernel) w hw⟩
theorem inX3 : ∀ w ∈ wsX30, w ∈ TB := by
  intro w hw
  exact List.mem_filter.mpr ⟨(show ∀ w ∈ wsX30, w ∈ lw_tbl by decide +kernel) w hw, (show ∀ w ∈ wsX30, goodWord w = true by decide +kernel) w hw⟩
theorem inX4 : ∀ w ∈ wsX40, w ∈ TB := by
  intro w hw
  exact List.mem_filter.mpr ⟨(show ∀ w ∈ wsX40, w ∈ lw_tbl by decide +kernel) w hw, (show ∀ w ∈ wsX40, goodWord w = true by decide +kernel) w hw⟩
theorem inX5 : ∀ w ∈ wsX50, w ∈ TB := by
  intro w hw
  exact List.mem_filter.mpr ⟨(show ∀ w ∈ wsX50, w ∈ lw_tbl by decide +kernel) w hw, (show ∀ w ∈ wsX50, goodWord w = true by decide +kernel) w hw⟩
theorem inX6 : ∀ w ∈ wsX60, w ∈ TB := by
  intro w hw
  exact List.mem_filter.mpr ⟨(show ∀ w ∈ wsX60, w ∈ lw_tbl by decide +kernel) w hw, (show ∀ w ∈ wsX60, goodWord w = true by decide +kernel) w hw⟩
theorem inX7 : ∀ w ∈ wsX70, w ∈ TB := by
  intro w hw
  exact List.mem_filter.mpr ⟨(show ∀ w ∈ wsX70, w ∈ lw_tbl by decide +kernel) w hw, (show ∀ w ∈ wsX70, goodWord w = true by decide +kernel) w hw⟩
theorem inX8 : ∀ w ∈ wsX80, w ∈ TB := by
  intro w hw
  exact List.mem_filter.mpr ⟨(show ∀ w ∈ wsX80, w ∈ lw_tbl by decide +kernel) w hw, (show ∀ w ∈ wsX80, goodWord w = true by decide +kernel) w hw⟩
theorem inX9 : ∀ w ∈ wsX90, w ∈ TB := by
  intro w hw
  exact List.mem_filter.mpr ⟨(show ∀ w ∈ wsX90, w ∈ lw_tbl by decide +kernel) w hw, (show ∀ w ∈ wsX90, goodWord w = true by decide +kernel) w hw⟩
end
