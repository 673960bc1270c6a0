section
-- ===== PART A: goes FIRST, ahead of the names: the tables' words, and 'selects' of the private methods out of them =====
/-- a private method of a class that the tables say can be made, by its rows of tables_1 -/
def lw_okq (q : MethodName × Nat) : Prop := (q.1.cls ≠ "java/lang/invoke/MethodHandle" ∧ q.1.cls ≠ "java/lang/invoke/VarHandle") ∧ Cond.instantiable q.1.cls q.2 ∈ tables_1 ∧ Cond.privateMethod q.1 ∈ tables_1 ∧ Cond.instanceMethod q.1 ∈ tables_1
theorem lw_p0 : lw_okq (⟨"UrlGate", "recordAt", "(I)LUrlGate$Url;"⟩, 8) := ⟨⟨by decide +kernel, by decide +kernel⟩, List.mem_of_getElem? (i := 20) (by decide +kernel), List.mem_of_getElem? (i := 286) (by decide +kernel), List.mem_of_getElem? (i := 287) (by decide +kernel)⟩
theorem lw_p1 : lw_okq (⟨"UrlGate$UrlReader", "tidy", "(LUrlGate$Row;)V"⟩, 4) := ⟨⟨by decide +kernel, by decide +kernel⟩, List.mem_of_getElem? (i := 102) (by decide +kernel), List.mem_of_getElem? (i := 294) (by decide +kernel), List.mem_of_getElem? (i := 295) (by decide +kernel)⟩
theorem lw_p2 : lw_okq (⟨"UrlGate$UrlReader", "readScheme", "(LUrlGate$Url;LUrlGate$Url;)I"⟩, 4) := ⟨⟨by decide +kernel, by decide +kernel⟩, List.mem_of_getElem? (i := 102) (by decide +kernel), List.mem_of_getElem? (i := 309) (by decide +kernel), List.mem_of_getElem? (i := 310) (by decide +kernel)⟩
theorem lw_p3 : lw_okq (⟨"UrlGate$UrlReader", "schemeEnd", "()I"⟩, 4) := ⟨⟨by decide +kernel, by decide +kernel⟩, List.mem_of_getElem? (i := 102) (by decide +kernel), List.mem_of_getElem? (i := 313) (by decide +kernel), List.mem_of_getElem? (i := 314) (by decide +kernel)⟩
theorem lw_p4 : lw_okq (⟨"UrlGate$UrlReader", "schemeUpTo", "(I)I"⟩, 4) := ⟨⟨by decide +kernel, by decide +kernel⟩, List.mem_of_getElem? (i := 102) (by decide +kernel), List.mem_of_getElem? (i := 391) (by decide +kernel), List.mem_of_getElem? (i := 392) (by decide +kernel)⟩
theorem lw_p5 : lw_okq (⟨"UrlGate$UrlReader", "isWord", "(ILjava/lang/String;)Z"⟩, 4) := ⟨⟨by decide +kernel, by decide +kernel⟩, List.mem_of_getElem? (i := 102) (by decide +kernel), List.mem_of_getElem? (i := 396) (by decide +kernel), List.mem_of_getElem? (i := 397) (by decide +kernel)⟩
theorem lw_p6 : lw_okq (⟨"UrlGate$UrlReader", "readRelative", "(LUrlGate$Url;LUrlGate$Url;)I"⟩, 4) := ⟨⟨by decide +kernel, by decide +kernel⟩, List.mem_of_getElem? (i := 102) (by decide +kernel), List.mem_of_getElem? (i := 411) (by decide +kernel), List.mem_of_getElem? (i := 412) (by decide +kernel)⟩
theorem lw_p7 : lw_okq (⟨"UrlGate$UrlReader", "readAuthority", "(LUrlGate$Url;)I"⟩, 4) := ⟨⟨by decide +kernel, by decide +kernel⟩, List.mem_of_getElem? (i := 102) (by decide +kernel), List.mem_of_getElem? (i := 452) (by decide +kernel), List.mem_of_getElem? (i := 453) (by decide +kernel)⟩
theorem lw_p8 : lw_okq (⟨"UrlGate$UrlReader", "readUser", "(IILUrlGate$Url;)V"⟩, 4) := ⟨⟨by decide +kernel, by decide +kernel⟩, List.mem_of_getElem? (i := 102) (by decide +kernel), List.mem_of_getElem? (i := 459) (by decide +kernel), List.mem_of_getElem? (i := 460) (by decide +kernel)⟩
theorem lw_p9 : lw_okq (⟨"UrlGate$UrlReader", "hostEndFrom", "(II)I"⟩, 4) := ⟨⟨by decide +kernel, by decide +kernel⟩, List.mem_of_getElem? (i := 102) (by decide +kernel), List.mem_of_getElem? (i := 529) (by decide +kernel), List.mem_of_getElem? (i := 530) (by decide +kernel)⟩
theorem lw_p10 : lw_okq (⟨"UrlGate$HostReader", "readSix", "(LUrlGate$Row;IILUrlGate$Host;)I"⟩, 3) := ⟨⟨by decide +kernel, by decide +kernel⟩, List.mem_of_getElem? (i := 84) (by decide +kernel), List.mem_of_getElem? (i := 538) (by decide +kernel), List.mem_of_getElem? (i := 539) (by decide +kernel)⟩
theorem lw_p11 : lw_okq (⟨"UrlGate$HostReader", "findGap", "(LUrlGate$Row;II)I"⟩, 3) := ⟨⟨by decide +kernel, by decide +kernel⟩, List.mem_of_getElem? (i := 84) (by decide +kernel), List.mem_of_getElem? (i := 542) (by decide +kernel), List.mem_of_getElem? (i := 543) (by decide +kernel)⟩
theorem lw_p12 : lw_okq (⟨"UrlGate$HostReader", "readPieces", "(LUrlGate$Row;IIZ)Z"⟩, 3) := ⟨⟨by decide +kernel, by decide +kernel⟩, List.mem_of_getElem? (i := 84) (by decide +kernel), List.mem_of_getElem? (i := 546) (by decide +kernel), List.mem_of_getElem? (i := 547) (by decide +kernel)⟩
theorem lw_p13 : lw_okq (⟨"UrlGate$HostReader", "readPoints", "(LUrlGate$Row;II)Z"⟩, 3) := ⟨⟨by decide +kernel, by decide +kernel⟩, List.mem_of_getElem? (i := 84) (by decide +kernel), List.mem_of_getElem? (i := 550) (by decide +kernel), List.mem_of_getElem? (i := 551) (by decide +kernel)⟩
theorem lw_p14 : lw_okq (⟨"UrlGate$HostReader", "addPiece", "(I)Z"⟩, 3) := ⟨⟨by decide +kernel, by decide +kernel⟩, List.mem_of_getElem? (i := 84) (by decide +kernel), List.mem_of_getElem? (i := 555) (by decide +kernel), List.mem_of_getElem? (i := 556) (by decide +kernel)⟩
theorem lw_p15 : lw_okq (⟨"UrlGate$HostReader", "readPiece", "(LUrlGate$Row;II)Z"⟩, 3) := ⟨⟨by decide +kernel, by decide +kernel⟩, List.mem_of_getElem? (i := 84) (by decide +kernel), List.mem_of_getElem? (i := 560) (by decide +kernel), List.mem_of_getElem? (i := 561) (by decide +kernel)⟩
def lw_privs_1 : List (MethodName × Nat) := [(⟨"UrlGate", "recordAt", "(I)LUrlGate$Url;"⟩, 8), (⟨"UrlGate$UrlReader", "tidy", "(LUrlGate$Row;)V"⟩, 4), (⟨"UrlGate$UrlReader", "readScheme", "(LUrlGate$Url;LUrlGate$Url;)I"⟩, 4), (⟨"UrlGate$UrlReader", "schemeEnd", "()I"⟩, 4), (⟨"UrlGate$UrlReader", "schemeUpTo", "(I)I"⟩, 4), (⟨"UrlGate$UrlReader", "isWord", "(ILjava/lang/String;)Z"⟩, 4), (⟨"UrlGate$UrlReader", "readRelative", "(LUrlGate$Url;LUrlGate$Url;)I"⟩, 4), (⟨"UrlGate$UrlReader", "readAuthority", "(LUrlGate$Url;)I"⟩, 4), (⟨"UrlGate$UrlReader", "readUser", "(IILUrlGate$Url;)V"⟩, 4), (⟨"UrlGate$UrlReader", "hostEndFrom", "(II)I"⟩, 4), (⟨"UrlGate$HostReader", "readSix", "(LUrlGate$Row;IILUrlGate$Host;)I"⟩, 3), (⟨"UrlGate$HostReader", "findGap", "(LUrlGate$Row;II)I"⟩, 3), (⟨"UrlGate$HostReader", "readPieces", "(LUrlGate$Row;IIZ)Z"⟩, 3), (⟨"UrlGate$HostReader", "readPoints", "(LUrlGate$Row;II)Z"⟩, 3), (⟨"UrlGate$HostReader", "addPiece", "(I)Z"⟩, 3), (⟨"UrlGate$HostReader", "readPiece", "(LUrlGate$Row;II)Z"⟩, 3)]
theorem lw_r1 : ∀ q ∈ lw_privs_1, lw_okq q := List.forall_mem_cons.mpr ⟨lw_p0, List.forall_mem_cons.mpr ⟨lw_p1, List.forall_mem_cons.mpr ⟨lw_p2, List.forall_mem_cons.mpr ⟨lw_p3, List.forall_mem_cons.mpr ⟨lw_p4, List.forall_mem_cons.mpr ⟨lw_p5, List.forall_mem_cons.mpr ⟨lw_p6, List.forall_mem_cons.mpr ⟨lw_p7, List.forall_mem_cons.mpr ⟨lw_p8, List.forall_mem_cons.mpr ⟨lw_p9, List.forall_mem_cons.mpr ⟨lw_p10, List.forall_mem_cons.mpr ⟨lw_p11, List.forall_mem_cons.mpr ⟨lw_p12, List.forall_mem_cons.mpr ⟨lw_p13, List.forall_mem_cons.mpr ⟨lw_p14, List.forall_mem_cons.mpr ⟨lw_p15, fun _ h => absurd h List.not_mem_nil⟩⟩⟩⟩⟩⟩⟩⟩⟩⟩⟩⟩⟩⟩⟩⟩
theorem lw_p16 : lw_okq (⟨"UrlGate$HostReader", "spread", "(I)V"⟩, 3) := ⟨⟨by decide +kernel, by decide +kernel⟩, List.mem_of_getElem? (i := 84) (by decide +kernel), List.mem_of_getElem? (i := 567) (by decide +kernel), List.mem_of_getElem? (i := 568) (by decide +kernel)⟩
theorem lw_p17 : lw_okq (⟨"UrlGate$HostReader", "wordAt", "(I)I"⟩, 3) := ⟨⟨by decide +kernel, by decide +kernel⟩, List.mem_of_getElem? (i := 84) (by decide +kernel), List.mem_of_getElem? (i := 571) (by decide +kernel), List.mem_of_getElem? (i := 572) (by decide +kernel)⟩
theorem lw_p18 : lw_okq (⟨"UrlGate$Host", "firstLongestGap", "()I"⟩, 2) := ⟨⟨by decide +kernel, by decide +kernel⟩, List.mem_of_getElem? (i := 49) (by decide +kernel), List.mem_of_getElem? (i := 580) (by decide +kernel), List.mem_of_getElem? (i := 581) (by decide +kernel)⟩
theorem lw_p19 : lw_okq (⟨"UrlGate$Host", "zerosFrom", "(I)I"⟩, 2) := ⟨⟨by decide +kernel, by decide +kernel⟩, List.mem_of_getElem? (i := 49) (by decide +kernel), List.mem_of_getElem? (i := 589) (by decide +kernel), List.mem_of_getElem? (i := 590) (by decide +kernel)⟩
theorem lw_p20 : lw_okq (⟨"UrlGate$HostReader", "decode", "(LUrlGate$Row;II)V"⟩, 3) := ⟨⟨by decide +kernel, by decide +kernel⟩, List.mem_of_getElem? (i := 84) (by decide +kernel), List.mem_of_getElem? (i := 602) (by decide +kernel), List.mem_of_getElem? (i := 603) (by decide +kernel)⟩
theorem lw_p21 : lw_okq (⟨"UrlGate$HostReader", "hasWrongByte", "()Z"⟩, 3) := ⟨⟨by decide +kernel, by decide +kernel⟩, List.mem_of_getElem? (i := 84) (by decide +kernel), List.mem_of_getElem? (i := 609) (by decide +kernel), List.mem_of_getElem? (i := 610) (by decide +kernel)⟩
theorem lw_p22 : lw_okq (⟨"UrlGate$HostReader", "hasForeignPart", "()Z"⟩, 3) := ⟨⟨by decide +kernel, by decide +kernel⟩, List.mem_of_getElem? (i := 84) (by decide +kernel), List.mem_of_getElem? (i := 617) (by decide +kernel), List.mem_of_getElem? (i := 618) (by decide +kernel)⟩
theorem lw_p23 : lw_okq (⟨"UrlGate$HostReader", "lastPartStart", "(I)I"⟩, 3) := ⟨⟨by decide +kernel, by decide +kernel⟩, List.mem_of_getElem? (i := 84) (by decide +kernel), List.mem_of_getElem? (i := 623) (by decide +kernel), List.mem_of_getElem? (i := 624) (by decide +kernel)⟩
theorem lw_p24 : lw_okq (⟨"UrlGate$HostReader", "isNumeral", "(II)Z"⟩, 3) := ⟨⟨by decide +kernel, by decide +kernel⟩, List.mem_of_getElem? (i := 84) (by decide +kernel), List.mem_of_getElem? (i := 627) (by decide +kernel), List.mem_of_getElem? (i := 628) (by decide +kernel)⟩
theorem lw_p25 : lw_okq (⟨"UrlGate$HostReader", "isHex", "(II)Z"⟩, 3) := ⟨⟨by decide +kernel, by decide +kernel⟩, List.mem_of_getElem? (i := 84) (by decide +kernel), List.mem_of_getElem? (i := 631) (by decide +kernel), List.mem_of_getElem? (i := 632) (by decide +kernel)⟩
theorem lw_p26 : lw_okq (⟨"UrlGate$HostReader", "readFour", "(ILUrlGate$Host;)I"⟩, 3) := ⟨⟨by decide +kernel, by decide +kernel⟩, List.mem_of_getElem? (i := 84) (by decide +kernel), List.mem_of_getElem? (i := 636) (by decide +kernel), List.mem_of_getElem? (i := 637) (by decide +kernel)⟩
theorem lw_p27 : lw_okq (⟨"UrlGate$HostReader", "partEnd", "(II)I"⟩, 3) := ⟨⟨by decide +kernel, by decide +kernel⟩, List.mem_of_getElem? (i := 84) (by decide +kernel), List.mem_of_getElem? (i := 640) (by decide +kernel), List.mem_of_getElem? (i := 641) (by decide +kernel)⟩
theorem lw_p28 : lw_okq (⟨"UrlGate$HostReader", "numeralValue", "(II)J"⟩, 3) := ⟨⟨by decide +kernel, by decide +kernel⟩, List.mem_of_getElem? (i := 84) (by decide +kernel), List.mem_of_getElem? (i := 644) (by decide +kernel), List.mem_of_getElem? (i := 645) (by decide +kernel)⟩
theorem lw_p29 : lw_okq (⟨"UrlGate$UrlReader", "readPort", "(LUrlGate$Url;)I"⟩, 4) := ⟨⟨by decide +kernel, by decide +kernel⟩, List.mem_of_getElem? (i := 102) (by decide +kernel), List.mem_of_getElem? (i := 666) (by decide +kernel), List.mem_of_getElem? (i := 667) (by decide +kernel)⟩
theorem lw_p30 : lw_okq (⟨"UrlGate$UrlReader", "readSegments", "(LUrlGate$Url;)V"⟩, 4) := ⟨⟨by decide +kernel, by decide +kernel⟩, List.mem_of_getElem? (i := 102) (by decide +kernel), List.mem_of_getElem? (i := 675) (by decide +kernel), List.mem_of_getElem? (i := 676) (by decide +kernel)⟩
theorem lw_p31 : lw_okq (⟨"UrlGate$UrlReader", "takeSegment", "(IIZLUrlGate$Url;)V"⟩, 4) := ⟨⟨by decide +kernel, by decide +kernel⟩, List.mem_of_getElem? (i := 102) (by decide +kernel), List.mem_of_getElem? (i := 679) (by decide +kernel), List.mem_of_getElem? (i := 680) (by decide +kernel)⟩
def lw_privs_2 : List (MethodName × Nat) := [(⟨"UrlGate$HostReader", "spread", "(I)V"⟩, 3), (⟨"UrlGate$HostReader", "wordAt", "(I)I"⟩, 3), (⟨"UrlGate$Host", "firstLongestGap", "()I"⟩, 2), (⟨"UrlGate$Host", "zerosFrom", "(I)I"⟩, 2), (⟨"UrlGate$HostReader", "decode", "(LUrlGate$Row;II)V"⟩, 3), (⟨"UrlGate$HostReader", "hasWrongByte", "()Z"⟩, 3), (⟨"UrlGate$HostReader", "hasForeignPart", "()Z"⟩, 3), (⟨"UrlGate$HostReader", "lastPartStart", "(I)I"⟩, 3), (⟨"UrlGate$HostReader", "isNumeral", "(II)Z"⟩, 3), (⟨"UrlGate$HostReader", "isHex", "(II)Z"⟩, 3), (⟨"UrlGate$HostReader", "readFour", "(ILUrlGate$Host;)I"⟩, 3), (⟨"UrlGate$HostReader", "partEnd", "(II)I"⟩, 3), (⟨"UrlGate$HostReader", "numeralValue", "(II)J"⟩, 3), (⟨"UrlGate$UrlReader", "readPort", "(LUrlGate$Url;)I"⟩, 4), (⟨"UrlGate$UrlReader", "readSegments", "(LUrlGate$Url;)V"⟩, 4), (⟨"UrlGate$UrlReader", "takeSegment", "(IIZLUrlGate$Url;)V"⟩, 4)]
theorem lw_r2 : ∀ q ∈ lw_privs_2, lw_okq q := List.forall_mem_cons.mpr ⟨lw_p16, List.forall_mem_cons.mpr ⟨lw_p17, List.forall_mem_cons.mpr ⟨lw_p18, List.forall_mem_cons.mpr ⟨lw_p19, List.forall_mem_cons.mpr ⟨lw_p20, List.forall_mem_cons.mpr ⟨lw_p21, List.forall_mem_cons.mpr ⟨lw_p22, List.forall_mem_cons.mpr ⟨lw_p23, List.forall_mem_cons.mpr ⟨lw_p24, List.forall_mem_cons.mpr ⟨lw_p25, List.forall_mem_cons.mpr ⟨lw_p26, List.forall_mem_cons.mpr ⟨lw_p27, List.forall_mem_cons.mpr ⟨lw_p28, List.forall_mem_cons.mpr ⟨lw_p29, List.forall_mem_cons.mpr ⟨lw_p30, List.forall_mem_cons.mpr ⟨lw_p31, fun _ h => absurd h List.not_mem_nil⟩⟩⟩⟩⟩⟩⟩⟩⟩⟩⟩⟩⟩⟩⟩⟩
theorem lw_p32 : lw_okq (⟨"UrlGate$UrlReader", "pointsIn", "(II)I"⟩, 4) := ⟨⟨by decide +kernel, by decide +kernel⟩, List.mem_of_getElem? (i := 102) (by decide +kernel), List.mem_of_getElem? (i := 683) (by decide +kernel), List.mem_of_getElem? (i := 684) (by decide +kernel)⟩
theorem lw_p33 : lw_okq (⟨"UrlGate$UrlReader", "readQuery", "(LUrlGate$Url;)V"⟩, 4) := ⟨⟨by decide +kernel, by decide +kernel⟩, List.mem_of_getElem? (i := 102) (by decide +kernel), List.mem_of_getElem? (i := 695) (by decide +kernel), List.mem_of_getElem? (i := 696) (by decide +kernel)⟩
theorem lw_p34 : lw_okq (⟨"UrlGate$UrlReader", "readFragment", "(LUrlGate$Url;)V"⟩, 4) := ⟨⟨by decide +kernel, by decide +kernel⟩, List.mem_of_getElem? (i := 102) (by decide +kernel), List.mem_of_getElem? (i := 700) (by decide +kernel), List.mem_of_getElem? (i := 701) (by decide +kernel)⟩
theorem lw_p35 : lw_okq (⟨"UrlGate", "hearHost", "()I"⟩, 8) := ⟨⟨by decide +kernel, by decide +kernel⟩, List.mem_of_getElem? (i := 20) (by decide +kernel), List.mem_of_getElem? (i := 781) (by decide +kernel), List.mem_of_getElem? (i := 782) (by decide +kernel)⟩
theorem lw_p36 : lw_okq (⟨"UrlGate$Gate", "isListed", "(LUrlGate$Host;)Z"⟩, 9) := ⟨⟨by decide +kernel, by decide +kernel⟩, List.mem_of_getElem? (i := 123) (by decide +kernel), List.mem_of_getElem? (i := 833) (by decide +kernel), List.mem_of_getElem? (i := 834) (by decide +kernel)⟩
theorem lw_p37 : lw_okq (⟨"UrlGate$Gate", "judgeAnswers", "(LUrlGate$Row;)I"⟩, 9) := ⟨⟨by decide +kernel, by decide +kernel⟩, List.mem_of_getElem? (i := 123) (by decide +kernel), List.mem_of_getElem? (i := 844) (by decide +kernel), List.mem_of_getElem? (i := 845) (by decide +kernel)⟩
theorem lw_p38 : lw_okq (⟨"UrlGate$Gate", "isInSomeRange", "(LUrlGate$Address;)Z"⟩, 9) := ⟨⟨by decide +kernel, by decide +kernel⟩, List.mem_of_getElem? (i := 123) (by decide +kernel), List.mem_of_getElem? (i := 849) (by decide +kernel), List.mem_of_getElem? (i := 850) (by decide +kernel)⟩
theorem lw_p39 : lw_okq (⟨"UrlGate$Address", "isFourInSix", "()Z"⟩, 2) := ⟨⟨by decide +kernel, by decide +kernel⟩, List.mem_of_getElem? (i := 55) (by decide +kernel), List.mem_of_getElem? (i := 857) (by decide +kernel), List.mem_of_getElem? (i := 858) (by decide +kernel)⟩
theorem lw_p40 : lw_okq (⟨"UrlGateModel", "has", "(I)Z"⟩, 35) := ⟨⟨by decide +kernel, by decide +kernel⟩, List.mem_of_getElem? (i := 864) (by decide +kernel), List.mem_of_getElem? (i := 996) (by decide +kernel), List.mem_of_getElem? (i := 997) (by decide +kernel)⟩
theorem lw_p41 : lw_okq (⟨"UrlGateModel", "takeText", "()V"⟩, 35) := ⟨⟨by decide +kernel, by decide +kernel⟩, List.mem_of_getElem? (i := 864) (by decide +kernel), List.mem_of_getElem? (i := 1000) (by decide +kernel), List.mem_of_getElem? (i := 1001) (by decide +kernel)⟩
theorem lw_p42 : lw_okq (⟨"UrlGateModel", "readScheme", "(I)V"⟩, 35) := ⟨⟨by decide +kernel, by decide +kernel⟩, List.mem_of_getElem? (i := 864) (by decide +kernel), List.mem_of_getElem? (i := 1004) (by decide +kernel), List.mem_of_getElem? (i := 1005) (by decide +kernel)⟩
theorem lw_p43 : lw_okq (⟨"UrlGateModel", "byteAt", "(I)I"⟩, 35) := ⟨⟨by decide +kernel, by decide +kernel⟩, List.mem_of_getElem? (i := 864) (by decide +kernel), List.mem_of_getElem? (i := 1008) (by decide +kernel), List.mem_of_getElem? (i := 1009) (by decide +kernel)⟩
theorem lw_p44 : lw_okq (⟨"UrlGateModel", "readRelative", "(II)V"⟩, 35) := ⟨⟨by decide +kernel, by decide +kernel⟩, List.mem_of_getElem? (i := 864) (by decide +kernel), List.mem_of_getElem? (i := 1021) (by decide +kernel), List.mem_of_getElem? (i := 1022) (by decide +kernel)⟩
theorem lw_p45 : lw_okq (⟨"UrlGateModel", "readSlashes", "(I)V"⟩, 35) := ⟨⟨by decide +kernel, by decide +kernel⟩, List.mem_of_getElem? (i := 864) (by decide +kernel), List.mem_of_getElem? (i := 1028) (by decide +kernel), List.mem_of_getElem? (i := 1029) (by decide +kernel)⟩
theorem lw_p46 : lw_okq (⟨"UrlGateModel", "isOver", "(I)Z"⟩, 35) := ⟨⟨by decide +kernel, by decide +kernel⟩, List.mem_of_getElem? (i := 864) (by decide +kernel), List.mem_of_getElem? (i := 1032) (by decide +kernel), List.mem_of_getElem? (i := 1033) (by decide +kernel)⟩
theorem lw_p47 : lw_okq (⟨"UrlGateModel", "addEscaped", "(III)V"⟩, 35) := ⟨⟨by decide +kernel, by decide +kernel⟩, List.mem_of_getElem? (i := 864) (by decide +kernel), List.mem_of_getElem? (i := 1036) (by decide +kernel), List.mem_of_getElem? (i := 1037) (by decide +kernel)⟩
def lw_privs_3 : List (MethodName × Nat) := [(⟨"UrlGate$UrlReader", "pointsIn", "(II)I"⟩, 4), (⟨"UrlGate$UrlReader", "readQuery", "(LUrlGate$Url;)V"⟩, 4), (⟨"UrlGate$UrlReader", "readFragment", "(LUrlGate$Url;)V"⟩, 4), (⟨"UrlGate", "hearHost", "()I"⟩, 8), (⟨"UrlGate$Gate", "isListed", "(LUrlGate$Host;)Z"⟩, 9), (⟨"UrlGate$Gate", "judgeAnswers", "(LUrlGate$Row;)I"⟩, 9), (⟨"UrlGate$Gate", "isInSomeRange", "(LUrlGate$Address;)Z"⟩, 9), (⟨"UrlGate$Address", "isFourInSix", "()Z"⟩, 2), (⟨"UrlGateModel", "has", "(I)Z"⟩, 35), (⟨"UrlGateModel", "takeText", "()V"⟩, 35), (⟨"UrlGateModel", "readScheme", "(I)V"⟩, 35), (⟨"UrlGateModel", "byteAt", "(I)I"⟩, 35), (⟨"UrlGateModel", "readRelative", "(II)V"⟩, 35), (⟨"UrlGateModel", "readSlashes", "(I)V"⟩, 35), (⟨"UrlGateModel", "isOver", "(I)Z"⟩, 35), (⟨"UrlGateModel", "addEscaped", "(III)V"⟩, 35)]
theorem lw_r3 : ∀ q ∈ lw_privs_3, lw_okq q := List.forall_mem_cons.mpr ⟨lw_p32, List.forall_mem_cons.mpr ⟨lw_p33, List.forall_mem_cons.mpr ⟨lw_p34, List.forall_mem_cons.mpr ⟨lw_p35, List.forall_mem_cons.mpr ⟨lw_p36, List.forall_mem_cons.mpr ⟨lw_p37, List.forall_mem_cons.mpr ⟨lw_p38, List.forall_mem_cons.mpr ⟨lw_p39, List.forall_mem_cons.mpr ⟨lw_p40, List.forall_mem_cons.mpr ⟨lw_p41, List.forall_mem_cons.mpr ⟨lw_p42, List.forall_mem_cons.mpr ⟨lw_p43, List.forall_mem_cons.mpr ⟨lw_p44, List.forall_mem_cons.mpr ⟨lw_p45, List.forall_mem_cons.mpr ⟨lw_p46, List.forall_mem_cons.mpr ⟨lw_p47, fun _ h => absurd h List.not_mem_nil⟩⟩⟩⟩⟩⟩⟩⟩⟩⟩⟩⟩⟩⟩⟩⟩
theorem lw_p48 : lw_okq (⟨"UrlGateModel", "add", "(II)V"⟩, 35) := ⟨⟨by decide +kernel, by decide +kernel⟩, List.mem_of_getElem? (i := 864) (by decide +kernel), List.mem_of_getElem? (i := 1043) (by decide +kernel), List.mem_of_getElem? (i := 1044) (by decide +kernel)⟩
theorem lw_p49 : lw_okq (⟨"UrlGateModel", "readHost", "(II)I"⟩, 35) := ⟨⟨by decide +kernel, by decide +kernel⟩, List.mem_of_getElem? (i := 864) (by decide +kernel), List.mem_of_getElem? (i := 1050) (by decide +kernel), List.mem_of_getElem? (i := 1051) (by decide +kernel)⟩
theorem lw_p50 : lw_okq (⟨"UrlGateModel", "readSix", "(II)I"⟩, 35) := ⟨⟨by decide +kernel, by decide +kernel⟩, List.mem_of_getElem? (i := 864) (by decide +kernel), List.mem_of_getElem? (i := 1054) (by decide +kernel), List.mem_of_getElem? (i := 1055) (by decide +kernel)⟩
theorem lw_p51 : lw_okq (⟨"UrlGateModel", "readNumbers", "(III)I"⟩, 35) := ⟨⟨by decide +kernel, by decide +kernel⟩, List.mem_of_getElem? (i := 864) (by decide +kernel), List.mem_of_getElem? (i := 1061) (by decide +kernel), List.mem_of_getElem? (i := 1062) (by decide +kernel)⟩
theorem lw_p52 : lw_okq (⟨"UrlGateModel", "readFour", "()I"⟩, 35) := ⟨⟨by decide +kernel, by decide +kernel⟩, List.mem_of_getElem? (i := 864) (by decide +kernel), List.mem_of_getElem? (i := 1070) (by decide +kernel), List.mem_of_getElem? (i := 1071) (by decide +kernel)⟩
theorem lw_p53 : lw_okq (⟨"UrlGateModel", "numberOf", "(II)J"⟩, 35) := ⟨⟨by decide +kernel, by decide +kernel⟩, List.mem_of_getElem? (i := 864) (by decide +kernel), List.mem_of_getElem? (i := 1074) (by decide +kernel), List.mem_of_getElem? (i := 1075) (by decide +kernel)⟩
theorem lw_p54 : lw_okq (⟨"UrlGateModel", "readPort", "(II)V"⟩, 35) := ⟨⟨by decide +kernel, by decide +kernel⟩, List.mem_of_getElem? (i := 864) (by decide +kernel), List.mem_of_getElem? (i := 1082) (by decide +kernel), List.mem_of_getElem? (i := 1083) (by decide +kernel)⟩
theorem lw_p55 : lw_okq (⟨"UrlGateModel", "readPath", "(I)V"⟩, 35) := ⟨⟨by decide +kernel, by decide +kernel⟩, List.mem_of_getElem? (i := 864) (by decide +kernel), List.mem_of_getElem? (i := 1091) (by decide +kernel), List.mem_of_getElem? (i := 1092) (by decide +kernel)⟩
theorem lw_p56 : lw_okq (⟨"UrlGateModel", "points", "(II)I"⟩, 35) := ⟨⟨by decide +kernel, by decide +kernel⟩, List.mem_of_getElem? (i := 864) (by decide +kernel), List.mem_of_getElem? (i := 1095) (by decide +kernel), List.mem_of_getElem? (i := 1096) (by decide +kernel)⟩
theorem lw_p57 : lw_okq (⟨"UrlGateModel", "dropSegment", "()V"⟩, 35) := ⟨⟨by decide +kernel, by decide +kernel⟩, List.mem_of_getElem? (i := 864) (by decide +kernel), List.mem_of_getElem? (i := 1099) (by decide +kernel), List.mem_of_getElem? (i := 1100) (by decide +kernel)⟩
theorem lw_p58 : lw_okq (⟨"UrlGateModel", "row", "(II)I"⟩, 35) := ⟨⟨by decide +kernel, by decide +kernel⟩, List.mem_of_getElem? (i := 864) (by decide +kernel), List.mem_of_getElem? (i := 1103) (by decide +kernel), List.mem_of_getElem? (i := 1104) (by decide +kernel)⟩
theorem lw_p59 : lw_okq (⟨"UrlGateModel", "readTail", "(I)V"⟩, 35) := ⟨⟨by decide +kernel, by decide +kernel⟩, List.mem_of_getElem? (i := 864) (by decide +kernel), List.mem_of_getElem? (i := 1108) (by decide +kernel), List.mem_of_getElem? (i := 1109) (by decide +kernel)⟩
theorem lw_p60 : lw_okq (⟨"UrlGateModel", "copyHost", "(II)V"⟩, 35) := ⟨⟨by decide +kernel, by decide +kernel⟩, List.mem_of_getElem? (i := 864) (by decide +kernel), List.mem_of_getElem? (i := 1112) (by decide +kernel), List.mem_of_getElem? (i := 1113) (by decide +kernel)⟩
theorem lw_p61 : lw_okq (⟨"UrlGateModel", "copyPart", "(III)V"⟩, 35) := ⟨⟨by decide +kernel, by decide +kernel⟩, List.mem_of_getElem? (i := 864) (by decide +kernel), List.mem_of_getElem? (i := 1116) (by decide +kernel), List.mem_of_getElem? (i := 1117) (by decide +kernel)⟩
theorem lw_p62 : lw_okq (⟨"UrlGateModel", "sizeOf", "(II)I"⟩, 35) := ⟨⟨by decide +kernel, by decide +kernel⟩, List.mem_of_getElem? (i := 864) (by decide +kernel), List.mem_of_getElem? (i := 1120) (by decide +kernel), List.mem_of_getElem? (i := 1121) (by decide +kernel)⟩
theorem lw_p63 : lw_okq (⟨"UrlGateModel", "isWord", "(II)Z"⟩, 35) := ⟨⟨by decide +kernel, by decide +kernel⟩, List.mem_of_getElem? (i := 864) (by decide +kernel), List.mem_of_getElem? (i := 1124) (by decide +kernel), List.mem_of_getElem? (i := 1125) (by decide +kernel)⟩
def lw_privs_4 : List (MethodName × Nat) := [(⟨"UrlGateModel", "add", "(II)V"⟩, 35), (⟨"UrlGateModel", "readHost", "(II)I"⟩, 35), (⟨"UrlGateModel", "readSix", "(II)I"⟩, 35), (⟨"UrlGateModel", "readNumbers", "(III)I"⟩, 35), (⟨"UrlGateModel", "readFour", "()I"⟩, 35), (⟨"UrlGateModel", "numberOf", "(II)J"⟩, 35), (⟨"UrlGateModel", "readPort", "(II)V"⟩, 35), (⟨"UrlGateModel", "readPath", "(I)V"⟩, 35), (⟨"UrlGateModel", "points", "(II)I"⟩, 35), (⟨"UrlGateModel", "dropSegment", "()V"⟩, 35), (⟨"UrlGateModel", "row", "(II)I"⟩, 35), (⟨"UrlGateModel", "readTail", "(I)V"⟩, 35), (⟨"UrlGateModel", "copyHost", "(II)V"⟩, 35), (⟨"UrlGateModel", "copyPart", "(III)V"⟩, 35), (⟨"UrlGateModel", "sizeOf", "(II)I"⟩, 35), (⟨"UrlGateModel", "isWord", "(II)Z"⟩, 35)]
theorem lw_r4 : ∀ q ∈ lw_privs_4, lw_okq q := List.forall_mem_cons.mpr ⟨lw_p48, List.forall_mem_cons.mpr ⟨lw_p49, List.forall_mem_cons.mpr ⟨lw_p50, List.forall_mem_cons.mpr ⟨lw_p51, List.forall_mem_cons.mpr ⟨lw_p52, List.forall_mem_cons.mpr ⟨lw_p53, List.forall_mem_cons.mpr ⟨lw_p54, List.forall_mem_cons.mpr ⟨lw_p55, List.forall_mem_cons.mpr ⟨lw_p56, List.forall_mem_cons.mpr ⟨lw_p57, List.forall_mem_cons.mpr ⟨lw_p58, List.forall_mem_cons.mpr ⟨lw_p59, List.forall_mem_cons.mpr ⟨lw_p60, List.forall_mem_cons.mpr ⟨lw_p61, List.forall_mem_cons.mpr ⟨lw_p62, List.forall_mem_cons.mpr ⟨lw_p63, fun _ h => absurd h List.not_mem_nil⟩⟩⟩⟩⟩⟩⟩⟩⟩⟩⟩⟩⟩⟩⟩⟩
theorem lw_p64 : lw_okq (⟨"UrlGateModel", "writtenLength", "(I)I"⟩, 35) := ⟨⟨by decide +kernel, by decide +kernel⟩, List.mem_of_getElem? (i := 864) (by decide +kernel), List.mem_of_getElem? (i := 1140) (by decide +kernel), List.mem_of_getElem? (i := 1141) (by decide +kernel)⟩
theorem lw_p65 : lw_okq (⟨"UrlGateModel", "writeHost", "(I)V"⟩, 35) := ⟨⟨by decide +kernel, by decide +kernel⟩, List.mem_of_getElem? (i := 864) (by decide +kernel), List.mem_of_getElem? (i := 1144) (by decide +kernel), List.mem_of_getElem? (i := 1145) (by decide +kernel)⟩
theorem lw_p66 : lw_okq (⟨"UrlGateModel", "put", "(I)V"⟩, 35) := ⟨⟨by decide +kernel, by decide +kernel⟩, List.mem_of_getElem? (i := 864) (by decide +kernel), List.mem_of_getElem? (i := 1148) (by decide +kernel), List.mem_of_getElem? (i := 1149) (by decide +kernel)⟩
theorem lw_p67 : lw_okq (⟨"UrlGateModel", "putDecimal", "(I)V"⟩, 35) := ⟨⟨by decide +kernel, by decide +kernel⟩, List.mem_of_getElem? (i := 864) (by decide +kernel), List.mem_of_getElem? (i := 1152) (by decide +kernel), List.mem_of_getElem? (i := 1153) (by decide +kernel)⟩
theorem lw_p68 : lw_okq (⟨"UrlGateModel", "writeSix", "(I)V"⟩, 35) := ⟨⟨by decide +kernel, by decide +kernel⟩, List.mem_of_getElem? (i := 864) (by decide +kernel), List.mem_of_getElem? (i := 1156) (by decide +kernel), List.mem_of_getElem? (i := 1157) (by decide +kernel)⟩
theorem lw_p69 : lw_okq (⟨"UrlGateModel", "putHex", "(I)V"⟩, 35) := ⟨⟨by decide +kernel, by decide +kernel⟩, List.mem_of_getElem? (i := 864) (by decide +kernel), List.mem_of_getElem? (i := 1160) (by decide +kernel), List.mem_of_getElem? (i := 1161) (by decide +kernel)⟩
theorem lw_p70 : lw_okq (⟨"UrlGateModel", "say", "(I)V"⟩, 35) := ⟨⟨by decide +kernel, by decide +kernel⟩, List.mem_of_getElem? (i := 864) (by decide +kernel), List.mem_of_getElem? (i := 1171) (by decide +kernel), List.mem_of_getElem? (i := 1172) (by decide +kernel)⟩
theorem lw_p71 : lw_okq (⟨"UrlGateModel", "sayPart", "(II)V"⟩, 35) := ⟨⟨by decide +kernel, by decide +kernel⟩, List.mem_of_getElem? (i := 864) (by decide +kernel), List.mem_of_getElem? (i := 1175) (by decide +kernel), List.mem_of_getElem? (i := 1176) (by decide +kernel)⟩
theorem lw_p72 : lw_okq (⟨"UrlGateModel", "sayWritten", "()V"⟩, 35) := ⟨⟨by decide +kernel, by decide +kernel⟩, List.mem_of_getElem? (i := 864) (by decide +kernel), List.mem_of_getElem? (i := 1179) (by decide +kernel), List.mem_of_getElem? (i := 1180) (by decide +kernel)⟩
theorem lw_p73 : lw_okq (⟨"UrlGateModel", "readTextHost", "()I"⟩, 35) := ⟨⟨by decide +kernel, by decide +kernel⟩, List.mem_of_getElem? (i := 864) (by decide +kernel), List.mem_of_getElem? (i := 1209) (by decide +kernel), List.mem_of_getElem? (i := 1210) (by decide +kernel)⟩
theorem lw_p74 : lw_okq (⟨"UrlGateModel", "isListed", "(I)Z"⟩, 35) := ⟨⟨by decide +kernel, by decide +kernel⟩, List.mem_of_getElem? (i := 864) (by decide +kernel), List.mem_of_getElem? (i := 1229) (by decide +kernel), List.mem_of_getElem? (i := 1230) (by decide +kernel)⟩
theorem lw_p75 : lw_okq (⟨"UrlGateModel", "isInRange", "(IIIII)Z"⟩, 35) := ⟨⟨by decide +kernel, by decide +kernel⟩, List.mem_of_getElem? (i := 864) (by decide +kernel), List.mem_of_getElem? (i := 1233) (by decide +kernel), List.mem_of_getElem? (i := 1234) (by decide +kernel)⟩
theorem lw_p76 : lw_okq (⟨"UrlGateModel", "pair", "(II)I"⟩, 35) := ⟨⟨by decide +kernel, by decide +kernel⟩, List.mem_of_getElem? (i := 864) (by decide +kernel), List.mem_of_getElem? (i := 1237) (by decide +kernel), List.mem_of_getElem? (i := 1238) (by decide +kernel)⟩
def lw_privs_5 : List (MethodName × Nat) := [(⟨"UrlGateModel", "writtenLength", "(I)I"⟩, 35), (⟨"UrlGateModel", "writeHost", "(I)V"⟩, 35), (⟨"UrlGateModel", "put", "(I)V"⟩, 35), (⟨"UrlGateModel", "putDecimal", "(I)V"⟩, 35), (⟨"UrlGateModel", "writeSix", "(I)V"⟩, 35), (⟨"UrlGateModel", "putHex", "(I)V"⟩, 35), (⟨"UrlGateModel", "say", "(I)V"⟩, 35), (⟨"UrlGateModel", "sayPart", "(II)V"⟩, 35), (⟨"UrlGateModel", "sayWritten", "()V"⟩, 35), (⟨"UrlGateModel", "readTextHost", "()I"⟩, 35), (⟨"UrlGateModel", "isListed", "(I)Z"⟩, 35), (⟨"UrlGateModel", "isInRange", "(IIIII)Z"⟩, 35), (⟨"UrlGateModel", "pair", "(II)I"⟩, 35)]
theorem lw_r5 : ∀ q ∈ lw_privs_5, lw_okq q := List.forall_mem_cons.mpr ⟨lw_p64, List.forall_mem_cons.mpr ⟨lw_p65, List.forall_mem_cons.mpr ⟨lw_p66, List.forall_mem_cons.mpr ⟨lw_p67, List.forall_mem_cons.mpr ⟨lw_p68, List.forall_mem_cons.mpr ⟨lw_p69, List.forall_mem_cons.mpr ⟨lw_p70, List.forall_mem_cons.mpr ⟨lw_p71, List.forall_mem_cons.mpr ⟨lw_p72, List.forall_mem_cons.mpr ⟨lw_p73, List.forall_mem_cons.mpr ⟨lw_p74, List.forall_mem_cons.mpr ⟨lw_p75, List.forall_mem_cons.mpr ⟨lw_p76, fun _ h => absurd h List.not_mem_nil⟩⟩⟩⟩⟩⟩⟩⟩⟩⟩⟩⟩⟩
def lw_privs : List (MethodName × Nat) := lw_privs_1 ++ (lw_privs_2 ++ (lw_privs_3 ++ (lw_privs_4 ++ (lw_privs_5))))
def lw_tbl : List Cond := k2_sels lw_privs ++ tables_1
theorem lw_privs_ok : ∀ q ∈ lw_privs, lw_okq q := by
  show ∀ q ∈ lw_privs_1 ++ (lw_privs_2 ++ (lw_privs_3 ++ (lw_privs_4 ++ (lw_privs_5)))), lw_okq q
  exact List.forall_mem_append.mpr ⟨lw_r1, List.forall_mem_append.mpr ⟨lw_r2, List.forall_mem_append.mpr ⟨lw_r3, List.forall_mem_append.mpr ⟨lw_r4, lw_r5⟩⟩⟩⟩
-- ===== end of PART A; then your names; then what follows =====
end
section
def RX0 : String := "UrlGate$Address"
def TX0 : u_T := fun k => match k with
  | 0 => ("UrlGate$Address", "kind", "I", false)
  | _ => ("UrlGate$Address", "words", "[I", true)
def tyX0 : Nat → FieldType := fun k => match k with
  | 0 => .int
  | _ => .array .int
theorem nmX0 : ∀ a, a < 2 → ∀ b, b < 2 → a ≠ b → (TX0 a).2.1 ≠ (TX0 b).2.1 := by decide +kernel
theorem tyX0_ok : ∀ k, k < 2 → parseFieldDescriptor (TX0 k).2.2.1 = some (tyX0 k) := by decide +kernel
abbrev cX0_init : ByteArray := prog_2_method_1_code
def yX0_init : MethodName := ⟨RX0, "<init>", "()V"⟩
abbrev cX0_setTo : ByteArray := prog_2_method_2_code
def yX0_setTo : MethodName := ⟨RX0, "setTo", "(IIIII)V"⟩
abbrev cX0_take : ByteArray := prog_2_method_3_code
def yX0_take : MethodName := ⟨RX0, "take", "(LUrlGate$Address;)V"⟩
abbrev cX0_numberAt : ByteArray := prog_2_method_4_code
def yX0_numberAt : MethodName := ⟨RX0, "numberAt", "(I)I"⟩
abbrev cX0_isIn : ByteArray := prog_2_method_5_code
def yX0_isIn : MethodName := ⟨RX0, "isIn", "(LUrlGate$Address;I)Z"⟩
abbrev cX0_isFourInSix : ByteArray := prog_2_method_6_code
def yX0_isFourInSix : MethodName := ⟨RX0, "isFourInSix", "()Z"⟩
abbrev cX0_agree : ByteArray := prog_2_method_7_code
def yX0_agree : MethodName := ⟨RX0, "agree", "(III)Z"⟩
def RX1 : String := "UrlGate$Bytes"
def TX1 : u_T := fun k => match k with
  | _ => ("", "", "", false)
def tyX1 : Nat → FieldType := fun k => match k with
  | _ => .int
theorem nmX1 : ∀ a, a < 0 → ∀ b, b < 0 → a ≠ b → (TX1 a).2.1 ≠ (TX1 b).2.1 := by decide +kernel
theorem tyX1_ok : ∀ k, k < 0 → parseFieldDescriptor (TX1 k).2.2.1 = some (tyX1 k) := by decide +kernel
abbrev cX1_isDigit : ByteArray := prog_3_method_2_code
def yX1_isDigit : MethodName := ⟨RX1, "isDigit", "(I)Z"⟩
abbrev cX1_isLetter : ByteArray := prog_3_method_3_code
def yX1_isLetter : MethodName := ⟨RX1, "isLetter", "(I)Z"⟩
abbrev cX1_low : ByteArray := prog_3_method_4_code
def yX1_low : MethodName := ⟨RX1, "low", "(I)I"⟩
abbrev cX1_isSlash : ByteArray := prog_3_method_5_code
def yX1_isSlash : MethodName := ⟨RX1, "isSlash", "(I)Z"⟩
abbrev cX1_isDivider : ByteArray := prog_3_method_6_code
def yX1_isDivider : MethodName := ⟨RX1, "isDivider", "(I)Z"⟩
abbrev cX1_hexValue : ByteArray := prog_3_method_7_code
def yX1_hexValue : MethodName := ⟨RX1, "hexValue", "(I)I"⟩
abbrev cX1_isToEscape : ByteArray := prog_3_method_8_code
def yX1_isToEscape : MethodName := ⟨RX1, "isToEscape", "(ILjava/lang/String;)Z"⟩
abbrev cX1_isWrongInName : ByteArray := prog_3_method_9_code
def yX1_isWrongInName : MethodName := ⟨RX1, "isWrongInName", "(I)Z"⟩
def RX2 : String := "UrlGate$Gate"
def TX2 : u_T := fun k => match k with
  | 0 => ("UrlGate$Gate", "hosts", "[LUrlGate$Host;", true)
  | 1 => ("UrlGate$Gate", "open", "[Z", true)
  | 2 => ("UrlGate$Gate", "hostCount", "I", false)
  | 3 => ("UrlGate$Gate", "names", "[LUrlGate$Row;", true)
  | 4 => ("UrlGate$Gate", "answers", "[LUrlGate$Address;", true)
  | 5 => ("UrlGate$Gate", "answerCount", "I", false)
  | 6 => ("UrlGate$Gate", "ranges", "[LUrlGate$Address;", true)
  | 7 => ("UrlGate$Gate", "rangeBits", "[I", true)
  | _ => ("UrlGate$Gate", "rangeCount", "I", false)
def tyX2 : Nat → FieldType := fun k => match k with
  | 0 => .array (.object "UrlGate$Host")
  | 1 => .array .boolean
  | 2 => .int
  | 3 => .array (.object "UrlGate$Row")
  | 4 => .array (.object "UrlGate$Address")
  | 5 => .int
  | 6 => .array (.object "UrlGate$Address")
  | 7 => .array .int
  | _ => .int
theorem nmX2 : ∀ a, a < 9 → ∀ b, b < 9 → a ≠ b → (TX2 a).2.1 ≠ (TX2 b).2.1 := by decide +kernel
theorem tyX2_ok : ∀ k, k < 9 → parseFieldDescriptor (TX2 k).2.2.1 = some (tyX2 k) := by decide +kernel
abbrev cX2_init : ByteArray := prog_4_method_1_code
def yX2_init : MethodName := ⟨RX2, "<init>", "()V"⟩
abbrev cX2_addHost : ByteArray := prog_4_method_2_code
def yX2_addHost : MethodName := ⟨RX2, "addHost", "(LUrlGate$Host;Z)I"⟩
abbrev cX2_addAnswer : ByteArray := prog_4_method_3_code
def yX2_addAnswer : MethodName := ⟨RX2, "addAnswer", "(LUrlGate$Row;IIIII)I"⟩
abbrev cX2_addRange : ByteArray := prog_4_method_4_code
def yX2_addRange : MethodName := ⟨RX2, "addRange", "(IIIIII)I"⟩
abbrev cX2_forget : ByteArray := prog_4_method_5_code
def yX2_forget : MethodName := ⟨RX2, "forget", "()I"⟩
abbrev cX2_judge : ByteArray := prog_4_method_6_code
def yX2_judge : MethodName := ⟨RX2, "judge", "(LUrlGate$Url;)I"⟩
abbrev cX2_isListed : ByteArray := prog_4_method_7_code
def yX2_isListed : MethodName := ⟨RX2, "isListed", "(LUrlGate$Host;)Z"⟩
abbrev cX2_isBelow : ByteArray := prog_4_method_8_code
def yX2_isBelow : MethodName := ⟨RX2, "isBelow", "(LUrlGate$Host;LUrlGate$Host;)Z"⟩
abbrev cX2_judgeAnswers : ByteArray := prog_4_method_9_code
def yX2_judgeAnswers : MethodName := ⟨RX2, "judgeAnswers", "(LUrlGate$Row;)I"⟩
abbrev cX2_isInSomeRange : ByteArray := prog_4_method_10_code
def yX2_isInSomeRange : MethodName := ⟨RX2, "isInSomeRange", "(LUrlGate$Address;)Z"⟩
def RX3 : String := "UrlGate$Host"
def TX3 : u_T := fun k => match k with
  | 0 => ("UrlGate$Host", "address", "LUrlGate$Address;", true)
  | _ => ("UrlGate$Host", "written", "LUrlGate$Row;", true)
def tyX3 : Nat → FieldType := fun k => match k with
  | 0 => .object "UrlGate$Address"
  | _ => .object "UrlGate$Row"
theorem nmX3 : ∀ a, a < 2 → ∀ b, b < 2 → a ≠ b → (TX3 a).2.1 ≠ (TX3 b).2.1 := by decide +kernel
theorem tyX3_ok : ∀ k, k < 2 → parseFieldDescriptor (TX3 k).2.2.1 = some (tyX3 k) := by decide +kernel
abbrev cX3_init : ByteArray := prog_5_method_1_code
def yX3_init : MethodName := ⟨RX3, "<init>", "()V"⟩
abbrev cX3_isName : ByteArray := prog_5_method_2_code
def yX3_isName : MethodName := ⟨RX3, "isName", "()Z"⟩
abbrev cX3_take : ByteArray := prog_5_method_3_code
def yX3_take : MethodName := ⟨RX3, "take", "(LUrlGate$Host;)V"⟩
abbrev cX3_equalsHost : ByteArray := prog_5_method_4_code
def yX3_equalsHost : MethodName := ⟨RX3, "equalsHost", "(LUrlGate$Host;)Z"⟩
abbrev cX3_setName : ByteArray := prog_5_method_5_code
def yX3_setName : MethodName := ⟨RX3, "setName", "(LUrlGate$Row;)V"⟩
abbrev cX3_setFour : ByteArray := prog_5_method_6_code
def yX3_setFour : MethodName := ⟨RX3, "setFour", "(I)V"⟩
abbrev cX3_setSix : ByteArray := prog_5_method_7_code
def yX3_setSix : MethodName := ⟨RX3, "setSix", "(IIII)V"⟩
abbrev cX3_firstLongestGap : ByteArray := prog_5_method_8_code
def yX3_firstLongestGap : MethodName := ⟨RX3, "firstLongestGap", "()I"⟩
abbrev cX3_zerosFrom : ByteArray := prog_5_method_9_code
def yX3_zerosFrom : MethodName := ⟨RX3, "zerosFrom", "(I)I"⟩
def RX4 : String := "UrlGate$HostReader"
def TX4 : u_T := fun k => match k with
  | 0 => ("UrlGate$HostReader", "name", "LUrlGate$Row;", true)
  | 1 => ("UrlGate$HostReader", "pieces", "[I", true)
  | _ => ("UrlGate$HostReader", "pieceCount", "I", false)
def tyX4 : Nat → FieldType := fun k => match k with
  | 0 => .object "UrlGate$Row"
  | 1 => .array .int
  | _ => .int
theorem nmX4 : ∀ a, a < 3 → ∀ b, b < 3 → a ≠ b → (TX4 a).2.1 ≠ (TX4 b).2.1 := by decide +kernel
theorem tyX4_ok : ∀ k, k < 3 → parseFieldDescriptor (TX4 k).2.2.1 = some (tyX4 k) := by decide +kernel
abbrev cX4_init : ByteArray := prog_6_method_1_code
def yX4_init : MethodName := ⟨RX4, "<init>", "()V"⟩
abbrev cX4_readHost : ByteArray := prog_6_method_2_code
def yX4_readHost : MethodName := ⟨RX4, "readHost", "(LUrlGate$Row;IILUrlGate$Host;)I"⟩
abbrev cX4_decode : ByteArray := prog_6_method_3_code
def yX4_decode : MethodName := ⟨RX4, "decode", "(LUrlGate$Row;II)V"⟩
abbrev cX4_hasWrongByte : ByteArray := prog_6_method_4_code
def yX4_hasWrongByte : MethodName := ⟨RX4, "hasWrongByte", "()Z"⟩
abbrev cX4_hasForeignPart : ByteArray := prog_6_method_5_code
def yX4_hasForeignPart : MethodName := ⟨RX4, "hasForeignPart", "()Z"⟩
abbrev cX4_lastPartStart : ByteArray := prog_6_method_6_code
def yX4_lastPartStart : MethodName := ⟨RX4, "lastPartStart", "(I)I"⟩
abbrev cX4_isNumeral : ByteArray := prog_6_method_7_code
def yX4_isNumeral : MethodName := ⟨RX4, "isNumeral", "(II)Z"⟩
abbrev cX4_isHex : ByteArray := prog_6_method_8_code
def yX4_isHex : MethodName := ⟨RX4, "isHex", "(II)Z"⟩
abbrev cX4_readFour : ByteArray := prog_6_method_9_code
def yX4_readFour : MethodName := ⟨RX4, "readFour", "(ILUrlGate$Host;)I"⟩
abbrev cX4_partEnd : ByteArray := prog_6_method_10_code
def yX4_partEnd : MethodName := ⟨RX4, "partEnd", "(II)I"⟩
abbrev cX4_numeralValue : ByteArray := prog_6_method_11_code
def yX4_numeralValue : MethodName := ⟨RX4, "numeralValue", "(II)J"⟩
abbrev cX4_readSix : ByteArray := prog_6_method_12_code
def yX4_readSix : MethodName := ⟨RX4, "readSix", "(LUrlGate$Row;IILUrlGate$Host;)I"⟩
abbrev cX4_findGap : ByteArray := prog_6_method_13_code
def yX4_findGap : MethodName := ⟨RX4, "findGap", "(LUrlGate$Row;II)I"⟩
abbrev cX4_readPieces : ByteArray := prog_6_method_14_code
def yX4_readPieces : MethodName := ⟨RX4, "readPieces", "(LUrlGate$Row;IIZ)Z"⟩
abbrev cX4_readPiece : ByteArray := prog_6_method_15_code
def yX4_readPiece : MethodName := ⟨RX4, "readPiece", "(LUrlGate$Row;II)Z"⟩
abbrev cX4_readPoints : ByteArray := prog_6_method_16_code
def yX4_readPoints : MethodName := ⟨RX4, "readPoints", "(LUrlGate$Row;II)Z"⟩
abbrev cX4_addPiece : ByteArray := prog_6_method_17_code
def yX4_addPiece : MethodName := ⟨RX4, "addPiece", "(I)Z"⟩
abbrev cX4_spread : ByteArray := prog_6_method_18_code
def yX4_spread : MethodName := ⟨RX4, "spread", "(I)V"⟩
abbrev cX4_wordAt : ByteArray := prog_6_method_19_code
def yX4_wordAt : MethodName := ⟨RX4, "wordAt", "(I)I"⟩
def RX5 : String := "UrlGate$Row"
def TX5 : u_T := fun k => match k with
  | 0 => ("UrlGate$Row", "bytes", "[I", false)
  | _ => ("UrlGate$Row", "length", "I", false)
def tyX5 : Nat → FieldType := fun k => match k with
  | 0 => .array .int
  | _ => .int
theorem nmX5 : ∀ a, a < 2 → ∀ b, b < 2 → a ≠ b → (TX5 a).2.1 ≠ (TX5 b).2.1 := by decide +kernel
theorem tyX5_ok : ∀ k, k < 2 → parseFieldDescriptor (TX5 k).2.2.1 = some (tyX5 k) := by decide +kernel
abbrev cX5_init : ByteArray := prog_7_method_1_code
def yX5_init : MethodName := ⟨RX5, "<init>", "()V"⟩
abbrev cX5_byteAt : ByteArray := prog_7_method_2_code
def yX5_byteAt : MethodName := ⟨RX5, "byteAt", "(I)I"⟩
abbrev cX5_add : ByteArray := prog_7_method_3_code
def yX5_add : MethodName := ⟨RX5, "add", "(I)V"⟩
abbrev cX5_cutTo : ByteArray := prog_7_method_4_code
def yX5_cutTo : MethodName := ⟨RX5, "cutTo", "(I)V"⟩
abbrev cX5_addRow : ByteArray := prog_7_method_5_code
def yX5_addRow : MethodName := ⟨RX5, "addRow", "(LUrlGate$Row;)V"⟩
abbrev cX5_addText : ByteArray := prog_7_method_6_code
def yX5_addText : MethodName := ⟨RX5, "addText", "(Ljava/lang/String;)V"⟩
abbrev cX5_take : ByteArray := prog_7_method_7_code
def yX5_take : MethodName := ⟨RX5, "take", "(LUrlGate$Row;)V"⟩
abbrev cX5_addEscaped : ByteArray := prog_7_method_8_code
def yX5_addEscaped : MethodName := ⟨RX5, "addEscaped", "(ILjava/lang/String;)V"⟩
abbrev cX5_addDecimal : ByteArray := prog_7_method_9_code
def yX5_addDecimal : MethodName := ⟨RX5, "addDecimal", "(I)V"⟩
abbrev cX5_addHex : ByteArray := prog_7_method_10_code
def yX5_addHex : MethodName := ⟨RX5, "addHex", "(I)V"⟩
abbrev cX5_equalsRow : ByteArray := prog_7_method_11_code
def yX5_equalsRow : MethodName := ⟨RX5, "equalsRow", "(LUrlGate$Row;)Z"⟩
abbrev cX5_endsWith : ByteArray := prog_7_method_12_code
def yX5_endsWith : MethodName := ⟨RX5, "endsWith", "(LUrlGate$Row;)Z"⟩
abbrev cX5_hasAt : ByteArray := prog_7_method_13_code
def yX5_hasAt : MethodName := ⟨RX5, "hasAt", "(ILjava/lang/String;)Z"⟩
def RX6 : String := "UrlGate$Url"
def TX6 : u_T := fun k => match k with
  | 0 => ("UrlGate$Url", "scheme", "I", false)
  | 1 => ("UrlGate$Url", "schemeName", "LUrlGate$Row;", true)
  | 2 => ("UrlGate$Url", "user", "LUrlGate$Row;", true)
  | 3 => ("UrlGate$Url", "password", "LUrlGate$Row;", true)
  | 4 => ("UrlGate$Url", "host", "LUrlGate$Host;", true)
  | 5 => ("UrlGate$Url", "port", "I", false)
  | 6 => ("UrlGate$Url", "path", "LUrlGate$Row;", true)
  | 7 => ("UrlGate$Url", "segments", "I", false)
  | 8 => ("UrlGate$Url", "query", "LUrlGate$Row;", true)
  | 9 => ("UrlGate$Url", "hasQuery", "Z", false)
  | 10 => ("UrlGate$Url", "fragment", "LUrlGate$Row;", true)
  | _ => ("UrlGate$Url", "hasFragment", "Z", false)
def tyX6 : Nat → FieldType := fun k => match k with
  | 0 => .int
  | 1 => .object "UrlGate$Row"
  | 2 => .object "UrlGate$Row"
  | 3 => .object "UrlGate$Row"
  | 4 => .object "UrlGate$Host"
  | 5 => .int
  | 6 => .object "UrlGate$Row"
  | 7 => .int
  | 8 => .object "UrlGate$Row"
  | 9 => .boolean
  | 10 => .object "UrlGate$Row"
  | _ => .boolean
theorem nmX6 : ∀ a, a < 12 → ∀ b, b < 12 → a ≠ b → (TX6 a).2.1 ≠ (TX6 b).2.1 := by decide +kernel
theorem tyX6_ok : ∀ k, k < 12 → parseFieldDescriptor (TX6 k).2.2.1 = some (tyX6 k) := by decide +kernel
abbrev cX6_init : ByteArray := prog_8_method_1_code
def yX6_init : MethodName := ⟨RX6, "<init>", "()V"⟩
abbrev cX6_nameOf : ByteArray := prog_8_method_2_code
def yX6_nameOf : MethodName := ⟨RX6, "nameOf", "(I)Ljava/lang/String;"⟩
abbrev cX6_portOf : ByteArray := prog_8_method_3_code
def yX6_portOf : MethodName := ⟨RX6, "portOf", "(I)I"⟩
abbrev cX6_empty : ByteArray := prog_8_method_4_code
def yX6_empty : MethodName := ⟨RX6, "empty", "()V"⟩
abbrev cX6_setScheme : ByteArray := prog_8_method_5_code
def yX6_setScheme : MethodName := ⟨RX6, "setScheme", "(I)V"⟩
abbrev cX6_takeAuthority : ByteArray := prog_8_method_6_code
def yX6_takeAuthority : MethodName := ⟨RX6, "takeAuthority", "(LUrlGate$Url;)V"⟩
abbrev cX6_takePath : ByteArray := prog_8_method_7_code
def yX6_takePath : MethodName := ⟨RX6, "takePath", "(LUrlGate$Url;)V"⟩
abbrev cX6_takeQuery : ByteArray := prog_8_method_8_code
def yX6_takeQuery : MethodName := ⟨RX6, "takeQuery", "(LUrlGate$Url;)V"⟩
abbrev cX6_beginSegment : ByteArray := prog_8_method_9_code
def yX6_beginSegment : MethodName := ⟨RX6, "beginSegment", "()V"⟩
abbrev cX6_dropSegment : ByteArray := prog_8_method_10_code
def yX6_dropSegment : MethodName := ⟨RX6, "dropSegment", "()V"⟩
abbrev cX6_portThatCounts : ByteArray := prog_8_method_11_code
def yX6_portThatCounts : MethodName := ⟨RX6, "portThatCounts", "()I"⟩
abbrev cX6_hasOriginOf : ByteArray := prog_8_method_12_code
def yX6_hasOriginOf : MethodName := ⟨RX6, "hasOriginOf", "(LUrlGate$Url;)Z"⟩
abbrev cX6_hasUser : ByteArray := prog_8_method_13_code
def yX6_hasUser : MethodName := ⟨RX6, "hasUser", "()Z"⟩
abbrev cX6_rowOf : ByteArray := prog_8_method_14_code
def yX6_rowOf : MethodName := ⟨RX6, "rowOf", "(I)LUrlGate$Row;"⟩
abbrev cX6_writeTo : ByteArray := prog_8_method_15_code
def yX6_writeTo : MethodName := ⟨RX6, "writeTo", "(LUrlGate$Row;)V"⟩
def RX7 : String := "UrlGate$UrlReader"
def TX7 : u_T := fun k => match k with
  | 0 => ("UrlGate$UrlReader", "source", "LUrlGate$Row;", true)
  | 1 => ("UrlGate$UrlReader", "here", "I", false)
  | 2 => ("UrlGate$UrlReader", "hostStart", "I", false)
  | _ => ("UrlGate$UrlReader", "hostEnd", "I", false)
def tyX7 : Nat → FieldType := fun k => match k with
  | 0 => .object "UrlGate$Row"
  | 1 => .int
  | 2 => .int
  | _ => .int
theorem nmX7 : ∀ a, a < 4 → ∀ b, b < 4 → a ≠ b → (TX7 a).2.1 ≠ (TX7 b).2.1 := by decide +kernel
theorem tyX7_ok : ∀ k, k < 4 → parseFieldDescriptor (TX7 k).2.2.1 = some (tyX7 k) := by decide +kernel
abbrev cX7_init : ByteArray := prog_9_method_1_code
def yX7_init : MethodName := ⟨RX7, "<init>", "()V"⟩
abbrev cX7_readUrl : ByteArray := prog_9_method_2_code
def yX7_readUrl : MethodName := ⟨RX7, "readUrl", "(LUrlGate$Row;LUrlGate$Url;LUrlGate$Url;LUrlGate$HostReader;)I"⟩
abbrev cX7_tidy : ByteArray := prog_9_method_3_code
def yX7_tidy : MethodName := ⟨RX7, "tidy", "(LUrlGate$Row;)V"⟩
abbrev cX7_readScheme : ByteArray := prog_9_method_4_code
def yX7_readScheme : MethodName := ⟨RX7, "readScheme", "(LUrlGate$Url;LUrlGate$Url;)I"⟩
abbrev cX7_schemeEnd : ByteArray := prog_9_method_5_code
def yX7_schemeEnd : MethodName := ⟨RX7, "schemeEnd", "()I"⟩
abbrev cX7_mayBeInScheme : ByteArray := prog_9_method_6_code
def yX7_mayBeInScheme : MethodName := ⟨RX7, "mayBeInScheme", "(I)Z"⟩
abbrev cX7_schemeUpTo : ByteArray := prog_9_method_7_code
def yX7_schemeUpTo : MethodName := ⟨RX7, "schemeUpTo", "(I)I"⟩
abbrev cX7_isWord : ByteArray := prog_9_method_8_code
def yX7_isWord : MethodName := ⟨RX7, "isWord", "(ILjava/lang/String;)Z"⟩
abbrev cX7_readRelative : ByteArray := prog_9_method_9_code
def yX7_readRelative : MethodName := ⟨RX7, "readRelative", "(LUrlGate$Url;LUrlGate$Url;)I"⟩
abbrev cX7_readAuthority : ByteArray := prog_9_method_10_code
def yX7_readAuthority : MethodName := ⟨RX7, "readAuthority", "(LUrlGate$Url;)I"⟩
abbrev cX7_readUser : ByteArray := prog_9_method_11_code
def yX7_readUser : MethodName := ⟨RX7, "readUser", "(IILUrlGate$Url;)V"⟩
abbrev cX7_hostEndFrom : ByteArray := prog_9_method_12_code
def yX7_hostEndFrom : MethodName := ⟨RX7, "hostEndFrom", "(II)I"⟩
abbrev cX7_readPort : ByteArray := prog_9_method_13_code
def yX7_readPort : MethodName := ⟨RX7, "readPort", "(LUrlGate$Url;)I"⟩
abbrev cX7_readSegments : ByteArray := prog_9_method_14_code
def yX7_readSegments : MethodName := ⟨RX7, "readSegments", "(LUrlGate$Url;)V"⟩
abbrev cX7_takeSegment : ByteArray := prog_9_method_15_code
def yX7_takeSegment : MethodName := ⟨RX7, "takeSegment", "(IIZLUrlGate$Url;)V"⟩
abbrev cX7_pointsIn : ByteArray := prog_9_method_16_code
def yX7_pointsIn : MethodName := ⟨RX7, "pointsIn", "(II)I"⟩
abbrev cX7_readQuery : ByteArray := prog_9_method_17_code
def yX7_readQuery : MethodName := ⟨RX7, "readQuery", "(LUrlGate$Url;)V"⟩
abbrev cX7_readFragment : ByteArray := prog_9_method_18_code
def yX7_readFragment : MethodName := ⟨RX7, "readFragment", "(LUrlGate$Url;)V"⟩
def RX8 : String := "UrlGate"
def TX8 : u_T := fun k => match k with
  | 0 => ("UrlGate", "text", "LUrlGate$Row;", true)
  | 1 => ("UrlGate", "draft", "LUrlGate$Row;", true)
  | 2 => ("UrlGate", "places", "[LUrlGate$Url;", true)
  | 3 => ("UrlGate", "heard", "LUrlGate$Host;", true)
  | 4 => ("UrlGate", "hostReader", "LUrlGate$HostReader;", true)
  | 5 => ("UrlGate", "urlReader", "LUrlGate$UrlReader;", true)
  | 6 => ("UrlGate", "gate", "LUrlGate$Gate;", true)
  | _ => ("UrlGate", "spare", "LUrlGate$Url;", false)
def tyX8 : Nat → FieldType := fun k => match k with
  | 0 => .object "UrlGate$Row"
  | 1 => .object "UrlGate$Row"
  | 2 => .array (.object "UrlGate$Url")
  | 3 => .object "UrlGate$Host"
  | 4 => .object "UrlGate$HostReader"
  | 5 => .object "UrlGate$UrlReader"
  | 6 => .object "UrlGate$Gate"
  | _ => .object "UrlGate$Url"
theorem nmX8 : ∀ a, a < 8 → ∀ b, b < 8 → a ≠ b → (TX8 a).2.1 ≠ (TX8 b).2.1 := by decide +kernel
theorem tyX8_ok : ∀ k, k < 8 → parseFieldDescriptor (TX8 k).2.2.1 = some (tyX8 k) := by decide +kernel
abbrev cX8_init : ByteArray := prog_1_method_1_code
def yX8_init : MethodName := ⟨RX8, "<init>", "()V"⟩
abbrev cX8_type : ByteArray := prog_1_method_2_code
def yX8_type : MethodName := ⟨RX8, "type", "(JI)I"⟩
abbrev cX8_erase : ByteArray := prog_1_method_3_code
def yX8_erase : MethodName := ⟨RX8, "erase", "()I"⟩
abbrev cX8_read : ByteArray := prog_1_method_4_code
def yX8_read : MethodName := ⟨RX8, "read", "(II)I"⟩
abbrev cX8_write : ByteArray := prog_1_method_5_code
def yX8_write : MethodName := ⟨RX8, "write", "(I)I"⟩
abbrev cX8_at : ByteArray := prog_1_method_6_code
def yX8_at : MethodName := ⟨RX8, "at", "(I)I"⟩
abbrev cX8_size : ByteArray := prog_1_method_7_code
def yX8_size : MethodName := ⟨RX8, "size", "(II)I"⟩
abbrev cX8_part : ByteArray := prog_1_method_8_code
def yX8_part : MethodName := ⟨RX8, "part", "(III)I"⟩
abbrev cX8_told : ByteArray := prog_1_method_9_code
def yX8_told : MethodName := ⟨RX8, "told", "(II)I"⟩
abbrev cX8_number : ByteArray := prog_1_method_10_code
def yX8_number : MethodName := ⟨RX8, "number", "(II)I"⟩
abbrev cX8_same : ByteArray := prog_1_method_11_code
def yX8_same : MethodName := ⟨RX8, "same", "(II)I"⟩
abbrev cX8_list : ByteArray := prog_1_method_12_code
def yX8_list : MethodName := ⟨RX8, "list", "(Z)I"⟩
abbrev cX8_resolve : ByteArray := prog_1_method_13_code
def yX8_resolve : MethodName := ⟨RX8, "resolve", "(IIIII)I"⟩
abbrev cX8_range : ByteArray := prog_1_method_14_code
def yX8_range : MethodName := ⟨RX8, "range", "(IIIIII)I"⟩
abbrev cX8_clear : ByteArray := prog_1_method_15_code
def yX8_clear : MethodName := ⟨RX8, "clear", "()I"⟩
abbrev cX8_pass : ByteArray := prog_1_method_16_code
def yX8_pass : MethodName := ⟨RX8, "pass", "(I)I"⟩
abbrev cX8_recordAt : ByteArray := prog_1_method_17_code
def yX8_recordAt : MethodName := ⟨RX8, "recordAt", "(I)LUrlGate$Url;"⟩
abbrev cX8_hearHost : ByteArray := prog_1_method_18_code
def yX8_hearHost : MethodName := ⟨RX8, "hearHost", "()I"⟩
def RX9 : String := "UrlGateModel"
def TX9 : u_T := fun k => match k with
  | 0 => ("UrlGateModel", "text", "[B", true)
  | 1 => ("UrlGateModel", "textSize", "I", false)
  | 2 => ("UrlGateModel", "there", "[Z", true)
  | 3 => ("UrlGateModel", "schemes", "[I", true)
  | 4 => ("UrlGateModel", "ports", "[I", true)
  | 5 => ("UrlGateModel", "kinds", "[I", true)
  | 6 => ("UrlGateModel", "numbers", "[I", true)
  | 7 => ("UrlGateModel", "hasQuery", "[Z", true)
  | 8 => ("UrlGateModel", "hasFragment", "[Z", true)
  | 9 => ("UrlGateModel", "bytes", "[B", true)
  | 10 => ("UrlGateModel", "sizes", "[I", true)
  | 11 => ("UrlGateModel", "in", "[B", true)
  | 12 => ("UrlGateModel", "size", "I", false)
  | 13 => ("UrlGateModel", "fault", "I", false)
  | 14 => ("UrlGateModel", "host", "[B", true)
  | 15 => ("UrlGateModel", "hostSize", "I", false)
  | 16 => ("UrlGateModel", "hostKind", "I", false)
  | 17 => ("UrlGateModel", "hostNumbers", "[I", true)
  | 18 => ("UrlGateModel", "written", "[B", true)
  | 19 => ("UrlGateModel", "writtenSize", "I", false)
  | 20 => ("UrlGateModel", "listedName", "[B", true)
  | 21 => ("UrlGateModel", "listedSize", "[I", true)
  | 22 => ("UrlGateModel", "listedKind", "[I", true)
  | 23 => ("UrlGateModel", "listedNumbers", "[I", true)
  | 24 => ("UrlGateModel", "listedOpen", "[Z", true)
  | 25 => ("UrlGateModel", "listed", "I", false)
  | 26 => ("UrlGateModel", "resolvedName", "[B", true)
  | 27 => ("UrlGateModel", "resolvedSize", "[I", true)
  | 28 => ("UrlGateModel", "resolvedKind", "[I", true)
  | 29 => ("UrlGateModel", "resolvedBits", "[I", true)
  | 30 => ("UrlGateModel", "resolved", "I", false)
  | 31 => ("UrlGateModel", "rangeKind", "[I", true)
  | 32 => ("UrlGateModel", "rangeBits", "[I", true)
  | 33 => ("UrlGateModel", "rangeMany", "[I", true)
  | _ => ("UrlGateModel", "ranges", "I", false)
def tyX9 : Nat → FieldType := fun k => match k with
  | 0 => .array .byte
  | 1 => .int
  | 2 => .array .boolean
  | 3 => .array .int
  | 4 => .array .int
  | 5 => .array .int
  | 6 => .array .int
  | 7 => .array .boolean
  | 8 => .array .boolean
  | 9 => .array .byte
  | 10 => .array .int
  | 11 => .array .byte
  | 12 => .int
  | 13 => .int
  | 14 => .array .byte
  | 15 => .int
  | 16 => .int
  | 17 => .array .int
  | 18 => .array .byte
  | 19 => .int
  | 20 => .array .byte
  | 21 => .array .int
  | 22 => .array .int
  | 23 => .array .int
  | 24 => .array .boolean
  | 25 => .int
  | 26 => .array .byte
  | 27 => .array .int
  | 28 => .array .int
  | 29 => .array .int
  | 30 => .int
  | 31 => .array .int
  | 32 => .array .int
  | 33 => .array .int
  | _ => .int
theorem nmX9 : ∀ a, a < 35 → ∀ b, b < 35 → a ≠ b → (TX9 a).2.1 ≠ (TX9 b).2.1 := by decide +kernel
theorem tyX9_ok : ∀ k, k < 35 → parseFieldDescriptor (TX9 k).2.2.1 = some (tyX9 k) := by decide +kernel
abbrev cX9_init : ByteArray := prog_11_method_1_code
def yX9_init : MethodName := ⟨RX9, "<init>", "()V"⟩
abbrev cX9_isIn : ByteArray := prog_11_method_2_code
def yX9_isIn : MethodName := ⟨RX9, "isIn", "(III)Z"⟩
abbrev cX9_low : ByteArray := prog_11_method_3_code
def yX9_low : MethodName := ⟨RX9, "low", "(I)I"⟩
abbrev cX9_isDigit : ByteArray := prog_11_method_4_code
def yX9_isDigit : MethodName := ⟨RX9, "isDigit", "(I)Z"⟩
abbrev cX9_hex : ByteArray := prog_11_method_5_code
def yX9_hex : MethodName := ⟨RX9, "hex", "(I)I"⟩
abbrev cX9_type : ByteArray := prog_11_method_6_code
def yX9_type : MethodName := ⟨RX9, "type", "(JI)I"⟩
abbrev cX9_erase : ByteArray := prog_11_method_7_code
def yX9_erase : MethodName := ⟨RX9, "erase", "()I"⟩
abbrev cX9_at : ByteArray := prog_11_method_8_code
def yX9_at : MethodName := ⟨RX9, "at", "(I)I"⟩
abbrev cX9_has : ByteArray := prog_11_method_9_code
def yX9_has : MethodName := ⟨RX9, "has", "(I)Z"⟩
abbrev cX9_add : ByteArray := prog_11_method_10_code
def yX9_add : MethodName := ⟨RX9, "add", "(II)V"⟩
abbrev cX9_row : ByteArray := prog_11_method_11_code
def yX9_row : MethodName := ⟨RX9, "row", "(II)I"⟩
abbrev cX9_sizeOf : ByteArray := prog_11_method_12_code
def yX9_sizeOf : MethodName := ⟨RX9, "sizeOf", "(II)I"⟩
abbrev cX9_copyPart : ByteArray := prog_11_method_13_code
def yX9_copyPart : MethodName := ⟨RX9, "copyPart", "(III)V"⟩
abbrev cX9_copyHost : ByteArray := prog_11_method_14_code
def yX9_copyHost : MethodName := ⟨RX9, "copyHost", "(II)V"⟩
abbrev cX9_portOf : ByteArray := prog_11_method_15_code
def yX9_portOf : MethodName := ⟨RX9, "portOf", "(I)I"⟩
abbrev cX9_isEscaped : ByteArray := prog_11_method_16_code
def yX9_isEscaped : MethodName := ⟨RX9, "isEscaped", "(II)Z"⟩
abbrev cX9_digitOf : ByteArray := prog_11_method_17_code
def yX9_digitOf : MethodName := ⟨RX9, "digitOf", "(I)I"⟩
abbrev cX9_addEscaped : ByteArray := prog_11_method_18_code
def yX9_addEscaped : MethodName := ⟨RX9, "addEscaped", "(III)V"⟩
abbrev cX9_byteAt : ByteArray := prog_11_method_19_code
def yX9_byteAt : MethodName := ⟨RX9, "byteAt", "(I)I"⟩
abbrev cX9_isSlash : ByteArray := prog_11_method_20_code
def yX9_isSlash : MethodName := ⟨RX9, "isSlash", "(I)Z"⟩
abbrev cX9_takeText : ByteArray := prog_11_method_21_code
def yX9_takeText : MethodName := ⟨RX9, "takeText", "()V"⟩
abbrev cX9_schemeSize : ByteArray := prog_11_method_22_code
def yX9_schemeSize : MethodName := ⟨RX9, "schemeSize", "(I)I"⟩
abbrev cX9_schemeByte : ByteArray := prog_11_method_23_code
def yX9_schemeByte : MethodName := ⟨RX9, "schemeByte", "(II)I"⟩
abbrev cX9_isWord : ByteArray := prog_11_method_24_code
def yX9_isWord : MethodName := ⟨RX9, "isWord", "(II)Z"⟩
abbrev cX9_read : ByteArray := prog_11_method_25_code
def yX9_read : MethodName := ⟨RX9, "read", "(II)I"⟩
abbrev cX9_isLetter : ByteArray := prog_11_method_26_code
def yX9_isLetter : MethodName := ⟨RX9, "isLetter", "(I)Z"⟩
abbrev cX9_readScheme : ByteArray := prog_11_method_27_code
def yX9_readScheme : MethodName := ⟨RX9, "readScheme", "(I)V"⟩
abbrev cX9_readRelative : ByteArray := prog_11_method_28_code
def yX9_readRelative : MethodName := ⟨RX9, "readRelative", "(II)V"⟩
abbrev cX9_dropSegment : ByteArray := prog_11_method_29_code
def yX9_dropSegment : MethodName := ⟨RX9, "dropSegment", "()V"⟩
abbrev cX9_isOver : ByteArray := prog_11_method_30_code
def yX9_isOver : MethodName := ⟨RX9, "isOver", "(I)Z"⟩
abbrev cX9_readSlashes : ByteArray := prog_11_method_31_code
def yX9_readSlashes : MethodName := ⟨RX9, "readSlashes", "(I)V"⟩
abbrev cX9_readPort : ByteArray := prog_11_method_32_code
def yX9_readPort : MethodName := ⟨RX9, "readPort", "(II)V"⟩
abbrev cX9_points : ByteArray := prog_11_method_33_code
def yX9_points : MethodName := ⟨RX9, "points", "(II)I"⟩
abbrev cX9_readPath : ByteArray := prog_11_method_34_code
def yX9_readPath : MethodName := ⟨RX9, "readPath", "(I)V"⟩
abbrev cX9_readTail : ByteArray := prog_11_method_35_code
def yX9_readTail : MethodName := ⟨RX9, "readTail", "(I)V"⟩
abbrev cX9_isWrongByte : ByteArray := prog_11_method_36_code
def yX9_isWrongByte : MethodName := ⟨RX9, "isWrongByte", "(I)Z"⟩
abbrev cX9_readHost : ByteArray := prog_11_method_37_code
def yX9_readHost : MethodName := ⟨RX9, "readHost", "(II)I"⟩
abbrev cX9_readFour : ByteArray := prog_11_method_38_code
def yX9_readFour : MethodName := ⟨RX9, "readFour", "()I"⟩
abbrev cX9_numberOf : ByteArray := prog_11_method_39_code
def yX9_numberOf : MethodName := ⟨RX9, "numberOf", "(II)J"⟩
abbrev cX9_readSix : ByteArray := prog_11_method_40_code
def yX9_readSix : MethodName := ⟨RX9, "readSix", "(II)I"⟩
abbrev cX9_readNumbers : ByteArray := prog_11_method_41_code
def yX9_readNumbers : MethodName := ⟨RX9, "readNumbers", "(III)I"⟩
abbrev cX9_put : ByteArray := prog_11_method_42_code
def yX9_put : MethodName := ⟨RX9, "put", "(I)V"⟩
abbrev cX9_putDecimal : ByteArray := prog_11_method_43_code
def yX9_putDecimal : MethodName := ⟨RX9, "putDecimal", "(I)V"⟩
abbrev cX9_putHex : ByteArray := prog_11_method_44_code
def yX9_putHex : MethodName := ⟨RX9, "putHex", "(I)V"⟩
abbrev cX9_writeHost : ByteArray := prog_11_method_45_code
def yX9_writeHost : MethodName := ⟨RX9, "writeHost", "(I)V"⟩
abbrev cX9_writeSix : ByteArray := prog_11_method_46_code
def yX9_writeSix : MethodName := ⟨RX9, "writeSix", "(I)V"⟩
abbrev cX9_digitsOf : ByteArray := prog_11_method_47_code
def yX9_digitsOf : MethodName := ⟨RX9, "digitsOf", "(I)I"⟩
abbrev cX9_writtenLength : ByteArray := prog_11_method_48_code
def yX9_writtenLength : MethodName := ⟨RX9, "writtenLength", "(I)I"⟩
abbrev cX9_say : ByteArray := prog_11_method_49_code
def yX9_say : MethodName := ⟨RX9, "say", "(I)V"⟩
abbrev cX9_sayPart : ByteArray := prog_11_method_50_code
def yX9_sayPart : MethodName := ⟨RX9, "sayPart", "(II)V"⟩
abbrev cX9_sayWritten : ByteArray := prog_11_method_51_code
def yX9_sayWritten : MethodName := ⟨RX9, "sayWritten", "()V"⟩
abbrev cX9_write : ByteArray := prog_11_method_52_code
def yX9_write : MethodName := ⟨RX9, "write", "(I)I"⟩
abbrev cX9_size : ByteArray := prog_11_method_53_code
def yX9_size : MethodName := ⟨RX9, "size", "(II)I"⟩
abbrev cX9_part : ByteArray := prog_11_method_54_code
def yX9_part : MethodName := ⟨RX9, "part", "(III)I"⟩
abbrev cX9_told : ByteArray := prog_11_method_55_code
def yX9_told : MethodName := ⟨RX9, "told", "(II)I"⟩
abbrev cX9_number : ByteArray := prog_11_method_56_code
def yX9_number : MethodName := ⟨RX9, "number", "(II)I"⟩
abbrev cX9_same : ByteArray := prog_11_method_57_code
def yX9_same : MethodName := ⟨RX9, "same", "(II)I"⟩
abbrev cX9_readTextHost : ByteArray := prog_11_method_58_code
def yX9_readTextHost : MethodName := ⟨RX9, "readTextHost", "()I"⟩
abbrev cX9_list : ByteArray := prog_11_method_59_code
def yX9_list : MethodName := ⟨RX9, "list", "(Z)I"⟩
abbrev cX9_resolve : ByteArray := prog_11_method_60_code
def yX9_resolve : MethodName := ⟨RX9, "resolve", "(IIIII)I"⟩
abbrev cX9_range : ByteArray := prog_11_method_61_code
def yX9_range : MethodName := ⟨RX9, "range", "(IIIIII)I"⟩
abbrev cX9_clear : ByteArray := prog_11_method_62_code
def yX9_clear : MethodName := ⟨RX9, "clear", "()I"⟩
abbrev cX9_isListed : ByteArray := prog_11_method_63_code
def yX9_isListed : MethodName := ⟨RX9, "isListed", "(I)Z"⟩
abbrev cX9_isInRange : ByteArray := prog_11_method_64_code
def yX9_isInRange : MethodName := ⟨RX9, "isInRange", "(IIIII)Z"⟩
abbrev cX9_pair : ByteArray := prog_11_method_65_code
def yX9_pair : MethodName := ⟨RX9, "pair", "(II)I"⟩
abbrev cX9_pass : ByteArray := prog_11_method_66_code
def yX9_pass : MethodName := ⟨RX9, "pass", "(I)I"⟩
def RJ11 : String := "java/lang/Character"
def TJ11 : u_T := fun k => match k with
  | _ => ("", "", "", false)
def tyJ11 : Nat → FieldType := fun k => match k with
  | _ => .int
theorem nmJ11 : ∀ a, a < 0 → ∀ b, b < 0 → a ≠ b → (TJ11 a).2.1 ≠ (TJ11 b).2.1 := by decide +kernel
theorem tyJ11_ok : ∀ k, k < 0 → parseFieldDescriptor (TJ11 k).2.2.1 = some (tyJ11 k) := by decide +kernel
abbrev cJ11_isValidCodePoint_9a6ad : ByteArray := prog_12_method_11_code
def yJ11_isValidCodePoint_9a6ad : MethodName := ⟨RJ11, "isValidCodePoint", "(I)Z"⟩
abbrev cJ11_highSurrogate_5068e : ByteArray := prog_12_method_28_code
def yJ11_highSurrogate_5068e : MethodName := ⟨RJ11, "highSurrogate", "(I)C"⟩
abbrev cJ11_lowSurrogate_5068e : ByteArray := prog_12_method_29_code
def yJ11_lowSurrogate_5068e : MethodName := ⟨RJ11, "lowSurrogate", "(I)C"⟩
def RJx8e188 : String := "java/lang/Cloneable"
def TJx8e188 : u_T := fun k => match k with
  | _ => ("", "", "", false)
def tyJx8e188 : Nat → FieldType := fun k => match k with
  | _ => .int
theorem nmJx8e188 : ∀ a, a < 0 → ∀ b, b < 0 → a ≠ b → (TJx8e188 a).2.1 ≠ (TJx8e188 b).2.1 := by decide +kernel
theorem tyJx8e188_ok : ∀ k, k < 0 → parseFieldDescriptor (TJx8e188 k).2.2.1 = some (tyJx8e188 k) := by decide +kernel
def RJ9 : String := "java/lang/Math"
def TJ9 : u_T := fun k => match k with
  | _ => ("", "", "", false)
def tyJ9 : Nat → FieldType := fun k => match k with
  | _ => .int
theorem nmJ9 : ∀ a, a < 0 → ∀ b, b < 0 → a ≠ b → (TJ9 a).2.1 ≠ (TJ9 b).2.1 := by decide +kernel
theorem tyJ9_ok : ∀ k, k < 0 → parseFieldDescriptor (TJ9 k).2.2.1 = some (tyJ9 k) := by decide +kernel
abbrev cJ9_max_7cf53 : ByteArray := prog_14_method_65_code
def yJ9_max_7cf53 : MethodName := ⟨RJ9, "max", "(II)I"⟩
abbrev cJ9_min_7cf53 : ByteArray := prog_14_method_69_code
def yJ9_min_7cf53 : MethodName := ⟨RJ9, "min", "(II)I"⟩
abbrev cJ9_min_f86c9 : ByteArray := prog_14_method_70_code
def yJ9_min_f86c9 : MethodName := ⟨RJ9, "min", "(JJ)J"⟩
def RJ0 : String := "java/lang/String"
def TJ0 : u_T := fun k => match k with
  | _ => ("", "", "", false)
def tyJ0 : Nat → FieldType := fun k => match k with
  | _ => .int
theorem nmJ0 : ∀ a, a < 0 → ∀ b, b < 0 → a ≠ b → (TJ0 a).2.1 ≠ (TJ0 b).2.1 := by decide +kernel
theorem tyJ0_ok : ∀ k, k < 0 → parseFieldDescriptor (TJ0 k).2.2.1 = some (tyJ0 k) := by decide +kernel
abbrev cJ0_length_8abf5 : ByteArray := prog_15_method_54_code
def yJ0_length_8abf5 : MethodName := ⟨RJ0, "length", "()I"⟩
abbrev cJ0_charAt_5068e : ByteArray := prog_15_method_56_code
def yJ0_charAt_5068e : MethodName := ⟨RJ0, "charAt", "(I)C"⟩
abbrev cJ0_indexOf_0f7a4 : ByteArray := prog_15_method_79_code
def yJ0_indexOf_0f7a4 : MethodName := ⟨RJ0, "indexOf", "(I)I"⟩
abbrev cJ0_indexOf_7cf53 : ByteArray := prog_15_method_80_code
def yJ0_indexOf_7cf53 : MethodName := ⟨RJ0, "indexOf", "(II)I"⟩
abbrev cJ0_coder_7d493 : ByteArray := prog_15_method_152_code
def yJ0_coder_7d493 : MethodName := ⟨RJ0, "coder", "()B"⟩
abbrev cJ0_isLatin1_aae02 : ByteArray := prog_15_method_154_code
def yJ0_isLatin1_aae02 : MethodName := ⟨RJ0, "isLatin1", "()Z"⟩
abbrev cJ0_checkIndex_df160 : ByteArray := prog_15_method_155_code
def yJ0_checkIndex_df160 : MethodName := ⟨RJ0, "checkIndex", "(II)V"⟩
abbrev cJ0_checkBoundsBeginEnd_23922 : ByteArray := prog_15_method_158_code
def yJ0_checkBoundsBeginEnd_23922 : MethodName := ⟨RJ0, "checkBoundsBeginEnd", "(III)V"⟩
def RJ1 : String := "java/lang/StringLatin1"
def TJ1 : u_T := fun k => match k with
  | _ => ("", "", "", false)
def tyJ1 : Nat → FieldType := fun k => match k with
  | _ => .int
theorem nmJ1 : ∀ a, a < 0 → ∀ b, b < 0 → a ≠ b → (TJ1 a).2.1 ≠ (TJ1 b).2.1 := by decide +kernel
theorem tyJ1_ok : ∀ k, k < 0 → parseFieldDescriptor (TJ1 k).2.2.1 = some (tyJ1 k) := by decide +kernel
abbrev cJ1_charAt_3b067 : ByteArray := prog_16_method_2_code
def yJ1_charAt_3b067 : MethodName := ⟨RJ1, "charAt", "([BI)C"⟩
abbrev cJ1_canEncode_9a6ad : ByteArray := prog_16_method_4_code
def yJ1_canEncode_9a6ad : MethodName := ⟨RJ1, "canEncode", "(I)Z"⟩
abbrev cJ1_indexOf_4cfef : ByteArray := prog_16_method_22_code
def yJ1_indexOf_4cfef : MethodName := ⟨RJ1, "indexOf", "([BIII)I"⟩
abbrev cJ1_indexOfChar_4cfef : ByteArray := prog_16_method_23_code
def yJ1_indexOfChar_4cfef : MethodName := ⟨RJ1, "indexOfChar", "([BIII)I"⟩
def RJ2 : String := "java/lang/StringUTF16"
def TJ2 : u_T := fun k => match k with
  | _ => ("", "", "", false)
def tyJ2 : Nat → FieldType := fun k => match k with
  | _ => .int
theorem nmJ2 : ∀ a, a < 0 → ∀ b, b < 0 → a ≠ b → (TJ2 a).2.1 ≠ (TJ2 b).2.1 := by decide +kernel
theorem tyJ2_ok : ∀ k, k < 0 → parseFieldDescriptor (TJ2 k).2.2.1 = some (tyJ2 k) := by decide +kernel
abbrev cJ2_getChar_3b067 : ByteArray := prog_17_method_5_code
def yJ2_getChar_3b067 : MethodName := ⟨RJ2, "getChar", "([BI)C"⟩
abbrev cJ2_length_9d52b : ByteArray := prog_17_method_6_code
def yJ2_length_9d52b : MethodName := ⟨RJ2, "length", "([B)I"⟩
abbrev cJ2_indexOf_4cfef : ByteArray := prog_17_method_40_code
def yJ2_indexOf_4cfef : MethodName := ⟨RJ2, "indexOf", "([BIII)I"⟩
abbrev cJ2_indexOfChar_4cfef : ByteArray := prog_17_method_47_code
def yJ2_indexOfChar_4cfef : MethodName := ⟨RJ2, "indexOfChar", "([BIII)I"⟩
abbrev cJ2_indexOfCharUnsafe_4cfef : ByteArray := prog_17_method_48_code
def yJ2_indexOfCharUnsafe_4cfef : MethodName := ⟨RJ2, "indexOfCharUnsafe", "([BIII)I"⟩
abbrev cJ2_indexOfSupplementary_4cfef : ByteArray := prog_17_method_49_code
def yJ2_indexOfSupplementary_4cfef : MethodName := ⟨RJ2, "indexOfSupplementary", "([BIII)I"⟩
abbrev cJ2_charAt_3b067 : ByteArray := prog_17_method_83_code
def yJ2_charAt_3b067 : MethodName := ⟨RJ2, "charAt", "([BI)C"⟩
abbrev cJ2_checkIndex_2214a : ByteArray := prog_17_method_91_code
def yJ2_checkIndex_2214a : MethodName := ⟨RJ2, "checkIndex", "(I[B)V"⟩
abbrev cJ2_checkBoundsBeginEnd_d044e : ByteArray := prog_17_method_93_code
def yJ2_checkBoundsBeginEnd_d044e : MethodName := ⟨RJ2, "checkBoundsBeginEnd", "(II[B)V"⟩
def RJ10 : String := "java/lang/System"
def TJ10 : u_T := fun k => match k with
  | _ => ("", "", "", false)
def tyJ10 : Nat → FieldType := fun k => match k with
  | _ => .int
theorem nmJ10 : ∀ a, a < 0 → ∀ b, b < 0 → a ≠ b → (TJ10 a).2.1 ≠ (TJ10 b).2.1 := by decide +kernel
theorem tyJ10_ok : ∀ k, k < 0 → parseFieldDescriptor (TJ10 k).2.2.1 = some (tyJ10 k) := by decide +kernel
def RJ7 : String := "java/util/Arrays"
def TJ7 : u_T := fun k => match k with
  | _ => ("", "", "", false)
def tyJ7 : Nat → FieldType := fun k => match k with
  | _ => .int
theorem nmJ7 : ∀ a, a < 0 → ∀ b, b < 0 → a ≠ b → (TJ7 a).2.1 ≠ (TJ7 b).2.1 := by decide +kernel
theorem tyJ7_ok : ∀ k, k < 0 → parseFieldDescriptor (TJ7 k).2.2.1 = some (tyJ7 k) := by decide +kernel
abbrev cJ7_copyOf_59c91 : ByteArray := prog_19_method_123_code
def yJ7_copyOf_59c91 : MethodName := ⟨RJ7, "copyOf", "([II)[I"⟩
def RJ3 : String := "jdk/internal/util/Preconditions"
def TJ3 : u_T := fun k => match k with
  | _ => ("", "", "", false)
def tyJ3 : Nat → FieldType := fun k => match k with
  | _ => .int
theorem nmJ3 : ∀ a, a < 0 → ∀ b, b < 0 → a ≠ b → (TJ3 a).2.1 ≠ (TJ3 b).2.1 := by decide +kernel
theorem tyJ3_ok : ∀ k, k < 0 → parseFieldDescriptor (TJ3 k).2.2.1 = some (tyJ3 k) := by decide +kernel
abbrev cJ3_checkIndex_8e157 : ByteArray := prog_20_method_11_code
def yJ3_checkIndex_8e157 : MethodName := ⟨RJ3, "checkIndex", "(IILjava/util/function/BiFunction;)I"⟩
abbrev cJ3_checkFromToIndex_8c36e : ByteArray := prog_20_method_12_code
def yJ3_checkFromToIndex_8c36e : MethodName := ⟨RJ3, "checkFromToIndex", "(IIILjava/util/function/BiFunction;)I"⟩
def RL : String := "UrlGateLaw"
abbrev cL_law : ByteArray := code
def yL_law : MethodName := ⟨RL, "law", "([I)Z"⟩
abbrev vwCl : List vw_C := [(RX0, TX0, 2), (RX2, TX2, 9), (RX3, TX3, 2), (RX4, TX4, 3), (RX5, TX5, 2), (RX6, TX6, 12), (RX7, TX7, 4), (RX8, TX8, 8), (RX9, TX9, 35)]
end
section
/-! THE STATE OF THE WHOLE SYSTEM, apart from the machine: what kind of thing lies at an address (0 none; c + 1 an object of class c of vwCl; 10 + t an array of type t of gTy), int fields, reference fields, lengths, numbers and references in arrays, how many cells there are, how many cells and slots may still come -/
abbrev gS : Type := (Nat → Nat) × (Nat → Nat → Nat → Int32) × (Nat → Nat → Nat → Option Nat) × (Nat → Nat) × (Nat → Nat → Int32) × (Nat → Nat → Option Nat) × Nat × Nat × Nat
def gkd (σ : gS) : Nat → Nat := σ.1
def gii (σ : gS) : Nat → Nat → Nat → Int32 := σ.2.1
def grr (σ : gS) : Nat → Nat → Nat → Option Nat := σ.2.2.1
def gln (σ : gS) : Nat → Nat := σ.2.2.2.1
def gai (σ : gS) : Nat → Nat → Int32 := σ.2.2.2.2.1
def gar (σ : gS) : Nat → Nat → Option Nat := σ.2.2.2.2.2.1
def gsz (σ : gS) : Nat := σ.2.2.2.2.2.2.1
def gcl (σ : gS) : Nat := σ.2.2.2.2.2.2.2.1
def gsl (σ : gS) : Nat := σ.2.2.2.2.2.2.2.2
/-- a program: what it answers and the state behind it, or none where the machine would throw; never more room than before -/
def gM (α : Type) : Type := { f : gS → Option (α × gS) // ∀ σ x, f σ = some x → gcl x.2 ≤ gcl σ ∧ gsl x.2 ≤ gsl σ }
def gb {α β : Type} (m : gM α) (k : α → gM β) : gM β := ⟨fun σ => match m.1 σ with
  | none => none
  | some x => (k x.1).1 x.2, fun σ y h => by
    dsimp only at h
    cases hm : m.1 σ with
    | none => rw [hm] at h; cases h
    | some x =>
      rw [hm] at h
      have h1 := m.2 σ x hm
      have h2 := (k x.1).2 x.2 y h
      exact ⟨Nat.le_trans h2.1 h1.1, Nat.le_trans h2.2 h1.2⟩⟩
def gp {α : Type} (a : α) : gM α := ⟨fun σ => some (a, σ), fun σ y h => by cases h; exact ⟨Nat.le_refl _, Nat.le_refl _⟩⟩
def gno {α : Type} : gM α := ⟨fun _ => none, fun _ _ h => by cases h⟩
/-- a read: an answer, the state as it was -/
def gq {α : Type} (f : gS → Option α) : gM α := ⟨fun σ => (f σ).map (fun a => (a, σ)), fun σ y h => by
  dsimp only at h
  cases hf : f σ with
  | none => rw [hf] at h; cases h
  | some a => rw [hf] at h; cases h; exact ⟨Nat.le_refl _, Nat.le_refl _⟩⟩
/-- a write: the room stays -/
def gu (f : gS → Option gS) (h : ∀ σ τ, f σ = some τ → gcl τ = gcl σ ∧ gsl τ = gsl σ) : gM Unit := ⟨fun σ => (f σ).map (fun τ => ((), τ)), fun σ y hy => by
  dsimp only at hy
  cases hf : f σ with
  | none => rw [hf] at hy; cases hy
  | some a => rw [hf] at hy; cases hy; have := h σ a hf; exact ⟨Nat.le_of_eq this.1, Nat.le_of_eq this.2⟩⟩
theorem gb_run {α β : Type} {m : gM α} {k : α → gM β} {σ : gS} {x : α × gS} (h : m.1 σ = some x) : (gb m k).1 σ = (k x.1).1 x.2 := by show (match m.1 σ with | none => none | some x => (k x.1).1 x.2) = _; rw [h]
theorem gb_some {α β : Type} {m : gM α} {k : α → gM β} {σ : gS} {y : β × gS} (h : (gb m k).1 σ = some y) : ∃ x, m.1 σ = some x ∧ (k x.1).1 x.2 = some y := by
  cases hm : m.1 σ with
  | none => exact absurd h (by show ¬ (match m.1 σ with | none => none | some x => (k x.1).1 x.2) = _; rw [hm]; intro h; cases h)
  | some x => exact ⟨x, rfl, by rw [gb_run hm] at h; exact h⟩
theorem gp_some {α : Type} {a : α} {σ : gS} {y : α × gS} (h : (gp a).1 σ = some y) : y = (a, σ) := by cases h; rfl
theorem gno_some {α : Type} {σ : gS} {y : α × gS} (h : (gno : gM α).1 σ = some y) : False := by cases h
theorem gq_some {α : Type} {f : gS → Option α} {σ : gS} {x : α × gS} (h : (gq f).1 σ = some x) : f σ = some x.1 ∧ x.2 = σ := by
  have h : (f σ).map (fun a => (a, σ)) = some x := h
  cases hf : f σ with
  | none => rw [hf] at h; cases h
  | some a => rw [hf] at h; cases h; exact ⟨rfl, rfl⟩
theorem gu_some {f : gS → Option gS} {hf} {σ : gS} {x : Unit × gS} (h : (gu f hf).1 σ = some x) : f σ = some x.2 := by
  have h : (f σ).map (fun a => ((), a)) = some x := h
  cases hf : f σ with
  | none => rw [hf] at h; cases h
  | some a => rw [hf] at h; cases h; rfl
/-- fields: how many a class has, which are references -/
def gnf (c : Nat) : Nat := [2, 9, 2, 3, 2, 12, 4, 8, 35].getD c 0
def grf (c k : Nat) : Bool := (match c with
  | 0 => [false, true]
  | 1 => [true, true, false, true, true, false, true, true, false]
  | 2 => [true, true]
  | 3 => [true, true, false]
  | 4 => [true, false]
  | 5 => [false, true, true, true, true, false, true, false, true, false, true, false]
  | 6 => [true, false, false, false]
  | 7 => [true, true, true, true, true, true, true, true]
  | _ => [true, false, true, true, true, true, true, true, true, true, true, true, false, false, true, false, false, true, true, false, true, true, true, true, true, false, true, true, true, true, false, true, true, true, false]).getD k false
/-- the writes -/
def gsI (σ : gS) (c k a : Nat) (v : Int32) : gS := (σ.1, fun c' k' a' => if c' = c ∧ k' = k ∧ a' = a then v else σ.2.1 c' k' a', σ.2.2)
def gsR (σ : gS) (c k a : Nat) (v : Option Nat) : gS := (σ.1, σ.2.1, fun c' k' a' => if c' = c ∧ k' = k ∧ a' = a then v else σ.2.2.1 c' k' a', σ.2.2.2)
def gsA (σ : gS) (a i : Nat) (v : Int32) : gS := (σ.1, σ.2.1, σ.2.2.1, σ.2.2.2.1, fun b j => if b = a ∧ j = i then v else σ.2.2.2.2.1 b j, σ.2.2.2.2.2)
def gsQ (σ : gS) (a i : Nat) (v : Option Nat) : gS := (σ.1, σ.2.1, σ.2.2.1, σ.2.2.2.1, σ.2.2.2.2.1, fun b j => if b = a ∧ j = i then v else σ.2.2.2.2.2.1 b j, σ.2.2.2.2.2.2)
/-- a new thing of kind d + 1, of n places, w slots -/
def gsN (σ : gS) (d n w : Nat) : gS := (fun a => if a = gsz σ then d + 1 else σ.1 a, fun c k a => if a = gsz σ then 0 else σ.2.1 c k a, fun c k a => if a = gsz σ then none else σ.2.2.1 c k a, fun a => if a = gsz σ then n else σ.2.2.2.1 a, fun a j => if a = gsz σ then 0 else σ.2.2.2.2.1 a j, fun a j => if a = gsz σ then none else σ.2.2.2.2.2.1 a j, gsz σ + 1, gcl σ - 1, gsl σ - w)
/-- the copy of n numbers of array a from its first place on to array b, from its first place on -/
def gsC (σ : gS) (a b n : Nat) : gS := (σ.1, σ.2.1, σ.2.2.1, σ.2.2.2.1, fun x j => if x = b ∧ j < n then σ.2.2.2.2.1 a j else σ.2.2.2.2.1 x j, σ.2.2.2.2.2)
/-- an index within -/
def gin (i : Int32) (n : Nat) : Bool := !(decide (i < 0) || decide (n ≤ i.toNatClampNeg))
theorem gin_iff {i : Int32} {n : Nat} : gin i n = true ↔ vp_in i n := by simp [gin, vp_in]
/-- what an array of type t keeps of an int: bytes, ints, booleans -/
def gnar (t : Nat) (x : Int32) : Int32 := if t = 0 then vp_nar .byte x else if t = 2 then vp_nar .boolean x else x
/-- the programs' steps -/
def rI (c k : Nat) (r : Option Nat) : gM Int32 := gq fun σ => match r with
  | some a => if gkd σ a = c + 1 then some (gii σ c k a) else none
  | none => none
def rR (c k : Nat) (r : Option Nat) : gM (Option Nat) := gq fun σ => match r with
  | some a => if gkd σ a = c + 1 then some (grr σ c k a) else none
  | none => none
def wI (c k : Nat) (r : Option Nat) (v : Int32) : gM Unit := gu (fun σ => match r with
  | some a => if gkd σ a = c + 1 then some (gsI σ c k a v) else none
  | none => none) (fun σ τ h => by
    cases r with
    | none => cases h
    | some a =>
      dsimp only at h
      split at h
      · cases h; exact ⟨rfl, rfl⟩
      · cases h)
/-- a boolean field: 0 or 1 alone -/
def wZ (c k : Nat) (r : Option Nat) (v : Int32) : gM Unit := gu (fun σ => match r with
  | some a => if gkd σ a = c + 1 ∧ (v = 0 ∨ v = 1) then some (gsI σ c k a v) else none
  | none => none) (fun σ τ h => by
    cases r with
    | none => cases h
    | some a =>
      dsimp only at h
      split at h
      · cases h; exact ⟨rfl, rfl⟩
      · cases h)
def wR (c k : Nat) (r : Option Nat) (v : Option Nat) : gM Unit := gu (fun σ => match r with
  | some a => if gkd σ a = c + 1 then some (gsR σ c k a v) else none
  | none => none) (fun σ τ h => by
    cases r with
    | none => cases h
    | some a =>
      dsimp only at h
      split at h
      · cases h; exact ⟨rfl, rfl⟩
      · cases h)
/-- a new object of class c -/
def nO (c : Nat) : gM (Option Nat) := ⟨fun σ => if 1 ≤ gcl σ ∧ gnf c ≤ gsl σ then some (some (gsz σ), gsN σ c 0 (gnf c)) else none, fun σ x h => by
  dsimp only at h
  split at h
  · cases h
    exact ⟨Nat.sub_le _ _, Nat.sub_le _ _⟩
  · cases h⟩
/-- a new array of type t -/
def nA (t : Nat) (n : Int32) : gM (Option Nat) := ⟨fun σ => if ¬ n < 0 ∧ n.toNatClampNeg ≤ 100000 ∧ 1 ≤ gcl σ ∧ n.toNatClampNeg ≤ gsl σ then some (some (gsz σ), gsN σ (t + 9) n.toNatClampNeg n.toNatClampNeg) else none, fun σ x h => by
  dsimp only at h
  split at h
  · cases h
    exact ⟨Nat.sub_le _ _, Nat.sub_le _ _⟩
  · cases h⟩
/-- an array's length -/
def aL (t : Nat) (r : Option Nat) : gM Int32 := gq fun σ => match r with
  | some a => if gkd σ a = t + 10 then some (Int32.ofNat (gln σ a)) else none
  | none => none
def aI (t : Nat) (r : Option Nat) (i : Int32) : gM Int32 := gq fun σ => match r with
  | some a => if gkd σ a = t + 10 ∧ gin i (gln σ a) = true then some (gai σ a i.toNatClampNeg) else none
  | none => none
def aR (t : Nat) (r : Option Nat) (i : Int32) : gM (Option Nat) := gq fun σ => match r with
  | some a => if gkd σ a = t + 10 ∧ gin i (gln σ a) = true then some (gar σ a i.toNatClampNeg) else none
  | none => none
def sI (t : Nat) (r : Option Nat) (i v : Int32) : gM Unit := gu (fun σ => match r with
  | some a => if gkd σ a = t + 10 ∧ gin i (gln σ a) = true then some (gsA σ a i.toNatClampNeg (gnar t v)) else none
  | none => none) (fun σ τ h => by
    cases r with
    | none => cases h
    | some a =>
      dsimp only at h
      split at h
      · cases h; exact ⟨rfl, rfl⟩
      · cases h)
/-- a reference into an array of type t, whose elements are of class c: an object of that class alone -/
def sR (t c : Nat) (r : Option Nat) (i : Int32) (v : Option Nat) : gM Unit := gu (fun σ => match r, v with
  | some a, some b => if gkd σ a = t + 10 ∧ gin i (gln σ a) = true ∧ gkd σ b = c + 1 then some (gsQ σ a i.toNatClampNeg (some b)) else none
  | _, _ => none) (fun σ τ h => by
    cases r with
    | none => cases h
    | some a =>
      cases v with
      | none => cases h
      | some b =>
        dsimp only at h
        split at h
        · cases h; exact ⟨rfl, rfl⟩
        · cases h)
/-- a called object must be there -/
def nn (c : Nat) (r : Option Nat) : gM Unit := gq fun σ => match r with
  | some a => if gkd σ a = c + 1 then some () else none
  | none => none
/-- a division by 0 is none -/
def nz (x : Int32) : gM Unit := if x = 0 then gno else gp ()
end
section
/-! THE WORLD: how a state of the system lies in the machine's heap, and a row an instruction -/
def gT : List Cond := lw_tbl.filter goodWord
theorem gT_of {w : Cond} (h : w ∈ lw_tbl) (h2 : goodWord w = true) : w ∈ gT := List.mem_filter.mpr ⟨h, h2⟩
theorem gT_good {c1 c2 : Cond} (h : c2 ∈ gT) : GoodIn (c1 :: gT) (c2 :: gT) := by
  intro w hw
  rcases List.mem_cons.mp hw with rfl | hw
  · exact ⟨List.mem_cons_of_mem _ h, good_of_word (List.mem_filter.mp h).2⟩
  · exact ⟨List.mem_cons_of_mem _ hw, good_of_word (List.mem_filter.mp hw).2⟩
/-- the classes' numbers and slots, the array classes' numbers, the String constants' addresses and those of their bytes, where the system's own cells begin -/
abbrev gX : Type := (Nat → ClassId) × (Nat → Nat → Nat) × (Nat → ClassId) × (Nat → Nat) × (Nat → Nat) × Nat
abbrev gD (G : gX) : va_G := (G.1, G.2.1)
abbrev gdA (G : gX) : Nat → ClassId := G.2.2.1
abbrev gK (G : gX) : Nat → Nat := G.2.2.2.1
abbrev gV (G : gX) : Nat → Nat := G.2.2.2.2.1
abbrev gB (G : gX) : Nat := G.2.2.2.2.2
abbrev gA (G : gX) : Nat → Prop := fun q => gB G ≤ q
def gTy (G : gX) : List (ClassId × FieldType) := [(gdA G 0, .byte), (gdA G 1, .int), (gdA G 2, .boolean), (gdA G 3, .object RX0), (gdA G 4, .object RX3), (gdA G 5, .object RX5), (gdA G 6, .object RX6)]
def gfs (σ : gS) (c a : Nat) : List Value := (List.range (gnf c)).map (fun k => if grf c k = true then va_rf (grr σ c k a) else .int (gii σ c k a))
def gcell (G : gX) (σ : gS) (a : Nat) : va_E := if gkd σ a < 10 then .inr (gkd σ a - 1, gfs σ (gkd σ a - 1) a) else if gkd σ a < 13 then .inl (gdA G (gkd σ a - 10), gln σ a, .inl (gai σ a)) else .inl (gdA G (gkd σ a - 10), gln σ a, .inr (.inr (.inr (.inr (gar σ a)))))
def gW (G : gX) (σ : gS) (H : Heap) : Prop := H.size = gsz σ ∧ gB G ≤ gsz σ ∧ ∀ a : Nat, gkd σ a ≠ 0 → gB G ≤ a ∧ va_at (gD G) vwCl (a, gcell G σ a) H
theorem gfs_len (σ : gS) (c a : Nat) : (gfs σ c a).length = gnf c := by simp [gfs]
theorem gfs_i {σ : gS} {c a k : Nat} (hk : k < gnf c) (h : grf c k = false) : (gfs σ c a)[k]? = some (.int (gii σ c k a)) := by simp [gfs, hk, h]
theorem gfs_r {σ : gS} {c a k : Nat} (hk : k < gnf c) (h : grf c k = true) : (gfs σ c a)[k]? = some (va_rf (grr σ c k a)) := by simp [gfs, hk, h]
theorem gfs_any {σ : gS} {c a k : Nat} (hk : k < gnf c) : (gfs σ c a)[k]? = some (if grf c k = true then va_rf (grr σ c k a) else .int (gii σ c k a)) := by simp [gfs, hk]
theorem gcell_o {G : gX} {σ : gS} {a c : Nat} (h : gkd σ a = c + 1) (hc : c < 9) : gcell G σ a = .inr (c, gfs σ c a) := by
  simp only [gcell, h, Nat.add_sub_cancel]
  rw [if_pos (by omega)]
theorem gcell_i {G : gX} {σ : gS} {a t : Nat} (h : gkd σ a = t + 10) (ht : t < 3) : gcell G σ a = .inl (gdA G t, gln σ a, .inl (gai σ a)) := by
  simp only [gcell, h, Nat.add_sub_cancel]
  rw [if_neg (by omega), if_pos (by omega)]
theorem gcell_q {G : gX} {σ : gS} {a t : Nat} (h : gkd σ a = t + 10) (ht : 3 ≤ t) : gcell G σ a = .inl (gdA G t, gln σ a, .inr (.inr (.inr (.inr (gar σ a))))) := by
  simp only [gcell, h, Nat.add_sub_cancel]
  rw [if_neg (by omega), if_neg (by omega)]
theorem gW_lt {G : gX} {σ : gS} {H : Heap} (h : gW G σ H) {a : Nat} (ha : gkd σ a ≠ 0) : a < gsz σ := by
  have h1 := va_at.lt (h.2.2 a ha).2
  rw [h.1] at h1
  exact h1
/-- a cell is written -/
theorem gW_upd {G : gX} {σ σ' : gS} {H H1 : Heap} {a : Nat} (h : gW G σ H) (hz : H1.size = H.size) (oq : ∀ q : Nat, q ≠ a → H1[q]? = H[q]?) (hs : gsz σ' = gsz σ) (hk : ∀ b, gkd σ' b = gkd σ b) (hc : ∀ b, b ≠ a → gcell G σ' b = gcell G σ b) (ha : gB G ≤ a) (he : va_at (gD G) vwCl (a, gcell G σ' a) H1) : gW G σ' H1 := by
  refine ⟨by rw [hz, hs]; exact h.1, by rw [hs]; exact h.2.1, fun b hb => ?_⟩
  by_cases e : b = a
  · subst e
    exact ⟨ha, he⟩
  · rw [hk] at hb
    obtain ⟨h1, h2⟩ := h.2.2 b hb
    refine ⟨h1, ?_⟩
    rw [hc b e]
    exact h2.kept (oq b e)
theorem gcell_sI {G : gX} {σ : gS} {c k a b : Nat} {v : Int32} (h : b ≠ a) : gcell G (gsI σ c k a v) b = gcell G σ b := by
  have : ∀ c', gfs (gsI σ c k a v) c' b = gfs σ c' b := fun c' => by simp [gfs, gsI, gii, grr, h]
  simp only [gcell, this]
  rfl
theorem gcell_sR {G : gX} {σ : gS} {c k a b : Nat} {v : Option Nat} (h : b ≠ a) : gcell G (gsR σ c k a v) b = gcell G σ b := by
  have : ∀ c', gfs (gsR σ c k a v) c' b = gfs σ c' b := fun c' => by simp [gfs, gsR, gii, grr, h]
  simp only [gcell, this]
  rfl
theorem gcell_sA {G : gX} {σ : gS} {a b i : Nat} {v : Int32} (h : b ≠ a) : gcell G (gsA σ a i v) b = gcell G σ b := by
  have : gai (gsA σ a i v) b = gai σ b := by funext j; simp [gsA, gai, h]
  simp only [gcell, this]
  rfl
theorem gcell_sQ {G : gX} {σ : gS} {a b i : Nat} {v : Option Nat} (h : b ≠ a) : gcell G (gsQ σ a i v) b = gcell G σ b := by
  have : gar (gsQ σ a i v) b = gar σ b := by funext j; simp [gsQ, gar, h]
  simp only [gcell, this]
  rfl
theorem gfs_setI {σ : gS} {c k a : Nat} {v : Int32} (hr : grf c k = false) : (gfs σ c a).set k (.int v) = gfs (gsI σ c k a v) c a := by
  apply List.ext_getElem?
  intro j
  by_cases hj : j < gnf c
  · by_cases e : k = j
    · subst e
      rw [List.getElem?_set_self (by rw [gfs_len]; exact hj), gfs_i hj hr]
      simp [gsI, gii]
    · rw [List.getElem?_set_ne e, gfs_any hj, gfs_any hj]
      simp [gsI, gii, grr, Ne.symm e]
  · rw [List.getElem?_eq_none (by rw [List.length_set, gfs_len]; omega), List.getElem?_eq_none (by rw [gfs_len]; omega)]
theorem gfs_setR {σ : gS} {c k a : Nat} {v : Option Nat} (hr : grf c k = true) : (gfs σ c a).set k (va_rf v) = gfs (gsR σ c k a v) c a := by
  apply List.ext_getElem?
  intro j
  by_cases hj : j < gnf c
  · by_cases e : k = j
    · subst e
      rw [List.getElem?_set_self (by rw [gfs_len]; exact hj), gfs_r hj hr]
      simp [gsR, grr]
    · rw [List.getElem?_set_ne e, gfs_any hj, gfs_any hj]
      simp [gsR, gii, grr, Ne.symm e]
  · rw [List.getElem?_eq_none (by rw [List.length_set, gfs_len]; omega), List.getElem?_eq_none (by rw [gfs_len]; omega)]
/-- what the tables say of a class -/
def gCls (ci : Nat) (C : String) (T : u_T) (N : Nat) (ty : Nat → FieldType) : Prop := vwCl[ci]? = some (C, T, N) ∧ (∀ w ∈ u_ws C T N, w ∈ gT) ∧ gnf ci = N ∧ ci < 9 ∧ (∀ k, k < N → parseFieldDescriptor (T k).2.2.1 = some (ty k)) ∧ (∀ a, a < N → ∀ b, b < N → a ≠ b → (T a).2.1 ≠ (T b).2.1) ∧ Cond.instantiable C N ∈ gT ∧ Cond.initialized C ∈ gT
theorem gcls_0 : gCls 0 RX0 TX0 2 tyX0 := ⟨rfl, fun w h => gT_of ((by decide +kernel : ∀ w ∈ u_ws RX0 TX0 2, w ∈ lw_tbl) w h) ((by decide +kernel : ∀ w ∈ u_ws RX0 TX0 2, goodWord w = true) w h), rfl, by decide, tyX0_ok, nmX0, gT_of (by decide +kernel) rfl, gT_of (by decide +kernel) rfl⟩
theorem gcls_1 : gCls 1 RX2 TX2 9 tyX2 := ⟨rfl, fun w h => gT_of ((by decide +kernel : ∀ w ∈ u_ws RX2 TX2 9, w ∈ lw_tbl) w h) ((by decide +kernel : ∀ w ∈ u_ws RX2 TX2 9, goodWord w = true) w h), rfl, by decide, tyX2_ok, nmX2, gT_of (by decide +kernel) rfl, gT_of (by decide +kernel) rfl⟩
theorem gcls_2 : gCls 2 RX3 TX3 2 tyX3 := ⟨rfl, fun w h => gT_of ((by decide +kernel : ∀ w ∈ u_ws RX3 TX3 2, w ∈ lw_tbl) w h) ((by decide +kernel : ∀ w ∈ u_ws RX3 TX3 2, goodWord w = true) w h), rfl, by decide, tyX3_ok, nmX3, gT_of (by decide +kernel) rfl, gT_of (by decide +kernel) rfl⟩
theorem gcls_3 : gCls 3 RX4 TX4 3 tyX4 := ⟨rfl, fun w h => gT_of ((by decide +kernel : ∀ w ∈ u_ws RX4 TX4 3, w ∈ lw_tbl) w h) ((by decide +kernel : ∀ w ∈ u_ws RX4 TX4 3, goodWord w = true) w h), rfl, by decide, tyX4_ok, nmX4, gT_of (by decide +kernel) rfl, gT_of (by decide +kernel) rfl⟩
theorem gcls_4 : gCls 4 RX5 TX5 2 tyX5 := ⟨rfl, fun w h => gT_of ((by decide +kernel : ∀ w ∈ u_ws RX5 TX5 2, w ∈ lw_tbl) w h) ((by decide +kernel : ∀ w ∈ u_ws RX5 TX5 2, goodWord w = true) w h), rfl, by decide, tyX5_ok, nmX5, gT_of (by decide +kernel) rfl, gT_of (by decide +kernel) rfl⟩
theorem gcls_5 : gCls 5 RX6 TX6 12 tyX6 := ⟨rfl, fun w h => gT_of ((by decide +kernel : ∀ w ∈ u_ws RX6 TX6 12, w ∈ lw_tbl) w h) ((by decide +kernel : ∀ w ∈ u_ws RX6 TX6 12, goodWord w = true) w h), rfl, by decide, tyX6_ok, nmX6, gT_of (by decide +kernel) rfl, gT_of (by decide +kernel) rfl⟩
theorem gcls_6 : gCls 6 RX7 TX7 4 tyX7 := ⟨rfl, fun w h => gT_of ((by decide +kernel : ∀ w ∈ u_ws RX7 TX7 4, w ∈ lw_tbl) w h) ((by decide +kernel : ∀ w ∈ u_ws RX7 TX7 4, goodWord w = true) w h), rfl, by decide, tyX7_ok, nmX7, gT_of (by decide +kernel) rfl, gT_of (by decide +kernel) rfl⟩
theorem gcls_7 : gCls 7 RX8 TX8 8 tyX8 := ⟨rfl, fun w h => gT_of ((by decide +kernel : ∀ w ∈ u_ws RX8 TX8 8, w ∈ lw_tbl) w h) ((by decide +kernel : ∀ w ∈ u_ws RX8 TX8 8, goodWord w = true) w h), rfl, by decide, tyX8_ok, nmX8, gT_of (by decide +kernel) rfl, gT_of (by decide +kernel) rfl⟩
theorem gcls_8 : gCls 8 RX9 TX9 35 tyX9 := ⟨rfl, fun w h => gT_of ((by decide +kernel : ∀ w ∈ u_ws RX9 TX9 35, w ∈ lw_tbl) w h) ((by decide +kernel : ∀ w ∈ u_ws RX9 TX9 35, goodWord w = true) w h), rfl, by decide, tyX9_ok, nmX9, gT_of (by decide +kernel) rfl, gT_of (by decide +kernel) rfl⟩
end
section
def gNest : List (String × Nat × MethodName × String) := [("UrlGate", 9, ⟨"UrlGate$Row", "<init>", "()V"⟩, "UrlGate"), ("UrlGate", 27, ⟨"UrlGate$Host", "<init>", "()V"⟩, "UrlGate"), ("UrlGate$Host", 9, ⟨"UrlGate$Address", "<init>", "()V"⟩, "UrlGate"), ("UrlGate$Host", 18, ⟨"UrlGate$Row", "<init>", "()V"⟩, "UrlGate"), ("UrlGate", 34, ⟨"UrlGate$HostReader", "<init>", "()V"⟩, "UrlGate"), ("UrlGate$HostReader", 11, ⟨"UrlGate$Row", "<init>", "()V"⟩, "UrlGate"), ("UrlGate", 41, ⟨"UrlGate$UrlReader", "<init>", "()V"⟩, "UrlGate"), ("UrlGate$UrlReader", 11, ⟨"UrlGate$Row", "<init>", "()V"⟩, "UrlGate"), ("UrlGate", 48, ⟨"UrlGate$Gate", "<init>", "()V"⟩, "UrlGate"), ("UrlGate", 53, ⟨"UrlGate$Url", "<init>", "()V"⟩, "UrlGate"), ("UrlGate$Url", 17, ⟨"UrlGate$Row", "<init>", "()V"⟩, "UrlGate"), ("UrlGate$Url", 30, ⟨"UrlGate$Host", "<init>", "()V"⟩, "UrlGate"), ("UrlGate$Gate", 50, ⟨"UrlGate$Host", "<init>", "()V"⟩, "UrlGate"), ("UrlGate$Gate", 55, ⟨"UrlGate$Row", "<init>", "()V"⟩, "UrlGate"), ("UrlGate$Gate", 59, ⟨"UrlGate$Address", "<init>", "()V"⟩, "UrlGate")]
def gStr : List (String × Nat × String) := [("UrlGate$Url", 57, "http"), ("UrlGate$Url", 59, "ws"), ("UrlGate$Url", 61, "https"), ("UrlGate$Url", 63, "wss"), ("UrlGate$Url", 65, "ftp"), ("UrlGate$UrlReader", 104, "//"), ("UrlGate$UrlReader", 166, " \"#<>?^`{}/:;=\x40[\\]|"), ("UrlGate$Row", 48, "0123456789ABCDEF"), ("UrlGate$Host", 60, "::"), ("UrlGate$Row", 50, "0123456789abcdef"), ("UrlGate$Bytes", 15, "#%/:<>?\x40[\\]^|"), ("UrlGate$HostReader", 84, "xn--"), ("UrlGate$HostReader", 96, "0x"), ("UrlGate$UrlReader", 199, "%2e"), ("UrlGate$UrlReader", 201, "%2E"), ("UrlGate$UrlReader", 197, " \"#<>?^`{}"), ("UrlGate$UrlReader", 210, " \"#<>'"), ("UrlGate$UrlReader", 218, " \"<>`"), ("UrlGate$Url", 110, "://"), ("UrlGateModel", 132, "http"), ("UrlGateModel", 134, "ws"), ("UrlGateModel", 136, "https"), ("UrlGateModel", 138, "wss"), ("UrlGateModel", 140, "ftp")]
def gLen : List Nat := [4, 2, 5, 3, 3, 2, 19, 16, 2, 16, 13, 4, 2, 3, 3, 10, 6, 5, 3, 4, 2, 5, 3, 3]
def gByt : List (List Int32) := [[104, 116, 116, 112], [119, 115], [104, 116, 116, 112, 115], [119, 115, 115], [102, 116, 112], [47, 47], [32, 34, 35, 60, 62, 63, 94, 96, 123, 125, 47, 58, 59, 61, 64, 91, 92, 93, 124], [48, 49, 50, 51, 52, 53, 54, 55, 56, 57, 65, 66, 67, 68, 69, 70], [58, 58], [48, 49, 50, 51, 52, 53, 54, 55, 56, 57, 97, 98, 99, 100, 101, 102], [35, 37, 47, 58, 60, 62, 63, 64, 91, 92, 93, 94, 124], [120, 110, 45, 45], [48, 120], [37, 50, 101], [37, 50, 69], [32, 34, 35, 60, 62, 63, 94, 96, 123, 125], [32, 34, 35, 60, 62, 39], [32, 34, 60, 62, 96], [58, 47, 47], [104, 116, 116, 112], [119, 115], [104, 116, 116, 112, 115], [119, 115, 115], [102, 116, 112]]
def gSt (G : gX) (U : State) (H : Heap) (i : Nat) : Prop := va_O "java/lang/String" (gK G i) (gA G) U H ∧ va_OF "java/lang/String" "coder" "B" (.int 0) (gK G i) (gA G) U H ∧ va_OF "java/lang/String" "value" "[B" (.ref (gV G i)) (gK G i) (gA G) U H ∧ va_T .byte (gV G i) (gLen.getD i 0) (fun j => .int ((gByt.getD i []).getD j 0)) (gA G) U H
/-- what holds of the machine's tables and of what lies below the system's cells -/
def gG (G : gX) (U : State) (H : Heap) : Prop := va_K (gD G) vwCl (gTy G) U ∧ (∀ C ∈ [RX0, RX3, RX5, RX6], va_AO C U) ∧ (∀ q ∈ gNest, va_Nw (.methodLinkNest q.1 q.2.1 q.2.2.1 q.2.2.2) U) ∧ (∀ (i : Nat) (q : String × Nat × String), gStr[i]? = some q → vk_R q.1 q.2.1 q.2.2 (gK G i) U) ∧ (∀ i : Nat, i < 24 → gSt G U H i) ∧ va_Z "java/lang/String" "COMPACT_STRINGS" "Z" (.int 1) (gA G) U H ∧ va_Zq "jdk/internal/util/Preconditions" "SIOOBE_FORMATTER" "Ljava/util/function/BiFunction;" (gA G) U H
theorem gG.warm {G : gX} {s U : State} {H : Heap} (hW : s.WarmedH U.vm) (h : gG G s H) : gG G U H := by
  obtain ⟨h1, h2, h3, h4, h5, h6, h7⟩ := h
  refine ⟨va_K.moved hW.alike h1, fun C hC => va_AO.moved hW.alike (h2 C hC), fun q hq => va_Nw.warmM hW (h3 q hq), fun i q hq => vk_R.warm hW (h4 i q hq), fun i hi => ?_, va_Z.moved hW.alike h6, va_Zq.moved hW.alike h7⟩
  obtain ⟨g1, g2, g3, g4⟩ := h5 i hi
  exact ⟨va_O.moved hW.alike g1, va_OF.moved hW.alike g2, va_OF.moved hW.alike g3, va_T.moved hW.alike g4⟩
theorem gG.same {G : gX} {u U : State} {H : Heap} (hv : u.vm = U.vm) (h : gG G u H) : gG G U H := by
  have ha : u.vm.Alike U.vm := by rw [hv]; exact Vm.Alike.refl _
  obtain ⟨h1, h2, h3, h4, h5, h6, h7⟩ := h
  refine ⟨va_K.moved ha h1, fun C hC => va_AO.moved ha (h2 C hC), fun q hq => va_Nw.same rfl hv (h3 q hq), fun i q hq => vk_R.same hv.symm (h4 i q hq), fun i hi => ?_, va_Z.moved ha h6, va_Zq.moved ha h7⟩
  obtain ⟨g1, g2, g3, g4⟩ := h5 i hi
  exact ⟨va_O.moved ha g1, va_OF.moved ha g2, va_OF.moved ha g3, va_T.moved ha g4⟩
theorem gG.kept {G : gX} {U : State} {H H1 : Heap} (h : gG G U H) (hq : ∀ a : Nat, a < H.size → ¬ gA G a → H1[a]? = H[a]?) : gG G U H1 := by
  obtain ⟨h1, h2, h3, h4, h5, h6, h7⟩ := h
  refine ⟨h1, h2, h3, h4, fun i hi => ?_, h6.kept hq, h7.kept hq⟩
  obtain ⟨g1, g2, g3, g4⟩ := h5 i hi
  exact ⟨g1.kept hq, g2.kept hq, g3.kept hq, g4.kept hq⟩
/-- the walk's fixed part -/
def gC (G : gX) (p : Program) (s : State) (m : MethodId) (args : Array Value) (meth : Method) (c : Code) (cc : ByteArray) (nL : Nat) (own : String) : Prop := p.tables.exec = Jvm.exec ∧ c.code = cc ∧ c.maxLocals = nL ∧ s.vm.findClass own = some m.cls ∧ (∀ w ∈ gT, w.before args s = true) ∧ meth.locks = false ∧ gG G s s.heap
/-- the walk's moving part: the state σ now, τ at the method's end -/
def gI (G : gX) (R : Room) (s : State) (τ σ : gS) (H : Heap) (locs : List Loc) (cells slots : Nat) : Prop := gW G σ H ∧ va_S (gA G) s.heap H locs ∧ cells + gcl σ ≤ R.cells + gcl τ ∧ slots + gsl σ ≤ R.slots + gsl τ
section GROWS
variable {G : gX} {p : Program} {l : Launch} {e : Env} {R : Room} {s : State} {m : MethodId} {args : Array Value} {below : List Frame} {meth : Method} {c : Code} {H : Heap} {locs : List Loc} {cells slots : Nat} {Q : State → Prop}
variable {cc : ByteArray} {nL pc : Nat} {own : String} {ls : Array Slot} {rest : List Value} {σ : gS} {β : Type} {y : β × gS}
theorem gW_at {G : gX} {σ : gS} {H : Heap} (h : gW G σ H) {a : Nat} {e : va_E} (ha : gkd σ a ≠ 0) (hc : gcell G σ a = e) : va_P (gD G) vwCl [(a, e)] H := by
  intro k q hk
  have hz : k < 1 := (List.getElem?_eq_some_iff.mp hk).1
  rw [show k = 0 by omega] at hk
  cases hk
  rw [← hc]
  exact (h.2.2 a ha).2
theorem gw_geti {ci k index : Nat} {Cn : String} {T : u_T} {N : Nat} {ty : Nat → FieldType} {r : Option Nat} {K : Int32 → gM β} (C : gC G p s m args meth c cc nL own) (I : gI G R s y.2 σ H locs cells slots) (hc : gCls ci Cn T N ty) (hk : k < N) (hr : grf ci k = false) (hl : Cond.fieldLink own index (T k).1 (T k).2.1 (T k).2.2.1 ∈ gT) (hdg : decode cc pc = .ok (.getfield index, 3)) (hf : (gb (rI ci k r) K).1 σ = some y)
    (kk : ∀ x : Int32, (K x).1 σ = some y → W p l e R s m args below meth c H locs cells slots Q (F0 m (pc + 3) ls (.int x :: rest))) : W p l e R s m args below meth c H locs cells slots Q (F0 m pc ls (va_rf r :: rest)) := by
  obtain ⟨x, h1, h2⟩ := gb_some hf
  obtain ⟨h3, h4⟩ := gq_some h1
  obtain ⟨x, σ1⟩ := x
  dsimp only at h2 h3 h4
  subst h4
  cases r with
  | none => cases h3
  | some a =>
    dsimp only at h3
    split at h3
    · rename_i hka
      cases h3
      obtain ⟨hx, hb, -, hown, hts, -, hG⟩ := C
      obtain ⟨g1, g2, g3, g4, g5, g6, -⟩ := hc
      have hP := gW_at I.1 (by rw [hka]; omega) (gcell_o hka g4)
      exact va_get (D := gD G) (ws := [(a, .inr (ci, gfs σ1 ci a))]) (ci := ci) (C := Cn) (T := T) (N := N) hx hb hts g2 hown hG.1 hP 0 rfl g1 k hk (hts _ hl) (fun _ h => h) (gfs_i (by rw [g3]; exact hk) hr) hdg (kk _ h2)
    · cases h3
theorem gw_getr {ci k index : Nat} {Cn : String} {T : u_T} {N : Nat} {ty : Nat → FieldType} {r : Option Nat} {K : Option Nat → gM β} (C : gC G p s m args meth c cc nL own) (I : gI G R s y.2 σ H locs cells slots) (hc : gCls ci Cn T N ty) (hk : k < N) (hr : grf ci k = true) (hl : Cond.fieldLink own index (T k).1 (T k).2.1 (T k).2.2.1 ∈ gT) (hdg : decode cc pc = .ok (.getfield index, 3)) (hf : (gb (rR ci k r) K).1 σ = some y)
    (kk : ∀ x : Option Nat, (K x).1 σ = some y → W p l e R s m args below meth c H locs cells slots Q (F0 m (pc + 3) ls (va_rf x :: rest))) : W p l e R s m args below meth c H locs cells slots Q (F0 m pc ls (va_rf r :: rest)) := by
  obtain ⟨x, h1, h2⟩ := gb_some hf
  obtain ⟨h3, h4⟩ := gq_some h1
  obtain ⟨x, σ1⟩ := x
  dsimp only at h2 h3 h4
  subst h4
  cases r with
  | none => cases h3
  | some a =>
    dsimp only at h3
    split at h3
    · rename_i hka
      cases h3
      obtain ⟨hx, hb, -, hown, hts, -, hG⟩ := C
      obtain ⟨g1, g2, g3, g4, g5, g6, -⟩ := hc
      have hP := gW_at I.1 (by rw [hka]; omega) (gcell_o hka g4)
      exact va_get (D := gD G) (ws := [(a, .inr (ci, gfs σ1 ci a))]) (ci := ci) (C := Cn) (T := T) (N := N) hx hb hts g2 hown hG.1 hP 0 rfl g1 k hk (hts _ hl) (fun _ h => h) (gfs_r (by rw [g3]; exact hk) hr) hdg (kk _ h2)
    · cases h3
/-- a field is written, of whatever type -/
theorem gx_put {a ci k index : Nat} {Cn : String} {T : u_T} {N : Nat} {ty0 : Nat → FieldType} {ty : FieldType} {v : Value} {fs : List Value} (C : gC G p s m args meth c cc nL own) (hS0 : va_S (gA G) s.heap H locs) (ha : gB G ≤ a) (hc : gCls ci Cn T N ty0) (hk : k < N) (hl : Cond.fieldLink own index (T k).1 (T k).2.1 (T k).2.2.1 ∈ gT) (hfin : (T k).2.2.2 = false ∨ ((T k).2.2.2 = true ∧ meth.name = "<init>" ∧ (T k).1 = own)) (hd : parseFieldDescriptor (T k).2.2.1 = some ty) (hn : narrow ty v = v) (hfit : fits ty v = true) (hlen : k < fs.length) (hP : va_at (gD G) vwCl (a, .inr (ci, fs)) H) (hdg : decode cc pc = .ok (.putfield index, 3))
    (kk : ∀ (H1 : Heap) (locs1 : List Loc), H1.size = H.size → (∀ q : Nat, q ≠ a → H1[q]? = H[q]?) → va_at (gD G) vwCl (a, .inr (ci, fs.set k v)) H1 → va_S (gA G) s.heap H1 locs1 → W p l e R s m args below meth c H1 locs1 cells slots Q (F0 m (pc + 3) ls rest)) : W p l e R s m args below meth c H locs cells slots Q (F0 m pc ls (v :: .ref a :: rest)) := by
  obtain ⟨hx, hb, -, hown, hts, -, hG⟩ := C
  obtain ⟨g1, g2, g3, g4, g5, g6, -⟩ := hc
  have hap := va_apart (own := own) hts g2 ty0 g5 g6 hG.1 g1
  obtain ⟨r, h1, cell, q1, q2, q3, q4⟩ := hP
  have hr : r = (Cn, T, N) := Option.some.inj (h1.symm.trans g1)
  subst hr
  obtain ⟨hSl, hfc, kC, hkC, hkind⟩ := hG.1.1 ci _ g1
  obtain ⟨cf, kf, fi, f, hi, hsl⟩ := hSl k hk
  have hlay := hts _ (g2 _ (u_in_lay hk))
  have hst := (u_facts hfc hkC (u_lays hts g2 hk) hi).1
  have fin : ∀ H' : Heap, H'[a]? = some (cell.setSlot f.slot v) → H'.size = H.size → (∀ q : Nat, q ≠ a → H'[q]? = H[q]?) → W p l e R s m args below meth c H' (locs ++ [⟨a, f.slot⟩]) cells slots Q (F0 m (pc + 3) ls rest) := by
    intro H' e1 e2 e3
    rw [hsl] at e1 ⊢
    exact kk H' _ e2 e3 ⟨_, g1, t_OB.to (V := updV (vp_V fs) k v) ⟨_, e1, q2, q3, t_set q4 hap hk v⟩ (fun j _ => vp_updV_set hlen v j)⟩ (hS0.put e2 e3 ha)
  unfold u_lay at hlay
  rcases hfin with hfin | ⟨hfin, hin2, hdecl⟩
  · rw [if_neg (by rw [hfin]; decide)] at hlay
    have h6 := u_store hfc hkC hkind hlay hi hd hn hfit
    exact W.putK hx hb (f := f) ⟨hown, hts _ hl, ⟨_, _, _, hi⟩, hst⟩ (by rw [q2]; exact h6) q1 q3 (by rw [hsl]; exact k2_hasslot (q4 k hk)) rfl rfl hdg fin
  · rw [if_pos hfin] at hlay
    have hcf : m.cls = cf := by
      obtain ⟨_, _, c', _, _, _, -, -, hf', -, -, -, hown2, -⟩ := Cond.laysFinal_spec hlay
      have e1 : c' = cf := by have := hi.symm.trans hf'; simp at this; exact this.1.symm
      rw [hdecl] at hown2
      rw [← e1]; exact Option.some.inj (hown.symm.trans hown2)
    have h6 := u_fits hfc hkC hkind (Or.inr hlay) hi hd hn hfit
    exact W.putFinK hx hb hown (hts _ hl) hi hst hcf hin2 (by rw [q2]; exact h6) q1 q3 (by rw [hsl]; exact k2_hasslot (q4 k hk)) rfl rfl hdg fin
/-- an int field; the kinds of field that hold an int as it is -/
theorem gw_puti {ci k index : Nat} {Cn : String} {T : u_T} {N : Nat} {ty0 : Nat → FieldType} {r : Option Nat} {v : Int32} {K : Unit → gM β} (C : gC G p s m args meth c cc nL own) (I : gI G R s y.2 σ H locs cells slots) (hc : gCls ci Cn T N ty0) (hk : k < N) (hr : grf ci k = false) (hl : Cond.fieldLink own index (T k).1 (T k).2.1 (T k).2.2.1 ∈ gT) (hfin : (T k).2.2.2 = false ∨ ((T k).2.2.2 = true ∧ meth.name = "<init>" ∧ (T k).1 = own)) (hd : parseFieldDescriptor (T k).2.2.1 = some .int) (hdg : decode cc pc = .ok (.putfield index, 3)) (hf : (gb (wI ci k r v) K).1 σ = some y)
    (kk : ∀ (σ1 : gS) (H1 : Heap) (locs1 : List Loc), gI G R s y.2 σ1 H1 locs1 cells slots → (K ()).1 σ1 = some y → W p l e R s m args below meth c H1 locs1 cells slots Q (F0 m (pc + 3) ls rest)) : W p l e R s m args below meth c H locs cells slots Q (F0 m pc ls (.int v :: va_rf r :: rest)) := by
  obtain ⟨x, h1, h2⟩ := gb_some hf
  have h3 := gu_some h1
  cases r with
  | none => cases h3
  | some a =>
    dsimp only at h3
    split at h3
    · rename_i hka
      have h3 := Option.some.inj h3
      have hg := hc
      obtain ⟨g1, g2, g3, g4, g5, g6, -⟩ := hg
      have hne : gkd σ a ≠ 0 := by rw [hka]; omega
      have hP := (I.1.2.2 a hne).2
      rw [gcell_o hka g4] at hP
      refine gx_put (v := .int v) C I.2.1 (I.1.2.2 a hne).1 hc hk hl hfin hd rfl rfl (by rw [gfs_len, g3]; exact hk) hP hdg fun H1 locs1 e1 e2 e3 hS => ?_
      rw [gfs_setI hr] at e3
      rw [← h3] at h2
      refine kk (gsI σ ci k a v) H1 locs1 ⟨gW_upd I.1 e1 e2 rfl (fun _ => rfl) (fun b hb => gcell_sI hb) (I.1.2.2 a hne).1 ?_, hS, I.2.2.1, I.2.2.2⟩ h2
      rw [gcell_o (σ := gsI σ ci k a v) hka g4]
      exact e3
    · cases h3
theorem gw_putz {ci k index : Nat} {Cn : String} {T : u_T} {N : Nat} {ty0 : Nat → FieldType} {r : Option Nat} {v : Int32} {K : Unit → gM β} (C : gC G p s m args meth c cc nL own) (I : gI G R s y.2 σ H locs cells slots) (hc : gCls ci Cn T N ty0) (hk : k < N) (hr : grf ci k = false) (hl : Cond.fieldLink own index (T k).1 (T k).2.1 (T k).2.2.1 ∈ gT) (hfin : (T k).2.2.2 = false ∨ ((T k).2.2.2 = true ∧ meth.name = "<init>" ∧ (T k).1 = own)) (hd : parseFieldDescriptor (T k).2.2.1 = some .boolean) (hdg : decode cc pc = .ok (.putfield index, 3)) (hf : (gb (wZ ci k r v) K).1 σ = some y)
    (kk : ∀ (σ1 : gS) (H1 : Heap) (locs1 : List Loc), gI G R s y.2 σ1 H1 locs1 cells slots → (K ()).1 σ1 = some y → W p l e R s m args below meth c H1 locs1 cells slots Q (F0 m (pc + 3) ls rest)) : W p l e R s m args below meth c H locs cells slots Q (F0 m pc ls (.int v :: va_rf r :: rest)) := by
  obtain ⟨x, h1, h2⟩ := gb_some hf
  have h3 := gu_some h1
  cases r with
  | none => cases h3
  | some a =>
    dsimp only at h3
    split at h3
    · rename_i hka
      obtain ⟨hka, hv⟩ := hka
      have h3 := Option.some.inj h3
      have hg := hc
      obtain ⟨g1, g2, g3, g4, g5, g6, -⟩ := hg
      have hne : gkd σ a ≠ 0 := by rw [hka]; omega
      have hP := (I.1.2.2 a hne).2
      rw [gcell_o hka g4] at hP
      refine gx_put (v := .int v) C I.2.1 (I.1.2.2 a hne).1 hc hk hl hfin hd (by rcases hv with rfl | rfl <;> decide) (by rcases hv with rfl | rfl <;> decide) (by rw [gfs_len, g3]; exact hk) hP hdg fun H1 locs1 e1 e2 e3 hS => ?_
      rw [gfs_setI hr] at e3
      rw [← h3] at h2
      refine kk (gsI σ ci k a v) H1 locs1 ⟨gW_upd I.1 e1 e2 rfl (fun _ => rfl) (fun b hb => gcell_sI hb) (I.1.2.2 a hne).1 ?_, hS, I.2.2.1, I.2.2.2⟩ h2
      rw [gcell_o (σ := gsI σ ci k a v) hka g4]
      exact e3
    · cases h3
theorem gw_putr {ci k index : Nat} {Cn : String} {T : u_T} {N : Nat} {ty0 : Nat → FieldType} {ty : FieldType} {r v : Option Nat} {K : Unit → gM β} (C : gC G p s m args meth c cc nL own) (I : gI G R s y.2 σ H locs cells slots) (hc : gCls ci Cn T N ty0) (hk : k < N) (hr : grf ci k = true) (hl : Cond.fieldLink own index (T k).1 (T k).2.1 (T k).2.2.1 ∈ gT) (hfin : (T k).2.2.2 = false ∨ ((T k).2.2.2 = true ∧ meth.name = "<init>" ∧ (T k).1 = own)) (hd : parseFieldDescriptor (T k).2.2.1 = some ty) (hty : ∀ v : Option Nat, narrow ty (va_rf v) = va_rf v ∧ fits ty (va_rf v) = true) (hdg : decode cc pc = .ok (.putfield index, 3)) (hf : (gb (wR ci k r v) K).1 σ = some y)
    (kk : ∀ (σ1 : gS) (H1 : Heap) (locs1 : List Loc), gI G R s y.2 σ1 H1 locs1 cells slots → (K ()).1 σ1 = some y → W p l e R s m args below meth c H1 locs1 cells slots Q (F0 m (pc + 3) ls rest)) : W p l e R s m args below meth c H locs cells slots Q (F0 m pc ls (va_rf v :: va_rf r :: rest)) := by
  obtain ⟨x, h1, h2⟩ := gb_some hf
  have h3 := gu_some h1
  cases r with
  | none => cases h3
  | some a =>
    dsimp only at h3
    split at h3
    · rename_i hka
      have h3 := Option.some.inj h3
      have hg := hc
      obtain ⟨g1, g2, g3, g4, g5, g6, -⟩ := hg
      have hne : gkd σ a ≠ 0 := by rw [hka]; omega
      have hP := (I.1.2.2 a hne).2
      rw [gcell_o hka g4] at hP
      refine gx_put (v := va_rf v) C I.2.1 (I.1.2.2 a hne).1 hc hk hl hfin hd (hty v).1 (hty v).2 (by rw [gfs_len, g3]; exact hk) hP hdg fun H1 locs1 e1 e2 e3 hS => ?_
      rw [gfs_setR hr] at e3
      rw [← h3] at h2
      refine kk (gsR σ ci k a v) H1 locs1 ⟨gW_upd I.1 e1 e2 rfl (fun _ => rfl) (fun b hb => gcell_sR hb) (I.1.2.2 a hne).1 ?_, hS, I.2.2.1, I.2.2.2⟩ h2
      rw [gcell_o (σ := gsR σ ci k a v) hka g4]
      exact e3
    · cases h3
theorem gty_o (C : String) : ∀ v : Option Nat, narrow (.object C) (va_rf v) = va_rf v ∧ fits (.object C) (va_rf v) = true := by intro v; cases v <;> exact ⟨rfl, rfl⟩
theorem gty_a (t : FieldType) : ∀ v : Option Nat, narrow (.array t) (va_rf v) = va_rf v ∧ fits (.array t) (va_rf v) = true := by intro v; cases v <;> exact ⟨rfl, rfl⟩
end GROWS
end
section
theorem grc (r : Option Nat) : (va_rf r).category = 1 := by cases r <;> rfl
theorem gcats : ∀ (l : List Value), (l.map fun v => v.category).sum ≤ 2 * l.length
  | [] => Nat.le_refl _
  | v :: l => by
    have h := gcats l
    have h1 := lv_cat v
    simp only [List.map_cons, List.sum_cons, List.length_cons]
    omega
theorem gc4 {l : List Value} (h : l.length ≤ 4) : (l.map fun v => v.category).sum ≤ 8 := by have := gcats l; omega
/-- a method's answer as the machine has it -/
abbrev gri : Int32 → Option Value := fun x => some (.int x)
abbrev grl : Int64 → Option Value := fun x => some (.long x)
abbrev grq : Option Nat → Option Value := fun x => some (va_rf x)
abbrev grv : Unit → Option Value := fun _ => none
def gQ {α : Type} (G : gX) (rv : α → Option Value) (y : α × gS) : Array Value → State → Outcome → State → Prop := fun _ st oc t => oc = .returned (rv y.1) ∧ gW G y.2 t.heap ∧ va_F (gA G) st t
def gPc (G : gX) (av : List Value) (σ : gS) : Array Value → State → Prop := va_Pc av (fun U => gW G σ U.heap ∧ gG G U U.heap)
/-- a method's contract: it does what the program f does -/
def gMet {α : Type} (G : gX) (l : Launch) (yn : MethodName) (cc : ByteArray) (nL : Nat) (ret : Option FieldType) (F Lc : Nat) (av : List Value) (rv : α → Option Value) (f : gM α) : Prop :=
  ∀ (σ : gS) (y : α × gS), f.1 σ = some y → Met l yn (.code yn cc nL ret :: gT) { frames := F, cells := gcl σ - gcl y.2, slots := gsl σ - gsl y.2, locals := Lc } (gPc G av σ) (gQ G rv y) (gcl σ - gcl y.2) (gsl σ - gsl y.2) (gA G)
theorem gPc_blind {G : gX} {av : List Value} {σ : gS} : FrameBlind (gPc G av σ) := fun a U g mk h => ⟨h.1, h.2.1, gG.same (u := U) (U := U.calling g mk a) rfl h.2.2⟩
theorem gMet_of {α : Type} {G : gX} {l : Launch} {yn : MethodName} {cc : ByteArray} {nL : Nat} {ret : Option FieldType} {F Lc : Nat} {av : List Value} {rv : α → Option Value} {f : gM α} (hy : plainName yn.cls = true)
    (body : ∀ (σ : gS) (y : α × gS) (p : Program) (e : Env) (s : State) (m : MethodId) (below : List Frame) (meth : Method) (c : Code) (mc ms : Nat), f.1 σ = some y → gC G p s m av.toArray meth c cc nL yn.cls → meth.sig.returnType = ret → meth.name = yn.name → gI G { frames := F, cells := mc, slots := ms, locals := Lc } s y.2 σ s.heap [] 0 0 → W p l e { frames := F, cells := mc, slots := ms, locals := Lc } s m av.toArray below meth c s.heap [] 0 0 (MQ below (gQ G rv y) av.toArray s mc ms (gA G)) (entryFrame m av.toArray nL)) : gMet G l yn cc nL ret F Lc av rv f := by
  intro σ y hf
  refine Met.ofW (cc := cc) (maxL := nL) (ret := ret) hy rfl ?_
  intro p e s m args below meth c s₁ B hml hv
  obtain ⟨rfl, hW, hG⟩ := hv
  have hts := atoms_spec (ws := .code yn cc nL ret :: gT) B.pre
  have hmono := f.2 σ y hf
  refine body σ y p e s m below meth c _ _ hf ⟨B.exec, B.bytes, hml, findClass_of_methodNamed B.named, fun w h => hts w (List.mem_cons_of_mem _ h), B.notSynchronized, hG⟩ B.returns (name_of_methodNamed B.named B.method).1 ⟨hW, va_S.rf, ?_, ?_⟩
  · show 0 + gcl σ ≤ (gcl σ - gcl y.2) + gcl y.2
    have := hmono.1
    omega
  · show 0 + gsl σ ≤ (gsl σ - gsl y.2) + gsl y.2
    have := hmono.2
    omega
section GROWS2
variable {G : gX} {p : Program} {l : Launch} {e : Env} {R : Room} {s : State} {m : MethodId} {args : Array Value} {below : List Frame} {meth : Method} {c : Code} {H : Heap} {locs : List Loc} {cells slots : Nat} {Q : State → Prop}
variable {cc : ByteArray} {nL pc : Nat} {own : String} {ls : Array Slot} {rest : List Value} {σ : gS} {α β : Type} {y : β × gS}
/-- the law's own environment, at the heap as it is now -/
theorem gG_now (C : gC G p s m args meth c cc nL own) (hS : va_S (gA G) s.heap H locs) : gG G s H := C.2.2.2.2.2.2.kept (fun a h1 h2 => hS.2.1 a h1 h2)
theorem gw_run {rv : α → Option Value} {f : gM α} {K : α → gM β} {st0 : List Value} {a : Array Value} (I : gI G R s y.2 σ H locs cells slots) (hf : (gb f K).1 σ = some y) (hr : ∀ y1, f.1 σ = some y1 → cells + (gcl σ - gcl y1.2) ≤ R.cells ∧ slots + (gsl σ - gsl y1.2) ≤ R.slots → va_Run p l e R s m args below meth c H locs cells slots (gcl σ - gcl y1.2) (gsl σ - gsl y1.2) (F0 m pc ls st0) rest (gQ G rv y1 a) (gA G))
    (kk : ∀ (x : α) (σ1 : gS) (H1 : Heap) (locs1 : List Loc) (cells1 slots1 : Nat), gI G R s y.2 σ1 H1 locs1 cells1 slots1 → (K x).1 σ1 = some y → W p l e R s m args below meth c H1 locs1 cells1 slots1 Q (F0 m (pc + 3) ls ((rv x).toList ++ rest))) : W p l e R s m args below meth c H locs cells slots Q (F0 m pc ls st0) := by
  obtain ⟨y1, h1, h2⟩ := gb_some hf
  have m1 := f.2 σ y1 h1
  have m2 := (K y1.1).2 y1.2 y h2
  obtain ⟨iW, iS, iC, iL⟩ := I
  have hr := hr y1 h1 ⟨by omega, by omega⟩
  intro T hT X
  obtain ⟨v, st₀, t, T', L, h0, X', hL, e1, e2, ⟨hv, hb, hz, hk⟩, st⟩ := hr T hT X
  cases hv
  rw [h0] at hz hk
  obtain ⟨t2, a1, b1⟩ := kk y1.1 y1.2 T'.heap (locs ++ L) _ _ ⟨by rw [e1]; exact hb, ⟨Nat.le_trans iS.1 (by rw [e1]; exact hz), fun q q1 q2 => by rw [e1, hk q (Nat.lt_of_lt_of_le q1 iS.1) q2]; exact iS.2.1 q q1 q2, fun q hq => by
      rcases List.mem_append.mp hq with h | h
      · exact iS.2.2 q h
      · exact hL q h⟩, by omega, by omega⟩ h2 T' rfl X'
  exact ⟨t2, st t2 a1, b1⟩
theorem nn_some {ci : Nat} {r : Option Nat} {K : Unit → gM β} {σ : gS} {y : β × gS} (hf : (gb (nn ci r) K).1 σ = some y) : ∃ a, r = some a ∧ gkd σ a = ci + 1 ∧ (K ()).1 σ = some y := by
  obtain ⟨x, h1, h2⟩ := gb_some hf
  obtain ⟨h3, h4⟩ := gq_some h1
  cases r with
  | none => cases h3
  | some a =>
    dsimp only at h3
    split at h3
    · rename_i hk
      rw [h4] at h2
      exact ⟨a, rfl, hk, h2⟩
    · cases h3
theorem gw_pre (C : gC G p s m args meth c cc nL own) (I : gI G R s y.2 σ H locs cells slots) {av : List Value} : PreS s H (gPc G av σ) av := ⟨gPc_blind, fun U hU hW => ⟨rfl, by rw [hU]; exact I.1, by rw [hU]; exact (gG_now C I.2.1).warm hW⟩⟩
theorem gw_recv (C : gC G p s m args meth c cc nL own) (I : gI G R s y.2 σ H locs cells slots) {ci a N : Nat} {Cn : String} {T : u_T} {ty : Nat → FieldType} (hc : gCls ci Cn T N ty) (hk : gkd σ a = ci + 1) : ∃ cell : Cell, H[a]? = some cell ∧ cell.vm.isStatics = false ∧ s.vm.findClass Cn = some cell.cls := by
  have hP := gW_at I.1 (by rw [hk]; omega) (gcell_o hk hc.2.2.2.1)
  exact va_recv C.2.2.2.2.2.2.1 hP hc.1 (q0 := 0) rfl
/-- what a call wants of the tables -/
def gLink (own : String) (index : Nat) (yn : MethodName) (cc : ByteArray) (nL n : Nat) (ret : Option FieldType) : Prop := Cond.methodLink own index yn ∈ gT ∧ Cond.code yn cc nL ret ∈ gT ∧ Cond.initialized yn.cls ∈ gT ∧ yn.cls ≠ "java/lang/invoke/MethodHandle" ∧ yn.cls ≠ "java/lang/invoke/VarHandle" ∧ (parseMethodDescriptor yn.desc).map (fun d => d.parameters.length) = some n
theorem gLink.B {Ts : Cond} {yn : MethodName} {cc' : ByteArray} {nL' n index F Lc mc ms : Nat} {ret : Option FieldType} (h : gLink own index yn cc' nL' n ret) (hts : ∀ w ∈ gT, w.before args s = true) (hR : F + 1 ≤ R.frames ∧ 8 + (nL' + 11) + Lc ≤ R.locals) : CallB R s args own index yn cc' nL' ret (.code yn cc' nL' ret :: gT) { frames := F, cells := mc, slots := ms, locals := Lc } mc ms n := by
  obtain ⟨h1, h2, h3, h4, h5, h6⟩ := h
  refine ⟨rfl, rfl, hR.1, hR.2, pay_in (big := gT) hts ?_, List.mem_cons_self, hts _ h2, hts _ h3, ⟨h4, h5⟩, fun sig hs => ?_, hts _ h1⟩
  · intro w hw
    rcases List.mem_cons.mp hw with rfl | hw
    · exact ⟨h2, good_of_word (List.mem_filter.mp h2).2⟩
    · exact ⟨hw, good_of_word (List.mem_filter.mp hw).2⟩
  · rw [hs] at h6
    exact (Option.some.inj h6).symm
theorem gw_callV {rv : α → Option Value} {f : gM α} {K : α → gM β} {ci N : Nat} {Cn : String} {T : u_T} {ty : Nat → FieldType} {yn : MethodName} {cc' : ByteArray} {nL' n index F Lc : Nat} {ret : Option FieldType} {r : Option Nat} {As st0 : List Value} (C : gC G p s m args meth c cc nL own) (I : gI G R s y.2 σ H locs cells slots) (hl : ls.size = nL) (hc : gCls ci Cn T N ty) (hM : gMet G l yn cc' nL' ret F Lc (va_rf r :: As) rv f) (h : gLink own index yn cc' nL' n ret) (hin : Cond.instanceMethod yn ∈ gT ∧ Cond.selects Cn yn yn ∈ gT) (hR : F + 1 ≤ R.frames ∧ 8 + (nL' + 11) + Lc ≤ R.locals) (hn : As.length = n) (hrest : (rest.map fun v => v.category).sum ≤ 8) (hst : st0 = As.reverse ++ va_rf r :: rest) (hdg : decode cc pc = .ok (.invokevirtual index, 3)) (hf : (gb (nn ci r) fun _ => gb f K).1 σ = some y)
    (kk : ∀ (x : α) (σ1 : gS) (H1 : Heap) (locs1 : List Loc) (cells1 slots1 : Nat), gI G R s y.2 σ1 H1 locs1 cells1 slots1 → (K x).1 σ1 = some y → W p l e R s m args below meth c H1 locs1 cells1 slots1 Q (F0 m (pc + 3) ls ((rv x).toList ++ rest))) : W p l e R s m args below meth c H locs cells slots Q (F0 m pc ls st0) := by
  obtain ⟨a, rfl, hk, hf⟩ := nn_some hf
  refine gw_run (rv := rv) (a := (Value.ref a :: As).toArray) I hf (fun y1 h1 hroom => ?_) kk
  obtain ⟨hx, hb, hml, hown, hts, -, hG⟩ := id C
  refine va_runV (b := a) (As := As) (rest := rest) ⟨hx, hb, hml, hown, hts⟩ (hM σ y1 h1) ⟨gLink.B (Ts := Cond.static yn) h hts hR, hts _ hin.1, hts _ hin.2⟩ ⟨gPc_blind, gw_recv C I hc hk, (gw_pre C I).2⟩ rfl hn hl hst ?_ hdg hroom
  exact lv_room hrest
theorem gw_callS {rv : α → Option Value} {f : gM α} {K : α → gM β} {yn : MethodName} {cc' : ByteArray} {nL' n index F Lc : Nat} {ret : Option FieldType} {As st0 : List Value} (C : gC G p s m args meth c cc nL own) (I : gI G R s y.2 σ H locs cells slots) (hl : ls.size = nL) (hM : gMet G l yn cc' nL' ret F Lc As rv f) (h : gLink own index yn cc' nL' n ret) (hin : Cond.static yn ∈ gT) (hR : F + 1 ≤ R.frames ∧ 8 + (nL' + 11) + Lc ≤ R.locals) (hn : As.length = n) (hrest : (rest.map fun v => v.category).sum ≤ 8) (hst : st0 = As.reverse ++ rest) (hdg : decode cc pc = .ok (.invokestatic index, 3)) (hf : (gb f K).1 σ = some y)
    (kk : ∀ (x : α) (σ1 : gS) (H1 : Heap) (locs1 : List Loc) (cells1 slots1 : Nat), gI G R s y.2 σ1 H1 locs1 cells1 slots1 → (K x).1 σ1 = some y → W p l e R s m args below meth c H1 locs1 cells1 slots1 Q (F0 m (pc + 3) ls ((rv x).toList ++ rest))) : W p l e R s m args below meth c H locs cells slots Q (F0 m pc ls st0) := by
  refine gw_run (rv := rv) (a := As.toArray) I hf (fun y1 h1 hroom => ?_) kk
  obtain ⟨hx, hb, hml, hown, hts, -, hG⟩ := id C
  refine va_runS (As := As) (rest := rest) ⟨hx, hb, hml, hown, hts⟩ (hM σ y1 h1) ⟨gLink.B (Ts := Cond.static yn) h hts hR, hts _ hin⟩ (gw_pre C I) rfl hn hl hst ?_ hdg hroom
  exact lv_room hrest
/-- a constructor of the class itself or one that the tables link as any other method -/
theorem gw_callI {f : gM Unit} {K : Unit → gM β} {yn : MethodName} {cc' : ByteArray} {nL' n index F Lc : Nat} {r : Option Nat} {As st0 : List Value} (C : gC G p s m args meth c cc nL own) (I : gI G R s y.2 σ H locs cells slots) (hl : ls.size = nL) (hM : gMet G l yn cc' nL' none F Lc (va_rf r :: As) grv f) (h : gLink own index yn cc' nL' n none) (hin : yn.name = "<init>" ∧ Cond.instanceMethod yn ∈ gT) (hR : F + 1 ≤ R.frames ∧ 8 + (nL' + 11) + Lc ≤ R.locals) (hn : As.length = n) (hrest : (rest.map fun v => v.category).sum ≤ 8) (hst : st0 = As.reverse ++ va_rf r :: rest) (hdg : decode cc pc = .ok (.invokespecial index, 3)) {ci : Nat} (hf : (gb (nn ci r) fun _ => gb f K).1 σ = some y)
    (kk : ∀ (x : Unit) (σ1 : gS) (H1 : Heap) (locs1 : List Loc) (cells1 slots1 : Nat), gI G R s y.2 σ1 H1 locs1 cells1 slots1 → (K x).1 σ1 = some y → W p l e R s m args below meth c H1 locs1 cells1 slots1 Q (F0 m (pc + 3) ls rest)) : W p l e R s m args below meth c H locs cells slots Q (F0 m pc ls st0) := by
  obtain ⟨a, rfl, hk, hf⟩ := nn_some hf
  refine gw_run (rv := grv) (a := (Value.ref a :: As).toArray) I hf (fun y1 h1 hroom => ?_) kk
  obtain ⟨hx, hb, hml, hown, hts, -, hG⟩ := id C
  refine va_runI (b := a) (As := As) (rest := rest) ⟨hx, hb, hml, hown, hts⟩ (hM σ y1 h1) ⟨gLink.B (Ts := Cond.static yn) h hts hR, hin.1, hts _ hin.2⟩ (gw_pre C I) rfl hn hl hst ?_ hdg hroom
  exact lv_room hrest
/-- a nest mate's private constructor -/
theorem gw_callN {f : gM Unit} {K : Unit → gM β} {yn : MethodName} {host : String} {cc' : ByteArray} {nL' n index F Lc : Nat} {r : Option Nat} {As st0 : List Value} (C : gC G p s m args meth c cc nL own) (I : gI G R s y.2 σ H locs cells slots) (hl : ls.size = nL) (hM : gMet G l yn cc' nL' none F Lc (va_rf r :: As) grv f) (hnest : (own, index, yn, host) ∈ gNest) (hcode : Cond.code yn cc' nL' none ∈ gT ∧ Cond.initialized yn.cls ∈ gT) (hd : yn.cls ≠ "java/lang/invoke/MethodHandle" ∧ yn.cls ≠ "java/lang/invoke/VarHandle" ∧ (parseMethodDescriptor yn.desc).map (fun d => d.parameters.length) = some n) (hin : yn.name = "<init>" ∧ Cond.instanceMethod yn ∈ gT) (hR : F + 1 ≤ R.frames ∧ 8 + (nL' + 11) + Lc ≤ R.locals) (hn : As.length = n) (hrest : (rest.map fun v => v.category).sum ≤ 8) (hst : st0 = As.reverse ++ va_rf r :: rest) (hdg : decode cc pc = .ok (.invokespecial index, 3)) {ci : Nat} (hf : (gb (nn ci r) fun _ => gb f K).1 σ = some y)
    (kk : ∀ (x : Unit) (σ1 : gS) (H1 : Heap) (locs1 : List Loc) (cells1 slots1 : Nat), gI G R s y.2 σ1 H1 locs1 cells1 slots1 → (K x).1 σ1 = some y → W p l e R s m args below meth c H1 locs1 cells1 slots1 Q (F0 m (pc + 3) ls rest)) : W p l e R s m args below meth c H locs cells slots Q (F0 m pc ls st0) := by
  obtain ⟨a, rfl, hk, hf⟩ := nn_some hf
  refine gw_run (rv := grv) (a := (Value.ref a :: As).toArray) I hf (fun y1 h1 hroom => ?_) kk
  obtain ⟨hx, hb, hml, hown, hts, -, hG⟩ := id C
  refine va_runIN (b := a) (As := As) (rest := rest) (host := host) (bytes := cc') (maxL := nL') (n := n) ⟨hx, hb, hml, hown, hts⟩ (hM σ y1 h1) ⟨⟨⟨rfl, rfl, hR.1, hR.2, pay_in (big := gT) hts ?_, List.mem_cons_self⟩, hts _ hcode.1, hts _ hcode.2, ⟨hd.1, hd.2.1⟩, fun sig hs => ?_, va_Nw.use rfl (hG.2.2.1 _ hnest)⟩, hin.1, hts _ hin.2⟩ (gw_pre C I) rfl hn hl hst ?_ hdg hroom
  · intro w hw
    rcases List.mem_cons.mp hw with rfl | hw
    · exact ⟨hcode.1, good_of_word (List.mem_filter.mp hcode.1).2⟩
    · exact ⟨hw, good_of_word (List.mem_filter.mp hw).2⟩
  · have h6 := hd.2.2
    rw [hs] at h6
    exact (Option.some.inj h6).symm
  · exact lv_room hrest
/-- the ends -/
theorem gw_iret {x : Int32} {mc ms : Nat} {F Lc : Nat} {y : Int32 × gS} (C : gC G p s m args meth c cc nL own) (I : gI G { frames := F, cells := mc, slots := ms, locals := Lc } s y.2 σ H locs cells slots) (hr : meth.sig.returnType = some .int) (hdg : decode cc pc = .ok (.ireturn, 1)) (hf : (gp x).1 σ = some y) : W p l e { frames := F, cells := mc, slots := ms, locals := Lc } s m args below meth c H locs cells slots (MQ below (gQ G gri y) args s mc ms (gA G)) (F0 m pc ls [.int x]) := by
  have hy := gp_some hf
  subst hy
  obtain ⟨hx, hb, -, -, -, hlocks, -⟩ := C
  obtain ⟨iW, iS, iC, iL⟩ := I
  refine W.widen (k := mc) (n := ms) (Nat.le_of_add_le_add_right iC) (Nat.le_of_add_le_add_right iL) ?_
  exact W.iret hx hb hr (fun t ht hW => ⟨rfl, by rw [ht]; exact iW, iS.F ht⟩) iS.2.2 hdg hlocks
/-- a boolean's end: 0 or 1 alone -/
def gz (x : Int32) : gM Int32 := if x = 0 ∨ x = 1 then gp x else gno
theorem gw_zret {x : Int32} {mc ms : Nat} {F Lc : Nat} {y : Int32 × gS} (C : gC G p s m args meth c cc nL own) (I : gI G { frames := F, cells := mc, slots := ms, locals := Lc } s y.2 σ H locs cells slots) (hr : meth.sig.returnType = some .boolean) (hdg : decode cc pc = .ok (.ireturn, 1)) (hf : (gz x).1 σ = some y) : W p l e { frames := F, cells := mc, slots := ms, locals := Lc } s m args below meth c H locs cells slots (MQ below (gQ G gri y) args s mc ms (gA G)) (F0 m pc ls [.int x]) := by
  unfold gz at hf
  split at hf
  · rename_i hv
    have hy := gp_some hf
    subst hy
    obtain ⟨hx, hb, -, -, -, hlocks, -⟩ := C
    obtain ⟨iW, iS, iC, iL⟩ := I
    refine W.widen (k := mc) (n := ms) (Nat.le_of_add_le_add_right iC) (Nat.le_of_add_le_add_right iL) ?_
    exact W.zret hx hb hr (by rcases hv with rfl | rfl <;> decide) (fun t ht hW => ⟨rfl, by rw [ht]; exact iW, iS.F ht⟩) iS.2.2 hdg hlocks
  · exact (gno_some hf).elim
theorem gw_lret {x : Int64} {mc ms : Nat} {F Lc : Nat} {y : Int64 × gS} (C : gC G p s m args meth c cc nL own) (I : gI G { frames := F, cells := mc, slots := ms, locals := Lc } s y.2 σ H locs cells slots) (hr : meth.sig.returnType = some .long) (hdg : decode cc pc = .ok (.lreturn, 1)) (hf : (gp x).1 σ = some y) : W p l e { frames := F, cells := mc, slots := ms, locals := Lc } s m args below meth c H locs cells slots (MQ below (gQ G grl y) args s mc ms (gA G)) (F0 m pc ls [.long x]) := by
  have hy := gp_some hf
  subst hy
  obtain ⟨hx, hb, -, -, -, hlocks, -⟩ := C
  obtain ⟨iW, iS, iC, iL⟩ := I
  refine W.widen (k := mc) (n := ms) (Nat.le_of_add_le_add_right iC) (Nat.le_of_add_le_add_right iL) ?_
  exact W.lret hx hb hr (fun t ht hW => ⟨rfl, by rw [ht]; exact iW, iS.F ht⟩) iS.2.2 hdg hlocks
theorem gw_vret {mc ms : Nat} {F Lc : Nat} {y : Unit × gS} (C : gC G p s m args meth c cc nL own) (I : gI G { frames := F, cells := mc, slots := ms, locals := Lc } s y.2 σ H locs cells slots) (hr : meth.sig.returnType = none) (hdg : decode cc pc = .ok (.return_, 1)) (hf : (gp ()).1 σ = some y) : W p l e { frames := F, cells := mc, slots := ms, locals := Lc } s m args below meth c H locs cells slots (MQ below (gQ G grv y) args s mc ms (gA G)) (F0 m pc ls []) := by
  have hy := gp_some hf
  subst hy
  obtain ⟨hx, hb, -, -, -, hlocks, -⟩ := C
  obtain ⟨iW, iS, iC, iL⟩ := I
  refine W.widen (k := mc) (n := ms) (Nat.le_of_add_le_add_right iC) (Nat.le_of_add_le_add_right iL) ?_
  exact W.vret hx hb hr (fun t ht hW => ⟨rfl, by rw [ht]; exact iW, iS.F ht⟩) iS.2.2 hdg hlocks
theorem gw_aret {x : Option Nat} {rt : FieldType} {mc ms : Nat} {F Lc : Nat} {y : Option Nat × gS} (C : gC G p s m args meth c cc nL own) (I : gI G { frames := F, cells := mc, slots := ms, locals := Lc } s y.2 σ H locs cells slots) (hr : meth.sig.returnType = some rt) (hrt : (∃ n, rt = .object n) ∨ ∃ t, rt = .array t) (hdg : decode cc pc = .ok (.areturn, 1)) (hf : (gp x).1 σ = some y) : W p l e { frames := F, cells := mc, slots := ms, locals := Lc } s m args below meth c H locs cells slots (MQ below (gQ G grq y) args s mc ms (gA G)) (F0 m pc ls [va_rf x]) := by
  have hy := gp_some hf
  subst hy
  obtain ⟨hx, hb, -, -, -, hlocks, -⟩ := C
  obtain ⟨iW, iS, iC, iL⟩ := I
  refine W.widen (k := mc) (n := ms) (Nat.le_of_add_le_add_right iC) (Nat.le_of_add_le_add_right iL) ?_
  exact W.aret hx hb hr hrt (by cases x; exact Or.inl rfl; exact Or.inr ⟨_, rfl⟩) (fun t ht hW => ⟨rfl, by rw [ht]; exact iW, iS.F ht⟩) iS.2.2 hdg hlocks
end GROWS2
end
section
section GROWS3
variable {G : gX} {p : Program} {l : Launch} {e : Env} {R : Room} {s : State} {m : MethodId} {args : Array Value} {below : List Frame} {meth : Method} {c : Code} {H : Heap} {locs : List Loc} {cells slots : Nat} {Q : State → Prop}
variable {cc : ByteArray} {nL pc : Nat} {own : String} {ls : Array Slot} {rest : List Value} {σ : gS} {α β : Type} {y : β × gS}
theorem aL_some {t : Nat} {r : Option Nat} {K : Int32 → gM β} (hf : (gb (aL t r) K).1 σ = some y) : ∃ a, r = some a ∧ gkd σ a = t + 10 ∧ (K (Int32.ofNat (gln σ a))).1 σ = some y := by
  obtain ⟨x, h1, h2⟩ := gb_some hf
  obtain ⟨h3, h4⟩ := gq_some h1
  obtain ⟨x, σ1⟩ := x
  dsimp only at h2 h3 h4
  subst h4
  cases r with
  | none => cases h3
  | some a =>
    dsimp only at h3
    split at h3
    · rename_i hk
      cases h3
      exact ⟨a, rfl, hk, h2⟩
    · cases h3
theorem aI_some {t : Nat} {r : Option Nat} {i : Int32} {K : Int32 → gM β} (hf : (gb (aI t r i) K).1 σ = some y) : ∃ a, r = some a ∧ gkd σ a = t + 10 ∧ vp_in i (gln σ a) ∧ (K (gai σ a i.toNatClampNeg)).1 σ = some y := by
  obtain ⟨x, h1, h2⟩ := gb_some hf
  obtain ⟨h3, h4⟩ := gq_some h1
  obtain ⟨x, σ1⟩ := x
  dsimp only at h2 h3 h4
  subst h4
  cases r with
  | none => cases h3
  | some a =>
    dsimp only at h3
    split at h3
    · rename_i hk
      cases h3
      exact ⟨a, rfl, hk.1, gin_iff.mp hk.2, h2⟩
    · cases h3
theorem aR_some {t : Nat} {r : Option Nat} {i : Int32} {K : Option Nat → gM β} (hf : (gb (aR t r i) K).1 σ = some y) : ∃ a, r = some a ∧ gkd σ a = t + 10 ∧ vp_in i (gln σ a) ∧ (K (gar σ a i.toNatClampNeg)).1 σ = some y := by
  obtain ⟨x, h1, h2⟩ := gb_some hf
  obtain ⟨h3, h4⟩ := gq_some h1
  obtain ⟨x, σ1⟩ := x
  dsimp only at h2 h3 h4
  subst h4
  cases r with
  | none => cases h3
  | some a =>
    dsimp only at h3
    split at h3
    · rename_i hk
      cases h3
      exact ⟨a, rfl, hk.1, gin_iff.mp hk.2, h2⟩
    · cases h3
theorem sI_some {t : Nat} {r : Option Nat} {i v : Int32} {K : Unit → gM β} (hf : (gb (sI t r i v) K).1 σ = some y) : ∃ a, r = some a ∧ gkd σ a = t + 10 ∧ vp_in i (gln σ a) ∧ (K ()).1 (gsA σ a i.toNatClampNeg (gnar t v)) = some y := by
  obtain ⟨x, h1, h2⟩ := gb_some hf
  have h3 := gu_some h1
  cases r with
  | none => cases h3
  | some a =>
    dsimp only at h3
    split at h3
    · rename_i hk
      rw [← Option.some.inj h3] at h2
      exact ⟨a, rfl, hk.1, gin_iff.mp hk.2, h2⟩
    · cases h3
theorem sR_some {t ci : Nat} {r v : Option Nat} {i : Int32} {K : Unit → gM β} (hf : (gb (sR t ci r i v) K).1 σ = some y) : ∃ a b, r = some a ∧ v = some b ∧ gkd σ a = t + 10 ∧ vp_in i (gln σ a) ∧ gkd σ b = ci + 1 ∧ (K ()).1 (gsQ σ a i.toNatClampNeg (some b)) = some y := by
  obtain ⟨x, h1, h2⟩ := gb_some hf
  have h3 := gu_some h1
  cases r with
  | none => cases h3
  | some a =>
    cases v with
    | none => cases h3
    | some b =>
      dsimp only at h3
      split at h3
      · rename_i hk
        rw [← Option.some.inj h3] at h2
        exact ⟨a, b, rfl, rfl, hk.1, gin_iff.mp hk.2.1, hk.2.2, h2⟩
      · cases h3
theorem gw_aL {t : Nat} {ty : FieldType} {r : Option Nat} {K : Int32 → gM β} (C : gC G p s m args meth c cc nL own) (I : gI G R s y.2 σ H locs cells slots) (ht : (gTy G)[t]? = some (gdA G t, ty)) (hdg : decode cc pc = .ok (.arraylength, 1)) (hf : (gb (aL t r) K).1 σ = some y)
    (kk : ∀ x : Int32, (K x).1 σ = some y → W p l e R s m args below meth c H locs cells slots Q (F0 m (pc + 1) ls (.int x :: rest))) : W p l e R s m args below meth c H locs cells slots Q (F0 m pc ls (va_rf r :: rest)) := by
  obtain ⟨a, rfl, hk, hf⟩ := aL_some hf
  obtain ⟨hx, hb, -, hown, hts, -, hG⟩ := C
  by_cases h3 : t < 3
  · exact va_alen (D := gD G) hx hb hG.1 (gW_at I.1 (by rw [hk]; omega) (gcell_i hk h3)) 0 t rfl ht rfl hdg (kk _ hf)
  · exact va_alen (D := gD G) hx hb hG.1 (gW_at I.1 (by rw [hk]; omega) (gcell_q hk (by omega))) 0 t rfl ht rfl hdg (kk _ hf)
theorem gw_bald {r : Option Nat} {i : Int32} {K : Int32 → gM β} (C : gC G p s m args meth c cc nL own) (I : gI G R s y.2 σ H locs cells slots) (hdg : decode cc pc = .ok (.baload, 1)) (hf : (gb (aI 0 r i) K).1 σ = some y)
    (kk : ∀ x : Int32, (K x).1 σ = some y → W p l e R s m args below meth c H locs cells slots Q (F0 m (pc + 1) ls (.int x :: rest))) : W p l e R s m args below meth c H locs cells slots Q (F0 m pc ls (.int i :: va_rf r :: rest)) := by
  obtain ⟨a, rfl, hk, hi, hf⟩ := aI_some hf
  obtain ⟨hx, hb, -, hown, hts, -, hG⟩ := C
  exact va_bald (D := gD G) hx hb hG.1 (gW_at I.1 (by rw [hk]; omega) (gcell_i hk (by omega))) 0 0 rfl rfl hi hdg (kk _ hf)
theorem gw_iald {r : Option Nat} {i : Int32} {K : Int32 → gM β} (C : gC G p s m args meth c cc nL own) (I : gI G R s y.2 σ H locs cells slots) (hdg : decode cc pc = .ok (.iaload, 1)) (hf : (gb (aI 1 r i) K).1 σ = some y)
    (kk : ∀ x : Int32, (K x).1 σ = some y → W p l e R s m args below meth c H locs cells slots Q (F0 m (pc + 1) ls (.int x :: rest))) : W p l e R s m args below meth c H locs cells slots Q (F0 m pc ls (.int i :: va_rf r :: rest)) := by
  obtain ⟨a, rfl, hk, hi, hf⟩ := aI_some hf
  obtain ⟨hx, hb, -, hown, hts, -, hG⟩ := C
  exact va_iald (D := gD G) hx hb hG.1 (gW_at I.1 (by rw [hk]; omega) (gcell_i hk (by omega))) 0 1 rfl rfl hi hdg (kk _ hf)
theorem gw_zald {r : Option Nat} {i : Int32} {K : Int32 → gM β} (C : gC G p s m args meth c cc nL own) (I : gI G R s y.2 σ H locs cells slots) (hdg : decode cc pc = .ok (.baload, 1)) (hf : (gb (aI 2 r i) K).1 σ = some y)
    (kk : ∀ x : Int32, (K x).1 σ = some y → W p l e R s m args below meth c H locs cells slots Q (F0 m (pc + 1) ls (.int x :: rest))) : W p l e R s m args below meth c H locs cells slots Q (F0 m pc ls (.int i :: va_rf r :: rest)) := by
  obtain ⟨a, rfl, hk, hi, hf⟩ := aI_some hf
  obtain ⟨hx, hb, -, hown, hts, -, hG⟩ := C
  exact va_zald (D := gD G) hx hb hG.1 (gW_at I.1 (by rw [hk]; omega) (gcell_i hk (by omega))) 0 2 rfl rfl hi hdg (kk _ hf)
theorem gw_aald {t : Nat} {Cn : String} {r : Option Nat} {i : Int32} {K : Option Nat → gM β} (C : gC G p s m args meth c cc nL own) (I : gI G R s y.2 σ H locs cells slots) (h3 : 3 ≤ t) (ht : (gTy G)[t]? = some (gdA G t, .object Cn)) (hdg : decode cc pc = .ok (.aaload, 1)) (hf : (gb (aR t r i) K).1 σ = some y)
    (kk : ∀ x : Option Nat, (K x).1 σ = some y → W p l e R s m args below meth c H locs cells slots Q (F0 m (pc + 1) ls (va_rf x :: rest))) : W p l e R s m args below meth c H locs cells slots Q (F0 m pc ls (.int i :: va_rf r :: rest)) := by
  obtain ⟨a, rfl, hk, hi, hf⟩ := aR_some hf
  obtain ⟨hx, hb, -, hown, hts, -, hG⟩ := C
  exact va_aldq (D := gD G) hx hb hG.1 (gW_at I.1 (by rw [hk]; omega) (gcell_q hk h3)) 0 t rfl ht hi hdg (kk _ hf)
/-- an array of numbers is written -/
theorem gx_ast {a t i : Nat} {v : Int32} {H1 : Heap} {locs1 : List Loc} {τ : gS} (I : gI G R s τ σ H locs cells slots) (hk : gkd σ a = t + 10) (ht : t < 3) (e1 : H1[a]? = some ((vp_cell (gdA G t) (gln σ a, .inl (gai σ a))).setSlot i (.int v))) (z : H1.size = H.size) (oq : ∀ q : Nat, q ≠ a → H1[q]? = H[q]?) (hl : locs1 = locs ++ [⟨a, i⟩]) : gI G R s τ (gsA σ a i v) H1 locs1 cells slots := by
  have hne : gkd σ a ≠ 0 := by rw [hk]; omega
  have hB := (I.1.2.2 a hne).1
  subst hl
  refine ⟨gW_upd I.1 z oq rfl (fun _ => rfl) (fun b hb => gcell_sA hb) hB ?_, I.2.1.put z oq hB, I.2.2.1, I.2.2.2⟩
  rw [gcell_i (σ := gsA σ a i v) hk ht]
  show H1[a]? = some (vp_cell _ _)
  rw [e1, vp_cell_i, vp_cell_i, arrV_store]
  congr 2
  funext q
  by_cases hq : q = i
  · subst hq
    simp [updV, gsA, gai]
  · simp [updV, gsA, gai, hq]
theorem gw_iast {r : Option Nat} {i v : Int32} {K : Unit → gM β} (C : gC G p s m args meth c cc nL own) (I : gI G R s y.2 σ H locs cells slots) (hdg : decode cc pc = .ok (.iastore, 1)) (hf : (gb (sI 1 r i v) K).1 σ = some y)
    (kk : ∀ (σ1 : gS) (H1 : Heap) (locs1 : List Loc), gI G R s y.2 σ1 H1 locs1 cells slots → (K ()).1 σ1 = some y → W p l e R s m args below meth c H1 locs1 cells slots Q (F0 m (pc + 1) ls rest)) : W p l e R s m args below meth c H locs cells slots Q (F0 m pc ls (.int v :: .int i :: va_rf r :: rest)) := by
  obtain ⟨a, rfl, hk, hi, hf⟩ := sI_some hf
  obtain ⟨hx, hb, -, hown, hts, -, hG⟩ := C
  have hP := gW_at I.1 (by rw [hk]; omega) (gcell_i hk (by omega)) 0 _ rfl
  exact W.iast hx hb hP ((hG.1.2 1 _ rfl).1 _ (fun j => .int (gai σ a j))) (fun q => by cases q) (by show ¬ (i < 0 ∨ (arrV _ _ _).slots.size ≤ _); rw [arrV_size]; exact hi) rfl rfl hdg fun H1 e1 z oq => kk _ H1 _ (gx_ast I hk (by omega) e1 z oq rfl) hf
theorem gw_bast {r : Option Nat} {i v : Int32} {K : Unit → gM β} (C : gC G p s m args meth c cc nL own) (I : gI G R s y.2 σ H locs cells slots) (hdg : decode cc pc = .ok (.bastore, 1)) (hf : (gb (sI 0 r i v) K).1 σ = some y)
    (kk : ∀ (σ1 : gS) (H1 : Heap) (locs1 : List Loc), gI G R s y.2 σ1 H1 locs1 cells slots → (K ()).1 σ1 = some y → W p l e R s m args below meth c H1 locs1 cells slots Q (F0 m (pc + 1) ls rest)) : W p l e R s m args below meth c H locs cells slots Q (F0 m pc ls (.int v :: .int i :: va_rf r :: rest)) := by
  obtain ⟨a, rfl, hk, hi, hf⟩ := sI_some hf
  obtain ⟨hx, hb, -, hown, hts, -, hG⟩ := C
  have hP := gW_at I.1 (by rw [hk]; omega) (gcell_i hk (by omega)) 0 _ rfl
  exact W.bast hx hb hP ((hG.1.2 0 _ rfl).1 _ (fun j => .int (gai σ a j))) (fun q => by cases q) (by show ¬ (i < 0 ∨ (arrV _ _ _).slots.size ≤ _); rw [arrV_size]; exact hi) rfl rfl hdg fun H1 e1 z oq => kk _ H1 _ (gx_ast I hk (by omega) (show H1[a]? = some ((vp_cell (gdA G 0) (gln σ a, .inl (gai σ a))).setSlot _ (.int (vp_nar .byte v))) from e1) z oq rfl) hf
theorem gw_zast {r : Option Nat} {i v : Int32} {K : Unit → gM β} (C : gC G p s m args meth c cc nL own) (I : gI G R s y.2 σ H locs cells slots) (hdg : decode cc pc = .ok (.bastore, 1)) (hf : (gb (sI 2 r i v) K).1 σ = some y)
    (kk : ∀ (σ1 : gS) (H1 : Heap) (locs1 : List Loc), gI G R s y.2 σ1 H1 locs1 cells slots → (K ()).1 σ1 = some y → W p l e R s m args below meth c H1 locs1 cells slots Q (F0 m (pc + 1) ls rest)) : W p l e R s m args below meth c H locs cells slots Q (F0 m pc ls (.int v :: .int i :: va_rf r :: rest)) := by
  obtain ⟨a, rfl, hk, hi, hf⟩ := sI_some hf
  obtain ⟨hx, hb, -, hown, hts, -, hG⟩ := C
  have hP := gW_at I.1 (by rw [hk]; omega) (gcell_i hk (by omega)) 0 _ rfl
  exact W.zast hx hb hP ((hG.1.2 2 _ rfl).1 _ (fun j => .int (gai σ a j))) (fun q => by cases q) (by show ¬ (i < 0 ∨ (arrV _ _ _).slots.size ≤ _); rw [arrV_size]; exact hi) rfl rfl hdg fun H1 e1 z oq => kk _ H1 _ (gx_ast I hk (by omega) (show H1[a]? = some ((vp_cell (gdA G 2) (gln σ a, .inl (gai σ a))).setSlot _ (.int (vp_nar .boolean v))) from e1) z oq rfl) hf
theorem gw_aast {t ci : Nat} {Cn : String} {T : u_T} {N : Nat} {ty : Nat → FieldType} {r v : Option Nat} {i : Int32} {K : Unit → gM β} (C : gC G p s m args meth c cc nL own) (I : gI G R s y.2 σ H locs cells slots) (hc : gCls ci Cn T N ty) (h3 : 3 ≤ t) (ht : (gTy G)[t]? = some (gdA G t, .object Cn)) (hdg : decode cc pc = .ok (.aastore, 1)) (hf : (gb (sR t ci r i v) K).1 σ = some y)
    (kk : ∀ (σ1 : gS) (H1 : Heap) (locs1 : List Loc), gI G R s y.2 σ1 H1 locs1 cells slots → (K ()).1 σ1 = some y → W p l e R s m args below meth c H1 locs1 cells slots Q (F0 m (pc + 1) ls rest)) : W p l e R s m args below meth c H locs cells slots Q (F0 m pc ls (va_rf v :: .int i :: va_rf r :: rest)) := by
  obtain ⟨a, b, rfl, rfl, hk, hi, hkb, hf⟩ := sR_some hf
  obtain ⟨hx, hb, -, hown, hts, -, hG⟩ := C
  have hlt : i.toNatClampNeg < gln σ a := Nat.not_le.mp fun q => hi (Or.inr q)
  have h0 : ¬ i < 0 := fun q => hi (Or.inl q)
  have hne : gkd σ a ≠ 0 := by rw [hk]; omega
  have hB := (I.1.2.2 a hne).1
  have hP := gW_at I.1 hne (gcell_q hk h3) 0 _ rfl
  obtain ⟨r', hr', cellV, g1, g2, g3, -⟩ := gW_at I.1 (by rw [hkb]; omega) (gcell_o hkb hc.2.2.2.1) 0 _ rfl
  have hcls := (hG.1.1 ci _ hc.1).2
  obtain ⟨kA, comp, k1, k2, k3, -⟩ := (hG.1.2 t _ ht).2
  have hcomp : comp = G.1 ci := Option.some.inj (k3.symm.trans hcls.1)
  subst hcomp
  obtain ⟨kC, hkC, -⟩ := hcls.2
  refine W.aast hx hb hP (fun q h => by cases h) (fun h => by cases h) k1 k2 rfl hkC ⟨h0, by show _ < (arrV _ _ _).slots.size; rw [arrV_size]; exact hlt⟩ g1 (fun q h => by rw [g3] at h; cases h) (by rw [g2]; exact hkC) (by rw [g2]; exact va_assign hcls) rfl rfl hdg fun H1 e1 z oq => ?_
  refine kk (gsQ σ a i.toNatClampNeg (some b)) H1 _ ⟨gW_upd I.1 z oq rfl (fun _ => rfl) (fun b' hb' => gcell_sQ hb') hB ?_, I.2.1.put z oq hB, I.2.2.1, I.2.2.2⟩ hf
  rw [gcell_q (σ := gsQ σ a i.toNatClampNeg (some b)) hk h3]
  show H1[a]? = some (vp_cell _ _)
  rw [e1, vp_cell_q, vp_cell_q, arrV_store]
  congr 2
  funext q
  by_cases hq : q = i.toNatClampNeg
  · subst hq
    simp [updV, gsQ, gar, va_rf]
  · simp [updV, gsQ, gar, hq]
/-- what a new object holds -/
def gdef (c : Nat) : List Value := (List.range (gnf c)).map (fun k => if grf c k = true then .null else .int 0)
theorem gcell_N {σ : gS} {d n w b : Nat} (h : b ≠ gsz σ) : gcell G (gsN σ d n w) b = gcell G σ b := by
  have h1 : gkd (gsN σ d n w) b = gkd σ b := by simp [gsN, gkd, h]
  have h2 : ∀ c', gfs (gsN σ d n w) c' b = gfs σ c' b := fun c' => by simp [gfs, gsN, gii, grr, h]
  have h3 : gln (gsN σ d n w) b = gln σ b := by simp [gsN, gln, h]
  have h4 : gai (gsN σ d n w) b = gai σ b := by funext j; simp [gsN, gai, h]
  have h5 : gar (gsN σ d n w) b = gar σ b := by funext j; simp [gsN, gar, h]
  simp only [gcell, h1, h2, h3, h4, h5]
theorem gx_new {σ τ : gS} {d n w : Nat} {H1 : Heap} (I : gI G R s τ σ H locs cells slots) (hc : 1 ≤ gcl σ) (hs : w ≤ gsl σ) (z : H1.size = H.size + 1) (o1 : ∀ q, q < H.size → H1[q]? = H[q]?) (he : va_at (gD G) vwCl (H.size, gcell G (gsN σ d n w) (gsz σ)) H1) : gI G R s τ (gsN σ d n w) H1 locs (cells + 1) (slots + w) := by
  obtain ⟨⟨w1, w2, w3⟩, iS, iC, iL⟩ := I
  refine ⟨⟨?_, ?_, fun b hb => ?_⟩, ⟨Nat.le_trans iS.1 (by omega), fun x h1 h2 => (o1 x (Nat.lt_of_lt_of_le h1 iS.1)).trans (iS.2.1 x h1 h2), iS.2.2⟩, ?_, ?_⟩
  · rw [z, w1]; rfl
  · exact Nat.le_trans w2 (Nat.le_succ _)
  · by_cases e : b = gsz σ
    · subst e
      refine ⟨w2, ?_⟩
      rw [← w1] at he ⊢
      exact he
    · have hb' : gkd σ b ≠ 0 := by
        have h1 : gkd (gsN σ d n w) b = gkd σ b := by simp [gsN, gkd, e]
        rw [h1] at hb
        exact hb
      obtain ⟨g1, g2⟩ := w3 b hb'
      refine ⟨g1, ?_⟩
      rw [gcell_N e]
      exact g2.kept (o1 b g2.lt)
  · show cells + 1 + (gcl σ - 1) ≤ R.cells + gcl τ
    omega
  · show slots + w + (gsl σ - w) ≤ R.slots + gsl τ
    omega
theorem gw_new {ci index : Nat} {Cn : String} {T : u_T} {N : Nat} {ty : Nat → FieldType} {K : Option Nat → gM β} (C : gC G p s m args meth c cc nL own) (I : gI G R s y.2 σ H locs cells slots) (hc : gCls ci Cn T N ty) (hdf : ∀ j, j < N → defaultValue (ty j) = vp_V (gdef ci) j) (hl : Cond.classLink own index Cn ∈ gT) (hdg : decode cc pc = .ok (.new index, 3)) (hf : (gb (nO ci) K).1 σ = some y)
    (kk : ∀ (x : Option Nat) (σ1 : gS) (H1 : Heap) (locs1 : List Loc) (cells1 slots1 : Nat), gI G R s y.2 σ1 H1 locs1 cells1 slots1 → (K x).1 σ1 = some y → W p l e R s m args below meth c H1 locs1 cells1 slots1 Q (F0 m (pc + 3) ls (va_rf x :: rest))) : W p l e R s m args below meth c H locs cells slots Q (F0 m pc ls rest) := by
  obtain ⟨x, h1, h2⟩ := gb_some hf
  have h1 : (if 1 ≤ gcl σ ∧ gnf ci ≤ gsl σ then some (some (gsz σ), gsN σ ci 0 (gnf ci)) else none) = some x := h1
  split at h1
  · rename_i hroom
    have e0 := Option.some.inj h1
    subst e0
    obtain ⟨hx, hb, -, hown, hts, -, hG⟩ := C
    obtain ⟨g1, g2, g3, g4, g5, g6, g7, g8⟩ := hc
    have m2 := (K (some (gsz σ))).2 _ y h2
    have m3 : gcl y.2 ≤ gcl σ - 1 ∧ gsl y.2 ≤ gsl σ - gnf ci := m2
    have iC := I.2.2.1
    have iL := I.2.2.2
    have hKn := hG.1.1 ci _ g1
    refine W.newcK hx hb hown (hts _ hl) (hts _ g7) (hts _ g8) rfl hdg (by omega) (by omega) hKn.2.1 I.1.1 fun H1 kC hkC e1 z1 o1 => ?_
    rw [← I.1.1] at e1 z1 o1
    rw [← g3]
    have hI := gx_new (d := ci) (n := 0) (w := gnf ci) I hroom.1 hroom.2 z1 o1 (by
      have hk : gkd (gsN σ ci 0 (gnf ci)) (gsz σ) = ci + 1 := by simp [gsN, gkd]
      rw [gcell_o hk g4]
      refine ⟨_, g1, ?_⟩
      have e9 : gfs (gsN σ ci 0 (gnf ci)) ci (gsz σ) = gdef ci := by simp [gfs, gdef, gsN, gii, grr, va_rf]
      rw [e9]
      exact (u_born ty hts g2 hKn hkC e1 g5).to hdf)
    exact kk _ _ H1 _ _ _ hI h2
  · cases h1
/-- an array class's number -/
theorem gcA (C : gC G p s m args meth c cc nL own) {t : Nat} {ty : FieldType} (ht : (gTy G)[t]? = some (gdA G t, ty)) {cA : ClassId} (h : s.vm.findClass ("[" ++ ty.toString) = some cA) : cA = gdA G t := by
  have h1 := (C.2.2.2.2.2.2.1.2 t _ ht).2
  cases ty <;> first | exact Option.some.inj (h.symm.trans h1) | exact Option.some.inj (h.symm.trans h1.choose_spec.choose_spec.2.2.2)
theorem nA_some {t : Nat} {n : Int32} {K : Option Nat → gM β} (hf : (gb (nA t n) K).1 σ = some y) : ¬ n < 0 ∧ n.toNatClampNeg ≤ 100000 ∧ 1 ≤ gcl σ ∧ n.toNatClampNeg ≤ gsl σ ∧ (K (some (gsz σ))).1 (gsN σ (t + 9) n.toNatClampNeg n.toNatClampNeg) = some y := by
  obtain ⟨x, h1, h2⟩ := gb_some hf
  have h1 : (if ¬ n < 0 ∧ n.toNatClampNeg ≤ 100000 ∧ 1 ≤ gcl σ ∧ n.toNatClampNeg ≤ gsl σ then some (some (gsz σ), gsN σ (t + 9) n.toNatClampNeg n.toNatClampNeg) else none) = some x := h1
  split at h1
  · rename_i hroom
    have e0 := Option.some.inj h1
    subst e0
    exact ⟨hroom.1, hroom.2.1, hroom.2.2.1, hroom.2.2.2, h2⟩
  · cases h1
theorem gw_newa {t : Nat} {ty : FieldType} {atype : ArrayType} {n : Int32} {K : Option Nat → gM β} (C : gC G p s m args meth c cc nL own) (I : gI G R s y.2 σ H locs cells slots) (h3 : t < 3) (ht : (gTy G)[t]? = some (gdA G t, ty)) (hty : newarray.typeOf atype = ty) (hdv : defaultValue ty = .int 0) (hcb : componentBytes ty ≤ 4) (harr : Cond.arrayClass ty ∈ gT) (hdg : decode cc pc = .ok (.newarray atype, 2)) (hf : (gb (nA t n) K).1 σ = some y)
    (kk : ∀ (x : Option Nat) (σ1 : gS) (H1 : Heap) (locs1 : List Loc) (cells1 slots1 : Nat), gI G R s y.2 σ1 H1 locs1 cells1 slots1 → (K x).1 σ1 = some y → W p l e R s m args below meth c H1 locs1 cells1 slots1 Q (F0 m (pc + 2) ls (va_rf x :: rest))) : W p l e R s m args below meth c H locs cells slots Q (F0 m pc ls (.int n :: rest)) := by
  subst hty
  obtain ⟨hn, hN, hc1, hs1, h2⟩ := nA_some hf
  have m2 := (K (some (gsz σ))).2 _ y h2
  have m3 : gcl y.2 ≤ gcl σ - 1 ∧ gsl y.2 ≤ gsl σ - n.toNatClampNeg := m2
  have iC := I.2.2.1
  have iL := I.2.2.2
  have hx := C.1
  have hb := C.2.1
  have hts := C.2.2.2.2.1
  refine va_newaK hx hb (hts _ harr) rfl hdg rfl hn rfl ?_ (by omega) (by omega) I.1.1 fun H1 cA e1 z1 o1 hAr hNm => ?_
  · have : n.toNatClampNeg * componentBytes (newarray.typeOf atype) ≤ 100000 * 4 := Nat.mul_le_mul hN hcb
    omega
  have hcA := gcA C ht hNm
  subst hcA
  rw [← I.1.1] at e1 z1 o1
  have hI := gx_new (d := t + 9) (n := n.toNatClampNeg) (w := n.toNatClampNeg) I hc1 hs1 z1 o1 (by
    have hk : gkd (gsN σ (t + 9) n.toNatClampNeg n.toNatClampNeg) (gsz σ) = t + 10 := by simp [gsN, gkd]
    rw [gcell_i hk h3]
    show H1[H.size]? = some (vp_cell _ _)
    rw [e1, vp_cell_i, hdv]
    have e8 : gln (gsN σ (t + 9) n.toNatClampNeg n.toNatClampNeg) (gsz σ) = n.toNatClampNeg := by simp [gsN, gln]
    have e9 : gai (gsN σ (t + 9) n.toNatClampNeg n.toNatClampNeg) (gsz σ) = fun _ => 0 := by funext j; simp [gsN, gai]
    rw [e8, e9])
  exact kk _ _ H1 _ _ _ hI h2
theorem gw_newq {t index : Nat} {Cn : String} {n : Int32} {K : Option Nat → gM β} (C : gC G p s m args meth c cc nL own) (I : gI G R s y.2 σ H locs cells slots) (h3 : 3 ≤ t) (ht : (gTy G)[t]? = some (gdA G t, .object Cn)) (hl : Cond.classLink own index Cn ∈ gT) (hAO : Cn ∈ [RX0, RX3, RX5, RX6]) (hdg : decode cc pc = .ok (.anewarray index, 3)) (hf : (gb (nA t n) K).1 σ = some y)
    (kk : ∀ (x : Option Nat) (σ1 : gS) (H1 : Heap) (locs1 : List Loc) (cells1 slots1 : Nat), gI G R s y.2 σ1 H1 locs1 cells1 slots1 → (K x).1 σ1 = some y → W p l e R s m args below meth c H1 locs1 cells1 slots1 Q (F0 m (pc + 3) ls (va_rf x :: rest))) : W p l e R s m args below meth c H locs cells slots Q (F0 m pc ls (.int n :: rest)) := by
  obtain ⟨hn, hN, hc1, hs1, h2⟩ := nA_some hf
  have m2 := (K (some (gsz σ))).2 _ y h2
  have m3 : gcl y.2 ≤ gcl σ - 1 ∧ gsl y.2 ≤ gsl σ - n.toNatClampNeg := m2
  have iC := I.2.2.1
  have iL := I.2.2.2
  obtain ⟨hx, hb, -, hown, hts, -, hG⟩ := id C
  refine W.anew hx hb hown (hts _ hl) (va_AO.use (hG.2.1 Cn hAO)) rfl hdg rfl hn (by omega) (by omega) (by omega) fun cA kA comp f1 f2 f3 f4 => ?_
  have hcA := gcA C ht f1
  subst hcA
  generalize hH1 : H.push ({ cls := gdA G t, slots := Array.replicate n.toNatClampNeg .null, vm := .none } : Cell) = H1
  have z1 : H1.size = H.size + 1 := by rw [← hH1, Array.size_push]
  have e1 : H1[H.size]? = some (arrV (gdA G t) n.toNatClampNeg (fun _ => .null)) := by rw [← hH1, Array.getElem?_push_size, ← arrV_new]
  have o1 : ∀ q : Nat, q < H.size → H1[q]? = H[q]? := fun q hq => by rw [← hH1, Array.getElem?_push, if_neg (Nat.ne_of_lt hq)]
  have hI := gx_new (d := t + 9) (n := n.toNatClampNeg) (w := n.toNatClampNeg) I hc1 hs1 z1 o1 (by
    have hk : gkd (gsN σ (t + 9) n.toNatClampNeg n.toNatClampNeg) (gsz σ) = t + 10 := by simp [gsN, gkd]
    rw [gcell_q hk h3]
    show H1[H.size]? = some (vp_cell _ _)
    rw [e1, vp_cell_q]
    have e8 : gln (gsN σ (t + 9) n.toNatClampNeg n.toNatClampNeg) (gsz σ) = n.toNatClampNeg := by simp [gsN, gln]
    have e9 : gar (gsN σ (t + 9) n.toNatClampNeg n.toNatClampNeg) (gsz σ) = fun _ => none := by funext j; simp [gsN, gar]
    rw [e8, e9]
    rfl)
  rw [show H.size = gsz σ from I.1.1]
  exact kk _ _ H1 _ _ _ hI h2
end GROWS3
end
section
theorem gift {α : Type} {c : Prop} [Decidable c] {A B : gM α} {σ : gS} {y : α × gS} (h : c) (hf : (if c then A else B).1 σ = some y) : A.1 σ = some y := by rw [if_pos h] at hf; exact hf
theorem giff {α : Type} {c : Prop} [Decidable c] {A B : gM α} {σ : gS} {y : α × gS} (h : ¬ c) (hf : (if c then A else B).1 σ = some y) : B.1 σ = some y := by rw [if_neg h] at hf; exact hf
/-- String constants by their places: there, a char, the first place of a char -/
def tk (i : Nat) : gM Unit := if i < 24 then gp () else gno
def tA (i : Nat) (k : Int32) : gM Int32 := if i < 24 ∧ gin k (gLen.getD i 0) = true then gp ((gByt.getD i []).getD k.toNatClampNeg 0) else gno
/-- a char's, a byte's end -/
def gch (x : Int32) : gM Int32 := if narrow .char (.int x) = .int x then gp x else gno
def gby (x : Int32) : gM Int32 := if narrow .byte (.int x) = .int x then gp x else gno
abbrev grt (G : gX) : Nat → Option Value := fun i => some (va_rf (some (gK G i)))
theorem tk_some {i : Nat} {β : Type} {K : Unit → gM β} {σ : gS} {y : β × gS} (hf : (gb (tk i) K).1 σ = some y) : i < 24 ∧ (K ()).1 σ = some y := by
  obtain ⟨x, h1, h2⟩ := gb_some hf
  unfold tk at h1
  split at h1
  · rename_i h
    cases gp_some h1
    exact ⟨h, h2⟩
  · exact (gno_some h1).elim
theorem tA_some {i : Nat} {k : Int32} {β : Type} {K : Int32 → gM β} {σ : gS} {y : β × gS} (hf : (gb (tA i k) K).1 σ = some y) : i < 24 ∧ vp_in k (gLen.getD i 0) ∧ (K ((gByt.getD i []).getD k.toNatClampNeg 0)).1 σ = some y := by
  obtain ⟨x, h1, h2⟩ := gb_some hf
  unfold tA at h1
  split at h1
  · rename_i h
    cases gp_some h1
    exact ⟨h.1, gin_iff.mp h.2, h2⟩
  · exact (gno_some h1).elim
section GROWS4
variable {G : gX} {p : Program} {l : Launch} {e : Env} {R : Room} {s : State} {m : MethodId} {args : Array Value} {below : List Frame} {meth : Method} {c : Code} {H : Heap} {locs : List Loc} {cells slots : Nat} {Q : State → Prop}
variable {cc : ByteArray} {nL pc : Nat} {own : String} {ls : Array Slot} {rest : List Value} {σ : gS} {α β : Type} {y : β × gS}
theorem gw_aload_n (hexec : p.tables.exec = Jvm.exec) (hb : c.code = cc) {k : Fin 4} {i : Nat} {r : Option Nat} (hdg : decode cc pc = .ok (.aload_n k, 1)) (hi : (k : Nat) = i) (hl : ls[i]? = some (.val (va_rf r)))
    (kk : W p l e R s m args below meth c H locs cells slots Q (F0 m (pc + 1) ls (va_rf r :: rest))) : W p l e R s m args below meth c H locs cells slots Q (F0 m pc ls rest) := by
  cases r with
  | none => exact lv_aload_nN hexec hb hdg hi hl kk
  | some a => exact lv_aload_n hexec hb hdg hi hl kk
theorem gw_aload (hexec : p.tables.exec = Jvm.exec) (hb : c.code = cc) {i : Nat} {r : Option Nat} (hdg : decode cc pc = .ok (.aload i, 2)) (hl : ls[i]? = some (.val (va_rf r)))
    (kk : W p l e R s m args below meth c H locs cells slots Q (F0 m (pc + 2) ls (va_rf r :: rest))) : W p l e R s m args below meth c H locs cells slots Q (F0 m pc ls rest) := by
  cases r with
  | none => exact lv_aloadN hexec hb hdg hl kk
  | some a => exact lv_aload hexec hb hdg hl kk
theorem gw_astore_n (hexec : p.tables.exec = Jvm.exec) (hb : c.code = cc) {k : Fin 4} {i nL : Nat} {r : Option Nat} {lv lv' : List (Nat × Value)} (hdg : decode cc pc = .ok (.astore_n k, 1)) (hi : (k : Nat) = i) (h : lv_has ls nL lv) (hn : i < nL) (hl : (i, va_rf r) :: lv.filter (fun q => !(q.1 == i) && !(q.1 + 1 == i && q.2.category == 2)) = lv')
    (kk : ∀ ls' : Array Slot, lv_has ls' nL lv' → W p l e R s m args below meth c H locs cells slots Q (F0 m (pc + 1) ls' rest)) : W p l e R s m args below meth c H locs cells slots Q (F0 m pc ls (va_rf r :: rest)) := by
  cases r with
  | none => exact lv_astore_nN hexec hb hdg hi h hn hl kk
  | some a => exact lv_astore_n hexec hb hdg hi h hn hl kk
theorem gw_astore (hexec : p.tables.exec = Jvm.exec) (hb : c.code = cc) {i nL : Nat} {r : Option Nat} {lv lv' : List (Nat × Value)} (hdg : decode cc pc = .ok (.astore i, 2)) (h : lv_has ls nL lv) (hn : i < nL) (hl : (i, va_rf r) :: lv.filter (fun q => !(q.1 == i) && !(q.1 + 1 == i && q.2.category == 2)) = lv')
    (kk : ∀ ls' : Array Slot, lv_has ls' nL lv' → W p l e R s m args below meth c H locs cells slots Q (F0 m (pc + 2) ls' rest)) : W p l e R s m args below meth c H locs cells slots Q (F0 m pc ls (va_rf r :: rest)) := by
  cases r with
  | none => exact lv_astoreN hexec hb hdg h hn hl kk
  | some a => exact lv_astore hexec hb hdg h hn hl kk
theorem gw_null (hexec : p.tables.exec = Jvm.exec) (hb : c.code = cc) (hdg : decode cc pc = .ok (.aconst_null, 1)) (kk : W p l e R s m args below meth c H locs cells slots Q (F0 m (pc + 1) ls (va_rf none :: rest))) : W p l e R s m args below meth c H locs cells slots Q (F0 m pc ls rest) := lv_null hexec hb hdg kk
theorem gw_ifnull (hexec : p.tables.exec = Jvm.exec) (hb : c.code = cc) {off : Int} {tgt : Nat} {r : Option Nat} (hdg : decode cc pc = .ok (.ifnull off, 3)) (ht : (pc : Int) + off = (tgt : Int)) (kt : r = none → W p l e R s m args below meth c H locs cells slots Q (F0 m tgt ls rest)) (kf : ¬ r = none → W p l e R s m args below meth c H locs cells slots Q (F0 m (pc + 3) ls rest)) : W p l e R s m args below meth c H locs cells slots Q (F0 m pc ls (va_rf r :: rest)) := by
  cases r with
  | none => exact lv_ifnullN hexec hb hdg ht (kt rfl)
  | some a => exact lv_ifnull hexec hb hdg (kf (fun h => by cases h))
theorem gw_ifnonnull (hexec : p.tables.exec = Jvm.exec) (hb : c.code = cc) {off : Int} {tgt : Nat} {r : Option Nat} (hdg : decode cc pc = .ok (.ifnonnull off, 3)) (ht : (pc : Int) + off = (tgt : Int)) (kt : ¬ r = none → W p l e R s m args below meth c H locs cells slots Q (F0 m tgt ls rest)) (kf : r = none → W p l e R s m args below meth c H locs cells slots Q (F0 m (pc + 3) ls rest)) : W p l e R s m args below meth c H locs cells slots Q (F0 m pc ls (va_rf r :: rest)) := by
  cases r with
  | none => exact lv_ifnonnullN hexec hb hdg (kf rfl)
  | some a => exact lv_ifnonnull hexec hb hdg ht (kt (fun h => by cases h))
theorem gw_sw (hexec : p.tables.exec = Jvm.exec) (hb : c.code = cc) {dflt lo hi : Int} {offs : Array Int} {len : Nat} {x k : Int32} {off : Int} {tgt : Nat} (hdg : decode cc pc = .ok (.tableswitch dflt lo hi offs, len)) (hk : x = k) (h1 : ¬ k.toInt < lo) (h2 : ¬ hi < k.toInt) (ho : offs[(k.toInt - lo).toNat]? = some off) (ht : (pc : Int) + off = (tgt : Int))
    (kk : W p l e R s m args below meth c H locs cells slots Q (F0 m tgt ls rest)) : W p l e R s m args below meth c H locs cells slots Q (F0 m pc ls (.int x :: rest)) := by
  subst hk
  exact lv_tableIn hexec hb hdg h1 h2 ho ht kk
theorem gw_idiv {K : gM β} (hexec : p.tables.exec = Jvm.exec) (hb : c.code = cc) {a b : Int32} (hdg : decode cc pc = .ok (.idiv, 1)) (hf : (gb (nz b) fun _ => K).1 σ = some y) (kk : K.1 σ = some y → W p l e R s m args below meth c H locs cells slots Q (F0 m (pc + 1) ls (.int (a / b) :: rest))) : W p l e R s m args below meth c H locs cells slots Q (F0 m pc ls (.int b :: .int a :: rest)) := by
  obtain ⟨x, h1, h2⟩ := gb_some hf
  unfold nz at h1
  split at h1
  · exact (gno_some h1).elim
  · rename_i h
    cases gp_some h1
    exact lv_idiv hexec hb hdg h (kk h2)
theorem gw_irem {K : gM β} (hexec : p.tables.exec = Jvm.exec) (hb : c.code = cc) {a b : Int32} (hdg : decode cc pc = .ok (.irem, 1)) (hf : (gb (nz b) fun _ => K).1 σ = some y) (kk : K.1 σ = some y → W p l e R s m args below meth c H locs cells slots Q (F0 m (pc + 1) ls (.int (a - a / b * b) :: rest))) : W p l e R s m args below meth c H locs cells slots Q (F0 m pc ls (.int b :: .int a :: rest)) := by
  obtain ⟨x, h1, h2⟩ := gb_some hf
  unfold nz at h1
  split at h1
  · exact (gno_some h1).elim
  · rename_i h
    cases gp_some h1
    exact lv_irem hexec hb hdg h (kk h2)
/-- Math.max and its like -/
theorem gw_mmax {K : gM β} (C : gC G p s m args meth c cc nL own) (I : gI G R s y.2 σ H locs cells slots) (hl : ls.size = nL) {index : Nat} {a b : Int32} (hw : Cond.methodLink own index Lib.Math.max.name ∈ gT ∧ Cond.static Lib.Math.max.name ∈ gT ∧ Cond.initialized "java/lang/Math" ∈ gT ∧ Cond.code Lib.Math.max.name Lib.Math.max.code 2 (some .int) ∈ gT) (hR : 1 ≤ R.frames ∧ 21 ≤ R.locals) (hrest : (rest.map fun v => v.category).sum ≤ 8) (hdg : decode cc pc = .ok (.invokestatic index, 3)) (hf : K.1 σ = some y)
    (kk : W p l e R s m args below meth c H locs cells slots Q (F0 m (pc + 3) ls (.int (if a < b then b else a) :: rest))) : W p l e R s m args below meth c H locs cells slots Q (F0 m pc ls (.int b :: .int a :: rest)) := by
  obtain ⟨hx, hb, hml, hown, hts, -, hG⟩ := C
  have hm := K.2 σ y hf
  have iC := I.2.2.1
  have iL := I.2.2.2
  exact va_mmax hx hb (hml.trans hl.symm) hown (hts _ hw.1) (hts _ hw.2.1) (hts _ hw.2.2.1) (hts _ hw.2.2.2) hR.1 (by omega) (by omega) (by omega) hdg kk
theorem gw_mmin {K : gM β} (C : gC G p s m args meth c cc nL own) (I : gI G R s y.2 σ H locs cells slots) (hl : ls.size = nL) {index : Nat} {a b : Int32} (hw : Cond.methodLink own index Lib.Math.min.name ∈ gT ∧ Cond.static Lib.Math.min.name ∈ gT ∧ Cond.initialized "java/lang/Math" ∈ gT ∧ Cond.code Lib.Math.min.name Lib.Math.min.code 2 (some .int) ∈ gT) (hR : 1 ≤ R.frames ∧ 21 ≤ R.locals) (hrest : (rest.map fun v => v.category).sum ≤ 8) (hdg : decode cc pc = .ok (.invokestatic index, 3)) (hf : K.1 σ = some y)
    (kk : W p l e R s m args below meth c H locs cells slots Q (F0 m (pc + 3) ls (.int (if b < a then b else a) :: rest))) : W p l e R s m args below meth c H locs cells slots Q (F0 m pc ls (.int b :: .int a :: rest)) := by
  obtain ⟨hx, hb, hml, hown, hts, -, hG⟩ := C
  have hm := K.2 σ y hf
  have iC := I.2.2.1
  have iL := I.2.2.2
  exact va_mmin hx hb (hml.trans hl.symm) hown (hts _ hw.1) (hts _ hw.2.1) (hts _ hw.2.2.1) (hts _ hw.2.2.2) hR.1 (by omega) (by omega) (by omega) hdg kk
theorem gw_mminl {K : gM β} (C : gC G p s m args meth c cc nL own) (I : gI G R s y.2 σ H locs cells slots) (hl : ls.size = nL) {index : Nat} {a b : Int64} (hw : Cond.methodLink own index Lib.MathLoose.min_long.x ∈ gT ∧ Cond.static Lib.MathLoose.min_long.x ∈ gT ∧ Cond.initialized "java/lang/Math" ∈ gT ∧ Cond.code Lib.MathLoose.min_long.x Lib.MathLoose.min_long.code 4 (some .long) ∈ gT) (hR : 1 ≤ R.frames ∧ 23 ≤ R.locals) (hrest : (rest.map fun v => v.category).sum ≤ 8) (hdg : decode cc pc = .ok (.invokestatic index, 3)) (hf : K.1 σ = some y)
    (kk : W p l e R s m args below meth c H locs cells slots Q (F0 m (pc + 3) ls (.long (if b < a then b else a) :: rest))) : W p l e R s m args below meth c H locs cells slots Q (F0 m pc ls (.long b :: .long a :: rest)) := by
  obtain ⟨hx, hb, hml, hown, hts, -, hG⟩ := C
  have hm := K.2 σ y hf
  have iC := I.2.2.1
  have iL := I.2.2.2
  exact va_mmin_long hx hb (hml.trans hl.symm) hown (hts _ hw.1) (hts _ hw.2.1) (hts _ hw.2.2.1) (hts _ hw.2.2.2) hR.1 (by omega) (by omega) (by omega) hdg kk
/-- Object's constructor -/
theorem gw_obj (C : gC G p s m args meth c cc nL own) (hl : ls.size = nL) {index : Nat} {r : Option Nat} {K : gM β} (hw : Cond.methodLink own index objectInit ∈ gT ∧ Cond.instanceMethod objectInit ∈ gT ∧ Cond.code objectInit ⟨#[0xb1]⟩ 1 none ∈ gT) (hR : 1 ≤ R.frames ∧ 20 ≤ R.locals) (hrest : (rest.map fun v => v.category).sum ≤ 8) (hdg : decode cc pc = .ok (.invokespecial index, 3)) (hf : (if r = none then gno else K).1 σ = some y)
    (kk : K.1 σ = some y → W p l e R s m args below meth c H locs cells slots Q (F0 m (pc + 3) ls rest)) : W p l e R s m args below meth c H locs cells slots Q (F0 m pc ls (va_rf r :: rest)) := by
  obtain ⟨hx, hb, hml, hown, hts, -, hG⟩ := C
  cases r with
  | none => exact (gno_some hf).elim
  | some a => exact W.objInit hx hb hown (hts _ hw.1) (hts _ hw.2.1) (hts _ hw.2.2) rfl (hl.trans hml.symm) rfl hdg hR.1 (by show 2 * 0 + _ + 12 ≤ _; omega) (kk hf)
/-- constants -/
theorem gw_ldc (C : gC G p s m args meth c cc nL own) {index : Nat} {v : Int32} (hw : Cond.constant own index v ∈ gT) (hdg : decode cc pc = .ok (.ldc index, 2)) (kk : W p l e R s m args below meth c H locs cells slots Q (F0 m (pc + 2) ls (.int v :: rest))) : W p l e R s m args below meth c H locs cells slots Q (F0 m pc ls rest) := lv_ldc C.1 C.2.1 C.2.2.2.1 (C.2.2.2.2.1 _ hw) hdg kk
theorem gw_ldc2 (C : gC G p s m args meth c cc nL own) {index : Nat} {v : Int64} (hw : Cond.constantLong own index v ∈ gT) (hdg : decode cc pc = .ok (.ldc2_w index, 3)) (kk : W p l e R s m args below meth c H locs cells slots Q (F0 m (pc + 3) ls (.long v :: rest))) : W p l e R s m args below meth c H locs cells slots Q (F0 m pc ls rest) := lv_ldc2 C.1 C.2.1 C.2.2.2.1 (C.2.2.2.2.1 _ hw) hdg kk
theorem gw_ldcs (C : gC G p s m args meth c cc nL own) (i : Nat) {index : Nat} {tx : String} (hq : gStr[i]? = some (own, index, tx)) (hdg : decode cc pc = .ok (.ldc index, 2)) (kk : W p l e R s m args below meth c H locs cells slots Q (F0 m (pc + 2) ls (va_rf (some (gK G i)) :: rest))) : W p l e R s m args below meth c H locs cells slots Q (F0 m pc ls rest) := va_ldcS C.1 C.2.1 C.2.2.2.1 (C.2.2.2.2.2.2.2.2.2.1 i _ hq) hdg kk
/-- a String constant's fields and bytes, and the statics of String -/
theorem gw_tval {i index : Nat} {K : gM β} (C : gC G p s m args meth c cc nL own) (I : gI G R s y.2 σ H locs cells slots) (hw : Cond.fieldLink own index "java/lang/String" "value" "[B" ∈ gT) (hdg : decode cc pc = .ok (.getfield index, 3)) (hf : (gb (tk i) fun _ => K).1 σ = some y) (kk : K.1 σ = some y → W p l e R s m args below meth c H locs cells slots Q (F0 m (pc + 3) ls (va_rf (some (gV G i)) :: rest))) : W p l e R s m args below meth c H locs cells slots Q (F0 m pc ls (va_rf (some (gK G i)) :: rest)) := by
  obtain ⟨hi, hf⟩ := tk_some hf
  obtain ⟨cf, k, fi, f, cell, h1, h2, h3, h4, h5, h6⟩ := ((C.2.2.2.2.2.2.2.2.2.2.1 i hi).2.2.1).kept I.2.1.2.1
  exact W.getf C.1 C.2.1 C.2.2.2.1 (C.2.2.2.2.1 _ hw) h1 h2 h3 h4 h5 rfl rfl hdg (kk hf)
theorem gw_tcod {i index : Nat} {K : gM β} (C : gC G p s m args meth c cc nL own) (I : gI G R s y.2 σ H locs cells slots) (hw : Cond.fieldLink own index "java/lang/String" "coder" "B" ∈ gT) (hdg : decode cc pc = .ok (.getfield index, 3)) (hf : (gb (tk i) fun _ => K).1 σ = some y) (kk : K.1 σ = some y → W p l e R s m args below meth c H locs cells slots Q (F0 m (pc + 3) ls (.int 0 :: rest))) : W p l e R s m args below meth c H locs cells slots Q (F0 m pc ls (va_rf (some (gK G i)) :: rest)) := by
  obtain ⟨hi, hf⟩ := tk_some hf
  obtain ⟨cf, k, fi, f, cell, h1, h2, h3, h4, h5, h6⟩ := ((C.2.2.2.2.2.2.2.2.2.2.1 i hi).2.1).kept I.2.1.2.1
  exact W.getf C.1 C.2.1 C.2.2.2.1 (C.2.2.2.2.1 _ hw) h1 h2 h3 h4 h5 rfl rfl hdg (kk hf)
theorem gw_tlen {i : Nat} {K : gM β} (C : gC G p s m args meth c cc nL own) (I : gI G R s y.2 σ H locs cells slots) (hdg : decode cc pc = .ok (.arraylength, 1)) (hf : (gb (tk i) fun _ => K).1 σ = some y) (kk : K.1 σ = some y → W p l e R s m args below meth c H locs cells slots Q (F0 m (pc + 1) ls (.int (Int32.ofNat (gLen.getD i 0)) :: rest))) : W p l e R s m args below meth c H locs cells slots Q (F0 m pc ls (va_rf (some (gV G i)) :: rest)) := by
  obtain ⟨hi, hf⟩ := tk_some hf
  exact va_tlen C.1 C.2.1 (C.2.2.2.2.2.2.2.2.2.2.1 i hi).2.2.2 I.2.1 rfl hdg (kk hf)
theorem gw_tald {i : Nat} {k : Int32} {K : Int32 → gM β} (C : gC G p s m args meth c cc nL own) (I : gI G R s y.2 σ H locs cells slots) (hdg : decode cc pc = .ok (.baload, 1)) (hf : (gb (tA i k) K).1 σ = some y) (kk : ∀ x : Int32, (K x).1 σ = some y → W p l e R s m args below meth c H locs cells slots Q (F0 m (pc + 1) ls (.int x :: rest))) : W p l e R s m args below meth c H locs cells slots Q (F0 m pc ls (.int k :: va_rf (some (gV G i)) :: rest)) := by
  obtain ⟨hi, hk, hf⟩ := tA_some hf
  exact va_tb C.1 C.2.1 (C.2.2.2.2.2.2.2.2.2.2.1 i hi).2.2.2 I.2.1 hk rfl hdg (kk _ hf)
theorem gw_compact {index : Nat} (C : gC G p s m args meth c cc nL own) (I : gI G R s y.2 σ H locs cells slots) (hw : Cond.fieldLink own index "java/lang/String" "COMPACT_STRINGS" "Z" ∈ gT) (hdg : decode cc pc = .ok (.getstatic index, 3)) (kk : W p l e R s m args below meth c H locs cells slots Q (F0 m (pc + 3) ls (.int 1 :: rest))) : W p l e R s m args below meth c H locs cells slots Q (F0 m pc ls rest) :=
  va_gets C.1 C.2.1 C.2.2.2.2.2.2.2.2.2.2.2.1 I.2.1 C.2.2.2.1 (C.2.2.2.2.1 _ hw) (fun _ h => h) hdg kk
theorem gw_sioobe {index : Nat} (C : gC G p s m args meth c cc nL own) (I : gI G R s y.2 σ H locs cells slots) (hw : Cond.fieldLink own index "jdk/internal/util/Preconditions" "SIOOBE_FORMATTER" "Ljava/util/function/BiFunction;" ∈ gT) (hdg : decode cc pc = .ok (.getstatic index, 3)) (kk : ∀ w : Option Nat, W p l e R s m args below meth c H locs cells slots Q (F0 m (pc + 3) ls (va_rf w :: rest))) : W p l e R s m args below meth c H locs cells slots Q (F0 m pc ls rest) := by
  rcases C.2.2.2.2.2.2.2.2.2.2.2.2 with hz | ⟨t, hz⟩
  · exact va_gets C.1 C.2.1 hz I.2.1 C.2.2.2.1 (C.2.2.2.2.1 _ hw) (fun _ h => h) hdg (kk none)
  · exact va_gets C.1 C.2.1 hz I.2.1 C.2.2.2.1 (C.2.2.2.2.1 _ hw) (fun _ h => h) hdg (kk (some t))
/-- a String constant's method is called -/
theorem gw_callT {rv : α → Option Value} {f : gM α} {K : α → gM β} {yn : MethodName} {cc' : ByteArray} {i nL' n index F Lc : Nat} {ret : Option FieldType} {As st0 : List Value} (C : gC G p s m args meth c cc nL own) (I : gI G R s y.2 σ H locs cells slots) (hl : ls.size = nL) (hM : gMet G l yn cc' nL' ret F Lc (va_rf (some (gK G i)) :: As) rv f) (h : gLink own index yn cc' nL' n ret) (hin : Cond.instanceMethod yn ∈ gT ∧ Cond.selects "java/lang/String" yn yn ∈ gT) (hR : F + 1 ≤ R.frames ∧ 8 + (nL' + 11) + Lc ≤ R.locals) (hn : As.length = n) (hrest : (rest.map fun v => v.category).sum ≤ 8) (hst : st0 = As.reverse ++ va_rf (some (gK G i)) :: rest) (hdg : decode cc pc = .ok (.invokevirtual index, 3)) (hf : (gb (tk i) fun _ => gb f K).1 σ = some y)
    (kk : ∀ (x : α) (σ1 : gS) (H1 : Heap) (locs1 : List Loc) (cells1 slots1 : Nat), gI G R s y.2 σ1 H1 locs1 cells1 slots1 → (K x).1 σ1 = some y → W p l e R s m args below meth c H1 locs1 cells1 slots1 Q (F0 m (pc + 3) ls ((rv x).toList ++ rest))) : W p l e R s m args below meth c H locs cells slots Q (F0 m pc ls st0) := by
  obtain ⟨hi, hf⟩ := tk_some hf
  refine gw_run (rv := rv) (a := (Value.ref (gK G i) :: As).toArray) I hf (fun y1 h1 hroom => ?_) kk
  obtain ⟨hx, hb, hml, hown, hts, -, hG⟩ := id C
  have hO : ∃ cell : Cell, H[gK G i]? = some cell ∧ cell.vm.isStatics = false ∧ s.vm.findClass "java/lang/String" = some cell.cls := by
    obtain ⟨cell, h1, h2, h3, -⟩ := ((hG.2.2.2.2.1 i hi).1).kept I.2.1.2.1
    exact ⟨cell, h1, h2, h3⟩
  refine va_runV (b := gK G i) (As := As) (rest := rest) ⟨hx, hb, hml, hown, hts⟩ (hM σ y1 h1) ⟨gLink.B (Ts := Cond.static yn) h hts hR, hts _ hin.1, hts _ hin.2⟩ ⟨gPc_blind, hO, (gw_pre C I).2⟩ rfl hn hl hst ?_ hdg hroom
  exact lv_room hrest
theorem gw_cret {x : Int32} {ty : FieldType} {mc ms : Nat} {F Lc : Nat} {y : Int32 × gS} (C : gC G p s m args meth c cc nL own) (I : gI G { frames := F, cells := mc, slots := ms, locals := Lc } s y.2 σ H locs cells slots) (hr : meth.sig.returnType = some ty) (hdg : decode cc pc = .ok (.ireturn, 1)) (hf : (if narrow ty (.int x) = .int x then gp x else gno : gM Int32).1 σ = some y) : W p l e { frames := F, cells := mc, slots := ms, locals := Lc } s m args below meth c H locs cells slots (MQ below (gQ G gri y) args s mc ms (gA G)) (F0 m pc ls [.int x]) := by
  split at hf
  · rename_i hv
    have hy := gp_some hf
    subst hy
    obtain ⟨hx, hb, -, -, -, hlocks, -⟩ := C
    obtain ⟨iW, iS, iC, iL⟩ := I
    refine W.widen (k := mc) (n := ms) (Nat.le_of_add_le_add_right iC) (Nat.le_of_add_le_add_right iL) ?_
    exact W.zret hx hb hr hv (fun t ht hW => ⟨rfl, by rw [ht]; exact iW, iS.F ht⟩) iS.2.2 hdg hlocks
  · exact (gno_some hf).elim
theorem gw_tret {x : Nat} {rt : FieldType} {mc ms : Nat} {F Lc : Nat} {y : Nat × gS} (C : gC G p s m args meth c cc nL own) (I : gI G { frames := F, cells := mc, slots := ms, locals := Lc } s y.2 σ H locs cells slots) (hr : meth.sig.returnType = some rt) (hrt : (∃ n, rt = .object n) ∨ ∃ t, rt = .array t) (hdg : decode cc pc = .ok (.areturn, 1)) (hf : (gp x).1 σ = some y) : W p l e { frames := F, cells := mc, slots := ms, locals := Lc } s m args below meth c H locs cells slots (MQ below (gQ G (grt G) y) args s mc ms (gA G)) (F0 m pc ls [va_rf (some (gK G x))]) := by
  have hy := gp_some hf
  subst hy
  obtain ⟨hx, hb, -, -, -, hlocks, -⟩ := C
  obtain ⟨iW, iS, iC, iL⟩ := I
  refine W.widen (k := mc) (n := ms) (Nat.le_of_add_le_add_right iC) (Nat.le_of_add_le_add_right iL) ?_
  exact W.aret hx hb hr hrt (Or.inr ⟨_, rfl⟩) (fun t ht hW => ⟨rfl, by rw [ht]; exact iW, iS.F ht⟩) iS.2.2 hdg hlocks
end GROWS4
end
section
def gF : Nat := 10000
theorem gcat_i (x : Int32) : (Value.int x).category = 1 := rfl
theorem gcat_l (x : Int64) : (Value.long x).category = 2 := rfl
abbrev gJ {α : Type} (G : gX) (p : Program) (l : Launch) (e : Env) (F Lc mc ms : Nat) (s : State) (m : MethodId) (args : Array Value) (below : List Frame) (meth : Method) (c : Code) (rv : α → Option Value) (y : α × gS) (nL pc : Nat) (lv : List (Nat × Value)) (st : List Value) (f : gM α) : Prop :=
  ∀ (σ : gS) (H : Heap) (locs : List Loc) (cells slots : Nat) (ls : Array Slot), f.1 σ = some y → gI G { frames := F, cells := mc, slots := ms, locals := Lc } s y.2 σ H locs cells slots → lv_has ls nL lv → W p l e { frames := F, cells := mc, slots := ms, locals := Lc } s m args below meth c H locs cells slots (MQ below (gQ G rv y) args s mc ms (gA G)) (F0 m pc ls st)
theorem gentry (m : MethodId) (vs : List Value) (n : Nat) (lv : List (Nat × Value)) (h1 : (lg_sl vs).length ≤ n) (h2 : lv_args 0 vs = lv) : ∃ ls : Array Slot, entryFrame m vs.toArray n = F0 m 0 ls [] ∧ lv_has ls n lv := by
  have hl := lv_entry vs (n := n) h1
  rw [h2] at hl
  exact ⟨_, lg_entry_eq m vs n, hl⟩
theorem gdfj {N : Nat} {ty : Nat → FieldType} {ci : Nat} (h : (List.range N).all (fun j => decide (defaultValue (ty j) = vp_V (gdef ci) j)) = true) : ∀ j, j < N → defaultValue (ty j) = vp_V (gdef ci) j := fun j hj => by simpa using List.all_eq_true.mp h j (List.mem_range.mpr hj)
theorem gdf_0 : ∀ j, j < 2 → defaultValue (tyX0 j) = vp_V (gdef 0) j := gdfj (by decide +kernel)
theorem gdf_1 : ∀ j, j < 9 → defaultValue (tyX2 j) = vp_V (gdef 1) j := gdfj (by decide +kernel)
theorem gdf_2 : ∀ j, j < 2 → defaultValue (tyX3 j) = vp_V (gdef 2) j := gdfj (by decide +kernel)
theorem gdf_3 : ∀ j, j < 3 → defaultValue (tyX4 j) = vp_V (gdef 3) j := gdfj (by decide +kernel)
theorem gdf_4 : ∀ j, j < 2 → defaultValue (tyX5 j) = vp_V (gdef 4) j := gdfj (by decide +kernel)
theorem gdf_5 : ∀ j, j < 12 → defaultValue (tyX6 j) = vp_V (gdef 5) j := gdfj (by decide +kernel)
theorem gdf_6 : ∀ j, j < 4 → defaultValue (tyX7 j) = vp_V (gdef 6) j := gdfj (by decide +kernel)
theorem gdf_7 : ∀ j, j < 8 → defaultValue (tyX8 j) = vp_V (gdef 7) j := gdfj (by decide +kernel)
theorem gdf_8 : ∀ j, j < 35 → defaultValue (tyX9 j) = vp_V (gdef 8) j := gdfj (by decide +kernel)
/-- n numbers of an int array, copied to another's beginning -/
def cp (r q : Option Nat) (n : Int32) : gM Unit := gu (fun σ => match r, q with
  | some a, some b => if gkd σ a = 11 ∧ gkd σ b = 11 ∧ ¬ n < 0 ∧ n.toNatClampNeg ≤ gln σ a ∧ n.toNatClampNeg ≤ gln σ b then some (gsC σ a b n.toNatClampNeg) else none
  | _, _ => none) (fun σ τ h => by
    cases r with
    | none => cases h
    | some a =>
      cases q with
      | none => cases h
      | some b =>
        dsimp only at h
        split at h
        · cases h; exact ⟨rfl, rfl⟩
        · cases h)
theorem gw_copy {G : gX} {p : Program} {l : Launch} {e : Env} {R : Room} {s : State} {m : MethodId} {args : Array Value} {below : List Frame} {meth : Method} {c : Code} {H : Heap} {locs : List Loc} {cells slots : Nat} {Q : State → Prop} {cc : ByteArray} {nL pc : Nat} {own : String} {ls : Array Slot} {rest : List Value} {σ : gS} {β : Type} {y : β × gS} {index : Nat} {r q : Option Nat} {n : Int32} {K : Unit → gM β} (C : gC G p s m args meth c cc nL own) (I : gI G R s y.2 σ H locs cells slots) (hl : ls.size = nL) (hw : Cond.methodLink own index arraycopyName ∈ gT ∧ Cond.native arraycopyName ∈ gT ∧ Cond.static arraycopyName ∈ gT ∧ Cond.initialized "java/lang/System" ∈ gT) (hR : 1 ≤ R.frames ∧ 8 + (nativeFrameWords "java/lang/System" "arraycopy" 5 + 11) ≤ R.locals) (hrest : (rest.map fun v => v.category).sum ≤ 8) (hdg : decode cc pc = .ok (.invokestatic index, 3)) (hf : (gb (cp r q n) K).1 σ = some y)
    (kk : ∀ (σ1 : gS) (H1 : Heap) (locs1 : List Loc), gI G R s y.2 σ1 H1 locs1 cells slots → (K ()).1 σ1 = some y → W p l e R s m args below meth c H1 locs1 cells slots Q (F0 m (pc + 3) ls rest)) : W p l e R s m args below meth c H locs cells slots Q (F0 m pc ls (.int n :: .int 0 :: va_rf q :: .int 0 :: va_rf r :: rest)) := by
  obtain ⟨x, h1, h2⟩ := gb_some hf
  have h3 := gu_some h1
  cases r with
  | none => cases h3
  | some a =>
  cases q with
  | none => cases h3
  | some b =>
  dsimp only at h3
  split at h3
  · rename_i hk
    obtain ⟨ka, kb, hn, la, lb⟩ := hk
    rw [← Option.some.inj h3] at h2
    obtain ⟨hx, hb, hml, hown, hts, -, hG⟩ := id C
    have hna : gkd σ a ≠ 0 := by rw [ka]; omega
    have hnb : gkd σ b ≠ 0 := by rw [kb]; omega
    have hBb := (I.1.2.2 b hnb).1
    have hc0 : H[a]? = some (vp_cell (gdA G 1) (gln σ a, .inl (gai σ a))) := gW_at I.1 hna (gcell_i (t := 1) ka (by omega)) 0 _ rfl
    have hc1 : H[b]? = some (vp_cell (gdA G 1) (gln σ b, .inl (gai σ b))) := gW_at I.1 hnb (gcell_i (t := 1) kb (by omega)) 0 _ rfl
    have nn : n.toInt = (n.toNatClampNeg : Int) := by
      have hz0 : (0 : Int) ≤ n.toInt := by
        have := Int32.not_lt.mp hn
        simpa using Int32.le_iff_toInt_le.mp this
      show n.toInt = ((n.toInt.toNat : Nat) : Int)
      omega
    intro T hT X
    obtain ⟨-, k0, hk0, cm0, hkk0⟩ := (hG.1.2 1 _ rfl).1 (gln σ a) (fun j => .int (gai σ a j))
    obtain ⟨-, k1, hk1, cm1, hkk1⟩ := (hG.1.2 1 _ rfl).1 (gln σ b) (fun j => .int (gai σ b j))
    obtain ⟨vm', X', step⟩ := X.arraycopy hx hown (hts _ hw.1) (hts _ hw.2.1) (hts _ hw.2.2.1) (hts _ hw.2.2.2) (src := a) (dst := b) (cs := vp_cell (gdA G 1) (gln σ a, .inl (gai σ a))) (cd := vp_cell (gdA G 1) (gln σ b, .inl (gai σ b))) (srcPos := 0) (destPos := 0) (n := n) (by rw [hT]; exact hc0) (by rw [hT]; exact hc1)
      (fun _ h => by cases h) (fun _ h => by cases h) (fun h => by cases h) (fun h => by cases h) hk0 hk1 hkk0 hkk1 (by simp [refKind]) (by decide) (by decide) hn
      (by rw [nn]; show ¬ _ > ((arrV (gdA G 1) (gln σ a) (fun j => .int (gai σ a j))).slots.size : Int); rw [arrV_size]; have : (0 : Int32).toInt = 0 := by decide
          omega)
      (by rw [nn]; show ¬ _ > ((arrV (gdA G 1) (gln σ b) (fun j => .int (gai σ b j))).slots.size : Int); rw [arrV_size]; have : (0 : Int32).toInt = 0 := by decide
          omega)
      (fun vm₁ _ i hi => by
        have e9 : (vp_cell (gdA G 1) (gln σ a, .inl (gai σ a))).slots.getD ((0 : Int32).toNatClampNeg + i) .null = .int (gai σ a ((0 : Int32).toNatClampNeg + i)) := by
          show (arrV (gdA G 1) (gln σ a) (fun j => .int (gai σ a j))).slots.getD _ _ = _
          have z0 : (0 : Int32).toNatClampNeg = 0 := by decide
          rw [Array.getD_eq_getD_getElem?, arrV_read _ _ (by rw [z0]; omega)]
          rfl
        refine ⟨?_, ?_⟩
        · rw [e9]
          rfl
        · rw [e9]
          exact trivial)
      (g := F0 m pc ls (.int n :: .int 0 :: .ref b :: .int 0 :: .ref a :: rest)) rfl (by rw [hml]; exact hl) (rest := rest) rfl (by rw [hb]; exact hdg) hR.1 (by show 2 * 0 + _ + _ ≤ _; have := hR.2; omega)
    have e1 : copied (vp_cell (gdA G 1) (gln σ a, .inl (gai σ a))) (vp_cell (gdA G 1) (gln σ b, .inl (gai σ b))) 0 0 n = vp_cell (gdA G 1) (gln σ b, .inl (va_cpy (gai σ a) (gai σ b) 0 0 n.toNatClampNeg)) := va_copied (fun z => .int z) (gdA G 1) (gdA G 1) (gai σ a) (gai σ b) (by show 0 + _ ≤ _; omega)
    rw [e1] at X' step
    have hlt : b < H.size := (Array.getElem?_eq_some_iff.mp hc1).1
    have hheap : ((T.setVm vm').setCell b (vp_cell (gdA G 1) (gln σ b, .inl (va_cpy (gai σ a) (gai σ b) 0 0 n.toNatClampNeg)))).heap = H.setIfInBounds b (vp_cell (gdA G 1) (gln σ b, .inl (va_cpy (gai σ a) (gai σ b) 0 0 n.toNatClampNeg))) := by rw [← hT]; rfl
    have oq : ∀ q : Nat, q ≠ b → (H.setIfInBounds b (vp_cell (gdA G 1) (gln σ b, .inl (va_cpy (gai σ a) (gai σ b) 0 0 n.toNatClampNeg))))[q]? = H[q]? := fun q hq => by simp [Array.getElem?_setIfInBounds, Ne.symm hq]
    have hai : gai (gsC σ a b n.toNatClampNeg) b = va_cpy (gai σ a) (gai σ b) 0 0 n.toNatClampNeg := by
      funext j
      by_cases hj : j < n.toNatClampNeg <;> simp [gsC, gai, va_cpy, hj]
    obtain ⟨t, a1, b1⟩ := kk (gsC σ a b n.toNatClampNeg) _ _ ⟨gW_upd I.1 (by simp) oq rfl (fun _ => rfl) (fun x hx => by
        have : gai (gsC σ a b n.toNatClampNeg) x = gai σ x := by funext j; simp [gsC, gai, hx]
        simp only [gcell, this]
        rfl) hBb (by
        rw [gcell_i (σ := gsC σ a b n.toNatClampNeg) (t := 1) kb (by omega), hai]
        show (H.setIfInBounds b _)[b]? = some _
        simp [Array.getElem?_setIfInBounds, hlt]
        rfl), ⟨by simp; exact I.2.1.1, fun q g1 g2 => by
        rw [oq q (fun e => g2 (by rw [e]; exact hBb))]
        exact I.2.1.2.1 q g1 g2, fun q hq => by
        rcases List.mem_append.mp hq with h | h
        · exact I.2.1.2.2 q h
        · obtain ⟨z, -, hz⟩ := List.mem_map.mp h
          rw [← hz]
          exact hBb⟩, I.2.2.1, I.2.2.2⟩ h2 _ hheap X'
    exact ⟨t, step t a1, b1⟩
  · cases h3
theorem kc_b_32 : (Int8.ofInt (32)).toInt32 = 32 := by decide
theorem kc_i_0 : Int32.ofInt (0) = 0 := by decide
theorem kc_i_4 : Int32.ofInt (4) = 4 := by decide
theorem kc_b_8 : (Int8.ofInt (8)).toInt32 = 8 := by decide
theorem kc_b_12 : (Int8.ofInt (12)).toInt32 = 12 := by decide
theorem kc_b_16 : (Int8.ofInt (16)).toInt32 = 16 := by decide
theorem kc_i_m1 : Int32.ofInt (-1) = (-1) := by decide
theorem kc_s_4096 : (Int16.ofInt (4096)).toInt32 = 4096 := by decide
theorem kc_i_2 : Int32.ofInt (2) = 2 := by decide
theorem kc_i_1 : Int32.ofInt (1) = 1 := by decide
theorem kc_b_m2 : (Int8.ofInt (-2)).toInt32 = (-2) := by decide
theorem kc_s_300 : (Int16.ofInt (300)).toInt32 = 300 := by decide
theorem kc_b_m3 : (Int8.ofInt (-3)).toInt32 = (-3) := by decide
theorem kc_s_255 : (Int16.ofInt (255)).toInt32 = 255 := by decide
theorem kc_b_9 : (Int8.ofInt (9)).toInt32 = 9 := by decide
theorem kc_b_10 : (Int8.ofInt (10)).toInt32 = 10 := by decide
theorem kc_b_13 : (Int8.ofInt (13)).toInt32 = 13 := by decide
theorem kc_b_97 : (Int8.ofInt (97)).toInt32 = 97 := by decide
theorem kc_b_122 : (Int8.ofInt (122)).toInt32 = 122 := by decide
theorem kc_b_65 : (Int8.ofInt (65)).toInt32 = 65 := by decide
theorem kc_b_90 : (Int8.ofInt (90)).toInt32 = 90 := by decide
theorem kc_b_48 : (Int8.ofInt (48)).toInt32 = 48 := by decide
theorem kc_b_57 : (Int8.ofInt (57)).toInt32 = 57 := by decide
theorem kc_b_43 : (Int8.ofInt (43)).toInt32 = 43 := by decide
theorem kc_b_45 : (Int8.ofInt (45)).toInt32 = 45 := by decide
theorem kc_b_46 : (Int8.ofInt (46)).toInt32 = 46 := by decide
theorem kc_b_58 : (Int8.ofInt (58)).toInt32 = 58 := by decide
theorem kc_i_5 : Int32.ofInt (5) = 5 := by decide
theorem kc_b_m12 : (Int8.ofInt (-12)).toInt32 = (-12) := by decide
theorem kc_b_m11 : (Int8.ofInt (-11)).toInt32 = (-11) := by decide
theorem kc_b_47 : (Int8.ofInt (47)).toInt32 = 47 := by decide
theorem kc_b_92 : (Int8.ofInt (92)).toInt32 = 92 := by decide
theorem kc_b_6 : (Int8.ofInt (6)).toInt32 = 6 := by decide
theorem kc_i_3 : Int32.ofInt (3) = 3 := by decide
theorem kc_b_63 : (Int8.ofInt (63)).toInt32 = 63 := by decide
theorem kc_b_35 : (Int8.ofInt (35)).toInt32 = 35 := by decide
theorem kc_b_126 : (Int8.ofInt (126)).toInt32 = 126 := by decide
theorem kc_b_37 : (Int8.ofInt (37)).toInt32 = 37 := by decide
theorem kc_b_15 : (Int8.ofInt (15)).toInt32 = 15 := by decide
theorem kc_b_91 : (Int8.ofInt (91)).toInt32 = 91 := by decide
theorem kc_b_93 : (Int8.ofInt (93)).toInt32 = 93 := by decide
theorem kc_b_64 : (Int8.ofInt (64)).toInt32 = 64 := by decide
theorem kc_b_m13 : (Int8.ofInt (-13)).toInt32 = (-13) := by decide
theorem kc_b_102 : (Int8.ofInt (102)).toInt32 = 102 := by decide
theorem kc_b_70 : (Int8.ofInt (70)).toInt32 = 70 := by decide
theorem kc_b_7 : (Int8.ofInt (7)).toInt32 = 7 := by decide
theorem kc_b_m16 : (Int8.ofInt (-16)).toInt32 = (-16) := by decide
theorem kc_s_10000 : (Int16.ofInt (10000)).toInt32 = 10000 := by decide
theorem kc_b_24 : (Int8.ofInt (24)).toInt32 = 24 := by decide
theorem kc_b_m15 : (Int8.ofInt (-15)).toInt32 = (-15) := by decide
theorem kc_b_m14 : (Int8.ofInt (-14)).toInt32 = (-14) := by decide
theorem kc_b_80 : (Int8.ofInt (80)).toInt32 = 80 := by decide
theorem kc_s_443 : (Int16.ofInt (443)).toInt32 = 443 := by decide
theorem kc_b_21 : (Int8.ofInt (21)).toInt32 = 21 := by decide
theorem kc_b_m17 : (Int8.ofInt (-17)).toInt32 = (-17) := by decide
theorem kc_s_1000 : (Int16.ofInt (1000)).toInt32 = 1000 := by decide
theorem kc_s_128 : (Int16.ofInt (128)).toInt32 = 128 := by decide
theorem kc_b_40 : (Int8.ofInt (40)).toInt32 = 40 := by decide
theorem kc_b_30 : (Int8.ofInt (30)).toInt32 = 30 := by decide
theorem kc_s_400 : (Int16.ofInt (400)).toInt32 = 400 := by decide
theorem kc_s_3600 : (Int16.ofInt (3600)).toInt32 = 3600 := by decide
theorem kc_b_96 : (Int8.ofInt (96)).toInt32 = 96 := by decide
theorem kc_s_4800 : (Int16.ofInt (4800)).toInt32 = 4800 := by decide
theorem kc_s_2400 : (Int16.ofInt (2400)).toInt32 = 2400 := by decide
theorem kc_b_34 : (Int8.ofInt (34)).toInt32 = 34 := by decide
theorem kc_b_60 : (Int8.ofInt (60)).toInt32 = 60 := by decide
theorem kc_b_62 : (Int8.ofInt (62)).toInt32 = 62 := by decide
theorem kc_b_94 : (Int8.ofInt (94)).toInt32 = 94 := by decide
theorem kc_b_123 : (Int8.ofInt (123)).toInt32 = 123 := by decide
theorem kc_b_125 : (Int8.ofInt (125)).toInt32 = 125 := by decide
theorem kc_b_39 : (Int8.ofInt (39)).toInt32 = 39 := by decide
theorem kc_b_59 : (Int8.ofInt (59)).toInt32 = 59 := by decide
theorem kc_b_61 : (Int8.ofInt (61)).toInt32 = 61 := by decide
theorem kc_b_124 : (Int8.ofInt (124)).toInt32 = 124 := by decide
theorem kc_b_127 : (Int8.ofInt (127)).toInt32 = 127 := by decide
theorem kc_b_120 : (Int8.ofInt (120)).toInt32 = 120 := by decide
theorem kc_b_110 : (Int8.ofInt (110)).toInt32 = 110 := by decide
theorem kc_b_50 : (Int8.ofInt (50)).toInt32 = 50 := by decide
theorem kc_b_101 : (Int8.ofInt (101)).toInt32 = 101 := by decide
theorem kc_b_27 : (Int8.ofInt (27)).toInt32 = 27 := by decide
theorem kc_s_9999 : (Int16.ofInt (9999)).toInt32 = 9999 := by decide
theorem kc_s_999 : (Int16.ofInt (999)).toInt32 = 999 := by decide
theorem kc_b_99 : (Int8.ofInt (99)).toInt32 = 99 := by decide
theorem kc_b_31 : (Int8.ofInt (31)).toInt32 = 31 := by decide
end
section
theorem gt_0 {w : Cond} (h : w ∈ k2_sels lw_privs) (g : goodWord w = true) : w ∈ gT := gT_of (List.mem_append_left _ h) g
theorem gt_1 {w : Cond} (h : w ∈ tables_1_1) (g : goodWord w = true) : w ∈ gT := gT_of (List.mem_append_right _ (List.mem_append_left _ h)) g
theorem gt_2 {w : Cond} (h : w ∈ tables_1_2) (g : goodWord w = true) : w ∈ gT := gT_of (List.mem_append_right _ (List.mem_append_right _ (List.mem_append_left _ h))) g
theorem gt_3 {w : Cond} (h : w ∈ tables_1_3) (g : goodWord w = true) : w ∈ gT := gT_of (List.mem_append_right _ (List.mem_append_right _ (List.mem_append_right _ (List.mem_append_left _ h)))) g
theorem gt_4 {w : Cond} (h : w ∈ tables_1_4) (g : goodWord w = true) : w ∈ gT := gT_of (List.mem_append_right _ (List.mem_append_right _ (List.mem_append_right _ (List.mem_append_right _ (List.mem_append_left _ h))))) g
theorem gt_5 {w : Cond} (h : w ∈ tables_1_5) (g : goodWord w = true) : w ∈ gT := gT_of (List.mem_append_right _ (List.mem_append_right _ (List.mem_append_right _ (List.mem_append_right _ (List.mem_append_right _ (List.mem_append_left _ h)))))) g
theorem gt_6 {w : Cond} (h : w ∈ tables_1_6) (g : goodWord w = true) : w ∈ gT := gT_of (List.mem_append_right _ (List.mem_append_right _ (List.mem_append_right _ (List.mem_append_right _ (List.mem_append_right _ (List.mem_append_right _ h)))))) g
theorem kw_0 : Cond.methodLink RX5 3 objectInit ∈ gT := gt_1 (List.mem_of_getElem? (i := 32) rfl) rfl
theorem kw_1 : Cond.instanceMethod objectInit ∈ gT := gt_1 (List.mem_of_getElem? (i := 25) rfl) rfl
theorem kw_2 : Cond.code objectInit ⟨#[0xb1]⟩ 1 none ∈ gT := gt_1 (List.mem_of_getElem? (i := 26) rfl) rfl
theorem kw_3 : Cond.arrayClass .int ∈ gT := gt_1 (List.mem_of_getElem? (i := 45) rfl) rfl
theorem kw_4 : Cond.fieldLink RX5 9 "UrlGate$Row" "bytes" "[I" ∈ gT := gt_1 (List.mem_of_getElem? (i := 33) rfl) rfl
theorem kw_5 : Cond.fieldLink RX5 15 "UrlGate$Row" "length" "I" ∈ gT := gt_1 (List.mem_of_getElem? (i := 34) rfl) rfl
theorem kw_6 : Cond.methodLink RX0 1 objectInit ∈ gT := gt_1 (List.mem_of_getElem? (i := 59) rfl) rfl
theorem kw_7 : Cond.fieldLink RX0 7 "UrlGate$Address" "kind" "I" ∈ gT := gt_1 (List.mem_of_getElem? (i := 60) rfl) rfl
theorem kw_8 : Cond.fieldLink RX0 13 "UrlGate$Address" "words" "[I" ∈ gT := gt_1 (List.mem_of_getElem? (i := 63) rfl) rfl
theorem kw_9 : Cond.methodLink RX3 1 objectInit ∈ gT := gt_1 (List.mem_of_getElem? (i := 53) rfl) rfl
theorem kw_10 : Cond.classLink RX3 7 RX0 ∈ gT := gt_1 (List.mem_of_getElem? (i := 54) rfl) rfl
theorem kw_11 : Cond.code yX0_init cX0_init 1 none ∈ gT := gt_1 (List.mem_of_getElem? (i := 58) rfl) rfl
theorem kw_12 : Cond.initialized RX0 ∈ gT := gt_1 (List.mem_of_getElem? (i := 4) rfl) rfl
theorem kw_13 : Cond.instanceMethod yX0_init ∈ gT := gt_1 (List.mem_of_getElem? (i := 57) rfl) rfl
theorem kw_14 : Cond.fieldLink RX3 10 "UrlGate$Host" "address" "LUrlGate$Address;" ∈ gT := gt_1 (List.mem_of_getElem? (i := 71) rfl) rfl
theorem kw_15 : Cond.classLink RX3 16 RX5 ∈ gT := gt_1 (List.mem_of_getElem? (i := 69) rfl) rfl
theorem kw_16 : Cond.code yX5_init cX5_init 1 none ∈ gT := gt_1 (List.mem_of_getElem? (i := 31) rfl) rfl
theorem kw_17 : Cond.initialized RX5 ∈ gT := gt_1 (List.mem_of_getElem? (i := 2) rfl) rfl
theorem kw_18 : Cond.instanceMethod yX5_init ∈ gT := gt_1 (List.mem_of_getElem? (i := 30) rfl) rfl
theorem kw_19 : Cond.fieldLink RX3 19 "UrlGate$Host" "written" "LUrlGate$Row;" ∈ gT := gt_1 (List.mem_of_getElem? (i := 74) rfl) rfl
theorem kw_20 : Cond.methodLink RX4 3 objectInit ∈ gT := gt_1 (List.mem_of_getElem? (i := 88) rfl) rfl
theorem kw_21 : Cond.classLink RX4 9 RX5 ∈ gT := gt_1 (List.mem_of_getElem? (i := 89) rfl) rfl
theorem kw_22 : Cond.fieldLink RX4 12 "UrlGate$HostReader" "name" "LUrlGate$Row;" ∈ gT := gt_1 (List.mem_of_getElem? (i := 91) rfl) rfl
theorem kw_23 : Cond.fieldLink RX4 18 "UrlGate$HostReader" "pieces" "[I" ∈ gT := gt_1 (List.mem_of_getElem? (i := 92) rfl) rfl
theorem kw_24 : Cond.fieldLink RX4 22 "UrlGate$HostReader" "pieceCount" "I" ∈ gT := gt_1 (List.mem_of_getElem? (i := 93) rfl) rfl
theorem kw_25 : Cond.methodLink RX7 3 objectInit ∈ gT := gt_1 (List.mem_of_getElem? (i := 106) rfl) rfl
theorem kw_26 : Cond.classLink RX7 9 RX5 ∈ gT := gt_1 (List.mem_of_getElem? (i := 107) rfl) rfl
theorem kw_27 : Cond.fieldLink RX7 12 "UrlGate$UrlReader" "source" "LUrlGate$Row;" ∈ gT := gt_1 (List.mem_of_getElem? (i := 109) rfl) rfl
theorem kw_28 : Cond.fieldLink RX7 18 "UrlGate$UrlReader" "here" "I" ∈ gT := gt_1 (List.mem_of_getElem? (i := 110) rfl) rfl
theorem kw_29 : Cond.fieldLink RX7 22 "UrlGate$UrlReader" "hostStart" "I" ∈ gT := gt_1 (List.mem_of_getElem? (i := 111) rfl) rfl
theorem kw_30 : Cond.fieldLink RX7 25 "UrlGate$UrlReader" "hostEnd" "I" ∈ gT := gt_1 (List.mem_of_getElem? (i := 112) rfl) rfl
theorem kw_31 : Cond.methodLink RX2 3 objectInit ∈ gT := gt_1 (List.mem_of_getElem? (i := 127) rfl) rfl
theorem kw_32 : Cond.classLink RX2 11 RX3 ∈ gT := gt_1 (List.mem_of_getElem? (i := 128) rfl) rfl
theorem kw_33 : Cond.fieldLink RX2 13 "UrlGate$Gate" "hosts" "[LUrlGate$Host;" ∈ gT := gt_1 (List.mem_of_getElem? (i := 134) rfl) rfl
theorem kw_34 : Cond.arrayClass .boolean ∈ gT := gt_1 (List.mem_of_getElem? (i := 162) rfl) rfl
theorem kw_35 : Cond.fieldLink RX2 17 "UrlGate$Gate" "open" "[Z" ∈ gT := gt_1 (List.mem_of_getElem? (i := 135) rfl) rfl
theorem kw_36 : Cond.fieldLink RX2 21 "UrlGate$Gate" "hostCount" "I" ∈ gT := gt_1 (List.mem_of_getElem? (i := 136) rfl) rfl
theorem kw_37 : Cond.classLink RX2 25 RX5 ∈ gT := gt_1 (List.mem_of_getElem? (i := 130) rfl) rfl
theorem kw_38 : Cond.fieldLink RX2 27 "UrlGate$Gate" "names" "[LUrlGate$Row;" ∈ gT := gt_1 (List.mem_of_getElem? (i := 137) rfl) rfl
theorem kw_39 : Cond.classLink RX2 31 RX0 ∈ gT := gt_1 (List.mem_of_getElem? (i := 132) rfl) rfl
theorem kw_40 : Cond.fieldLink RX2 33 "UrlGate$Gate" "answers" "[LUrlGate$Address;" ∈ gT := gt_1 (List.mem_of_getElem? (i := 138) rfl) rfl
theorem kw_41 : Cond.fieldLink RX2 37 "UrlGate$Gate" "answerCount" "I" ∈ gT := gt_1 (List.mem_of_getElem? (i := 139) rfl) rfl
theorem kw_42 : Cond.fieldLink RX2 40 "UrlGate$Gate" "ranges" "[LUrlGate$Address;" ∈ gT := gt_1 (List.mem_of_getElem? (i := 140) rfl) rfl
theorem kw_43 : Cond.fieldLink RX2 43 "UrlGate$Gate" "rangeBits" "[I" ∈ gT := gt_1 (List.mem_of_getElem? (i := 141) rfl) rfl
theorem kw_44 : Cond.fieldLink RX2 47 "UrlGate$Gate" "rangeCount" "I" ∈ gT := gt_1 (List.mem_of_getElem? (i := 142) rfl) rfl
theorem kw_45 : Cond.methodLink RX6 3 objectInit ∈ gT := gt_1 (List.mem_of_getElem? (i := 167) rfl) rfl
theorem kw_46 : Cond.fieldLink RX6 11 "UrlGate$Url" "scheme" "I" ∈ gT := gt_1 (List.mem_of_getElem? (i := 172) rfl) rfl
theorem kw_47 : Cond.classLink RX6 15 RX5 ∈ gT := gt_1 (List.mem_of_getElem? (i := 168) rfl) rfl
theorem kw_48 : Cond.fieldLink RX6 18 "UrlGate$Url" "schemeName" "LUrlGate$Row;" ∈ gT := gt_1 (List.mem_of_getElem? (i := 175) rfl) rfl
theorem kw_49 : Cond.fieldLink RX6 22 "UrlGate$Url" "user" "LUrlGate$Row;" ∈ gT := gt_1 (List.mem_of_getElem? (i := 176) rfl) rfl
theorem kw_50 : Cond.fieldLink RX6 25 "UrlGate$Url" "password" "LUrlGate$Row;" ∈ gT := gt_1 (List.mem_of_getElem? (i := 178) rfl) rfl
theorem kw_51 : Cond.classLink RX6 28 RX3 ∈ gT := gt_1 (List.mem_of_getElem? (i := 170) rfl) rfl
theorem kw_52 : Cond.code yX3_init cX3_init 1 none ∈ gT := gt_1 (List.mem_of_getElem? (i := 52) rfl) rfl
theorem kw_53 : Cond.initialized RX3 ∈ gT := gt_1 (List.mem_of_getElem? (i := 3) rfl) rfl
theorem kw_54 : Cond.instanceMethod yX3_init ∈ gT := gt_1 (List.mem_of_getElem? (i := 51) rfl) rfl
theorem kw_55 : Cond.fieldLink RX6 31 "UrlGate$Url" "host" "LUrlGate$Host;" ∈ gT := gt_1 (List.mem_of_getElem? (i := 180) rfl) rfl
theorem kw_56 : Cond.fieldLink RX6 35 "UrlGate$Url" "port" "I" ∈ gT := gt_1 (List.mem_of_getElem? (i := 184) rfl) rfl
theorem kw_57 : Cond.fieldLink RX6 38 "UrlGate$Url" "path" "LUrlGate$Row;" ∈ gT := gt_1 (List.mem_of_getElem? (i := 187) rfl) rfl
theorem kw_58 : Cond.fieldLink RX6 41 "UrlGate$Url" "segments" "I" ∈ gT := gt_1 (List.mem_of_getElem? (i := 189) rfl) rfl
theorem kw_59 : Cond.fieldLink RX6 44 "UrlGate$Url" "query" "LUrlGate$Row;" ∈ gT := gt_1 (List.mem_of_getElem? (i := 191) rfl) rfl
theorem kw_60 : Cond.fieldLink RX6 47 "UrlGate$Url" "hasQuery" "Z" ∈ gT := gt_1 (List.mem_of_getElem? (i := 193) rfl) rfl
theorem kw_61 : Cond.fieldLink RX6 51 "UrlGate$Url" "fragment" "LUrlGate$Row;" ∈ gT := gt_1 (List.mem_of_getElem? (i := 195) rfl) rfl
theorem kw_62 : Cond.fieldLink RX6 54 "UrlGate$Url" "hasFragment" "Z" ∈ gT := gt_1 (List.mem_of_getElem? (i := 197) rfl) rfl
theorem kw_63 : Cond.methodLink RX8 1 objectInit ∈ gT := gt_1 (List.mem_of_getElem? (i := 24) rfl) rfl
theorem kw_64 : Cond.classLink RX8 7 RX5 ∈ gT := gt_1 (List.mem_of_getElem? (i := 27) rfl) rfl
theorem kw_65 : Cond.fieldLink RX8 10 "UrlGate" "text" "LUrlGate$Row;" ∈ gT := gt_1 (List.mem_of_getElem? (i := 224) rfl) rfl
theorem kw_66 : Cond.fieldLink RX8 16 "UrlGate" "draft" "LUrlGate$Row;" ∈ gT := gt_1 (List.mem_of_getElem? (i := 225) rfl) rfl
theorem kw_67 : Cond.classLink RX8 19 RX6 ∈ gT := gt_1 (List.mem_of_getElem? (i := 46) rfl) rfl
theorem kw_68 : Cond.fieldLink RX8 21 "UrlGate" "places" "[LUrlGate$Url;" ∈ gT := gt_1 (List.mem_of_getElem? (i := 226) rfl) rfl
theorem kw_69 : Cond.classLink RX8 25 RX3 ∈ gT := gt_1 (List.mem_of_getElem? (i := 48) rfl) rfl
theorem kw_70 : Cond.fieldLink RX8 28 "UrlGate" "heard" "LUrlGate$Host;" ∈ gT := gt_1 (List.mem_of_getElem? (i := 227) rfl) rfl
theorem kw_71 : Cond.classLink RX8 32 RX4 ∈ gT := gt_1 (List.mem_of_getElem? (i := 83) rfl) rfl
theorem kw_72 : Cond.code yX4_init cX4_init 1 none ∈ gT := gt_1 (List.mem_of_getElem? (i := 87) rfl) rfl
theorem kw_73 : Cond.initialized RX4 ∈ gT := gt_1 (List.mem_of_getElem? (i := 5) rfl) rfl
theorem kw_74 : Cond.instanceMethod yX4_init ∈ gT := gt_1 (List.mem_of_getElem? (i := 86) rfl) rfl
theorem kw_75 : Cond.fieldLink RX8 35 "UrlGate" "hostReader" "LUrlGate$HostReader;" ∈ gT := gt_1 (List.mem_of_getElem? (i := 228) rfl) rfl
theorem kw_76 : Cond.classLink RX8 39 RX7 ∈ gT := gt_1 (List.mem_of_getElem? (i := 101) rfl) rfl
theorem kw_77 : Cond.code yX7_init cX7_init 1 none ∈ gT := gt_1 (List.mem_of_getElem? (i := 105) rfl) rfl
theorem kw_78 : Cond.initialized RX7 ∈ gT := gt_1 (List.mem_of_getElem? (i := 6) rfl) rfl
theorem kw_79 : Cond.instanceMethod yX7_init ∈ gT := gt_1 (List.mem_of_getElem? (i := 104) rfl) rfl
theorem kw_80 : Cond.fieldLink RX8 42 "UrlGate" "urlReader" "LUrlGate$UrlReader;" ∈ gT := gt_1 (List.mem_of_getElem? (i := 229) rfl) rfl
theorem kw_81 : Cond.classLink RX8 46 RX2 ∈ gT := gt_1 (List.mem_of_getElem? (i := 122) rfl) rfl
theorem kw_82 : Cond.code yX2_init cX2_init 1 none ∈ gT := gt_1 (List.mem_of_getElem? (i := 126) rfl) rfl
theorem kw_83 : Cond.initialized RX2 ∈ gT := gt_1 (List.mem_of_getElem? (i := 7) rfl) rfl
theorem kw_84 : Cond.instanceMethod yX2_init ∈ gT := gt_1 (List.mem_of_getElem? (i := 125) rfl) rfl
theorem kw_85 : Cond.fieldLink RX8 49 "UrlGate" "gate" "LUrlGate$Gate;" ∈ gT := gt_1 (List.mem_of_getElem? (i := 230) rfl) rfl
theorem kw_86 : Cond.code yX6_init cX6_init 1 none ∈ gT := gt_1 (List.mem_of_getElem? (i := 166) rfl) rfl
theorem kw_87 : Cond.initialized RX6 ∈ gT := gt_1 (List.mem_of_getElem? (i := 8) rfl) rfl
theorem kw_88 : Cond.instanceMethod yX6_init ∈ gT := gt_1 (List.mem_of_getElem? (i := 165) rfl) rfl
theorem kw_89 : Cond.fieldLink RX8 54 "UrlGate" "spare" "LUrlGate$Url;" ∈ gT := gt_1 (List.mem_of_getElem? (i := 231) rfl) rfl
theorem kw_90 : Cond.methodLink RJ7 304 Lib.Math.min.name ∈ gT := gt_2 (List.mem_of_getElem? (i := 27) rfl) rfl
theorem kw_91 : Cond.static Lib.Math.min.name ∈ gT := gt_2 (List.mem_of_getElem? (i := 28) rfl) rfl
theorem kw_92 : Cond.initialized "java/lang/Math" ∈ gT := gt_1 (List.mem_of_getElem? (i := 11) rfl) rfl
theorem kw_93 : Cond.code Lib.Math.min.name Lib.Math.min.code 2 (some .int) ∈ gT := gt_2 (List.mem_of_getElem? (i := 29) rfl) rfl
theorem kw_94 : Cond.methodLink RJ7 150 arraycopyName ∈ gT := gt_2 (List.mem_of_getElem? (i := 30) rfl) rfl
theorem kw_95 : Cond.native arraycopyName ∈ gT := gt_2 (List.mem_of_getElem? (i := 32) rfl) rfl
theorem kw_96 : Cond.static arraycopyName ∈ gT := gt_2 (List.mem_of_getElem? (i := 31) rfl) rfl
theorem kw_97 : Cond.initialized "java/lang/System" ∈ gT := gt_1 (List.mem_of_getElem? (i := 12) rfl) rfl
theorem kw_98 : Cond.static yJ7_copyOf_59c91 ∈ gT := gt_2 (List.mem_of_getElem? (i := 18) rfl) rfl
theorem kw_99 : Cond.fieldLink RX8 58 "UrlGate$Row" "length" "I" ∈ gT := gt_1 (List.mem_of_getElem? (i := 35) rfl) rfl
theorem kw_100 : Cond.fieldLink RX7 81 "UrlGate$Row" "length" "I" ∈ gT := gt_1 (List.mem_of_getElem? (i := 37) rfl) rfl
theorem kw_101 : Cond.static yX1_isLetter ∈ gT := gt_2 (List.mem_of_getElem? (i := 77) rfl) rfl
theorem kw_102 : Cond.static yX1_isDigit ∈ gT := gt_2 (List.mem_of_getElem? (i := 83) rfl) rfl
theorem kw_103 : Cond.static yX7_mayBeInScheme ∈ gT := gt_2 (List.mem_of_getElem? (i := 80) rfl) rfl
theorem kw_104 : Cond.fieldLink RJ0 38 "java/lang/String" "COMPACT_STRINGS" "Z" ∈ gT := gt_2 (List.mem_of_getElem? (i := 109) rfl) rfl
theorem kw_105 : Cond.fieldLink RJ0 15 "java/lang/String" "coder" "B" ∈ gT := gt_6 (List.mem_of_getElem? (i := 42) rfl) rfl
theorem kw_106 : Cond.fieldLink RJ0 9 "java/lang/String" "value" "[B" ∈ gT := gt_6 (List.mem_of_getElem? (i := 41) rfl) rfl
theorem kw_107 : Cond.fieldLink RJ0 1053 "jdk/internal/util/Preconditions" "SIOOBE_FORMATTER" "Ljava/util/function/BiFunction;" ∈ gT := gt_2 (List.mem_of_getElem? (i := 125) rfl) rfl
theorem kw_108 : Cond.static yJ3_checkIndex_8e157 ∈ gT := gt_2 (List.mem_of_getElem? (i := 128) rfl) rfl
theorem kw_109 : Cond.static yJ0_checkIndex_df160 ∈ gT := gt_2 (List.mem_of_getElem? (i := 123) rfl) rfl
theorem kw_110 : Cond.static yJ1_charAt_3b067 ∈ gT := gt_2 (List.mem_of_getElem? (i := 120) rfl) rfl
theorem kw_111 : Cond.static yX6_nameOf ∈ gT := gt_2 (List.mem_of_getElem? (i := 90) rfl) rfl
theorem kw_112 : Cond.static yX1_low ∈ gT := gt_2 (List.mem_of_getElem? (i := 161) rfl) rfl
theorem kw_113 : Cond.fieldLink RX7 95 "UrlGate$Url" "scheme" "I" ∈ gT := gt_1 (List.mem_of_getElem? (i := 173) rfl) rfl
theorem kw_114 : Cond.fieldLink RX6 89 "UrlGate$Row" "length" "I" ∈ gT := gt_1 (List.mem_of_getElem? (i := 39) rfl) rfl
theorem kw_115 : Cond.static yX1_isSlash ∈ gT := gt_2 (List.mem_of_getElem? (i := 175) rfl) rfl
theorem kw_116 : Cond.static yJ1_canEncode_9a6ad ∈ gT := gt_3 (List.mem_of_getElem? (i := 3) rfl) rfl
theorem kw_117 : Cond.methodLink RJ1 92 Lib.Math.max.name ∈ gT := gt_3 (List.mem_of_getElem? (i := 5) rfl) rfl
theorem kw_118 : Cond.static Lib.Math.max.name ∈ gT := gt_3 (List.mem_of_getElem? (i := 6) rfl) rfl
theorem kw_119 : Cond.code Lib.Math.max.name Lib.Math.max.code 2 (some .int) ∈ gT := gt_3 (List.mem_of_getElem? (i := 7) rfl) rfl
theorem kw_120 : Cond.methodLink RJ1 38 Lib.Math.min.name ∈ gT := gt_3 (List.mem_of_getElem? (i := 8) rfl) rfl
theorem kw_121 : Cond.static yJ1_indexOfChar_4cfef ∈ gT := gt_3 (List.mem_of_getElem? (i := 10) rfl) rfl
theorem kw_122 : Cond.static yJ1_indexOf_4cfef ∈ gT := gt_3 (List.mem_of_getElem? (i := 0) rfl) rfl
theorem kw_123 : Cond.static yX1_isToEscape ∈ gT := gt_2 (List.mem_of_getElem? (i := 228) rfl) rfl
theorem kw_124 : Cond.fieldLink RX7 163 "UrlGate$Url" "user" "LUrlGate$Row;" ∈ gT := gt_1 (List.mem_of_getElem? (i := 177) rfl) rfl
theorem kw_125 : Cond.fieldLink RX7 160 "UrlGate$Url" "password" "LUrlGate$Row;" ∈ gT := gt_1 (List.mem_of_getElem? (i := 179) rfl) rfl
theorem kw_126 : Cond.static yX1_isDivider ∈ gT := gt_2 (List.mem_of_getElem? (i := 216) rfl) rfl
theorem kw_127 : Cond.constant RX4 149 (65535) ∈ gT := gt_3 (List.mem_of_getElem? (i := 78) rfl) rfl
theorem kw_128 : Cond.static yX1_hexValue ∈ gT := gt_3 (List.mem_of_getElem? (i := 84) rfl) rfl
theorem kw_129 : Cond.constant RX0 21 (65535) ∈ gT := gt_3 (List.mem_of_getElem? (i := 107) rfl) rfl
theorem kw_130 : Cond.fieldLink RX4 38 "UrlGate$Row" "length" "I" ∈ gT := gt_1 (List.mem_of_getElem? (i := 36) rfl) rfl
theorem kw_131 : Cond.static yX1_isWrongInName ∈ gT := gt_3 (List.mem_of_getElem? (i := 133) rfl) rfl
theorem kw_132 : Cond.constantLong RX4 111 (-1) ∈ gT := gt_3 (List.mem_of_getElem? (i := 167) rfl) rfl
theorem kw_133 : Cond.constantLong RX4 113 (4294967296) ∈ gT := gt_3 (List.mem_of_getElem? (i := 168) rfl) rfl
theorem kw_134 : Cond.methodLink RX4 115 Lib.MathLoose.min_long.x ∈ gT := gt_3 (List.mem_of_getElem? (i := 169) rfl) rfl
theorem kw_135 : Cond.static Lib.MathLoose.min_long.x ∈ gT := gt_3 (List.mem_of_getElem? (i := 170) rfl) rfl
theorem kw_136 : Cond.code Lib.MathLoose.min_long.x Lib.MathLoose.min_long.code 4 (some .long) ∈ gT := gt_3 (List.mem_of_getElem? (i := 171) rfl) rfl
theorem kw_137 : Cond.constantLong RX4 109 (255) ∈ gT := gt_3 (List.mem_of_getElem? (i := 180) rfl) rfl
theorem kw_138 : Cond.static yX6_portOf ∈ gT := gt_3 (List.mem_of_getElem? (i := 192) rfl) rfl
theorem kw_139 : Cond.methodLink RX7 172 Lib.Math.max.name ∈ gT := gt_3 (List.mem_of_getElem? (i := 189) rfl) rfl
theorem kw_140 : Cond.constant RX7 177 (65535) ∈ gT := gt_3 (List.mem_of_getElem? (i := 190) rfl) rfl
theorem kw_141 : Cond.fieldLink RX7 181 "UrlGate$Url" "port" "I" ∈ gT := gt_1 (List.mem_of_getElem? (i := 186) rfl) rfl
theorem kw_142 : Cond.fieldLink RX7 194 "UrlGate$Url" "path" "LUrlGate$Row;" ∈ gT := gt_1 (List.mem_of_getElem? (i := 188) rfl) rfl
theorem kw_143 : Cond.fieldLink RX7 203 "UrlGate$Url" "hasQuery" "Z" ∈ gT := gt_1 (List.mem_of_getElem? (i := 194) rfl) rfl
theorem kw_144 : Cond.fieldLink RX7 207 "UrlGate$Url" "query" "LUrlGate$Row;" ∈ gT := gt_1 (List.mem_of_getElem? (i := 192) rfl) rfl
theorem kw_145 : Cond.fieldLink RX7 212 "UrlGate$Url" "hasFragment" "Z" ∈ gT := gt_1 (List.mem_of_getElem? (i := 198) rfl) rfl
theorem kw_146 : Cond.fieldLink RX7 215 "UrlGate$Url" "fragment" "LUrlGate$Row;" ∈ gT := gt_1 (List.mem_of_getElem? (i := 196) rfl) rfl
theorem kw_147 : Cond.fieldLink RX7 48 "UrlGate$Url" "host" "LUrlGate$Host;" ∈ gT := gt_1 (List.mem_of_getElem? (i := 181) rfl) rfl
theorem kw_148 : Cond.fieldLink RX6 107 "UrlGate$Host" "written" "LUrlGate$Row;" ∈ gT := gt_1 (List.mem_of_getElem? (i := 77) rfl) rfl
theorem kw_149 : Cond.fieldLink RX8 92 "UrlGate$Url" "port" "I" ∈ gT := gt_1 (List.mem_of_getElem? (i := 185) rfl) rfl
theorem kw_150 : Cond.fieldLink RX8 99 "UrlGate$Url" "host" "LUrlGate$Host;" ∈ gT := gt_1 (List.mem_of_getElem? (i := 183) rfl) rfl
theorem kw_151 : Cond.fieldLink RX8 102 "UrlGate$Host" "address" "LUrlGate$Address;" ∈ gT := gt_1 (List.mem_of_getElem? (i := 73) rfl) rfl
theorem kw_152 : Cond.fieldLink RX8 106 "UrlGate$Address" "kind" "I" ∈ gT := gt_1 (List.mem_of_getElem? (i := 62) rfl) rfl
theorem kw_153 : Cond.fieldLink RX8 111 "UrlGate$Url" "segments" "I" ∈ gT := gt_1 (List.mem_of_getElem? (i := 190) rfl) rfl
theorem kw_154 : Cond.fieldLink RX3 23 "UrlGate$Address" "kind" "I" ∈ gT := gt_1 (List.mem_of_getElem? (i := 61) rfl) rfl
theorem kw_155 : Cond.fieldLink RX8 132 "UrlGate$Host" "written" "LUrlGate$Row;" ∈ gT := gt_1 (List.mem_of_getElem? (i := 76) rfl) rfl
theorem kw_156 : Cond.fieldLink RX2 84 "UrlGate$Host" "written" "LUrlGate$Row;" ∈ gT := gt_1 (List.mem_of_getElem? (i := 75) rfl) rfl
theorem kw_157 : Cond.fieldLink RX2 111 "UrlGate$Row" "length" "I" ∈ gT := gt_1 (List.mem_of_getElem? (i := 38) rfl) rfl
theorem kw_158 : Cond.static yX2_isBelow ∈ gT := gt_4 (List.mem_of_getElem? (i := 118) rfl) rfl
theorem kw_159 : Cond.static yX0_agree ∈ gT := gt_4 (List.mem_of_getElem? (i := 141) rfl) rfl
theorem kw_160 : Cond.fieldLink RX2 64 "UrlGate$Url" "scheme" "I" ∈ gT := gt_1 (List.mem_of_getElem? (i := 174) rfl) rfl
theorem kw_161 : Cond.fieldLink RX2 73 "UrlGate$Url" "host" "LUrlGate$Host;" ∈ gT := gt_1 (List.mem_of_getElem? (i := 182) rfl) rfl
theorem kw_162 : Cond.fieldLink RX2 92 "UrlGate$Host" "address" "LUrlGate$Address;" ∈ gT := gt_1 (List.mem_of_getElem? (i := 72) rfl) rfl
theorem kw_163 : Cond.methodLink RX9 1 objectInit ∈ gT := gt_4 (List.mem_of_getElem? (i := 148) rfl) rfl
theorem kw_164 : Cond.arrayClass .byte ∈ gT := gt_3 (List.mem_of_getElem? (i := 238) rfl) rfl
theorem kw_165 : Cond.fieldLink RX9 7 "UrlGateModel" "text" "[B" ∈ gT := gt_4 (List.mem_of_getElem? (i := 150) rfl) rfl
theorem kw_166 : Cond.fieldLink RX9 13 "UrlGateModel" "there" "[Z" ∈ gT := gt_4 (List.mem_of_getElem? (i := 152) rfl) rfl
theorem kw_167 : Cond.fieldLink RX9 17 "UrlGateModel" "schemes" "[I" ∈ gT := gt_4 (List.mem_of_getElem? (i := 153) rfl) rfl
theorem kw_168 : Cond.fieldLink RX9 21 "UrlGateModel" "ports" "[I" ∈ gT := gt_4 (List.mem_of_getElem? (i := 154) rfl) rfl
theorem kw_169 : Cond.fieldLink RX9 24 "UrlGateModel" "kinds" "[I" ∈ gT := gt_4 (List.mem_of_getElem? (i := 155) rfl) rfl
theorem kw_170 : Cond.fieldLink RX9 27 "UrlGateModel" "numbers" "[I" ∈ gT := gt_4 (List.mem_of_getElem? (i := 156) rfl) rfl
theorem kw_171 : Cond.fieldLink RX9 30 "UrlGateModel" "hasQuery" "[Z" ∈ gT := gt_4 (List.mem_of_getElem? (i := 157) rfl) rfl
theorem kw_172 : Cond.fieldLink RX9 33 "UrlGateModel" "hasFragment" "[Z" ∈ gT := gt_4 (List.mem_of_getElem? (i := 158) rfl) rfl
theorem kw_173 : Cond.constant RX9 36 (72000) ∈ gT := gt_4 (List.mem_of_getElem? (i := 149) rfl) rfl
theorem kw_174 : Cond.fieldLink RX9 37 "UrlGateModel" "bytes" "[B" ∈ gT := gt_4 (List.mem_of_getElem? (i := 159) rfl) rfl
theorem kw_175 : Cond.fieldLink RX9 40 "UrlGateModel" "sizes" "[I" ∈ gT := gt_4 (List.mem_of_getElem? (i := 160) rfl) rfl
theorem kw_176 : Cond.fieldLink RX9 43 "UrlGateModel" "in" "[B" ∈ gT := gt_4 (List.mem_of_getElem? (i := 161) rfl) rfl
theorem kw_177 : Cond.fieldLink RX9 46 "UrlGateModel" "host" "[B" ∈ gT := gt_4 (List.mem_of_getElem? (i := 164) rfl) rfl
theorem kw_178 : Cond.fieldLink RX9 49 "UrlGateModel" "hostNumbers" "[I" ∈ gT := gt_4 (List.mem_of_getElem? (i := 167) rfl) rfl
theorem kw_179 : Cond.fieldLink RX9 52 "UrlGateModel" "written" "[B" ∈ gT := gt_4 (List.mem_of_getElem? (i := 168) rfl) rfl
theorem kw_180 : Cond.fieldLink RX9 55 "UrlGateModel" "listedName" "[B" ∈ gT := gt_4 (List.mem_of_getElem? (i := 170) rfl) rfl
theorem kw_181 : Cond.fieldLink RX9 58 "UrlGateModel" "listedSize" "[I" ∈ gT := gt_4 (List.mem_of_getElem? (i := 171) rfl) rfl
theorem kw_182 : Cond.fieldLink RX9 61 "UrlGateModel" "listedKind" "[I" ∈ gT := gt_4 (List.mem_of_getElem? (i := 172) rfl) rfl
theorem kw_183 : Cond.fieldLink RX9 64 "UrlGateModel" "listedNumbers" "[I" ∈ gT := gt_4 (List.mem_of_getElem? (i := 173) rfl) rfl
theorem kw_184 : Cond.fieldLink RX9 67 "UrlGateModel" "listedOpen" "[Z" ∈ gT := gt_4 (List.mem_of_getElem? (i := 174) rfl) rfl
theorem kw_185 : Cond.fieldLink RX9 70 "UrlGateModel" "resolvedName" "[B" ∈ gT := gt_4 (List.mem_of_getElem? (i := 176) rfl) rfl
theorem kw_186 : Cond.fieldLink RX9 73 "UrlGateModel" "resolvedSize" "[I" ∈ gT := gt_4 (List.mem_of_getElem? (i := 177) rfl) rfl
theorem kw_187 : Cond.fieldLink RX9 76 "UrlGateModel" "resolvedKind" "[I" ∈ gT := gt_4 (List.mem_of_getElem? (i := 178) rfl) rfl
theorem kw_188 : Cond.fieldLink RX9 79 "UrlGateModel" "resolvedBits" "[I" ∈ gT := gt_4 (List.mem_of_getElem? (i := 179) rfl) rfl
theorem kw_189 : Cond.fieldLink RX9 82 "UrlGateModel" "rangeKind" "[I" ∈ gT := gt_4 (List.mem_of_getElem? (i := 181) rfl) rfl
theorem kw_190 : Cond.fieldLink RX9 85 "UrlGateModel" "rangeBits" "[I" ∈ gT := gt_4 (List.mem_of_getElem? (i := 182) rfl) rfl
theorem kw_191 : Cond.fieldLink RX9 88 "UrlGateModel" "rangeMany" "[I" ∈ gT := gt_4 (List.mem_of_getElem? (i := 183) rfl) rfl
theorem kw_192 : Cond.static yX9_isIn ∈ gT := gt_5 (List.mem_of_getElem? (i := 21) rfl) rfl
theorem kw_193 : Cond.static yX9_isDigit ∈ gT := gt_5 (List.mem_of_getElem? (i := 58) rfl) rfl
theorem kw_194 : Cond.static yX9_low ∈ gT := gt_5 (List.mem_of_getElem? (i := 55) rfl) rfl
theorem kw_195 : Cond.fieldLink RX9 103 "UrlGateModel" "textSize" "I" ∈ gT := gt_4 (List.mem_of_getElem? (i := 151) rfl) rfl
theorem kw_196 : Cond.static yX9_isEscaped ∈ gT := gt_5 (List.mem_of_getElem? (i := 80) rfl) rfl
theorem kw_197 : Cond.static yX9_digitOf ∈ gT := gt_5 (List.mem_of_getElem? (i := 87) rfl) rfl
theorem kw_198 : Cond.fieldLink RX9 129 "UrlGateModel" "size" "I" ∈ gT := gt_4 (List.mem_of_getElem? (i := 162) rfl) rfl
theorem kw_199 : Cond.static yX9_schemeSize ∈ gT := gt_5 (List.mem_of_getElem? (i := 168) rfl) rfl
theorem kw_200 : Cond.static yX9_schemeByte ∈ gT := gt_5 (List.mem_of_getElem? (i := 171) rfl) rfl
theorem kw_201 : Cond.static yX9_isSlash ∈ gT := gt_5 (List.mem_of_getElem? (i := 65) rfl) rfl
theorem kw_202 : Cond.constantLong RX9 264 (65535) ∈ gT := gt_5 (List.mem_of_getElem? (i := 105) rfl) rfl
theorem kw_203 : Cond.methodLink RX9 224 Lib.Math.min.name ∈ gT := gt_5 (List.mem_of_getElem? (i := 104) rfl) rfl
theorem kw_204 : Cond.static yX9_hex ∈ gT := gt_5 (List.mem_of_getElem? (i := 98) rfl) rfl
theorem kw_205 : Cond.constantLong RX9 253 (-1) ∈ gT := gt_5 (List.mem_of_getElem? (i := 117) rfl) rfl
theorem kw_206 : Cond.constantLong RX9 255 (1099511627776) ∈ gT := gt_5 (List.mem_of_getElem? (i := 118) rfl) rfl
theorem kw_207 : Cond.methodLink RX9 257 Lib.MathLoose.min_long.x ∈ gT := gt_5 (List.mem_of_getElem? (i := 119) rfl) rfl
theorem kw_208 : Cond.fieldLink RX9 217 "UrlGateModel" "hostSize" "I" ∈ gT := gt_4 (List.mem_of_getElem? (i := 165) rfl) rfl
theorem kw_209 : Cond.fieldLink RX9 214 "UrlGateModel" "hostKind" "I" ∈ gT := gt_4 (List.mem_of_getElem? (i := 166) rfl) rfl
theorem kw_210 : Cond.constantLong RX9 251 (256) ∈ gT := gt_5 (List.mem_of_getElem? (i := 120) rfl) rfl
theorem kw_211 : Cond.static yX9_isWrongByte ∈ gT := gt_5 (List.mem_of_getElem? (i := 107) rfl) rfl
theorem kw_212 : Cond.constant RX9 227 (65535) ∈ gT := gt_5 (List.mem_of_getElem? (i := 126) rfl) rfl
theorem kw_213 : Cond.static yX9_portOf ∈ gT := gt_5 (List.mem_of_getElem? (i := 128) rfl) rfl
theorem kw_214 : Cond.fieldLink RX9 163 "UrlGateModel" "fault" "I" ∈ gT := gt_4 (List.mem_of_getElem? (i := 163) rfl) rfl
theorem kw_215 : Cond.constant RX9 223 (100000) ∈ gT := gt_5 (List.mem_of_getElem? (i := 125) rfl) rfl
theorem kw_216 : Cond.methodLink RX9 200 Lib.Math.max.name ∈ gT := gt_5 (List.mem_of_getElem? (i := 146) rfl) rfl
theorem kw_217 : Cond.static yX9_isLetter ∈ gT := gt_5 (List.mem_of_getElem? (i := 52) rfl) rfl
theorem kw_218 : Cond.fieldLink RX9 266 "UrlGateModel" "writtenSize" "I" ∈ gT := gt_4 (List.mem_of_getElem? (i := 169) rfl) rfl
theorem kw_219 : Cond.static yX9_digitsOf ∈ gT := gt_5 (List.mem_of_getElem? (i := 204) rfl) rfl
theorem kw_220 : Cond.fieldLink RX9 304 "UrlGateModel" "listed" "I" ∈ gT := gt_4 (List.mem_of_getElem? (i := 175) rfl) rfl
theorem kw_221 : Cond.fieldLink RX9 307 "UrlGateModel" "resolved" "I" ∈ gT := gt_4 (List.mem_of_getElem? (i := 180) rfl) rfl
theorem kw_222 : Cond.fieldLink RX9 310 "UrlGateModel" "ranges" "I" ∈ gT := gt_4 (List.mem_of_getElem? (i := 184) rfl) rfl
theorem kw_223 : Cond.methodLink RJ0 335 yJ0_coder_7d493 ∈ gT := gt_2 (List.mem_of_getElem? (i := 105) rfl) rfl
theorem kw_224 : Cond.code yJ0_coder_7d493 cJ0_coder_7d493 1 (some .byte) ∈ gT := gt_2 (List.mem_of_getElem? (i := 108) rfl) rfl
theorem kw_225 : Cond.initialized RJ0 ∈ gT := gt_1 (List.mem_of_getElem? (i := 14) rfl) rfl
theorem kw_226 : Cond.methodLink RJ0 492 yJ0_isLatin1_aae02 ∈ gT := gt_2 (List.mem_of_getElem? (i := 115) rfl) rfl
theorem kw_227 : Cond.code yJ0_isLatin1_aae02 cJ0_isLatin1_aae02 1 (some .boolean) ∈ gT := gt_2 (List.mem_of_getElem? (i := 118) rfl) rfl
theorem kw_228 : Cond.methodLink RJ0 495 yJ1_charAt_3b067 ∈ gT := gt_2 (List.mem_of_getElem? (i := 119) rfl) rfl
theorem kw_229 : Cond.code yJ1_charAt_3b067 cJ1_charAt_3b067 2 (some .char) ∈ gT := gt_2 (List.mem_of_getElem? (i := 121) rfl) rfl
theorem kw_230 : Cond.initialized RJ1 ∈ gT := gt_1 (List.mem_of_getElem? (i := 15) rfl) rfl
theorem kw_231 : Cond.methodLink RJ0 505 yJ0_length_8abf5 ∈ gT := gt_2 (List.mem_of_getElem? (i := 238) rfl) rfl
theorem kw_232 : Cond.code yJ0_length_8abf5 cJ0_length_8abf5 1 (some .int) ∈ gT := gt_2 (List.mem_of_getElem? (i := 104) rfl) rfl
theorem kw_233 : Cond.methodLink RJ0 633 yJ0_indexOf_7cf53 ∈ gT := gt_2 (List.mem_of_getElem? (i := 234) rfl) rfl
theorem kw_234 : Cond.code yJ0_indexOf_7cf53 cJ0_indexOf_7cf53 3 (some .int) ∈ gT := gt_2 (List.mem_of_getElem? (i := 237) rfl) rfl
theorem kw_235 : Cond.methodLink RJ0 637 yJ1_indexOf_4cfef ∈ gT := gt_2 (List.mem_of_getElem? (i := 239) rfl) rfl
theorem kw_236 : Cond.code yJ1_indexOf_4cfef cJ1_indexOf_4cfef 4 (some .int) ∈ gT := gt_3 (List.mem_of_getElem? (i := 1) rfl) rfl
theorem kw_237 : Cond.methodLink RJ0 1059 yJ3_checkIndex_8e157 ∈ gT := gt_2 (List.mem_of_getElem? (i := 127) rfl) rfl
theorem kw_238 : Cond.code yJ3_checkIndex_8e157 cJ3_checkIndex_8e157 3 (some .int) ∈ gT := gt_2 (List.mem_of_getElem? (i := 129) rfl) rfl
theorem kw_239 : Cond.initialized RJ3 ∈ gT := gt_1 (List.mem_of_getElem? (i := 16) rfl) rfl
theorem kw_240 : Cond.methodLink RJ1 9 yJ0_checkIndex_df160 ∈ gT := gt_2 (List.mem_of_getElem? (i := 122) rfl) rfl
theorem kw_241 : Cond.code yJ0_checkIndex_df160 cJ0_checkIndex_df160 2 none ∈ gT := gt_2 (List.mem_of_getElem? (i := 124) rfl) rfl
theorem kw_242 : Cond.methodLink RJ1 88 yJ1_canEncode_9a6ad ∈ gT := gt_3 (List.mem_of_getElem? (i := 2) rfl) rfl
theorem kw_243 : Cond.code yJ1_canEncode_9a6ad cJ1_canEncode_9a6ad 1 (some .boolean) ∈ gT := gt_3 (List.mem_of_getElem? (i := 4) rfl) rfl
theorem kw_244 : Cond.methodLink RJ1 95 yJ1_indexOfChar_4cfef ∈ gT := gt_3 (List.mem_of_getElem? (i := 9) rfl) rfl
theorem kw_245 : Cond.code yJ1_indexOfChar_4cfef cJ1_indexOfChar_4cfef 6 (some .int) ∈ gT := gt_3 (List.mem_of_getElem? (i := 11) rfl) rfl
theorem kw_246 : Cond.methodLink RX0 17 yX0_setTo ∈ gT := gt_2 (List.mem_of_getElem? (i := 193) rfl) rfl
theorem kw_247 : Cond.code yX0_setTo cX0_setTo 6 none ∈ gT := gt_2 (List.mem_of_getElem? (i := 196) rfl) rfl
theorem kw_248 : Cond.methodLink RX0 22 yX0_isFourInSix ∈ gT := gt_4 (List.mem_of_getElem? (i := 136) rfl) rfl
theorem kw_249 : Cond.code yX0_isFourInSix cX0_isFourInSix 1 (some .boolean) ∈ gT := gt_4 (List.mem_of_getElem? (i := 139) rfl) rfl
theorem kw_250 : Cond.methodLink RX0 26 yX0_agree ∈ gT := gt_4 (List.mem_of_getElem? (i := 140) rfl) rfl
theorem kw_251 : Cond.code yX0_agree cX0_agree 3 (some .boolean) ∈ gT := gt_4 (List.mem_of_getElem? (i := 142) rfl) rfl
theorem kw_252 : Cond.methodLink RX1 9 yJ0_indexOf_0f7a4 ∈ gT := gt_2 (List.mem_of_getElem? (i := 230) rfl) rfl
theorem kw_253 : Cond.code yJ0_indexOf_0f7a4 cJ0_indexOf_0f7a4 2 (some .int) ∈ gT := gt_2 (List.mem_of_getElem? (i := 233) rfl) rfl
theorem kw_254 : Cond.methodLink RX2 51 yX3_take ∈ gT := gt_4 (List.mem_of_getElem? (i := 74) rfl) rfl
theorem kw_255 : Cond.code yX3_take cX3_take 2 none ∈ gT := gt_2 (List.mem_of_getElem? (i := 188) rfl) rfl
theorem kw_256 : Cond.methodLink RX2 56 yX5_take ∈ gT := gt_4 (List.mem_of_getElem? (i := 84) rfl) rfl
theorem kw_257 : Cond.code yX5_take cX5_take 4 none ∈ gT := gt_2 (List.mem_of_getElem? (i := 184) rfl) rfl
theorem kw_258 : Cond.methodLink RX2 60 yX0_setTo ∈ gT := gt_4 (List.mem_of_getElem? (i := 86) rfl) rfl
theorem kw_259 : Cond.methodLink RX2 69 yX6_hasUser ∈ gT := gt_4 (List.mem_of_getElem? (i := 111) rfl) rfl
theorem kw_260 : Cond.code yX6_hasUser cX6_hasUser 1 (some .boolean) ∈ gT := gt_3 (List.mem_of_getElem? (i := 232) rfl) rfl
theorem kw_261 : Cond.methodLink RX2 77 yX2_isListed ∈ gT := gt_4 (List.mem_of_getElem? (i := 112) rfl) rfl
theorem kw_262 : Cond.code yX2_isListed cX2_isListed 4 (some .boolean) ∈ gT := gt_4 (List.mem_of_getElem? (i := 115) rfl) rfl
theorem kw_263 : Cond.methodLink RX2 81 yX3_isName ∈ gT := gt_4 (List.mem_of_getElem? (i := 120) rfl) rfl
theorem kw_264 : Cond.code yX3_isName cX3_isName 1 (some .boolean) ∈ gT := gt_4 (List.mem_of_getElem? (i := 68) rfl) rfl
theorem kw_265 : Cond.methodLink RX2 88 yX2_judgeAnswers ∈ gT := gt_4 (List.mem_of_getElem? (i := 123) rfl) rfl
theorem kw_266 : Cond.code yX2_judgeAnswers cX2_judgeAnswers 6 (some .int) ∈ gT := gt_4 (List.mem_of_getElem? (i := 126) rfl) rfl
theorem kw_267 : Cond.methodLink RX2 96 yX2_isInSomeRange ∈ gT := gt_4 (List.mem_of_getElem? (i := 128) rfl) rfl
theorem kw_268 : Cond.code yX2_isInSomeRange cX2_isInSomeRange 4 (some .boolean) ∈ gT := gt_4 (List.mem_of_getElem? (i := 131) rfl) rfl
theorem kw_269 : Cond.methodLink RX2 100 yX3_equalsHost ∈ gT := gt_4 (List.mem_of_getElem? (i := 116) rfl) rfl
theorem kw_270 : Cond.code yX3_equalsHost cX3_equalsHost 2 (some .boolean) ∈ gT := gt_4 (List.mem_of_getElem? (i := 46) rfl) rfl
theorem kw_271 : Cond.methodLink RX2 103 yX2_isBelow ∈ gT := gt_4 (List.mem_of_getElem? (i := 117) rfl) rfl
theorem kw_272 : Cond.code yX2_isBelow cX2_isBelow 2 (some .boolean) ∈ gT := gt_4 (List.mem_of_getElem? (i := 119) rfl) rfl
theorem kw_273 : Cond.methodLink RX2 107 yX5_endsWith ∈ gT := gt_4 (List.mem_of_getElem? (i := 121) rfl) rfl
theorem kw_274 : Cond.code yX5_endsWith cX5_endsWith 4 (some .boolean) ∈ gT := gt_4 (List.mem_of_getElem? (i := 54) rfl) rfl
theorem kw_275 : Cond.methodLink RX2 114 yX5_byteAt ∈ gT := gt_4 (List.mem_of_getElem? (i := 122) rfl) rfl
theorem kw_276 : Cond.code yX5_byteAt cX5_byteAt 2 (some .int) ∈ gT := gt_2 (List.mem_of_getElem? (i := 60) rfl) rfl
theorem kw_277 : Cond.methodLink RX2 118 yX5_equalsRow ∈ gT := gt_4 (List.mem_of_getElem? (i := 127) rfl) rfl
theorem kw_278 : Cond.code yX5_equalsRow cX5_equalsRow 2 (some .boolean) ∈ gT := gt_4 (List.mem_of_getElem? (i := 50) rfl) rfl
theorem kw_279 : Cond.methodLink RX2 121 yX0_isIn ∈ gT := gt_4 (List.mem_of_getElem? (i := 132) rfl) rfl
theorem kw_280 : Cond.code yX0_isIn cX0_isIn 4 (some .boolean) ∈ gT := gt_4 (List.mem_of_getElem? (i := 135) rfl) rfl
theorem kw_281 : Cond.methodLink RX3 27 yX0_take ∈ gT := gt_2 (List.mem_of_getElem? (i := 189) rfl) rfl
theorem kw_282 : Cond.code yX0_take cX0_take 2 none ∈ gT := gt_2 (List.mem_of_getElem? (i := 192) rfl) rfl
theorem kw_283 : Cond.methodLink RX3 31 yX5_take ∈ gT := gt_2 (List.mem_of_getElem? (i := 197) rfl) rfl
theorem kw_284 : Cond.methodLink RX3 34 yX5_equalsRow ∈ gT := gt_4 (List.mem_of_getElem? (i := 47) rfl) rfl
theorem kw_285 : Cond.methodLink RX3 38 yX0_setTo ∈ gT := gt_3 (List.mem_of_getElem? (i := 98) rfl) rfl
theorem kw_286 : Cond.methodLink RX3 42 yX5_cutTo ∈ gT := gt_3 (List.mem_of_getElem? (i := 112) rfl) rfl
theorem kw_287 : Cond.code yX5_cutTo cX5_cutTo 2 none ∈ gT := gt_2 (List.mem_of_getElem? (i := 40) rfl) rfl
theorem kw_288 : Cond.methodLink RX3 46 yX5_addDecimal ∈ gT := gt_3 (List.mem_of_getElem? (i := 176) rfl) rfl
theorem kw_289 : Cond.code yX5_addDecimal cX5_addDecimal 3 none ∈ gT := gt_3 (List.mem_of_getElem? (i := 179) rfl) rfl
theorem kw_290 : Cond.methodLink RX3 49 yX5_add ∈ gT := gt_3 (List.mem_of_getElem? (i := 113) rfl) rfl
theorem kw_291 : Cond.code yX5_add cX5_add 2 none ∈ gT := gt_2 (List.mem_of_getElem? (i := 16) rfl) rfl
theorem kw_292 : Cond.methodLink RX3 52 yX3_firstLongestGap ∈ gT := gt_3 (List.mem_of_getElem? (i := 99) rfl) rfl
theorem kw_293 : Cond.code yX3_firstLongestGap cX3_firstLongestGap 5 (some .int) ∈ gT := gt_3 (List.mem_of_getElem? (i := 102) rfl) rfl
theorem kw_294 : Cond.methodLink RX3 56 yX3_zerosFrom ∈ gT := gt_3 (List.mem_of_getElem? (i := 108) rfl) rfl
theorem kw_295 : Cond.code yX3_zerosFrom cX3_zerosFrom 3 (some .int) ∈ gT := gt_3 (List.mem_of_getElem? (i := 111) rfl) rfl
theorem kw_296 : Cond.methodLink RX3 62 yX5_addText ∈ gT := gt_3 (List.mem_of_getElem? (i := 115) rfl) rfl
theorem kw_297 : Cond.code yX5_addText cX5_addText 3 none ∈ gT := gt_2 (List.mem_of_getElem? (i := 100) rfl) rfl
theorem kw_298 : Cond.methodLink RX3 66 yX0_numberAt ∈ gT := gt_3 (List.mem_of_getElem? (i := 103) rfl) rfl
theorem kw_299 : Cond.code yX0_numberAt cX0_numberAt 2 (some .int) ∈ gT := gt_3 (List.mem_of_getElem? (i := 106) rfl) rfl
theorem kw_300 : Cond.methodLink RX3 69 yX5_addHex ∈ gT := gt_3 (List.mem_of_getElem? (i := 116) rfl) rfl
theorem kw_301 : Cond.code yX5_addHex cX5_addHex 3 none ∈ gT := gt_3 (List.mem_of_getElem? (i := 119) rfl) rfl
theorem kw_302 : Cond.methodLink RX4 26 yX5_byteAt ∈ gT := gt_3 (List.mem_of_getElem? (i := 56) rfl) rfl
theorem kw_303 : Cond.methodLink RX4 30 yX4_readSix ∈ gT := gt_3 (List.mem_of_getElem? (i := 57) rfl) rfl
theorem kw_304 : Cond.code yX4_readSix cX4_readSix 8 (some .int) ∈ gT := gt_3 (List.mem_of_getElem? (i := 60) rfl) rfl
theorem kw_305 : Cond.methodLink RX4 34 yX4_decode ∈ gT := gt_3 (List.mem_of_getElem? (i := 121) rfl) rfl
theorem kw_306 : Cond.code yX4_decode cX4_decode 7 none ∈ gT := gt_3 (List.mem_of_getElem? (i := 124) rfl) rfl
theorem kw_307 : Cond.methodLink RX4 41 yX4_hasWrongByte ∈ gT := gt_3 (List.mem_of_getElem? (i := 128) rfl) rfl
theorem kw_308 : Cond.code yX4_hasWrongByte cX4_hasWrongByte 2 (some .boolean) ∈ gT := gt_3 (List.mem_of_getElem? (i := 131) rfl) rfl
theorem kw_309 : Cond.methodLink RX4 45 yX4_hasForeignPart ∈ gT := gt_3 (List.mem_of_getElem? (i := 136) rfl) rfl
theorem kw_310 : Cond.code yX4_hasForeignPart cX4_hasForeignPart 2 (some .boolean) ∈ gT := gt_3 (List.mem_of_getElem? (i := 139) rfl) rfl
theorem kw_311 : Cond.methodLink RX4 48 yX4_lastPartStart ∈ gT := gt_3 (List.mem_of_getElem? (i := 142) rfl) rfl
theorem kw_312 : Cond.code yX4_lastPartStart cX4_lastPartStart 3 (some .int) ∈ gT := gt_3 (List.mem_of_getElem? (i := 145) rfl) rfl
theorem kw_313 : Cond.methodLink RX4 51 yX4_isNumeral ∈ gT := gt_3 (List.mem_of_getElem? (i := 146) rfl) rfl
theorem kw_314 : Cond.code yX4_isNumeral cX4_isNumeral 6 (some .boolean) ∈ gT := gt_3 (List.mem_of_getElem? (i := 149) rfl) rfl
theorem kw_315 : Cond.methodLink RX4 55 yX4_readFour ∈ gT := gt_3 (List.mem_of_getElem? (i := 155) rfl) rfl
theorem kw_316 : Cond.code yX4_readFour cX4_readFour 10 (some .int) ∈ gT := gt_3 (List.mem_of_getElem? (i := 158) rfl) rfl
theorem kw_317 : Cond.methodLink RX4 59 yX3_setName ∈ gT := gt_3 (List.mem_of_getElem? (i := 181) rfl) rfl
theorem kw_318 : Cond.code yX3_setName cX3_setName 2 none ∈ gT := gt_3 (List.mem_of_getElem? (i := 184) rfl) rfl
theorem kw_319 : Cond.methodLink RX4 65 yX5_cutTo ∈ gT := gt_3 (List.mem_of_getElem? (i := 125) rfl) rfl
theorem kw_320 : Cond.methodLink RX4 69 yX1_hexValue ∈ gT := gt_3 (List.mem_of_getElem? (i := 83) rfl) rfl
theorem kw_321 : Cond.code yX1_hexValue cX1_hexValue 1 (some .int) ∈ gT := gt_3 (List.mem_of_getElem? (i := 85) rfl) rfl
theorem kw_322 : Cond.initialized RX1 ∈ gT := gt_1 (List.mem_of_getElem? (i := 13) rfl) rfl
theorem kw_323 : Cond.methodLink RX4 74 yX1_low ∈ gT := gt_3 (List.mem_of_getElem? (i := 126) rfl) rfl
theorem kw_324 : Cond.code yX1_low cX1_low 1 (some .int) ∈ gT := gt_2 (List.mem_of_getElem? (i := 162) rfl) rfl
theorem kw_325 : Cond.methodLink RX4 77 yX5_add ∈ gT := gt_3 (List.mem_of_getElem? (i := 127) rfl) rfl
theorem kw_326 : Cond.methodLink RX4 80 yX1_isWrongInName ∈ gT := gt_3 (List.mem_of_getElem? (i := 132) rfl) rfl
theorem kw_327 : Cond.code yX1_isWrongInName cX1_isWrongInName 1 (some .boolean) ∈ gT := gt_3 (List.mem_of_getElem? (i := 134) rfl) rfl
theorem kw_328 : Cond.methodLink RX4 86 yX5_hasAt ∈ gT := gt_3 (List.mem_of_getElem? (i := 141) rfl) rfl
theorem kw_329 : Cond.code yX5_hasAt cX5_hasAt 4 (some .boolean) ∈ gT := gt_2 (List.mem_of_getElem? (i := 168) rfl) rfl
theorem kw_330 : Cond.methodLink RX4 90 yX4_isHex ∈ gT := gt_3 (List.mem_of_getElem? (i := 150) rfl) rfl
theorem kw_331 : Cond.code yX4_isHex cX4_isHex 3 (some .boolean) ∈ gT := gt_3 (List.mem_of_getElem? (i := 153) rfl) rfl
theorem kw_332 : Cond.methodLink RX4 93 yX1_isDigit ∈ gT := gt_3 (List.mem_of_getElem? (i := 73) rfl) rfl
theorem kw_333 : Cond.code yX1_isDigit cX1_isDigit 1 (some .boolean) ∈ gT := gt_2 (List.mem_of_getElem? (i := 84) rfl) rfl
theorem kw_334 : Cond.methodLink RX4 98 yX4_partEnd ∈ gT := gt_3 (List.mem_of_getElem? (i := 159) rfl) rfl
theorem kw_335 : Cond.code yX4_partEnd cX4_partEnd 4 (some .int) ∈ gT := gt_3 (List.mem_of_getElem? (i := 162) rfl) rfl
theorem kw_336 : Cond.methodLink RX4 102 yX4_numeralValue ∈ gT := gt_3 (List.mem_of_getElem? (i := 163) rfl) rfl
theorem kw_337 : Cond.code yX4_numeralValue cX4_numeralValue 9 (some .long) ∈ gT := gt_3 (List.mem_of_getElem? (i := 166) rfl) rfl
theorem kw_338 : Cond.methodLink RX4 106 yX3_setFour ∈ gT := gt_3 (List.mem_of_getElem? (i := 172) rfl) rfl
theorem kw_339 : Cond.code yX3_setFour cX3_setFour 3 none ∈ gT := gt_3 (List.mem_of_getElem? (i := 175) rfl) rfl
theorem kw_340 : Cond.methodLink RX4 121 yX4_findGap ∈ gT := gt_3 (List.mem_of_getElem? (i := 61) rfl) rfl
theorem kw_341 : Cond.code yX4_findGap cX4_findGap 5 (some .int) ∈ gT := gt_3 (List.mem_of_getElem? (i := 64) rfl) rfl
theorem kw_342 : Cond.methodLink RX4 125 yX4_readPieces ∈ gT := gt_3 (List.mem_of_getElem? (i := 65) rfl) rfl
theorem kw_343 : Cond.code yX4_readPieces cX4_readPieces 10 (some .boolean) ∈ gT := gt_3 (List.mem_of_getElem? (i := 68) rfl) rfl
theorem kw_344 : Cond.methodLink RX4 129 yX4_spread ∈ gT := gt_3 (List.mem_of_getElem? (i := 86) rfl) rfl
theorem kw_345 : Cond.code yX4_spread cX4_spread 5 none ∈ gT := gt_3 (List.mem_of_getElem? (i := 89) rfl) rfl
theorem kw_346 : Cond.methodLink RX4 132 yX4_wordAt ∈ gT := gt_3 (List.mem_of_getElem? (i := 90) rfl) rfl
theorem kw_347 : Cond.code yX4_wordAt cX4_wordAt 2 (some .int) ∈ gT := gt_3 (List.mem_of_getElem? (i := 93) rfl) rfl
theorem kw_348 : Cond.methodLink RX4 135 yX3_setSix ∈ gT := gt_3 (List.mem_of_getElem? (i := 94) rfl) rfl
theorem kw_349 : Cond.code yX3_setSix cX3_setSix 8 none ∈ gT := gt_3 (List.mem_of_getElem? (i := 97) rfl) rfl
theorem kw_350 : Cond.methodLink RX4 139 yX4_readPoints ∈ gT := gt_3 (List.mem_of_getElem? (i := 69) rfl) rfl
theorem kw_351 : Cond.code yX4_readPoints cX4_readPoints 9 (some .boolean) ∈ gT := gt_3 (List.mem_of_getElem? (i := 72) rfl) rfl
theorem kw_352 : Cond.methodLink RX4 143 yX4_readPiece ∈ gT := gt_3 (List.mem_of_getElem? (i := 79) rfl) rfl
theorem kw_353 : Cond.code yX4_readPiece cX4_readPiece 7 (some .boolean) ∈ gT := gt_3 (List.mem_of_getElem? (i := 82) rfl) rfl
theorem kw_354 : Cond.methodLink RX4 146 yX4_addPiece ∈ gT := gt_3 (List.mem_of_getElem? (i := 74) rfl) rfl
theorem kw_355 : Cond.code yX4_addPiece cX4_addPiece 2 (some .boolean) ∈ gT := gt_3 (List.mem_of_getElem? (i := 77) rfl) rfl
theorem kw_356 : Cond.methodLink RX5 19 yJ7_copyOf_59c91 ∈ gT := gt_2 (List.mem_of_getElem? (i := 17) rfl) rfl
theorem kw_357 : Cond.code yJ7_copyOf_59c91 cJ7_copyOf_59c91 3 (some (.array .int)) ∈ gT := gt_2 (List.mem_of_getElem? (i := 19) rfl) rfl
theorem kw_358 : Cond.initialized RJ7 ∈ gT := gt_1 (List.mem_of_getElem? (i := 10) rfl) rfl
theorem kw_359 : Cond.methodLink RX5 25 yX5_byteAt ∈ gT := gt_2 (List.mem_of_getElem? (i := 169) rfl) rfl
theorem kw_360 : Cond.methodLink RX5 29 yX5_add ∈ gT := gt_2 (List.mem_of_getElem? (i := 149) rfl) rfl
theorem kw_361 : Cond.methodLink RX5 33 yJ0_length_8abf5 ∈ gT := gt_2 (List.mem_of_getElem? (i := 101) rfl) rfl
theorem kw_362 : Cond.methodLink RX5 38 yJ0_charAt_5068e ∈ gT := gt_2 (List.mem_of_getElem? (i := 111) rfl) rfl
theorem kw_363 : Cond.code yJ0_charAt_5068e cJ0_charAt_5068e 2 (some .char) ∈ gT := gt_2 (List.mem_of_getElem? (i := 114) rfl) rfl
theorem kw_364 : Cond.methodLink RX5 42 yX1_isToEscape ∈ gT := gt_2 (List.mem_of_getElem? (i := 227) rfl) rfl
theorem kw_365 : Cond.code yX1_isToEscape cX1_isToEscape 2 (some .boolean) ∈ gT := gt_2 (List.mem_of_getElem? (i := 229) rfl) rfl
theorem kw_366 : Cond.methodLink RX5 52 yX5_endsWith ∈ gT := gt_4 (List.mem_of_getElem? (i := 51) rfl) rfl
theorem kw_367 : Cond.methodLink RX6 67 yX5_cutTo ∈ gT := gt_2 (List.mem_of_getElem? (i := 67) rfl) rfl
theorem kw_368 : Cond.methodLink RX6 71 yX6_nameOf ∈ gT := gt_2 (List.mem_of_getElem? (i := 89) rfl) rfl
theorem kw_369 : Cond.code yX6_nameOf cX6_nameOf 1 (some (.object "java/lang/String")) ∈ gT := gt_2 (List.mem_of_getElem? (i := 91) rfl) rfl
theorem kw_370 : Cond.methodLink RX6 75 yX5_addText ∈ gT := gt_2 (List.mem_of_getElem? (i := 97) rfl) rfl
theorem kw_371 : Cond.methodLink RX6 79 yX5_take ∈ gT := gt_2 (List.mem_of_getElem? (i := 181) rfl) rfl
theorem kw_372 : Cond.methodLink RX6 83 yX3_take ∈ gT := gt_2 (List.mem_of_getElem? (i := 185) rfl) rfl
theorem kw_373 : Cond.methodLink RX6 86 yX5_add ∈ gT := gt_3 (List.mem_of_getElem? (i := 212) rfl) rfl
theorem kw_374 : Cond.methodLink RX6 92 yX5_byteAt ∈ gT := gt_2 (List.mem_of_getElem? (i := 210) rfl) rfl
theorem kw_375 : Cond.methodLink RX6 96 yX6_portOf ∈ gT := gt_4 (List.mem_of_getElem? (i := 29) rfl) rfl
theorem kw_376 : Cond.code yX6_portOf cX6_portOf 1 (some .int) ∈ gT := gt_3 (List.mem_of_getElem? (i := 193) rfl) rfl
theorem kw_377 : Cond.methodLink RX6 99 yX3_equalsHost ∈ gT := gt_4 (List.mem_of_getElem? (i := 43) rfl) rfl
theorem kw_378 : Cond.methodLink RX6 103 yX6_portThatCounts ∈ gT := gt_4 (List.mem_of_getElem? (i := 55) rfl) rfl
theorem kw_379 : Cond.code yX6_portThatCounts cX6_portThatCounts 1 (some .int) ∈ gT := gt_4 (List.mem_of_getElem? (i := 28) rfl) rfl
theorem kw_380 : Cond.methodLink RX6 112 yX6_hasUser ∈ gT := gt_3 (List.mem_of_getElem? (i := 229) rfl) rfl
theorem kw_381 : Cond.methodLink RX6 116 yX5_addRow ∈ gT := gt_3 (List.mem_of_getElem? (i := 233) rfl) rfl
theorem kw_382 : Cond.code yX5_addRow cX5_addRow 4 none ∈ gT := gt_3 (List.mem_of_getElem? (i := 236) rfl) rfl
theorem kw_383 : Cond.methodLink RX6 119 yX5_addDecimal ∈ gT := gt_3 (List.mem_of_getElem? (i := 237) rfl) rfl
theorem kw_384 : Cond.methodLink RX7 28 yX7_tidy ∈ gT := gt_2 (List.mem_of_getElem? (i := 53) rfl) rfl
theorem kw_385 : Cond.code yX7_tidy cX7_tidy 6 none ∈ gT := gt_2 (List.mem_of_getElem? (i := 56) rfl) rfl
theorem kw_386 : Cond.methodLink RX7 32 yX6_empty ∈ gT := gt_2 (List.mem_of_getElem? (i := 63) rfl) rfl
theorem kw_387 : Cond.code yX6_empty cX6_empty 1 none ∈ gT := gt_2 (List.mem_of_getElem? (i := 66) rfl) rfl
theorem kw_388 : Cond.methodLink RX7 37 yX7_readScheme ∈ gT := gt_2 (List.mem_of_getElem? (i := 68) rfl) rfl
theorem kw_389 : Cond.code yX7_readScheme cX7_readScheme 6 (some .int) ∈ gT := gt_2 (List.mem_of_getElem? (i := 71) rfl) rfl
theorem kw_390 : Cond.methodLink RX7 41 yX7_readRelative ∈ gT := gt_2 (List.mem_of_getElem? (i := 170) rfl) rfl
theorem kw_391 : Cond.code yX7_readRelative cX7_readRelative 4 (some .int) ∈ gT := gt_2 (List.mem_of_getElem? (i := 173) rfl) rfl
theorem kw_392 : Cond.methodLink RX7 44 yX7_readAuthority ∈ gT := gt_2 (List.mem_of_getElem? (i := 211) rfl) rfl
theorem kw_393 : Cond.code yX7_readAuthority cX7_readAuthority 5 (some .int) ∈ gT := gt_2 (List.mem_of_getElem? (i := 214) rfl) rfl
theorem kw_394 : Cond.methodLink RX7 52 yX4_readHost ∈ gT := gt_3 (List.mem_of_getElem? (i := 52) rfl) rfl
theorem kw_395 : Cond.code yX4_readHost cX4_readHost 6 (some .int) ∈ gT := gt_3 (List.mem_of_getElem? (i := 55) rfl) rfl
theorem kw_396 : Cond.methodLink RX7 58 yX7_readPort ∈ gT := gt_3 (List.mem_of_getElem? (i := 185) rfl) rfl
theorem kw_397 : Cond.code yX7_readPort cX7_readPort 5 (some .int) ∈ gT := gt_3 (List.mem_of_getElem? (i := 188) rfl) rfl
theorem kw_398 : Cond.methodLink RX7 61 yX5_byteAt ∈ gT := gt_2 (List.mem_of_getElem? (i := 57) rfl) rfl
theorem kw_399 : Cond.methodLink RX7 65 yX1_isSlash ∈ gT := gt_2 (List.mem_of_getElem? (i := 174) rfl) rfl
theorem kw_400 : Cond.code yX1_isSlash cX1_isSlash 1 (some .boolean) ∈ gT := gt_2 (List.mem_of_getElem? (i := 176) rfl) rfl
theorem kw_401 : Cond.methodLink RX7 71 yX7_readSegments ∈ gT := gt_3 (List.mem_of_getElem? (i := 194) rfl) rfl
theorem kw_402 : Cond.code yX7_readSegments cX7_readSegments 5 none ∈ gT := gt_3 (List.mem_of_getElem? (i := 197) rfl) rfl
theorem kw_403 : Cond.methodLink RX7 75 yX7_readQuery ∈ gT := gt_3 (List.mem_of_getElem? (i := 214) rfl) rfl
theorem kw_404 : Cond.code yX7_readQuery cX7_readQuery 2 none ∈ gT := gt_3 (List.mem_of_getElem? (i := 217) rfl) rfl
theorem kw_405 : Cond.methodLink RX7 78 yX7_readFragment ∈ gT := gt_3 (List.mem_of_getElem? (i := 219) rfl) rfl
theorem kw_406 : Cond.code yX7_readFragment cX7_readFragment 3 none ∈ gT := gt_3 (List.mem_of_getElem? (i := 222) rfl) rfl
theorem kw_407 : Cond.methodLink RX7 84 yX5_cutTo ∈ gT := gt_2 (List.mem_of_getElem? (i := 61) rfl) rfl
theorem kw_408 : Cond.methodLink RX7 88 yX5_add ∈ gT := gt_2 (List.mem_of_getElem? (i := 62) rfl) rfl
theorem kw_409 : Cond.methodLink RX7 91 yX7_schemeEnd ∈ gT := gt_2 (List.mem_of_getElem? (i := 72) rfl) rfl
theorem kw_410 : Cond.code yX7_schemeEnd cX7_schemeEnd 2 (some .int) ∈ gT := gt_2 (List.mem_of_getElem? (i := 75) rfl) rfl
theorem kw_411 : Cond.methodLink RX7 98 yX6_setScheme ∈ gT := gt_2 (List.mem_of_getElem? (i := 85) rfl) rfl
theorem kw_412 : Cond.code yX6_setScheme cX6_setScheme 2 none ∈ gT := gt_2 (List.mem_of_getElem? (i := 88) rfl) rfl
theorem kw_413 : Cond.methodLink RX7 101 yX7_schemeUpTo ∈ gT := gt_2 (List.mem_of_getElem? (i := 150) rfl) rfl
theorem kw_414 : Cond.code yX7_schemeUpTo cX7_schemeUpTo 3 (some .int) ∈ gT := gt_2 (List.mem_of_getElem? (i := 153) rfl) rfl
theorem kw_415 : Cond.methodLink RX7 106 yX5_hasAt ∈ gT := gt_2 (List.mem_of_getElem? (i := 165) rfl) rfl
theorem kw_416 : Cond.methodLink RX7 110 yX1_isLetter ∈ gT := gt_2 (List.mem_of_getElem? (i := 76) rfl) rfl
theorem kw_417 : Cond.code yX1_isLetter cX1_isLetter 1 (some .boolean) ∈ gT := gt_2 (List.mem_of_getElem? (i := 78) rfl) rfl
theorem kw_418 : Cond.methodLink RX7 113 yX7_mayBeInScheme ∈ gT := gt_2 (List.mem_of_getElem? (i := 79) rfl) rfl
theorem kw_419 : Cond.code yX7_mayBeInScheme cX7_mayBeInScheme 1 (some .boolean) ∈ gT := gt_2 (List.mem_of_getElem? (i := 81) rfl) rfl
theorem kw_420 : Cond.methodLink RX7 116 yX1_isDigit ∈ gT := gt_2 (List.mem_of_getElem? (i := 82) rfl) rfl
theorem kw_421 : Cond.methodLink RX7 119 yX6_nameOf ∈ gT := gt_2 (List.mem_of_getElem? (i := 154) rfl) rfl
theorem kw_422 : Cond.methodLink RX7 123 yX7_isWord ∈ gT := gt_2 (List.mem_of_getElem? (i := 155) rfl) rfl
theorem kw_423 : Cond.code yX7_isWord cX7_isWord 4 (some .boolean) ∈ gT := gt_2 (List.mem_of_getElem? (i := 158) rfl) rfl
theorem kw_424 : Cond.methodLink RX7 126 yJ0_length_8abf5 ∈ gT := gt_2 (List.mem_of_getElem? (i := 159) rfl) rfl
theorem kw_425 : Cond.methodLink RX7 130 yX1_low ∈ gT := gt_2 (List.mem_of_getElem? (i := 160) rfl) rfl
theorem kw_426 : Cond.methodLink RX7 133 yJ0_charAt_5068e ∈ gT := gt_2 (List.mem_of_getElem? (i := 163) rfl) rfl
theorem kw_427 : Cond.methodLink RX7 137 yX6_takeAuthority ∈ gT := gt_2 (List.mem_of_getElem? (i := 177) rfl) rfl
theorem kw_428 : Cond.code yX6_takeAuthority cX6_takeAuthority 2 none ∈ gT := gt_2 (List.mem_of_getElem? (i := 180) rfl) rfl
theorem kw_429 : Cond.methodLink RX7 140 yX6_takePath ∈ gT := gt_2 (List.mem_of_getElem? (i := 198) rfl) rfl
theorem kw_430 : Cond.code yX6_takePath cX6_takePath 2 none ∈ gT := gt_2 (List.mem_of_getElem? (i := 201) rfl) rfl
theorem kw_431 : Cond.methodLink RX7 143 yX6_takeQuery ∈ gT := gt_2 (List.mem_of_getElem? (i := 202) rfl) rfl
theorem kw_432 : Cond.code yX6_takeQuery cX6_takeQuery 2 none ∈ gT := gt_2 (List.mem_of_getElem? (i := 205) rfl) rfl
theorem kw_433 : Cond.methodLink RX7 146 yX6_dropSegment ∈ gT := gt_2 (List.mem_of_getElem? (i := 206) rfl) rfl
theorem kw_434 : Cond.code yX6_dropSegment cX6_dropSegment 2 none ∈ gT := gt_2 (List.mem_of_getElem? (i := 209) rfl) rfl
theorem kw_435 : Cond.methodLink RX7 149 yX1_isDivider ∈ gT := gt_2 (List.mem_of_getElem? (i := 215) rfl) rfl
theorem kw_436 : Cond.code yX1_isDivider cX1_isDivider 1 (some .boolean) ∈ gT := gt_2 (List.mem_of_getElem? (i := 217) rfl) rfl
theorem kw_437 : Cond.methodLink RX7 152 yX7_readUser ∈ gT := gt_2 (List.mem_of_getElem? (i := 218) rfl) rfl
theorem kw_438 : Cond.code yX7_readUser cX7_readUser 8 none ∈ gT := gt_2 (List.mem_of_getElem? (i := 221) rfl) rfl
theorem kw_439 : Cond.methodLink RX7 156 yX7_hostEndFrom ∈ gT := gt_3 (List.mem_of_getElem? (i := 48) rfl) rfl
theorem kw_440 : Cond.code yX7_hostEndFrom cX7_hostEndFrom 6 (some .int) ∈ gT := gt_3 (List.mem_of_getElem? (i := 51) rfl) rfl
theorem kw_441 : Cond.methodLink RX7 168 yX5_addEscaped ∈ gT := gt_2 (List.mem_of_getElem? (i := 223) rfl) rfl
theorem kw_442 : Cond.code yX5_addEscaped cX5_addEscaped 3 none ∈ gT := gt_2 (List.mem_of_getElem? (i := 226) rfl) rfl
theorem kw_443 : Cond.methodLink RX7 178 yX6_portOf ∈ gT := gt_3 (List.mem_of_getElem? (i := 191) rfl) rfl
theorem kw_444 : Cond.methodLink RX7 184 yX7_takeSegment ∈ gT := gt_3 (List.mem_of_getElem? (i := 198) rfl) rfl
theorem kw_445 : Cond.code yX7_takeSegment cX7_takeSegment 7 none ∈ gT := gt_3 (List.mem_of_getElem? (i := 201) rfl) rfl
theorem kw_446 : Cond.methodLink RX7 188 yX7_pointsIn ∈ gT := gt_3 (List.mem_of_getElem? (i := 202) rfl) rfl
theorem kw_447 : Cond.code yX7_pointsIn cX7_pointsIn 5 (some .int) ∈ gT := gt_3 (List.mem_of_getElem? (i := 205) rfl) rfl
theorem kw_448 : Cond.methodLink RX7 191 yX6_beginSegment ∈ gT := gt_3 (List.mem_of_getElem? (i := 208) rfl) rfl
theorem kw_449 : Cond.code yX6_beginSegment cX6_beginSegment 1 none ∈ gT := gt_3 (List.mem_of_getElem? (i := 211) rfl) rfl
theorem kw_450 : Cond.methodLink RX8 62 yX5_add ∈ gT := gt_2 (List.mem_of_getElem? (i := 13) rfl) rfl
theorem kw_451 : Cond.methodLink RX8 66 yX5_cutTo ∈ gT := gt_2 (List.mem_of_getElem? (i := 37) rfl) rfl
theorem kw_452 : Cond.methodLink RX8 69 yX8_recordAt ∈ gT := gt_2 (List.mem_of_getElem? (i := 45) rfl) rfl
theorem kw_453 : Cond.code yX8_recordAt cX8_recordAt 2 (some (.object "UrlGate$Url")) ∈ gT := gt_2 (List.mem_of_getElem? (i := 48) rfl) rfl
theorem kw_454 : Cond.initialized RX8 ∈ gT := gt_1 (List.mem_of_getElem? (i := 1) rfl) rfl
theorem kw_455 : Cond.methodLink RX8 73 yX7_readUrl ∈ gT := gt_2 (List.mem_of_getElem? (i := 49) rfl) rfl
theorem kw_456 : Cond.code yX7_readUrl cX7_readUrl 7 (some .int) ∈ gT := gt_2 (List.mem_of_getElem? (i := 52) rfl) rfl
theorem kw_457 : Cond.methodLink RX8 77 yX6_writeTo ∈ gT := gt_3 (List.mem_of_getElem? (i := 224) rfl) rfl
theorem kw_458 : Cond.code yX6_writeTo cX6_writeTo 2 none ∈ gT := gt_3 (List.mem_of_getElem? (i := 227) rfl) rfl
theorem kw_459 : Cond.methodLink RX8 81 yX5_take ∈ gT := gt_4 (List.mem_of_getElem? (i := 3) rfl) rfl
theorem kw_460 : Cond.methodLink RX8 84 yX5_byteAt ∈ gT := gt_4 (List.mem_of_getElem? (i := 8) rfl) rfl
theorem kw_461 : Cond.methodLink RX8 88 yX6_rowOf ∈ gT := gt_4 (List.mem_of_getElem? (i := 13) rfl) rfl
theorem kw_462 : Cond.code yX6_rowOf cX6_rowOf 2 (some (.object "UrlGate$Row")) ∈ gT := gt_4 (List.mem_of_getElem? (i := 16) rfl) rfl
theorem kw_463 : Cond.methodLink RX8 95 yX6_portThatCounts ∈ gT := gt_4 (List.mem_of_getElem? (i := 25) rfl) rfl
theorem kw_464 : Cond.methodLink RX8 114 yX0_numberAt ∈ gT := gt_4 (List.mem_of_getElem? (i := 34) rfl) rfl
theorem kw_465 : Cond.methodLink RX8 117 yX6_hasOriginOf ∈ gT := gt_4 (List.mem_of_getElem? (i := 39) rfl) rfl
theorem kw_466 : Cond.code yX6_hasOriginOf cX6_hasOriginOf 2 (some .boolean) ∈ gT := gt_4 (List.mem_of_getElem? (i := 42) rfl) rfl
theorem kw_467 : Cond.methodLink RX8 121 yX8_hearHost ∈ gT := gt_4 (List.mem_of_getElem? (i := 60) rfl) rfl
theorem kw_468 : Cond.code yX8_hearHost cX8_hearHost 2 (some .int) ∈ gT := gt_4 (List.mem_of_getElem? (i := 63) rfl) rfl
theorem kw_469 : Cond.methodLink RX8 124 yX3_isName ∈ gT := gt_4 (List.mem_of_getElem? (i := 65) rfl) rfl
theorem kw_470 : Cond.methodLink RX8 128 yX2_addHost ∈ gT := gt_4 (List.mem_of_getElem? (i := 69) rfl) rfl
theorem kw_471 : Cond.code yX2_addHost cX2_addHost 4 (some .int) ∈ gT := gt_4 (List.mem_of_getElem? (i := 72) rfl) rfl
theorem kw_472 : Cond.methodLink RX8 135 yX2_addAnswer ∈ gT := gt_4 (List.mem_of_getElem? (i := 79) rfl) rfl
theorem kw_473 : Cond.code yX2_addAnswer cX2_addAnswer 9 (some .int) ∈ gT := gt_4 (List.mem_of_getElem? (i := 82) rfl) rfl
theorem kw_474 : Cond.methodLink RX8 139 yX2_addRange ∈ gT := gt_4 (List.mem_of_getElem? (i := 91) rfl) rfl
theorem kw_475 : Cond.code yX2_addRange cX2_addRange 8 (some .int) ∈ gT := gt_4 (List.mem_of_getElem? (i := 94) rfl) rfl
theorem kw_476 : Cond.methodLink RX8 143 yX2_forget ∈ gT := gt_4 (List.mem_of_getElem? (i := 99) rfl) rfl
theorem kw_477 : Cond.code yX2_forget cX2_forget 2 (some .int) ∈ gT := gt_4 (List.mem_of_getElem? (i := 102) rfl) rfl
theorem kw_478 : Cond.methodLink RX8 146 yX2_judge ∈ gT := gt_4 (List.mem_of_getElem? (i := 107) rfl) rfl
theorem kw_479 : Cond.code yX2_judge cX2_judge 2 (some .int) ∈ gT := gt_4 (List.mem_of_getElem? (i := 110) rfl) rfl
theorem kw_480 : Cond.methodLink RX8 150 yX4_readHost ∈ gT := gt_4 (List.mem_of_getElem? (i := 64) rfl) rfl
theorem kw_481 : Cond.methodLink RX9 91 yX9_isIn ∈ gT := gt_5 (List.mem_of_getElem? (i := 20) rfl) rfl
theorem kw_482 : Cond.code yX9_isIn cX9_isIn 3 (some .boolean) ∈ gT := gt_5 (List.mem_of_getElem? (i := 22) rfl) rfl
theorem kw_483 : Cond.initialized RX9 ∈ gT := gt_1 (List.mem_of_getElem? (i := 9) rfl) rfl
theorem kw_484 : Cond.methodLink RX9 95 yX9_isDigit ∈ gT := gt_5 (List.mem_of_getElem? (i := 57) rfl) rfl
theorem kw_485 : Cond.code yX9_isDigit cX9_isDigit 1 (some .boolean) ∈ gT := gt_5 (List.mem_of_getElem? (i := 59) rfl) rfl
theorem kw_486 : Cond.methodLink RX9 99 yX9_low ∈ gT := gt_5 (List.mem_of_getElem? (i := 54) rfl) rfl
theorem kw_487 : Cond.code yX9_low cX9_low 1 (some .int) ∈ gT := gt_5 (List.mem_of_getElem? (i := 56) rfl) rfl
theorem kw_488 : Cond.methodLink RX9 107 yX9_sizeOf ∈ gT := gt_5 (List.mem_of_getElem? (i := 159) rfl) rfl
theorem kw_489 : Cond.code yX9_sizeOf cX9_sizeOf 3 (some .int) ∈ gT := gt_5 (List.mem_of_getElem? (i := 162) rfl) rfl
theorem kw_490 : Cond.methodLink RX9 111 yX9_row ∈ gT := gt_5 (List.mem_of_getElem? (i := 142) rfl) rfl
theorem kw_491 : Cond.code yX9_row cX9_row 3 (some .int) ∈ gT := gt_5 (List.mem_of_getElem? (i := 145) rfl) rfl
theorem kw_492 : Cond.methodLink RX9 114 yX9_copyPart ∈ gT := gt_5 (List.mem_of_getElem? (i := 155) rfl) rfl
theorem kw_493 : Cond.code yX9_copyPart cX9_copyPart 6 none ∈ gT := gt_5 (List.mem_of_getElem? (i := 158) rfl) rfl
theorem kw_494 : Cond.methodLink RX9 118 yX9_isEscaped ∈ gT := gt_5 (List.mem_of_getElem? (i := 79) rfl) rfl
theorem kw_495 : Cond.code yX9_isEscaped cX9_isEscaped 4 (some .boolean) ∈ gT := gt_5 (List.mem_of_getElem? (i := 81) rfl) rfl
theorem kw_496 : Cond.methodLink RX9 122 yX9_add ∈ gT := gt_5 (List.mem_of_getElem? (i := 82) rfl) rfl
theorem kw_497 : Cond.code yX9_add cX9_add 4 none ∈ gT := gt_5 (List.mem_of_getElem? (i := 85) rfl) rfl
theorem kw_498 : Cond.methodLink RX9 126 yX9_digitOf ∈ gT := gt_5 (List.mem_of_getElem? (i := 86) rfl) rfl
theorem kw_499 : Cond.code yX9_digitOf cX9_digitOf 1 (some .int) ∈ gT := gt_5 (List.mem_of_getElem? (i := 88) rfl) rfl
theorem kw_500 : Cond.methodLink RX9 142 yJ0_charAt_5068e ∈ gT := gt_5 (List.mem_of_getElem? (i := 178) rfl) rfl
theorem kw_501 : Cond.methodLink RX9 148 yX9_schemeSize ∈ gT := gt_5 (List.mem_of_getElem? (i := 167) rfl) rfl
theorem kw_502 : Cond.code yX9_schemeSize cX9_schemeSize 1 (some .int) ∈ gT := gt_5 (List.mem_of_getElem? (i := 169) rfl) rfl
theorem kw_503 : Cond.methodLink RX9 151 yX9_byteAt ∈ gT := gt_5 (List.mem_of_getElem? (i := 47) rfl) rfl
theorem kw_504 : Cond.code yX9_byteAt cX9_byteAt 2 (some .int) ∈ gT := gt_5 (List.mem_of_getElem? (i := 50) rfl) rfl
theorem kw_505 : Cond.methodLink RX9 154 yX9_schemeByte ∈ gT := gt_5 (List.mem_of_getElem? (i := 170) rfl) rfl
theorem kw_506 : Cond.code yX9_schemeByte cX9_schemeByte 3 (some .int) ∈ gT := gt_5 (List.mem_of_getElem? (i := 172) rfl) rfl
theorem kw_507 : Cond.methodLink RX9 157 yX9_has ∈ gT := gt_5 (List.mem_of_getElem? (i := 35) rfl) rfl
theorem kw_508 : Cond.code yX9_has cX9_has 2 (some .boolean) ∈ gT := gt_5 (List.mem_of_getElem? (i := 38) rfl) rfl
theorem kw_509 : Cond.methodLink RX9 160 yX9_takeText ∈ gT := gt_5 (List.mem_of_getElem? (i := 39) rfl) rfl
theorem kw_510 : Cond.code yX9_takeText cX9_takeText 5 none ∈ gT := gt_5 (List.mem_of_getElem? (i := 42) rfl) rfl
theorem kw_511 : Cond.methodLink RX9 166 yX9_readScheme ∈ gT := gt_5 (List.mem_of_getElem? (i := 43) rfl) rfl
theorem kw_512 : Cond.code yX9_readScheme cX9_readScheme 5 none ∈ gT := gt_5 (List.mem_of_getElem? (i := 46) rfl) rfl
theorem kw_513 : Cond.methodLink RX9 170 yX9_writtenLength ∈ gT := gt_5 (List.mem_of_getElem? (i := 179) rfl) rfl
theorem kw_514 : Cond.code yX9_writtenLength cX9_writtenLength 5 (some .int) ∈ gT := gt_5 (List.mem_of_getElem? (i := 182) rfl) rfl
theorem kw_515 : Cond.methodLink RX9 173 yX9_copyHost ∈ gT := gt_5 (List.mem_of_getElem? (i := 151) rfl) rfl
theorem kw_516 : Cond.code yX9_copyHost cX9_copyHost 4 none ∈ gT := gt_5 (List.mem_of_getElem? (i := 154) rfl) rfl
theorem kw_517 : Cond.methodLink RX9 176 yX9_isLetter ∈ gT := gt_5 (List.mem_of_getElem? (i := 51) rfl) rfl
theorem kw_518 : Cond.code yX9_isLetter cX9_isLetter 1 (some .boolean) ∈ gT := gt_5 (List.mem_of_getElem? (i := 53) rfl) rfl
theorem kw_519 : Cond.methodLink RX9 179 yX9_readRelative ∈ gT := gt_5 (List.mem_of_getElem? (i := 60) rfl) rfl
theorem kw_520 : Cond.code yX9_readRelative cX9_readRelative 4 none ∈ gT := gt_5 (List.mem_of_getElem? (i := 63) rfl) rfl
theorem kw_521 : Cond.methodLink RX9 182 yX9_isWord ∈ gT := gt_5 (List.mem_of_getElem? (i := 163) rfl) rfl
theorem kw_522 : Cond.code yX9_isWord cX9_isWord 5 (some .boolean) ∈ gT := gt_5 (List.mem_of_getElem? (i := 166) rfl) rfl
theorem kw_523 : Cond.methodLink RX9 185 yX9_readSlashes ∈ gT := gt_5 (List.mem_of_getElem? (i := 67) rfl) rfl
theorem kw_524 : Cond.code yX9_readSlashes cX9_readSlashes 8 none ∈ gT := gt_5 (List.mem_of_getElem? (i := 70) rfl) rfl
theorem kw_525 : Cond.methodLink RX9 188 yX9_isSlash ∈ gT := gt_5 (List.mem_of_getElem? (i := 64) rfl) rfl
theorem kw_526 : Cond.code yX9_isSlash cX9_isSlash 1 (some .boolean) ∈ gT := gt_5 (List.mem_of_getElem? (i := 66) rfl) rfl
theorem kw_527 : Cond.methodLink RX9 191 yX9_readPath ∈ gT := gt_5 (List.mem_of_getElem? (i := 130) rfl) rfl
theorem kw_528 : Cond.code yX9_readPath cX9_readPath 7 none ∈ gT := gt_5 (List.mem_of_getElem? (i := 133) rfl) rfl
theorem kw_529 : Cond.methodLink RX9 194 yX9_readTail ∈ gT := gt_5 (List.mem_of_getElem? (i := 147) rfl) rfl
theorem kw_530 : Cond.code yX9_readTail cX9_readTail 3 none ∈ gT := gt_5 (List.mem_of_getElem? (i := 150) rfl) rfl
theorem kw_531 : Cond.methodLink RX9 197 yX9_dropSegment ∈ gT := gt_5 (List.mem_of_getElem? (i := 138) rfl) rfl
theorem kw_532 : Cond.code yX9_dropSegment cX9_dropSegment 3 none ∈ gT := gt_5 (List.mem_of_getElem? (i := 141) rfl) rfl
theorem kw_533 : Cond.methodLink RX9 205 yX9_isOver ∈ gT := gt_5 (List.mem_of_getElem? (i := 71) rfl) rfl
theorem kw_534 : Cond.code yX9_isOver cX9_isOver 3 (some .boolean) ∈ gT := gt_5 (List.mem_of_getElem? (i := 74) rfl) rfl
theorem kw_535 : Cond.methodLink RX9 208 yX9_addEscaped ∈ gT := gt_5 (List.mem_of_getElem? (i := 75) rfl) rfl
theorem kw_536 : Cond.code yX9_addEscaped cX9_addEscaped 4 none ∈ gT := gt_5 (List.mem_of_getElem? (i := 78) rfl) rfl
theorem kw_537 : Cond.methodLink RX9 211 yX9_readHost ∈ gT := gt_5 (List.mem_of_getElem? (i := 89) rfl) rfl
theorem kw_538 : Cond.code yX9_readHost cX9_readHost 6 (some .int) ∈ gT := gt_5 (List.mem_of_getElem? (i := 92) rfl) rfl
theorem kw_539 : Cond.methodLink RX9 220 yX9_readPort ∈ gT := gt_5 (List.mem_of_getElem? (i := 121) rfl) rfl
theorem kw_540 : Cond.code yX9_readPort cX9_readPort 5 none ∈ gT := gt_5 (List.mem_of_getElem? (i := 124) rfl) rfl
theorem kw_541 : Cond.methodLink RX9 228 yX9_portOf ∈ gT := gt_5 (List.mem_of_getElem? (i := 127) rfl) rfl
theorem kw_542 : Cond.code yX9_portOf cX9_portOf 1 (some .int) ∈ gT := gt_5 (List.mem_of_getElem? (i := 129) rfl) rfl
theorem kw_543 : Cond.methodLink RX9 231 yX9_points ∈ gT := gt_5 (List.mem_of_getElem? (i := 134) rfl) rfl
theorem kw_544 : Cond.code yX9_points cX9_points 5 (some .int) ∈ gT := gt_5 (List.mem_of_getElem? (i := 137) rfl) rfl
theorem kw_545 : Cond.methodLink RX9 234 yX9_readSix ∈ gT := gt_5 (List.mem_of_getElem? (i := 93) rfl) rfl
theorem kw_546 : Cond.code yX9_readSix cX9_readSix 9 (some .int) ∈ gT := gt_5 (List.mem_of_getElem? (i := 96) rfl) rfl
theorem kw_547 : Cond.methodLink RX9 237 yX9_hex ∈ gT := gt_5 (List.mem_of_getElem? (i := 97) rfl) rfl
theorem kw_548 : Cond.code yX9_hex cX9_hex 1 (some .int) ∈ gT := gt_5 (List.mem_of_getElem? (i := 99) rfl) rfl
theorem kw_549 : Cond.methodLink RX9 240 yX9_isWrongByte ∈ gT := gt_5 (List.mem_of_getElem? (i := 106) rfl) rfl
theorem kw_550 : Cond.code yX9_isWrongByte cX9_isWrongByte 1 (some .boolean) ∈ gT := gt_5 (List.mem_of_getElem? (i := 108) rfl) rfl
theorem kw_551 : Cond.methodLink RX9 243 yX9_readFour ∈ gT := gt_5 (List.mem_of_getElem? (i := 109) rfl) rfl
theorem kw_552 : Cond.code yX9_readFour cX9_readFour 15 (some .int) ∈ gT := gt_5 (List.mem_of_getElem? (i := 112) rfl) rfl
theorem kw_553 : Cond.methodLink RX9 247 yX9_numberOf ∈ gT := gt_5 (List.mem_of_getElem? (i := 113) rfl) rfl
theorem kw_554 : Cond.code yX9_numberOf cX9_numberOf 8 (some .long) ∈ gT := gt_5 (List.mem_of_getElem? (i := 116) rfl) rfl
theorem kw_555 : Cond.methodLink RX9 260 yX9_readNumbers ∈ gT := gt_5 (List.mem_of_getElem? (i := 100) rfl) rfl
theorem kw_556 : Cond.code yX9_readNumbers cX9_readNumbers 10 (some .int) ∈ gT := gt_5 (List.mem_of_getElem? (i := 103) rfl) rfl
theorem kw_557 : Cond.methodLink RX9 269 yX9_put ∈ gT := gt_5 (List.mem_of_getElem? (i := 187) rfl) rfl
theorem kw_558 : Cond.code yX9_put cX9_put 2 none ∈ gT := gt_5 (List.mem_of_getElem? (i := 190) rfl) rfl
theorem kw_559 : Cond.methodLink RX9 272 yX9_putDecimal ∈ gT := gt_5 (List.mem_of_getElem? (i := 191) rfl) rfl
theorem kw_560 : Cond.code yX9_putDecimal cX9_putDecimal 3 none ∈ gT := gt_5 (List.mem_of_getElem? (i := 194) rfl) rfl
theorem kw_561 : Cond.methodLink RX9 275 yX9_writeSix ∈ gT := gt_5 (List.mem_of_getElem? (i := 195) rfl) rfl
theorem kw_562 : Cond.code yX9_writeSix cX9_writeSix 6 none ∈ gT := gt_5 (List.mem_of_getElem? (i := 198) rfl) rfl
theorem kw_563 : Cond.methodLink RX9 278 yX9_putHex ∈ gT := gt_5 (List.mem_of_getElem? (i := 199) rfl) rfl
theorem kw_564 : Cond.code yX9_putHex cX9_putHex 5 none ∈ gT := gt_5 (List.mem_of_getElem? (i := 202) rfl) rfl
theorem kw_565 : Cond.methodLink RX9 281 yX9_writeHost ∈ gT := gt_5 (List.mem_of_getElem? (i := 183) rfl) rfl
theorem kw_566 : Cond.code yX9_writeHost cX9_writeHost 3 none ∈ gT := gt_5 (List.mem_of_getElem? (i := 186) rfl) rfl
theorem kw_567 : Cond.methodLink RX9 284 yX9_digitsOf ∈ gT := gt_5 (List.mem_of_getElem? (i := 203) rfl) rfl
theorem kw_568 : Cond.code yX9_digitsOf cX9_digitsOf 1 (some .int) ∈ gT := gt_5 (List.mem_of_getElem? (i := 205) rfl) rfl
theorem kw_569 : Cond.methodLink RX9 287 yX9_say ∈ gT := gt_5 (List.mem_of_getElem? (i := 210) rfl) rfl
theorem kw_570 : Cond.code yX9_say cX9_say 2 none ∈ gT := gt_5 (List.mem_of_getElem? (i := 213) rfl) rfl
theorem kw_571 : Cond.methodLink RX9 290 yX9_sayPart ∈ gT := gt_5 (List.mem_of_getElem? (i := 214) rfl) rfl
theorem kw_572 : Cond.code yX9_sayPart cX9_sayPart 4 none ∈ gT := gt_5 (List.mem_of_getElem? (i := 217) rfl) rfl
theorem kw_573 : Cond.methodLink RX9 293 yX9_sayWritten ∈ gT := gt_5 (List.mem_of_getElem? (i := 218) rfl) rfl
theorem kw_574 : Cond.code yX9_sayWritten cX9_sayWritten 2 none ∈ gT := gt_5 (List.mem_of_getElem? (i := 221) rfl) rfl
theorem kw_575 : Cond.methodLink RX9 296 yX9_size ∈ gT := gt_5 (List.mem_of_getElem? (i := 230) rfl) rfl
theorem kw_576 : Cond.code yX9_size cX9_size 3 (some .int) ∈ gT := gt_5 (List.mem_of_getElem? (i := 225) rfl) rfl
theorem kw_577 : Cond.methodLink RX9 298 yX9_told ∈ gT := gt_6 (List.mem_of_getElem? (i := 3) rfl) rfl
theorem kw_578 : Cond.code yX9_told cX9_told 5 (some .int) ∈ gT := gt_5 (List.mem_of_getElem? (i := 234) rfl) rfl
theorem kw_579 : Cond.methodLink RX9 301 yX9_readTextHost ∈ gT := gt_6 (List.mem_of_getElem? (i := 8) rfl) rfl
theorem kw_580 : Cond.code yX9_readTextHost cX9_readTextHost 2 (some .int) ∈ gT := gt_6 (List.mem_of_getElem? (i := 11) rfl) rfl
theorem kw_581 : Cond.methodLink RX9 313 yX9_isListed ∈ gT := gt_6 (List.mem_of_getElem? (i := 28) rfl) rfl
theorem kw_582 : Cond.code yX9_isListed cX9_isListed 7 (some .boolean) ∈ gT := gt_6 (List.mem_of_getElem? (i := 31) rfl) rfl
theorem kw_583 : Cond.methodLink RX9 316 yX9_isInRange ∈ gT := gt_6 (List.mem_of_getElem? (i := 32) rfl) rfl
theorem kw_584 : Cond.code yX9_isInRange cX9_isInRange 14 (some .boolean) ∈ gT := gt_6 (List.mem_of_getElem? (i := 35) rfl) rfl
theorem kw_585 : Cond.methodLink RX9 320 yX9_pair ∈ gT := gt_6 (List.mem_of_getElem? (i := 36) rfl) rfl
theorem kw_586 : Cond.code yX9_pair cX9_pair 3 (some .int) ∈ gT := gt_6 (List.mem_of_getElem? (i := 39) rfl) rfl
theorem kw_587 : Cond.instanceMethod yJ0_charAt_5068e ∈ gT := gt_2 (List.mem_of_getElem? (i := 112) rfl) rfl
theorem kw_588 : Cond.selects "java/lang/String" yJ0_charAt_5068e yJ0_charAt_5068e ∈ gT := gt_2 (List.mem_of_getElem? (i := 113) rfl) rfl
theorem kw_589 : Cond.instanceMethod yJ0_coder_7d493 ∈ gT := gt_2 (List.mem_of_getElem? (i := 106) rfl) rfl
theorem kw_590 : Cond.selects "java/lang/String" yJ0_coder_7d493 yJ0_coder_7d493 ∈ gT := gt_2 (List.mem_of_getElem? (i := 107) rfl) rfl
theorem kw_591 : Cond.instanceMethod yJ0_indexOf_0f7a4 ∈ gT := gt_2 (List.mem_of_getElem? (i := 231) rfl) rfl
theorem kw_592 : Cond.selects "java/lang/String" yJ0_indexOf_0f7a4 yJ0_indexOf_0f7a4 ∈ gT := gt_2 (List.mem_of_getElem? (i := 232) rfl) rfl
theorem kw_593 : Cond.instanceMethod yJ0_indexOf_7cf53 ∈ gT := gt_2 (List.mem_of_getElem? (i := 235) rfl) rfl
theorem kw_594 : Cond.selects "java/lang/String" yJ0_indexOf_7cf53 yJ0_indexOf_7cf53 ∈ gT := gt_2 (List.mem_of_getElem? (i := 236) rfl) rfl
theorem kw_595 : Cond.instanceMethod yJ0_isLatin1_aae02 ∈ gT := gt_2 (List.mem_of_getElem? (i := 116) rfl) rfl
theorem kw_596 : Cond.selects "java/lang/String" yJ0_isLatin1_aae02 yJ0_isLatin1_aae02 ∈ gT := gt_2 (List.mem_of_getElem? (i := 117) rfl) rfl
theorem kw_597 : Cond.instanceMethod yJ0_length_8abf5 ∈ gT := gt_2 (List.mem_of_getElem? (i := 102) rfl) rfl
theorem kw_598 : Cond.selects "java/lang/String" yJ0_length_8abf5 yJ0_length_8abf5 ∈ gT := gt_2 (List.mem_of_getElem? (i := 103) rfl) rfl
theorem kw_599 : Cond.instanceMethod yX0_isFourInSix ∈ gT := gt_4 (List.mem_of_getElem? (i := 138) rfl) rfl
theorem kw_600 : Cond.selects RX0 yX0_isFourInSix yX0_isFourInSix ∈ gT := gt_0 (List.mem_of_getElem? (i := 39) rfl) rfl
theorem kw_601 : Cond.instanceMethod yX0_isIn ∈ gT := gt_4 (List.mem_of_getElem? (i := 133) rfl) rfl
theorem kw_602 : Cond.selects RX0 yX0_isIn yX0_isIn ∈ gT := gt_4 (List.mem_of_getElem? (i := 134) rfl) rfl
theorem kw_603 : Cond.instanceMethod yX0_numberAt ∈ gT := gt_3 (List.mem_of_getElem? (i := 104) rfl) rfl
theorem kw_604 : Cond.selects RX0 yX0_numberAt yX0_numberAt ∈ gT := gt_3 (List.mem_of_getElem? (i := 105) rfl) rfl
theorem kw_605 : Cond.instanceMethod yX0_setTo ∈ gT := gt_2 (List.mem_of_getElem? (i := 194) rfl) rfl
theorem kw_606 : Cond.selects RX0 yX0_setTo yX0_setTo ∈ gT := gt_2 (List.mem_of_getElem? (i := 195) rfl) rfl
theorem kw_607 : Cond.instanceMethod yX0_take ∈ gT := gt_2 (List.mem_of_getElem? (i := 190) rfl) rfl
theorem kw_608 : Cond.selects RX0 yX0_take yX0_take ∈ gT := gt_2 (List.mem_of_getElem? (i := 191) rfl) rfl
theorem kw_609 : Cond.instanceMethod yX2_addAnswer ∈ gT := gt_4 (List.mem_of_getElem? (i := 80) rfl) rfl
theorem kw_610 : Cond.selects RX2 yX2_addAnswer yX2_addAnswer ∈ gT := gt_4 (List.mem_of_getElem? (i := 81) rfl) rfl
theorem kw_611 : Cond.instanceMethod yX2_addHost ∈ gT := gt_4 (List.mem_of_getElem? (i := 70) rfl) rfl
theorem kw_612 : Cond.selects RX2 yX2_addHost yX2_addHost ∈ gT := gt_4 (List.mem_of_getElem? (i := 71) rfl) rfl
theorem kw_613 : Cond.instanceMethod yX2_addRange ∈ gT := gt_4 (List.mem_of_getElem? (i := 92) rfl) rfl
theorem kw_614 : Cond.selects RX2 yX2_addRange yX2_addRange ∈ gT := gt_4 (List.mem_of_getElem? (i := 93) rfl) rfl
theorem kw_615 : Cond.instanceMethod yX2_forget ∈ gT := gt_4 (List.mem_of_getElem? (i := 100) rfl) rfl
theorem kw_616 : Cond.selects RX2 yX2_forget yX2_forget ∈ gT := gt_4 (List.mem_of_getElem? (i := 101) rfl) rfl
theorem kw_617 : Cond.instanceMethod yX2_isInSomeRange ∈ gT := gt_4 (List.mem_of_getElem? (i := 130) rfl) rfl
theorem kw_618 : Cond.selects RX2 yX2_isInSomeRange yX2_isInSomeRange ∈ gT := gt_0 (List.mem_of_getElem? (i := 38) rfl) rfl
theorem kw_619 : Cond.instanceMethod yX2_isListed ∈ gT := gt_4 (List.mem_of_getElem? (i := 114) rfl) rfl
theorem kw_620 : Cond.selects RX2 yX2_isListed yX2_isListed ∈ gT := gt_0 (List.mem_of_getElem? (i := 36) rfl) rfl
theorem kw_621 : Cond.instanceMethod yX2_judge ∈ gT := gt_4 (List.mem_of_getElem? (i := 108) rfl) rfl
theorem kw_622 : Cond.selects RX2 yX2_judge yX2_judge ∈ gT := gt_4 (List.mem_of_getElem? (i := 109) rfl) rfl
theorem kw_623 : Cond.instanceMethod yX2_judgeAnswers ∈ gT := gt_4 (List.mem_of_getElem? (i := 125) rfl) rfl
theorem kw_624 : Cond.selects RX2 yX2_judgeAnswers yX2_judgeAnswers ∈ gT := gt_0 (List.mem_of_getElem? (i := 37) rfl) rfl
theorem kw_625 : Cond.instanceMethod yX3_equalsHost ∈ gT := gt_4 (List.mem_of_getElem? (i := 44) rfl) rfl
theorem kw_626 : Cond.selects RX3 yX3_equalsHost yX3_equalsHost ∈ gT := gt_4 (List.mem_of_getElem? (i := 45) rfl) rfl
theorem kw_627 : Cond.instanceMethod yX3_firstLongestGap ∈ gT := gt_3 (List.mem_of_getElem? (i := 101) rfl) rfl
theorem kw_628 : Cond.selects RX3 yX3_firstLongestGap yX3_firstLongestGap ∈ gT := gt_0 (List.mem_of_getElem? (i := 18) rfl) rfl
theorem kw_629 : Cond.instanceMethod yX3_isName ∈ gT := gt_4 (List.mem_of_getElem? (i := 66) rfl) rfl
theorem kw_630 : Cond.selects RX3 yX3_isName yX3_isName ∈ gT := gt_4 (List.mem_of_getElem? (i := 67) rfl) rfl
theorem kw_631 : Cond.instanceMethod yX3_setFour ∈ gT := gt_3 (List.mem_of_getElem? (i := 173) rfl) rfl
theorem kw_632 : Cond.selects RX3 yX3_setFour yX3_setFour ∈ gT := gt_3 (List.mem_of_getElem? (i := 174) rfl) rfl
theorem kw_633 : Cond.instanceMethod yX3_setName ∈ gT := gt_3 (List.mem_of_getElem? (i := 182) rfl) rfl
theorem kw_634 : Cond.selects RX3 yX3_setName yX3_setName ∈ gT := gt_3 (List.mem_of_getElem? (i := 183) rfl) rfl
theorem kw_635 : Cond.instanceMethod yX3_setSix ∈ gT := gt_3 (List.mem_of_getElem? (i := 95) rfl) rfl
theorem kw_636 : Cond.selects RX3 yX3_setSix yX3_setSix ∈ gT := gt_3 (List.mem_of_getElem? (i := 96) rfl) rfl
theorem kw_637 : Cond.instanceMethod yX3_take ∈ gT := gt_2 (List.mem_of_getElem? (i := 186) rfl) rfl
theorem kw_638 : Cond.selects RX3 yX3_take yX3_take ∈ gT := gt_2 (List.mem_of_getElem? (i := 187) rfl) rfl
theorem kw_639 : Cond.instanceMethod yX3_zerosFrom ∈ gT := gt_3 (List.mem_of_getElem? (i := 110) rfl) rfl
theorem kw_640 : Cond.selects RX3 yX3_zerosFrom yX3_zerosFrom ∈ gT := gt_0 (List.mem_of_getElem? (i := 19) rfl) rfl
theorem kw_641 : Cond.instanceMethod yX4_addPiece ∈ gT := gt_3 (List.mem_of_getElem? (i := 76) rfl) rfl
theorem kw_642 : Cond.selects RX4 yX4_addPiece yX4_addPiece ∈ gT := gt_0 (List.mem_of_getElem? (i := 14) rfl) rfl
theorem kw_643 : Cond.instanceMethod yX4_decode ∈ gT := gt_3 (List.mem_of_getElem? (i := 123) rfl) rfl
theorem kw_644 : Cond.selects RX4 yX4_decode yX4_decode ∈ gT := gt_0 (List.mem_of_getElem? (i := 20) rfl) rfl
theorem kw_645 : Cond.instanceMethod yX4_findGap ∈ gT := gt_3 (List.mem_of_getElem? (i := 63) rfl) rfl
theorem kw_646 : Cond.selects RX4 yX4_findGap yX4_findGap ∈ gT := gt_0 (List.mem_of_getElem? (i := 11) rfl) rfl
theorem kw_647 : Cond.instanceMethod yX4_hasForeignPart ∈ gT := gt_3 (List.mem_of_getElem? (i := 138) rfl) rfl
theorem kw_648 : Cond.selects RX4 yX4_hasForeignPart yX4_hasForeignPart ∈ gT := gt_0 (List.mem_of_getElem? (i := 22) rfl) rfl
theorem kw_649 : Cond.instanceMethod yX4_hasWrongByte ∈ gT := gt_3 (List.mem_of_getElem? (i := 130) rfl) rfl
theorem kw_650 : Cond.selects RX4 yX4_hasWrongByte yX4_hasWrongByte ∈ gT := gt_0 (List.mem_of_getElem? (i := 21) rfl) rfl
theorem kw_651 : Cond.instanceMethod yX4_isHex ∈ gT := gt_3 (List.mem_of_getElem? (i := 152) rfl) rfl
theorem kw_652 : Cond.selects RX4 yX4_isHex yX4_isHex ∈ gT := gt_0 (List.mem_of_getElem? (i := 25) rfl) rfl
theorem kw_653 : Cond.instanceMethod yX4_isNumeral ∈ gT := gt_3 (List.mem_of_getElem? (i := 148) rfl) rfl
theorem kw_654 : Cond.selects RX4 yX4_isNumeral yX4_isNumeral ∈ gT := gt_0 (List.mem_of_getElem? (i := 24) rfl) rfl
theorem kw_655 : Cond.instanceMethod yX4_lastPartStart ∈ gT := gt_3 (List.mem_of_getElem? (i := 144) rfl) rfl
theorem kw_656 : Cond.selects RX4 yX4_lastPartStart yX4_lastPartStart ∈ gT := gt_0 (List.mem_of_getElem? (i := 23) rfl) rfl
theorem kw_657 : Cond.instanceMethod yX4_numeralValue ∈ gT := gt_3 (List.mem_of_getElem? (i := 165) rfl) rfl
theorem kw_658 : Cond.selects RX4 yX4_numeralValue yX4_numeralValue ∈ gT := gt_0 (List.mem_of_getElem? (i := 28) rfl) rfl
theorem kw_659 : Cond.instanceMethod yX4_partEnd ∈ gT := gt_3 (List.mem_of_getElem? (i := 161) rfl) rfl
theorem kw_660 : Cond.selects RX4 yX4_partEnd yX4_partEnd ∈ gT := gt_0 (List.mem_of_getElem? (i := 27) rfl) rfl
theorem kw_661 : Cond.instanceMethod yX4_readFour ∈ gT := gt_3 (List.mem_of_getElem? (i := 157) rfl) rfl
theorem kw_662 : Cond.selects RX4 yX4_readFour yX4_readFour ∈ gT := gt_0 (List.mem_of_getElem? (i := 26) rfl) rfl
theorem kw_663 : Cond.instanceMethod yX4_readHost ∈ gT := gt_3 (List.mem_of_getElem? (i := 53) rfl) rfl
theorem kw_664 : Cond.selects RX4 yX4_readHost yX4_readHost ∈ gT := gt_3 (List.mem_of_getElem? (i := 54) rfl) rfl
theorem kw_665 : Cond.instanceMethod yX4_readPiece ∈ gT := gt_3 (List.mem_of_getElem? (i := 81) rfl) rfl
theorem kw_666 : Cond.selects RX4 yX4_readPiece yX4_readPiece ∈ gT := gt_0 (List.mem_of_getElem? (i := 15) rfl) rfl
theorem kw_667 : Cond.instanceMethod yX4_readPieces ∈ gT := gt_3 (List.mem_of_getElem? (i := 67) rfl) rfl
theorem kw_668 : Cond.selects RX4 yX4_readPieces yX4_readPieces ∈ gT := gt_0 (List.mem_of_getElem? (i := 12) rfl) rfl
theorem kw_669 : Cond.instanceMethod yX4_readPoints ∈ gT := gt_3 (List.mem_of_getElem? (i := 71) rfl) rfl
theorem kw_670 : Cond.selects RX4 yX4_readPoints yX4_readPoints ∈ gT := gt_0 (List.mem_of_getElem? (i := 13) rfl) rfl
theorem kw_671 : Cond.instanceMethod yX4_readSix ∈ gT := gt_3 (List.mem_of_getElem? (i := 59) rfl) rfl
theorem kw_672 : Cond.selects RX4 yX4_readSix yX4_readSix ∈ gT := gt_0 (List.mem_of_getElem? (i := 10) rfl) rfl
theorem kw_673 : Cond.instanceMethod yX4_spread ∈ gT := gt_3 (List.mem_of_getElem? (i := 88) rfl) rfl
theorem kw_674 : Cond.selects RX4 yX4_spread yX4_spread ∈ gT := gt_0 (List.mem_of_getElem? (i := 16) rfl) rfl
theorem kw_675 : Cond.instanceMethod yX4_wordAt ∈ gT := gt_3 (List.mem_of_getElem? (i := 92) rfl) rfl
theorem kw_676 : Cond.selects RX4 yX4_wordAt yX4_wordAt ∈ gT := gt_0 (List.mem_of_getElem? (i := 17) rfl) rfl
theorem kw_677 : Cond.instanceMethod yX5_add ∈ gT := gt_2 (List.mem_of_getElem? (i := 14) rfl) rfl
theorem kw_678 : Cond.selects RX5 yX5_add yX5_add ∈ gT := gt_2 (List.mem_of_getElem? (i := 15) rfl) rfl
theorem kw_679 : Cond.instanceMethod yX5_addDecimal ∈ gT := gt_3 (List.mem_of_getElem? (i := 177) rfl) rfl
theorem kw_680 : Cond.selects RX5 yX5_addDecimal yX5_addDecimal ∈ gT := gt_3 (List.mem_of_getElem? (i := 178) rfl) rfl
theorem kw_681 : Cond.instanceMethod yX5_addEscaped ∈ gT := gt_2 (List.mem_of_getElem? (i := 224) rfl) rfl
theorem kw_682 : Cond.selects RX5 yX5_addEscaped yX5_addEscaped ∈ gT := gt_2 (List.mem_of_getElem? (i := 225) rfl) rfl
theorem kw_683 : Cond.instanceMethod yX5_addHex ∈ gT := gt_3 (List.mem_of_getElem? (i := 117) rfl) rfl
theorem kw_684 : Cond.selects RX5 yX5_addHex yX5_addHex ∈ gT := gt_3 (List.mem_of_getElem? (i := 118) rfl) rfl
theorem kw_685 : Cond.instanceMethod yX5_addRow ∈ gT := gt_3 (List.mem_of_getElem? (i := 234) rfl) rfl
theorem kw_686 : Cond.selects RX5 yX5_addRow yX5_addRow ∈ gT := gt_3 (List.mem_of_getElem? (i := 235) rfl) rfl
theorem kw_687 : Cond.instanceMethod yX5_addText ∈ gT := gt_2 (List.mem_of_getElem? (i := 98) rfl) rfl
theorem kw_688 : Cond.selects RX5 yX5_addText yX5_addText ∈ gT := gt_2 (List.mem_of_getElem? (i := 99) rfl) rfl
theorem kw_689 : Cond.instanceMethod yX5_byteAt ∈ gT := gt_2 (List.mem_of_getElem? (i := 58) rfl) rfl
theorem kw_690 : Cond.selects RX5 yX5_byteAt yX5_byteAt ∈ gT := gt_2 (List.mem_of_getElem? (i := 59) rfl) rfl
theorem kw_691 : Cond.instanceMethod yX5_cutTo ∈ gT := gt_2 (List.mem_of_getElem? (i := 38) rfl) rfl
theorem kw_692 : Cond.selects RX5 yX5_cutTo yX5_cutTo ∈ gT := gt_2 (List.mem_of_getElem? (i := 39) rfl) rfl
theorem kw_693 : Cond.instanceMethod yX5_endsWith ∈ gT := gt_4 (List.mem_of_getElem? (i := 52) rfl) rfl
theorem kw_694 : Cond.selects RX5 yX5_endsWith yX5_endsWith ∈ gT := gt_4 (List.mem_of_getElem? (i := 53) rfl) rfl
theorem kw_695 : Cond.instanceMethod yX5_equalsRow ∈ gT := gt_4 (List.mem_of_getElem? (i := 48) rfl) rfl
theorem kw_696 : Cond.selects RX5 yX5_equalsRow yX5_equalsRow ∈ gT := gt_4 (List.mem_of_getElem? (i := 49) rfl) rfl
theorem kw_697 : Cond.instanceMethod yX5_hasAt ∈ gT := gt_2 (List.mem_of_getElem? (i := 166) rfl) rfl
theorem kw_698 : Cond.selects RX5 yX5_hasAt yX5_hasAt ∈ gT := gt_2 (List.mem_of_getElem? (i := 167) rfl) rfl
theorem kw_699 : Cond.instanceMethod yX5_take ∈ gT := gt_2 (List.mem_of_getElem? (i := 182) rfl) rfl
theorem kw_700 : Cond.selects RX5 yX5_take yX5_take ∈ gT := gt_2 (List.mem_of_getElem? (i := 183) rfl) rfl
theorem kw_701 : Cond.instanceMethod yX6_beginSegment ∈ gT := gt_3 (List.mem_of_getElem? (i := 209) rfl) rfl
theorem kw_702 : Cond.selects RX6 yX6_beginSegment yX6_beginSegment ∈ gT := gt_3 (List.mem_of_getElem? (i := 210) rfl) rfl
theorem kw_703 : Cond.instanceMethod yX6_dropSegment ∈ gT := gt_2 (List.mem_of_getElem? (i := 207) rfl) rfl
theorem kw_704 : Cond.selects RX6 yX6_dropSegment yX6_dropSegment ∈ gT := gt_2 (List.mem_of_getElem? (i := 208) rfl) rfl
theorem kw_705 : Cond.instanceMethod yX6_empty ∈ gT := gt_2 (List.mem_of_getElem? (i := 64) rfl) rfl
theorem kw_706 : Cond.selects RX6 yX6_empty yX6_empty ∈ gT := gt_2 (List.mem_of_getElem? (i := 65) rfl) rfl
theorem kw_707 : Cond.instanceMethod yX6_hasOriginOf ∈ gT := gt_4 (List.mem_of_getElem? (i := 40) rfl) rfl
theorem kw_708 : Cond.selects RX6 yX6_hasOriginOf yX6_hasOriginOf ∈ gT := gt_4 (List.mem_of_getElem? (i := 41) rfl) rfl
theorem kw_709 : Cond.instanceMethod yX6_hasUser ∈ gT := gt_3 (List.mem_of_getElem? (i := 230) rfl) rfl
theorem kw_710 : Cond.selects RX6 yX6_hasUser yX6_hasUser ∈ gT := gt_3 (List.mem_of_getElem? (i := 231) rfl) rfl
theorem kw_711 : Cond.instanceMethod yX6_portThatCounts ∈ gT := gt_4 (List.mem_of_getElem? (i := 26) rfl) rfl
theorem kw_712 : Cond.selects RX6 yX6_portThatCounts yX6_portThatCounts ∈ gT := gt_4 (List.mem_of_getElem? (i := 27) rfl) rfl
theorem kw_713 : Cond.instanceMethod yX6_rowOf ∈ gT := gt_4 (List.mem_of_getElem? (i := 14) rfl) rfl
theorem kw_714 : Cond.selects RX6 yX6_rowOf yX6_rowOf ∈ gT := gt_4 (List.mem_of_getElem? (i := 15) rfl) rfl
theorem kw_715 : Cond.instanceMethod yX6_setScheme ∈ gT := gt_2 (List.mem_of_getElem? (i := 86) rfl) rfl
theorem kw_716 : Cond.selects RX6 yX6_setScheme yX6_setScheme ∈ gT := gt_2 (List.mem_of_getElem? (i := 87) rfl) rfl
theorem kw_717 : Cond.instanceMethod yX6_takeAuthority ∈ gT := gt_2 (List.mem_of_getElem? (i := 178) rfl) rfl
theorem kw_718 : Cond.selects RX6 yX6_takeAuthority yX6_takeAuthority ∈ gT := gt_2 (List.mem_of_getElem? (i := 179) rfl) rfl
theorem kw_719 : Cond.instanceMethod yX6_takePath ∈ gT := gt_2 (List.mem_of_getElem? (i := 199) rfl) rfl
theorem kw_720 : Cond.selects RX6 yX6_takePath yX6_takePath ∈ gT := gt_2 (List.mem_of_getElem? (i := 200) rfl) rfl
theorem kw_721 : Cond.instanceMethod yX6_takeQuery ∈ gT := gt_2 (List.mem_of_getElem? (i := 203) rfl) rfl
theorem kw_722 : Cond.selects RX6 yX6_takeQuery yX6_takeQuery ∈ gT := gt_2 (List.mem_of_getElem? (i := 204) rfl) rfl
theorem kw_723 : Cond.instanceMethod yX6_writeTo ∈ gT := gt_3 (List.mem_of_getElem? (i := 225) rfl) rfl
theorem kw_724 : Cond.selects RX6 yX6_writeTo yX6_writeTo ∈ gT := gt_3 (List.mem_of_getElem? (i := 226) rfl) rfl
theorem kw_725 : Cond.instanceMethod yX7_hostEndFrom ∈ gT := gt_3 (List.mem_of_getElem? (i := 50) rfl) rfl
theorem kw_726 : Cond.selects RX7 yX7_hostEndFrom yX7_hostEndFrom ∈ gT := gt_0 (List.mem_of_getElem? (i := 9) rfl) rfl
theorem kw_727 : Cond.instanceMethod yX7_isWord ∈ gT := gt_2 (List.mem_of_getElem? (i := 157) rfl) rfl
theorem kw_728 : Cond.selects RX7 yX7_isWord yX7_isWord ∈ gT := gt_0 (List.mem_of_getElem? (i := 5) rfl) rfl
theorem kw_729 : Cond.instanceMethod yX7_pointsIn ∈ gT := gt_3 (List.mem_of_getElem? (i := 204) rfl) rfl
theorem kw_730 : Cond.selects RX7 yX7_pointsIn yX7_pointsIn ∈ gT := gt_0 (List.mem_of_getElem? (i := 32) rfl) rfl
theorem kw_731 : Cond.instanceMethod yX7_readAuthority ∈ gT := gt_2 (List.mem_of_getElem? (i := 213) rfl) rfl
theorem kw_732 : Cond.selects RX7 yX7_readAuthority yX7_readAuthority ∈ gT := gt_0 (List.mem_of_getElem? (i := 7) rfl) rfl
theorem kw_733 : Cond.instanceMethod yX7_readFragment ∈ gT := gt_3 (List.mem_of_getElem? (i := 221) rfl) rfl
theorem kw_734 : Cond.selects RX7 yX7_readFragment yX7_readFragment ∈ gT := gt_0 (List.mem_of_getElem? (i := 34) rfl) rfl
theorem kw_735 : Cond.instanceMethod yX7_readPort ∈ gT := gt_3 (List.mem_of_getElem? (i := 187) rfl) rfl
theorem kw_736 : Cond.selects RX7 yX7_readPort yX7_readPort ∈ gT := gt_0 (List.mem_of_getElem? (i := 29) rfl) rfl
theorem kw_737 : Cond.instanceMethod yX7_readQuery ∈ gT := gt_3 (List.mem_of_getElem? (i := 216) rfl) rfl
theorem kw_738 : Cond.selects RX7 yX7_readQuery yX7_readQuery ∈ gT := gt_0 (List.mem_of_getElem? (i := 33) rfl) rfl
theorem kw_739 : Cond.instanceMethod yX7_readRelative ∈ gT := gt_2 (List.mem_of_getElem? (i := 172) rfl) rfl
theorem kw_740 : Cond.selects RX7 yX7_readRelative yX7_readRelative ∈ gT := gt_0 (List.mem_of_getElem? (i := 6) rfl) rfl
theorem kw_741 : Cond.instanceMethod yX7_readScheme ∈ gT := gt_2 (List.mem_of_getElem? (i := 70) rfl) rfl
theorem kw_742 : Cond.selects RX7 yX7_readScheme yX7_readScheme ∈ gT := gt_0 (List.mem_of_getElem? (i := 2) rfl) rfl
theorem kw_743 : Cond.instanceMethod yX7_readSegments ∈ gT := gt_3 (List.mem_of_getElem? (i := 196) rfl) rfl
theorem kw_744 : Cond.selects RX7 yX7_readSegments yX7_readSegments ∈ gT := gt_0 (List.mem_of_getElem? (i := 30) rfl) rfl
theorem kw_745 : Cond.instanceMethod yX7_readUrl ∈ gT := gt_2 (List.mem_of_getElem? (i := 50) rfl) rfl
theorem kw_746 : Cond.selects RX7 yX7_readUrl yX7_readUrl ∈ gT := gt_2 (List.mem_of_getElem? (i := 51) rfl) rfl
theorem kw_747 : Cond.instanceMethod yX7_readUser ∈ gT := gt_2 (List.mem_of_getElem? (i := 220) rfl) rfl
theorem kw_748 : Cond.selects RX7 yX7_readUser yX7_readUser ∈ gT := gt_0 (List.mem_of_getElem? (i := 8) rfl) rfl
theorem kw_749 : Cond.instanceMethod yX7_schemeEnd ∈ gT := gt_2 (List.mem_of_getElem? (i := 74) rfl) rfl
theorem kw_750 : Cond.selects RX7 yX7_schemeEnd yX7_schemeEnd ∈ gT := gt_0 (List.mem_of_getElem? (i := 3) rfl) rfl
theorem kw_751 : Cond.instanceMethod yX7_schemeUpTo ∈ gT := gt_2 (List.mem_of_getElem? (i := 152) rfl) rfl
theorem kw_752 : Cond.selects RX7 yX7_schemeUpTo yX7_schemeUpTo ∈ gT := gt_0 (List.mem_of_getElem? (i := 4) rfl) rfl
theorem kw_753 : Cond.instanceMethod yX7_takeSegment ∈ gT := gt_3 (List.mem_of_getElem? (i := 200) rfl) rfl
theorem kw_754 : Cond.selects RX7 yX7_takeSegment yX7_takeSegment ∈ gT := gt_0 (List.mem_of_getElem? (i := 31) rfl) rfl
theorem kw_755 : Cond.instanceMethod yX7_tidy ∈ gT := gt_2 (List.mem_of_getElem? (i := 55) rfl) rfl
theorem kw_756 : Cond.selects RX7 yX7_tidy yX7_tidy ∈ gT := gt_0 (List.mem_of_getElem? (i := 1) rfl) rfl
theorem kw_757 : Cond.instanceMethod yX8_hearHost ∈ gT := gt_4 (List.mem_of_getElem? (i := 62) rfl) rfl
theorem kw_758 : Cond.selects RX8 yX8_hearHost yX8_hearHost ∈ gT := gt_0 (List.mem_of_getElem? (i := 35) rfl) rfl
theorem kw_759 : Cond.instanceMethod yX8_recordAt ∈ gT := gt_2 (List.mem_of_getElem? (i := 47) rfl) rfl
theorem kw_760 : Cond.selects RX8 yX8_recordAt yX8_recordAt ∈ gT := gt_0 (List.mem_of_getElem? (i := 0) rfl) rfl
theorem kw_761 : Cond.instanceMethod yX9_add ∈ gT := gt_5 (List.mem_of_getElem? (i := 84) rfl) rfl
theorem kw_762 : Cond.selects RX9 yX9_add yX9_add ∈ gT := gt_0 (List.mem_of_getElem? (i := 48) rfl) rfl
theorem kw_763 : Cond.instanceMethod yX9_addEscaped ∈ gT := gt_5 (List.mem_of_getElem? (i := 77) rfl) rfl
theorem kw_764 : Cond.selects RX9 yX9_addEscaped yX9_addEscaped ∈ gT := gt_0 (List.mem_of_getElem? (i := 47) rfl) rfl
theorem kw_765 : Cond.instanceMethod yX9_byteAt ∈ gT := gt_5 (List.mem_of_getElem? (i := 49) rfl) rfl
theorem kw_766 : Cond.selects RX9 yX9_byteAt yX9_byteAt ∈ gT := gt_0 (List.mem_of_getElem? (i := 43) rfl) rfl
theorem kw_767 : Cond.instanceMethod yX9_copyHost ∈ gT := gt_5 (List.mem_of_getElem? (i := 153) rfl) rfl
theorem kw_768 : Cond.selects RX9 yX9_copyHost yX9_copyHost ∈ gT := gt_0 (List.mem_of_getElem? (i := 60) rfl) rfl
theorem kw_769 : Cond.instanceMethod yX9_copyPart ∈ gT := gt_5 (List.mem_of_getElem? (i := 157) rfl) rfl
theorem kw_770 : Cond.selects RX9 yX9_copyPart yX9_copyPart ∈ gT := gt_0 (List.mem_of_getElem? (i := 61) rfl) rfl
theorem kw_771 : Cond.instanceMethod yX9_dropSegment ∈ gT := gt_5 (List.mem_of_getElem? (i := 140) rfl) rfl
theorem kw_772 : Cond.selects RX9 yX9_dropSegment yX9_dropSegment ∈ gT := gt_0 (List.mem_of_getElem? (i := 57) rfl) rfl
theorem kw_773 : Cond.instanceMethod yX9_has ∈ gT := gt_5 (List.mem_of_getElem? (i := 37) rfl) rfl
theorem kw_774 : Cond.selects RX9 yX9_has yX9_has ∈ gT := gt_0 (List.mem_of_getElem? (i := 40) rfl) rfl
theorem kw_775 : Cond.instanceMethod yX9_isInRange ∈ gT := gt_6 (List.mem_of_getElem? (i := 34) rfl) rfl
theorem kw_776 : Cond.selects RX9 yX9_isInRange yX9_isInRange ∈ gT := gt_0 (List.mem_of_getElem? (i := 75) rfl) rfl
theorem kw_777 : Cond.instanceMethod yX9_isListed ∈ gT := gt_6 (List.mem_of_getElem? (i := 30) rfl) rfl
theorem kw_778 : Cond.selects RX9 yX9_isListed yX9_isListed ∈ gT := gt_0 (List.mem_of_getElem? (i := 74) rfl) rfl
theorem kw_779 : Cond.instanceMethod yX9_isOver ∈ gT := gt_5 (List.mem_of_getElem? (i := 73) rfl) rfl
theorem kw_780 : Cond.selects RX9 yX9_isOver yX9_isOver ∈ gT := gt_0 (List.mem_of_getElem? (i := 46) rfl) rfl
theorem kw_781 : Cond.instanceMethod yX9_isWord ∈ gT := gt_5 (List.mem_of_getElem? (i := 165) rfl) rfl
theorem kw_782 : Cond.selects RX9 yX9_isWord yX9_isWord ∈ gT := gt_0 (List.mem_of_getElem? (i := 63) rfl) rfl
theorem kw_783 : Cond.instanceMethod yX9_numberOf ∈ gT := gt_5 (List.mem_of_getElem? (i := 115) rfl) rfl
theorem kw_784 : Cond.selects RX9 yX9_numberOf yX9_numberOf ∈ gT := gt_0 (List.mem_of_getElem? (i := 53) rfl) rfl
theorem kw_785 : Cond.instanceMethod yX9_pair ∈ gT := gt_6 (List.mem_of_getElem? (i := 38) rfl) rfl
theorem kw_786 : Cond.selects RX9 yX9_pair yX9_pair ∈ gT := gt_0 (List.mem_of_getElem? (i := 76) rfl) rfl
theorem kw_787 : Cond.instanceMethod yX9_points ∈ gT := gt_5 (List.mem_of_getElem? (i := 136) rfl) rfl
theorem kw_788 : Cond.selects RX9 yX9_points yX9_points ∈ gT := gt_0 (List.mem_of_getElem? (i := 56) rfl) rfl
theorem kw_789 : Cond.instanceMethod yX9_put ∈ gT := gt_5 (List.mem_of_getElem? (i := 189) rfl) rfl
theorem kw_790 : Cond.selects RX9 yX9_put yX9_put ∈ gT := gt_0 (List.mem_of_getElem? (i := 66) rfl) rfl
theorem kw_791 : Cond.instanceMethod yX9_putDecimal ∈ gT := gt_5 (List.mem_of_getElem? (i := 193) rfl) rfl
theorem kw_792 : Cond.selects RX9 yX9_putDecimal yX9_putDecimal ∈ gT := gt_0 (List.mem_of_getElem? (i := 67) rfl) rfl
theorem kw_793 : Cond.instanceMethod yX9_putHex ∈ gT := gt_5 (List.mem_of_getElem? (i := 201) rfl) rfl
theorem kw_794 : Cond.selects RX9 yX9_putHex yX9_putHex ∈ gT := gt_0 (List.mem_of_getElem? (i := 69) rfl) rfl
theorem kw_795 : Cond.instanceMethod yX9_readFour ∈ gT := gt_5 (List.mem_of_getElem? (i := 111) rfl) rfl
theorem kw_796 : Cond.selects RX9 yX9_readFour yX9_readFour ∈ gT := gt_0 (List.mem_of_getElem? (i := 52) rfl) rfl
theorem kw_797 : Cond.instanceMethod yX9_readHost ∈ gT := gt_5 (List.mem_of_getElem? (i := 91) rfl) rfl
theorem kw_798 : Cond.selects RX9 yX9_readHost yX9_readHost ∈ gT := gt_0 (List.mem_of_getElem? (i := 49) rfl) rfl
theorem kw_799 : Cond.instanceMethod yX9_readNumbers ∈ gT := gt_5 (List.mem_of_getElem? (i := 102) rfl) rfl
theorem kw_800 : Cond.selects RX9 yX9_readNumbers yX9_readNumbers ∈ gT := gt_0 (List.mem_of_getElem? (i := 51) rfl) rfl
theorem kw_801 : Cond.instanceMethod yX9_readPath ∈ gT := gt_5 (List.mem_of_getElem? (i := 132) rfl) rfl
theorem kw_802 : Cond.selects RX9 yX9_readPath yX9_readPath ∈ gT := gt_0 (List.mem_of_getElem? (i := 55) rfl) rfl
theorem kw_803 : Cond.instanceMethod yX9_readPort ∈ gT := gt_5 (List.mem_of_getElem? (i := 123) rfl) rfl
theorem kw_804 : Cond.selects RX9 yX9_readPort yX9_readPort ∈ gT := gt_0 (List.mem_of_getElem? (i := 54) rfl) rfl
theorem kw_805 : Cond.instanceMethod yX9_readRelative ∈ gT := gt_5 (List.mem_of_getElem? (i := 62) rfl) rfl
theorem kw_806 : Cond.selects RX9 yX9_readRelative yX9_readRelative ∈ gT := gt_0 (List.mem_of_getElem? (i := 44) rfl) rfl
theorem kw_807 : Cond.instanceMethod yX9_readScheme ∈ gT := gt_5 (List.mem_of_getElem? (i := 45) rfl) rfl
theorem kw_808 : Cond.selects RX9 yX9_readScheme yX9_readScheme ∈ gT := gt_0 (List.mem_of_getElem? (i := 42) rfl) rfl
theorem kw_809 : Cond.instanceMethod yX9_readSix ∈ gT := gt_5 (List.mem_of_getElem? (i := 95) rfl) rfl
theorem kw_810 : Cond.selects RX9 yX9_readSix yX9_readSix ∈ gT := gt_0 (List.mem_of_getElem? (i := 50) rfl) rfl
theorem kw_811 : Cond.instanceMethod yX9_readSlashes ∈ gT := gt_5 (List.mem_of_getElem? (i := 69) rfl) rfl
theorem kw_812 : Cond.selects RX9 yX9_readSlashes yX9_readSlashes ∈ gT := gt_0 (List.mem_of_getElem? (i := 45) rfl) rfl
theorem kw_813 : Cond.instanceMethod yX9_readTail ∈ gT := gt_5 (List.mem_of_getElem? (i := 149) rfl) rfl
theorem kw_814 : Cond.selects RX9 yX9_readTail yX9_readTail ∈ gT := gt_0 (List.mem_of_getElem? (i := 59) rfl) rfl
theorem kw_815 : Cond.instanceMethod yX9_readTextHost ∈ gT := gt_6 (List.mem_of_getElem? (i := 10) rfl) rfl
theorem kw_816 : Cond.selects RX9 yX9_readTextHost yX9_readTextHost ∈ gT := gt_0 (List.mem_of_getElem? (i := 73) rfl) rfl
theorem kw_817 : Cond.instanceMethod yX9_row ∈ gT := gt_5 (List.mem_of_getElem? (i := 144) rfl) rfl
theorem kw_818 : Cond.selects RX9 yX9_row yX9_row ∈ gT := gt_0 (List.mem_of_getElem? (i := 58) rfl) rfl
theorem kw_819 : Cond.instanceMethod yX9_say ∈ gT := gt_5 (List.mem_of_getElem? (i := 212) rfl) rfl
theorem kw_820 : Cond.selects RX9 yX9_say yX9_say ∈ gT := gt_0 (List.mem_of_getElem? (i := 70) rfl) rfl
theorem kw_821 : Cond.instanceMethod yX9_sayPart ∈ gT := gt_5 (List.mem_of_getElem? (i := 216) rfl) rfl
theorem kw_822 : Cond.selects RX9 yX9_sayPart yX9_sayPart ∈ gT := gt_0 (List.mem_of_getElem? (i := 71) rfl) rfl
theorem kw_823 : Cond.instanceMethod yX9_sayWritten ∈ gT := gt_5 (List.mem_of_getElem? (i := 220) rfl) rfl
theorem kw_824 : Cond.selects RX9 yX9_sayWritten yX9_sayWritten ∈ gT := gt_0 (List.mem_of_getElem? (i := 72) rfl) rfl
theorem kw_825 : Cond.instanceMethod yX9_size ∈ gT := gt_5 (List.mem_of_getElem? (i := 223) rfl) rfl
theorem kw_826 : Cond.selects RX9 yX9_size yX9_size ∈ gT := gt_5 (List.mem_of_getElem? (i := 224) rfl) rfl
theorem kw_827 : Cond.instanceMethod yX9_sizeOf ∈ gT := gt_5 (List.mem_of_getElem? (i := 161) rfl) rfl
theorem kw_828 : Cond.selects RX9 yX9_sizeOf yX9_sizeOf ∈ gT := gt_0 (List.mem_of_getElem? (i := 62) rfl) rfl
theorem kw_829 : Cond.instanceMethod yX9_takeText ∈ gT := gt_5 (List.mem_of_getElem? (i := 41) rfl) rfl
theorem kw_830 : Cond.selects RX9 yX9_takeText yX9_takeText ∈ gT := gt_0 (List.mem_of_getElem? (i := 41) rfl) rfl
theorem kw_831 : Cond.instanceMethod yX9_told ∈ gT := gt_5 (List.mem_of_getElem? (i := 232) rfl) rfl
theorem kw_832 : Cond.selects RX9 yX9_told yX9_told ∈ gT := gt_5 (List.mem_of_getElem? (i := 233) rfl) rfl
theorem kw_833 : Cond.instanceMethod yX9_writeHost ∈ gT := gt_5 (List.mem_of_getElem? (i := 185) rfl) rfl
theorem kw_834 : Cond.selects RX9 yX9_writeHost yX9_writeHost ∈ gT := gt_0 (List.mem_of_getElem? (i := 65) rfl) rfl
theorem kw_835 : Cond.instanceMethod yX9_writeSix ∈ gT := gt_5 (List.mem_of_getElem? (i := 197) rfl) rfl
theorem kw_836 : Cond.selects RX9 yX9_writeSix yX9_writeSix ∈ gT := gt_0 (List.mem_of_getElem? (i := 68) rfl) rfl
theorem kw_837 : Cond.instanceMethod yX9_writtenLength ∈ gT := gt_5 (List.mem_of_getElem? (i := 181) rfl) rfl
theorem kw_838 : Cond.selects RX9 yX9_writtenLength yX9_writtenLength ∈ gT := gt_0 (List.mem_of_getElem? (i := 64) rfl) rfl
theorem gl_RJ0_335 : gLink RJ0 335 yJ0_coder_7d493 cJ0_coder_7d493 1 0 (some .byte) := ⟨kw_223, kw_224, kw_225, by decide, by decide, rfl⟩
theorem gl_RJ0_492 : gLink RJ0 492 yJ0_isLatin1_aae02 cJ0_isLatin1_aae02 1 0 (some .boolean) := ⟨kw_226, kw_227, kw_225, by decide, by decide, rfl⟩
theorem gl_RJ0_495 : gLink RJ0 495 yJ1_charAt_3b067 cJ1_charAt_3b067 2 2 (some .char) := ⟨kw_228, kw_229, kw_230, by decide, by decide, rfl⟩
theorem gl_RJ0_505 : gLink RJ0 505 yJ0_length_8abf5 cJ0_length_8abf5 1 0 (some .int) := ⟨kw_231, kw_232, kw_225, by decide, by decide, rfl⟩
theorem gl_RJ0_633 : gLink RJ0 633 yJ0_indexOf_7cf53 cJ0_indexOf_7cf53 3 2 (some .int) := ⟨kw_233, kw_234, kw_225, by decide, by decide, rfl⟩
theorem gl_RJ0_637 : gLink RJ0 637 yJ1_indexOf_4cfef cJ1_indexOf_4cfef 4 4 (some .int) := ⟨kw_235, kw_236, kw_230, by decide, by decide, rfl⟩
theorem gl_RJ0_1059 : gLink RJ0 1059 yJ3_checkIndex_8e157 cJ3_checkIndex_8e157 3 3 (some .int) := ⟨kw_237, kw_238, kw_239, by decide, by decide, rfl⟩
theorem gl_RJ1_9 : gLink RJ1 9 yJ0_checkIndex_df160 cJ0_checkIndex_df160 2 2 none := ⟨kw_240, kw_241, kw_225, by decide, by decide, rfl⟩
theorem gl_RJ1_88 : gLink RJ1 88 yJ1_canEncode_9a6ad cJ1_canEncode_9a6ad 1 1 (some .boolean) := ⟨kw_242, kw_243, kw_230, by decide, by decide, rfl⟩
theorem gl_RJ1_95 : gLink RJ1 95 yJ1_indexOfChar_4cfef cJ1_indexOfChar_4cfef 6 4 (some .int) := ⟨kw_244, kw_245, kw_230, by decide, by decide, rfl⟩
theorem gl_RX0_17 : gLink RX0 17 yX0_setTo cX0_setTo 6 5 none := ⟨kw_246, kw_247, kw_12, by decide, by decide, rfl⟩
theorem gl_RX0_22 : gLink RX0 22 yX0_isFourInSix cX0_isFourInSix 1 0 (some .boolean) := ⟨kw_248, kw_249, kw_12, by decide, by decide, rfl⟩
theorem gl_RX0_26 : gLink RX0 26 yX0_agree cX0_agree 3 3 (some .boolean) := ⟨kw_250, kw_251, kw_12, by decide, by decide, rfl⟩
theorem gl_RX1_9 : gLink RX1 9 yJ0_indexOf_0f7a4 cJ0_indexOf_0f7a4 2 1 (some .int) := ⟨kw_252, kw_253, kw_225, by decide, by decide, rfl⟩
theorem gl_RX2_51 : gLink RX2 51 yX3_take cX3_take 2 1 none := ⟨kw_254, kw_255, kw_53, by decide, by decide, rfl⟩
theorem gl_RX2_56 : gLink RX2 56 yX5_take cX5_take 4 1 none := ⟨kw_256, kw_257, kw_17, by decide, by decide, rfl⟩
theorem gl_RX2_60 : gLink RX2 60 yX0_setTo cX0_setTo 6 5 none := ⟨kw_258, kw_247, kw_12, by decide, by decide, rfl⟩
theorem gl_RX2_69 : gLink RX2 69 yX6_hasUser cX6_hasUser 1 0 (some .boolean) := ⟨kw_259, kw_260, kw_87, by decide, by decide, rfl⟩
theorem gl_RX2_77 : gLink RX2 77 yX2_isListed cX2_isListed 4 1 (some .boolean) := ⟨kw_261, kw_262, kw_83, by decide, by decide, rfl⟩
theorem gl_RX2_81 : gLink RX2 81 yX3_isName cX3_isName 1 0 (some .boolean) := ⟨kw_263, kw_264, kw_53, by decide, by decide, rfl⟩
theorem gl_RX2_88 : gLink RX2 88 yX2_judgeAnswers cX2_judgeAnswers 6 1 (some .int) := ⟨kw_265, kw_266, kw_83, by decide, by decide, rfl⟩
theorem gl_RX2_96 : gLink RX2 96 yX2_isInSomeRange cX2_isInSomeRange 4 1 (some .boolean) := ⟨kw_267, kw_268, kw_83, by decide, by decide, rfl⟩
theorem gl_RX2_100 : gLink RX2 100 yX3_equalsHost cX3_equalsHost 2 1 (some .boolean) := ⟨kw_269, kw_270, kw_53, by decide, by decide, rfl⟩
theorem gl_RX2_103 : gLink RX2 103 yX2_isBelow cX2_isBelow 2 2 (some .boolean) := ⟨kw_271, kw_272, kw_83, by decide, by decide, rfl⟩
theorem gl_RX2_107 : gLink RX2 107 yX5_endsWith cX5_endsWith 4 1 (some .boolean) := ⟨kw_273, kw_274, kw_17, by decide, by decide, rfl⟩
theorem gl_RX2_114 : gLink RX2 114 yX5_byteAt cX5_byteAt 2 1 (some .int) := ⟨kw_275, kw_276, kw_17, by decide, by decide, rfl⟩
theorem gl_RX2_118 : gLink RX2 118 yX5_equalsRow cX5_equalsRow 2 1 (some .boolean) := ⟨kw_277, kw_278, kw_17, by decide, by decide, rfl⟩
theorem gl_RX2_121 : gLink RX2 121 yX0_isIn cX0_isIn 4 2 (some .boolean) := ⟨kw_279, kw_280, kw_12, by decide, by decide, rfl⟩
theorem gl_RX3_27 : gLink RX3 27 yX0_take cX0_take 2 1 none := ⟨kw_281, kw_282, kw_12, by decide, by decide, rfl⟩
theorem gl_RX3_31 : gLink RX3 31 yX5_take cX5_take 4 1 none := ⟨kw_283, kw_257, kw_17, by decide, by decide, rfl⟩
theorem gl_RX3_34 : gLink RX3 34 yX5_equalsRow cX5_equalsRow 2 1 (some .boolean) := ⟨kw_284, kw_278, kw_17, by decide, by decide, rfl⟩
theorem gl_RX3_38 : gLink RX3 38 yX0_setTo cX0_setTo 6 5 none := ⟨kw_285, kw_247, kw_12, by decide, by decide, rfl⟩
theorem gl_RX3_42 : gLink RX3 42 yX5_cutTo cX5_cutTo 2 1 none := ⟨kw_286, kw_287, kw_17, by decide, by decide, rfl⟩
theorem gl_RX3_46 : gLink RX3 46 yX5_addDecimal cX5_addDecimal 3 1 none := ⟨kw_288, kw_289, kw_17, by decide, by decide, rfl⟩
theorem gl_RX3_49 : gLink RX3 49 yX5_add cX5_add 2 1 none := ⟨kw_290, kw_291, kw_17, by decide, by decide, rfl⟩
theorem gl_RX3_52 : gLink RX3 52 yX3_firstLongestGap cX3_firstLongestGap 5 0 (some .int) := ⟨kw_292, kw_293, kw_53, by decide, by decide, rfl⟩
theorem gl_RX3_56 : gLink RX3 56 yX3_zerosFrom cX3_zerosFrom 3 1 (some .int) := ⟨kw_294, kw_295, kw_53, by decide, by decide, rfl⟩
theorem gl_RX3_62 : gLink RX3 62 yX5_addText cX5_addText 3 1 none := ⟨kw_296, kw_297, kw_17, by decide, by decide, rfl⟩
theorem gl_RX3_66 : gLink RX3 66 yX0_numberAt cX0_numberAt 2 1 (some .int) := ⟨kw_298, kw_299, kw_12, by decide, by decide, rfl⟩
theorem gl_RX3_69 : gLink RX3 69 yX5_addHex cX5_addHex 3 1 none := ⟨kw_300, kw_301, kw_17, by decide, by decide, rfl⟩
theorem gl_RX4_26 : gLink RX4 26 yX5_byteAt cX5_byteAt 2 1 (some .int) := ⟨kw_302, kw_276, kw_17, by decide, by decide, rfl⟩
theorem gl_RX4_30 : gLink RX4 30 yX4_readSix cX4_readSix 8 4 (some .int) := ⟨kw_303, kw_304, kw_73, by decide, by decide, rfl⟩
theorem gl_RX4_34 : gLink RX4 34 yX4_decode cX4_decode 7 3 none := ⟨kw_305, kw_306, kw_73, by decide, by decide, rfl⟩
theorem gl_RX4_41 : gLink RX4 41 yX4_hasWrongByte cX4_hasWrongByte 2 0 (some .boolean) := ⟨kw_307, kw_308, kw_73, by decide, by decide, rfl⟩
theorem gl_RX4_45 : gLink RX4 45 yX4_hasForeignPart cX4_hasForeignPart 2 0 (some .boolean) := ⟨kw_309, kw_310, kw_73, by decide, by decide, rfl⟩
theorem gl_RX4_48 : gLink RX4 48 yX4_lastPartStart cX4_lastPartStart 3 1 (some .int) := ⟨kw_311, kw_312, kw_73, by decide, by decide, rfl⟩
theorem gl_RX4_51 : gLink RX4 51 yX4_isNumeral cX4_isNumeral 6 2 (some .boolean) := ⟨kw_313, kw_314, kw_73, by decide, by decide, rfl⟩
theorem gl_RX4_55 : gLink RX4 55 yX4_readFour cX4_readFour 10 2 (some .int) := ⟨kw_315, kw_316, kw_73, by decide, by decide, rfl⟩
theorem gl_RX4_59 : gLink RX4 59 yX3_setName cX3_setName 2 1 none := ⟨kw_317, kw_318, kw_53, by decide, by decide, rfl⟩
theorem gl_RX4_65 : gLink RX4 65 yX5_cutTo cX5_cutTo 2 1 none := ⟨kw_319, kw_287, kw_17, by decide, by decide, rfl⟩
theorem gl_RX4_69 : gLink RX4 69 yX1_hexValue cX1_hexValue 1 1 (some .int) := ⟨kw_320, kw_321, kw_322, by decide, by decide, rfl⟩
theorem gl_RX4_74 : gLink RX4 74 yX1_low cX1_low 1 1 (some .int) := ⟨kw_323, kw_324, kw_322, by decide, by decide, rfl⟩
theorem gl_RX4_77 : gLink RX4 77 yX5_add cX5_add 2 1 none := ⟨kw_325, kw_291, kw_17, by decide, by decide, rfl⟩
theorem gl_RX4_80 : gLink RX4 80 yX1_isWrongInName cX1_isWrongInName 1 1 (some .boolean) := ⟨kw_326, kw_327, kw_322, by decide, by decide, rfl⟩
theorem gl_RX4_86 : gLink RX4 86 yX5_hasAt cX5_hasAt 4 2 (some .boolean) := ⟨kw_328, kw_329, kw_17, by decide, by decide, rfl⟩
theorem gl_RX4_90 : gLink RX4 90 yX4_isHex cX4_isHex 3 2 (some .boolean) := ⟨kw_330, kw_331, kw_73, by decide, by decide, rfl⟩
theorem gl_RX4_93 : gLink RX4 93 yX1_isDigit cX1_isDigit 1 1 (some .boolean) := ⟨kw_332, kw_333, kw_322, by decide, by decide, rfl⟩
theorem gl_RX4_98 : gLink RX4 98 yX4_partEnd cX4_partEnd 4 2 (some .int) := ⟨kw_334, kw_335, kw_73, by decide, by decide, rfl⟩
theorem gl_RX4_102 : gLink RX4 102 yX4_numeralValue cX4_numeralValue 9 2 (some .long) := ⟨kw_336, kw_337, kw_73, by decide, by decide, rfl⟩
theorem gl_RX4_106 : gLink RX4 106 yX3_setFour cX3_setFour 3 1 none := ⟨kw_338, kw_339, kw_53, by decide, by decide, rfl⟩
theorem gl_RX4_121 : gLink RX4 121 yX4_findGap cX4_findGap 5 3 (some .int) := ⟨kw_340, kw_341, kw_73, by decide, by decide, rfl⟩
theorem gl_RX4_125 : gLink RX4 125 yX4_readPieces cX4_readPieces 10 4 (some .boolean) := ⟨kw_342, kw_343, kw_73, by decide, by decide, rfl⟩
theorem gl_RX4_129 : gLink RX4 129 yX4_spread cX4_spread 5 1 none := ⟨kw_344, kw_345, kw_73, by decide, by decide, rfl⟩
theorem gl_RX4_132 : gLink RX4 132 yX4_wordAt cX4_wordAt 2 1 (some .int) := ⟨kw_346, kw_347, kw_73, by decide, by decide, rfl⟩
theorem gl_RX4_135 : gLink RX4 135 yX3_setSix cX3_setSix 8 4 none := ⟨kw_348, kw_349, kw_53, by decide, by decide, rfl⟩
theorem gl_RX4_139 : gLink RX4 139 yX4_readPoints cX4_readPoints 9 3 (some .boolean) := ⟨kw_350, kw_351, kw_73, by decide, by decide, rfl⟩
theorem gl_RX4_143 : gLink RX4 143 yX4_readPiece cX4_readPiece 7 3 (some .boolean) := ⟨kw_352, kw_353, kw_73, by decide, by decide, rfl⟩
theorem gl_RX4_146 : gLink RX4 146 yX4_addPiece cX4_addPiece 2 1 (some .boolean) := ⟨kw_354, kw_355, kw_73, by decide, by decide, rfl⟩
theorem gl_RX5_19 : gLink RX5 19 yJ7_copyOf_59c91 cJ7_copyOf_59c91 3 2 (some (.array .int)) := ⟨kw_356, kw_357, kw_358, by decide, by decide, rfl⟩
theorem gl_RX5_25 : gLink RX5 25 yX5_byteAt cX5_byteAt 2 1 (some .int) := ⟨kw_359, kw_276, kw_17, by decide, by decide, rfl⟩
theorem gl_RX5_29 : gLink RX5 29 yX5_add cX5_add 2 1 none := ⟨kw_360, kw_291, kw_17, by decide, by decide, rfl⟩
theorem gl_RX5_33 : gLink RX5 33 yJ0_length_8abf5 cJ0_length_8abf5 1 0 (some .int) := ⟨kw_361, kw_232, kw_225, by decide, by decide, rfl⟩
theorem gl_RX5_38 : gLink RX5 38 yJ0_charAt_5068e cJ0_charAt_5068e 2 1 (some .char) := ⟨kw_362, kw_363, kw_225, by decide, by decide, rfl⟩
theorem gl_RX5_42 : gLink RX5 42 yX1_isToEscape cX1_isToEscape 2 2 (some .boolean) := ⟨kw_364, kw_365, kw_322, by decide, by decide, rfl⟩
theorem gl_RX5_52 : gLink RX5 52 yX5_endsWith cX5_endsWith 4 1 (some .boolean) := ⟨kw_366, kw_274, kw_17, by decide, by decide, rfl⟩
theorem gl_RX6_67 : gLink RX6 67 yX5_cutTo cX5_cutTo 2 1 none := ⟨kw_367, kw_287, kw_17, by decide, by decide, rfl⟩
theorem gl_RX6_71 : gLink RX6 71 yX6_nameOf cX6_nameOf 1 1 (some (.object "java/lang/String")) := ⟨kw_368, kw_369, kw_87, by decide, by decide, rfl⟩
theorem gl_RX6_75 : gLink RX6 75 yX5_addText cX5_addText 3 1 none := ⟨kw_370, kw_297, kw_17, by decide, by decide, rfl⟩
theorem gl_RX6_79 : gLink RX6 79 yX5_take cX5_take 4 1 none := ⟨kw_371, kw_257, kw_17, by decide, by decide, rfl⟩
theorem gl_RX6_83 : gLink RX6 83 yX3_take cX3_take 2 1 none := ⟨kw_372, kw_255, kw_53, by decide, by decide, rfl⟩
theorem gl_RX6_86 : gLink RX6 86 yX5_add cX5_add 2 1 none := ⟨kw_373, kw_291, kw_17, by decide, by decide, rfl⟩
theorem gl_RX6_92 : gLink RX6 92 yX5_byteAt cX5_byteAt 2 1 (some .int) := ⟨kw_374, kw_276, kw_17, by decide, by decide, rfl⟩
theorem gl_RX6_96 : gLink RX6 96 yX6_portOf cX6_portOf 1 1 (some .int) := ⟨kw_375, kw_376, kw_87, by decide, by decide, rfl⟩
theorem gl_RX6_99 : gLink RX6 99 yX3_equalsHost cX3_equalsHost 2 1 (some .boolean) := ⟨kw_377, kw_270, kw_53, by decide, by decide, rfl⟩
theorem gl_RX6_103 : gLink RX6 103 yX6_portThatCounts cX6_portThatCounts 1 0 (some .int) := ⟨kw_378, kw_379, kw_87, by decide, by decide, rfl⟩
theorem gl_RX6_112 : gLink RX6 112 yX6_hasUser cX6_hasUser 1 0 (some .boolean) := ⟨kw_380, kw_260, kw_87, by decide, by decide, rfl⟩
theorem gl_RX6_116 : gLink RX6 116 yX5_addRow cX5_addRow 4 1 none := ⟨kw_381, kw_382, kw_17, by decide, by decide, rfl⟩
theorem gl_RX6_119 : gLink RX6 119 yX5_addDecimal cX5_addDecimal 3 1 none := ⟨kw_383, kw_289, kw_17, by decide, by decide, rfl⟩
theorem gl_RX7_28 : gLink RX7 28 yX7_tidy cX7_tidy 6 1 none := ⟨kw_384, kw_385, kw_78, by decide, by decide, rfl⟩
theorem gl_RX7_32 : gLink RX7 32 yX6_empty cX6_empty 1 0 none := ⟨kw_386, kw_387, kw_87, by decide, by decide, rfl⟩
theorem gl_RX7_37 : gLink RX7 37 yX7_readScheme cX7_readScheme 6 2 (some .int) := ⟨kw_388, kw_389, kw_78, by decide, by decide, rfl⟩
theorem gl_RX7_41 : gLink RX7 41 yX7_readRelative cX7_readRelative 4 2 (some .int) := ⟨kw_390, kw_391, kw_78, by decide, by decide, rfl⟩
theorem gl_RX7_44 : gLink RX7 44 yX7_readAuthority cX7_readAuthority 5 1 (some .int) := ⟨kw_392, kw_393, kw_78, by decide, by decide, rfl⟩
theorem gl_RX7_52 : gLink RX7 52 yX4_readHost cX4_readHost 6 4 (some .int) := ⟨kw_394, kw_395, kw_73, by decide, by decide, rfl⟩
theorem gl_RX7_58 : gLink RX7 58 yX7_readPort cX7_readPort 5 1 (some .int) := ⟨kw_396, kw_397, kw_78, by decide, by decide, rfl⟩
theorem gl_RX7_61 : gLink RX7 61 yX5_byteAt cX5_byteAt 2 1 (some .int) := ⟨kw_398, kw_276, kw_17, by decide, by decide, rfl⟩
theorem gl_RX7_65 : gLink RX7 65 yX1_isSlash cX1_isSlash 1 1 (some .boolean) := ⟨kw_399, kw_400, kw_322, by decide, by decide, rfl⟩
theorem gl_RX7_71 : gLink RX7 71 yX7_readSegments cX7_readSegments 5 1 none := ⟨kw_401, kw_402, kw_78, by decide, by decide, rfl⟩
theorem gl_RX7_75 : gLink RX7 75 yX7_readQuery cX7_readQuery 2 1 none := ⟨kw_403, kw_404, kw_78, by decide, by decide, rfl⟩
theorem gl_RX7_78 : gLink RX7 78 yX7_readFragment cX7_readFragment 3 1 none := ⟨kw_405, kw_406, kw_78, by decide, by decide, rfl⟩
theorem gl_RX7_84 : gLink RX7 84 yX5_cutTo cX5_cutTo 2 1 none := ⟨kw_407, kw_287, kw_17, by decide, by decide, rfl⟩
theorem gl_RX7_88 : gLink RX7 88 yX5_add cX5_add 2 1 none := ⟨kw_408, kw_291, kw_17, by decide, by decide, rfl⟩
theorem gl_RX7_91 : gLink RX7 91 yX7_schemeEnd cX7_schemeEnd 2 0 (some .int) := ⟨kw_409, kw_410, kw_78, by decide, by decide, rfl⟩
theorem gl_RX7_98 : gLink RX7 98 yX6_setScheme cX6_setScheme 2 1 none := ⟨kw_411, kw_412, kw_87, by decide, by decide, rfl⟩
theorem gl_RX7_101 : gLink RX7 101 yX7_schemeUpTo cX7_schemeUpTo 3 1 (some .int) := ⟨kw_413, kw_414, kw_78, by decide, by decide, rfl⟩
theorem gl_RX7_106 : gLink RX7 106 yX5_hasAt cX5_hasAt 4 2 (some .boolean) := ⟨kw_415, kw_329, kw_17, by decide, by decide, rfl⟩
theorem gl_RX7_110 : gLink RX7 110 yX1_isLetter cX1_isLetter 1 1 (some .boolean) := ⟨kw_416, kw_417, kw_322, by decide, by decide, rfl⟩
theorem gl_RX7_113 : gLink RX7 113 yX7_mayBeInScheme cX7_mayBeInScheme 1 1 (some .boolean) := ⟨kw_418, kw_419, kw_78, by decide, by decide, rfl⟩
theorem gl_RX7_116 : gLink RX7 116 yX1_isDigit cX1_isDigit 1 1 (some .boolean) := ⟨kw_420, kw_333, kw_322, by decide, by decide, rfl⟩
theorem gl_RX7_119 : gLink RX7 119 yX6_nameOf cX6_nameOf 1 1 (some (.object "java/lang/String")) := ⟨kw_421, kw_369, kw_87, by decide, by decide, rfl⟩
theorem gl_RX7_123 : gLink RX7 123 yX7_isWord cX7_isWord 4 2 (some .boolean) := ⟨kw_422, kw_423, kw_78, by decide, by decide, rfl⟩
theorem gl_RX7_126 : gLink RX7 126 yJ0_length_8abf5 cJ0_length_8abf5 1 0 (some .int) := ⟨kw_424, kw_232, kw_225, by decide, by decide, rfl⟩
theorem gl_RX7_130 : gLink RX7 130 yX1_low cX1_low 1 1 (some .int) := ⟨kw_425, kw_324, kw_322, by decide, by decide, rfl⟩
theorem gl_RX7_133 : gLink RX7 133 yJ0_charAt_5068e cJ0_charAt_5068e 2 1 (some .char) := ⟨kw_426, kw_363, kw_225, by decide, by decide, rfl⟩
theorem gl_RX7_137 : gLink RX7 137 yX6_takeAuthority cX6_takeAuthority 2 1 none := ⟨kw_427, kw_428, kw_87, by decide, by decide, rfl⟩
theorem gl_RX7_140 : gLink RX7 140 yX6_takePath cX6_takePath 2 1 none := ⟨kw_429, kw_430, kw_87, by decide, by decide, rfl⟩
theorem gl_RX7_143 : gLink RX7 143 yX6_takeQuery cX6_takeQuery 2 1 none := ⟨kw_431, kw_432, kw_87, by decide, by decide, rfl⟩
theorem gl_RX7_146 : gLink RX7 146 yX6_dropSegment cX6_dropSegment 2 0 none := ⟨kw_433, kw_434, kw_87, by decide, by decide, rfl⟩
theorem gl_RX7_149 : gLink RX7 149 yX1_isDivider cX1_isDivider 1 1 (some .boolean) := ⟨kw_435, kw_436, kw_322, by decide, by decide, rfl⟩
theorem gl_RX7_152 : gLink RX7 152 yX7_readUser cX7_readUser 8 3 none := ⟨kw_437, kw_438, kw_78, by decide, by decide, rfl⟩
theorem gl_RX7_156 : gLink RX7 156 yX7_hostEndFrom cX7_hostEndFrom 6 2 (some .int) := ⟨kw_439, kw_440, kw_78, by decide, by decide, rfl⟩
theorem gl_RX7_168 : gLink RX7 168 yX5_addEscaped cX5_addEscaped 3 2 none := ⟨kw_441, kw_442, kw_17, by decide, by decide, rfl⟩
theorem gl_RX7_178 : gLink RX7 178 yX6_portOf cX6_portOf 1 1 (some .int) := ⟨kw_443, kw_376, kw_87, by decide, by decide, rfl⟩
theorem gl_RX7_184 : gLink RX7 184 yX7_takeSegment cX7_takeSegment 7 4 none := ⟨kw_444, kw_445, kw_78, by decide, by decide, rfl⟩
theorem gl_RX7_188 : gLink RX7 188 yX7_pointsIn cX7_pointsIn 5 2 (some .int) := ⟨kw_446, kw_447, kw_78, by decide, by decide, rfl⟩
theorem gl_RX7_191 : gLink RX7 191 yX6_beginSegment cX6_beginSegment 1 0 none := ⟨kw_448, kw_449, kw_87, by decide, by decide, rfl⟩
theorem gl_RX8_62 : gLink RX8 62 yX5_add cX5_add 2 1 none := ⟨kw_450, kw_291, kw_17, by decide, by decide, rfl⟩
theorem gl_RX8_66 : gLink RX8 66 yX5_cutTo cX5_cutTo 2 1 none := ⟨kw_451, kw_287, kw_17, by decide, by decide, rfl⟩
theorem gl_RX8_69 : gLink RX8 69 yX8_recordAt cX8_recordAt 2 1 (some (.object "UrlGate$Url")) := ⟨kw_452, kw_453, kw_454, by decide, by decide, rfl⟩
theorem gl_RX8_73 : gLink RX8 73 yX7_readUrl cX7_readUrl 7 4 (some .int) := ⟨kw_455, kw_456, kw_78, by decide, by decide, rfl⟩
theorem gl_RX8_77 : gLink RX8 77 yX6_writeTo cX6_writeTo 2 1 none := ⟨kw_457, kw_458, kw_87, by decide, by decide, rfl⟩
theorem gl_RX8_81 : gLink RX8 81 yX5_take cX5_take 4 1 none := ⟨kw_459, kw_257, kw_17, by decide, by decide, rfl⟩
theorem gl_RX8_84 : gLink RX8 84 yX5_byteAt cX5_byteAt 2 1 (some .int) := ⟨kw_460, kw_276, kw_17, by decide, by decide, rfl⟩
theorem gl_RX8_88 : gLink RX8 88 yX6_rowOf cX6_rowOf 2 1 (some (.object "UrlGate$Row")) := ⟨kw_461, kw_462, kw_87, by decide, by decide, rfl⟩
theorem gl_RX8_95 : gLink RX8 95 yX6_portThatCounts cX6_portThatCounts 1 0 (some .int) := ⟨kw_463, kw_379, kw_87, by decide, by decide, rfl⟩
theorem gl_RX8_114 : gLink RX8 114 yX0_numberAt cX0_numberAt 2 1 (some .int) := ⟨kw_464, kw_299, kw_12, by decide, by decide, rfl⟩
theorem gl_RX8_117 : gLink RX8 117 yX6_hasOriginOf cX6_hasOriginOf 2 1 (some .boolean) := ⟨kw_465, kw_466, kw_87, by decide, by decide, rfl⟩
theorem gl_RX8_121 : gLink RX8 121 yX8_hearHost cX8_hearHost 2 0 (some .int) := ⟨kw_467, kw_468, kw_454, by decide, by decide, rfl⟩
theorem gl_RX8_124 : gLink RX8 124 yX3_isName cX3_isName 1 0 (some .boolean) := ⟨kw_469, kw_264, kw_53, by decide, by decide, rfl⟩
theorem gl_RX8_128 : gLink RX8 128 yX2_addHost cX2_addHost 4 2 (some .int) := ⟨kw_470, kw_471, kw_83, by decide, by decide, rfl⟩
theorem gl_RX8_135 : gLink RX8 135 yX2_addAnswer cX2_addAnswer 9 6 (some .int) := ⟨kw_472, kw_473, kw_83, by decide, by decide, rfl⟩
theorem gl_RX8_139 : gLink RX8 139 yX2_addRange cX2_addRange 8 6 (some .int) := ⟨kw_474, kw_475, kw_83, by decide, by decide, rfl⟩
theorem gl_RX8_143 : gLink RX8 143 yX2_forget cX2_forget 2 0 (some .int) := ⟨kw_476, kw_477, kw_83, by decide, by decide, rfl⟩
theorem gl_RX8_146 : gLink RX8 146 yX2_judge cX2_judge 2 1 (some .int) := ⟨kw_478, kw_479, kw_83, by decide, by decide, rfl⟩
theorem gl_RX8_150 : gLink RX8 150 yX4_readHost cX4_readHost 6 4 (some .int) := ⟨kw_480, kw_395, kw_73, by decide, by decide, rfl⟩
theorem gl_RX9_91 : gLink RX9 91 yX9_isIn cX9_isIn 3 3 (some .boolean) := ⟨kw_481, kw_482, kw_483, by decide, by decide, rfl⟩
theorem gl_RX9_95 : gLink RX9 95 yX9_isDigit cX9_isDigit 1 1 (some .boolean) := ⟨kw_484, kw_485, kw_483, by decide, by decide, rfl⟩
theorem gl_RX9_99 : gLink RX9 99 yX9_low cX9_low 1 1 (some .int) := ⟨kw_486, kw_487, kw_483, by decide, by decide, rfl⟩
theorem gl_RX9_107 : gLink RX9 107 yX9_sizeOf cX9_sizeOf 3 2 (some .int) := ⟨kw_488, kw_489, kw_483, by decide, by decide, rfl⟩
theorem gl_RX9_111 : gLink RX9 111 yX9_row cX9_row 3 2 (some .int) := ⟨kw_490, kw_491, kw_483, by decide, by decide, rfl⟩
theorem gl_RX9_114 : gLink RX9 114 yX9_copyPart cX9_copyPart 6 3 none := ⟨kw_492, kw_493, kw_483, by decide, by decide, rfl⟩
theorem gl_RX9_118 : gLink RX9 118 yX9_isEscaped cX9_isEscaped 4 2 (some .boolean) := ⟨kw_494, kw_495, kw_483, by decide, by decide, rfl⟩
theorem gl_RX9_122 : gLink RX9 122 yX9_add cX9_add 4 2 none := ⟨kw_496, kw_497, kw_483, by decide, by decide, rfl⟩
theorem gl_RX9_126 : gLink RX9 126 yX9_digitOf cX9_digitOf 1 1 (some .int) := ⟨kw_498, kw_499, kw_483, by decide, by decide, rfl⟩
theorem gl_RX9_142 : gLink RX9 142 yJ0_charAt_5068e cJ0_charAt_5068e 2 1 (some .char) := ⟨kw_500, kw_363, kw_225, by decide, by decide, rfl⟩
theorem gl_RX9_148 : gLink RX9 148 yX9_schemeSize cX9_schemeSize 1 1 (some .int) := ⟨kw_501, kw_502, kw_483, by decide, by decide, rfl⟩
theorem gl_RX9_151 : gLink RX9 151 yX9_byteAt cX9_byteAt 2 1 (some .int) := ⟨kw_503, kw_504, kw_483, by decide, by decide, rfl⟩
theorem gl_RX9_154 : gLink RX9 154 yX9_schemeByte cX9_schemeByte 3 2 (some .int) := ⟨kw_505, kw_506, kw_483, by decide, by decide, rfl⟩
theorem gl_RX9_157 : gLink RX9 157 yX9_has cX9_has 2 1 (some .boolean) := ⟨kw_507, kw_508, kw_483, by decide, by decide, rfl⟩
theorem gl_RX9_160 : gLink RX9 160 yX9_takeText cX9_takeText 5 0 none := ⟨kw_509, kw_510, kw_483, by decide, by decide, rfl⟩
theorem gl_RX9_166 : gLink RX9 166 yX9_readScheme cX9_readScheme 5 1 none := ⟨kw_511, kw_512, kw_483, by decide, by decide, rfl⟩
theorem gl_RX9_170 : gLink RX9 170 yX9_writtenLength cX9_writtenLength 5 1 (some .int) := ⟨kw_513, kw_514, kw_483, by decide, by decide, rfl⟩
theorem gl_RX9_173 : gLink RX9 173 yX9_copyHost cX9_copyHost 4 2 none := ⟨kw_515, kw_516, kw_483, by decide, by decide, rfl⟩
theorem gl_RX9_176 : gLink RX9 176 yX9_isLetter cX9_isLetter 1 1 (some .boolean) := ⟨kw_517, kw_518, kw_483, by decide, by decide, rfl⟩
theorem gl_RX9_179 : gLink RX9 179 yX9_readRelative cX9_readRelative 4 2 none := ⟨kw_519, kw_520, kw_483, by decide, by decide, rfl⟩
theorem gl_RX9_182 : gLink RX9 182 yX9_isWord cX9_isWord 5 2 (some .boolean) := ⟨kw_521, kw_522, kw_483, by decide, by decide, rfl⟩
theorem gl_RX9_185 : gLink RX9 185 yX9_readSlashes cX9_readSlashes 8 1 none := ⟨kw_523, kw_524, kw_483, by decide, by decide, rfl⟩
theorem gl_RX9_188 : gLink RX9 188 yX9_isSlash cX9_isSlash 1 1 (some .boolean) := ⟨kw_525, kw_526, kw_483, by decide, by decide, rfl⟩
theorem gl_RX9_191 : gLink RX9 191 yX9_readPath cX9_readPath 7 1 none := ⟨kw_527, kw_528, kw_483, by decide, by decide, rfl⟩
theorem gl_RX9_194 : gLink RX9 194 yX9_readTail cX9_readTail 3 1 none := ⟨kw_529, kw_530, kw_483, by decide, by decide, rfl⟩
theorem gl_RX9_197 : gLink RX9 197 yX9_dropSegment cX9_dropSegment 3 0 none := ⟨kw_531, kw_532, kw_483, by decide, by decide, rfl⟩
theorem gl_RX9_205 : gLink RX9 205 yX9_isOver cX9_isOver 3 1 (some .boolean) := ⟨kw_533, kw_534, kw_483, by decide, by decide, rfl⟩
theorem gl_RX9_208 : gLink RX9 208 yX9_addEscaped cX9_addEscaped 4 3 none := ⟨kw_535, kw_536, kw_483, by decide, by decide, rfl⟩
theorem gl_RX9_211 : gLink RX9 211 yX9_readHost cX9_readHost 6 2 (some .int) := ⟨kw_537, kw_538, kw_483, by decide, by decide, rfl⟩
theorem gl_RX9_220 : gLink RX9 220 yX9_readPort cX9_readPort 5 2 none := ⟨kw_539, kw_540, kw_483, by decide, by decide, rfl⟩
theorem gl_RX9_228 : gLink RX9 228 yX9_portOf cX9_portOf 1 1 (some .int) := ⟨kw_541, kw_542, kw_483, by decide, by decide, rfl⟩
theorem gl_RX9_231 : gLink RX9 231 yX9_points cX9_points 5 2 (some .int) := ⟨kw_543, kw_544, kw_483, by decide, by decide, rfl⟩
theorem gl_RX9_234 : gLink RX9 234 yX9_readSix cX9_readSix 9 2 (some .int) := ⟨kw_545, kw_546, kw_483, by decide, by decide, rfl⟩
theorem gl_RX9_237 : gLink RX9 237 yX9_hex cX9_hex 1 1 (some .int) := ⟨kw_547, kw_548, kw_483, by decide, by decide, rfl⟩
theorem gl_RX9_240 : gLink RX9 240 yX9_isWrongByte cX9_isWrongByte 1 1 (some .boolean) := ⟨kw_549, kw_550, kw_483, by decide, by decide, rfl⟩
theorem gl_RX9_243 : gLink RX9 243 yX9_readFour cX9_readFour 15 0 (some .int) := ⟨kw_551, kw_552, kw_483, by decide, by decide, rfl⟩
theorem gl_RX9_247 : gLink RX9 247 yX9_numberOf cX9_numberOf 8 2 (some .long) := ⟨kw_553, kw_554, kw_483, by decide, by decide, rfl⟩
theorem gl_RX9_260 : gLink RX9 260 yX9_readNumbers cX9_readNumbers 10 3 (some .int) := ⟨kw_555, kw_556, kw_483, by decide, by decide, rfl⟩
theorem gl_RX9_269 : gLink RX9 269 yX9_put cX9_put 2 1 none := ⟨kw_557, kw_558, kw_483, by decide, by decide, rfl⟩
theorem gl_RX9_272 : gLink RX9 272 yX9_putDecimal cX9_putDecimal 3 1 none := ⟨kw_559, kw_560, kw_483, by decide, by decide, rfl⟩
theorem gl_RX9_275 : gLink RX9 275 yX9_writeSix cX9_writeSix 6 1 none := ⟨kw_561, kw_562, kw_483, by decide, by decide, rfl⟩
theorem gl_RX9_278 : gLink RX9 278 yX9_putHex cX9_putHex 5 1 none := ⟨kw_563, kw_564, kw_483, by decide, by decide, rfl⟩
theorem gl_RX9_281 : gLink RX9 281 yX9_writeHost cX9_writeHost 3 1 none := ⟨kw_565, kw_566, kw_483, by decide, by decide, rfl⟩
theorem gl_RX9_284 : gLink RX9 284 yX9_digitsOf cX9_digitsOf 1 1 (some .int) := ⟨kw_567, kw_568, kw_483, by decide, by decide, rfl⟩
theorem gl_RX9_287 : gLink RX9 287 yX9_say cX9_say 2 1 none := ⟨kw_569, kw_570, kw_483, by decide, by decide, rfl⟩
theorem gl_RX9_290 : gLink RX9 290 yX9_sayPart cX9_sayPart 4 2 none := ⟨kw_571, kw_572, kw_483, by decide, by decide, rfl⟩
theorem gl_RX9_293 : gLink RX9 293 yX9_sayWritten cX9_sayWritten 2 0 none := ⟨kw_573, kw_574, kw_483, by decide, by decide, rfl⟩
theorem gl_RX9_296 : gLink RX9 296 yX9_size cX9_size 3 2 (some .int) := ⟨kw_575, kw_576, kw_483, by decide, by decide, rfl⟩
theorem gl_RX9_298 : gLink RX9 298 yX9_told cX9_told 5 2 (some .int) := ⟨kw_577, kw_578, kw_483, by decide, by decide, rfl⟩
theorem gl_RX9_301 : gLink RX9 301 yX9_readTextHost cX9_readTextHost 2 0 (some .int) := ⟨kw_579, kw_580, kw_483, by decide, by decide, rfl⟩
theorem gl_RX9_313 : gLink RX9 313 yX9_isListed cX9_isListed 7 1 (some .boolean) := ⟨kw_581, kw_582, kw_483, by decide, by decide, rfl⟩
theorem gl_RX9_316 : gLink RX9 316 yX9_isInRange cX9_isInRange 14 5 (some .boolean) := ⟨kw_583, kw_584, kw_483, by decide, by decide, rfl⟩
theorem gl_RX9_320 : gLink RX9 320 yX9_pair cX9_pair 3 2 (some .int) := ⟨kw_585, kw_586, kw_483, by decide, by decide, rfl⟩
theorem gn_J0_charAt_5068e : Cond.instanceMethod yJ0_charAt_5068e ∈ gT ∧ Cond.selects "java/lang/String" yJ0_charAt_5068e yJ0_charAt_5068e ∈ gT := ⟨kw_587, kw_588⟩
theorem gn_J0_coder_7d493 : Cond.instanceMethod yJ0_coder_7d493 ∈ gT ∧ Cond.selects "java/lang/String" yJ0_coder_7d493 yJ0_coder_7d493 ∈ gT := ⟨kw_589, kw_590⟩
theorem gn_J0_indexOf_0f7a4 : Cond.instanceMethod yJ0_indexOf_0f7a4 ∈ gT ∧ Cond.selects "java/lang/String" yJ0_indexOf_0f7a4 yJ0_indexOf_0f7a4 ∈ gT := ⟨kw_591, kw_592⟩
theorem gn_J0_indexOf_7cf53 : Cond.instanceMethod yJ0_indexOf_7cf53 ∈ gT ∧ Cond.selects "java/lang/String" yJ0_indexOf_7cf53 yJ0_indexOf_7cf53 ∈ gT := ⟨kw_593, kw_594⟩
theorem gn_J0_isLatin1_aae02 : Cond.instanceMethod yJ0_isLatin1_aae02 ∈ gT ∧ Cond.selects "java/lang/String" yJ0_isLatin1_aae02 yJ0_isLatin1_aae02 ∈ gT := ⟨kw_595, kw_596⟩
theorem gn_J0_length_8abf5 : Cond.instanceMethod yJ0_length_8abf5 ∈ gT ∧ Cond.selects "java/lang/String" yJ0_length_8abf5 yJ0_length_8abf5 ∈ gT := ⟨kw_597, kw_598⟩
theorem gn_X0_isFourInSix : Cond.instanceMethod yX0_isFourInSix ∈ gT ∧ Cond.selects RX0 yX0_isFourInSix yX0_isFourInSix ∈ gT := ⟨kw_599, kw_600⟩
theorem gn_X0_isIn : Cond.instanceMethod yX0_isIn ∈ gT ∧ Cond.selects RX0 yX0_isIn yX0_isIn ∈ gT := ⟨kw_601, kw_602⟩
theorem gn_X0_numberAt : Cond.instanceMethod yX0_numberAt ∈ gT ∧ Cond.selects RX0 yX0_numberAt yX0_numberAt ∈ gT := ⟨kw_603, kw_604⟩
theorem gn_X0_setTo : Cond.instanceMethod yX0_setTo ∈ gT ∧ Cond.selects RX0 yX0_setTo yX0_setTo ∈ gT := ⟨kw_605, kw_606⟩
theorem gn_X0_take : Cond.instanceMethod yX0_take ∈ gT ∧ Cond.selects RX0 yX0_take yX0_take ∈ gT := ⟨kw_607, kw_608⟩
theorem gn_X2_addAnswer : Cond.instanceMethod yX2_addAnswer ∈ gT ∧ Cond.selects RX2 yX2_addAnswer yX2_addAnswer ∈ gT := ⟨kw_609, kw_610⟩
theorem gn_X2_addHost : Cond.instanceMethod yX2_addHost ∈ gT ∧ Cond.selects RX2 yX2_addHost yX2_addHost ∈ gT := ⟨kw_611, kw_612⟩
theorem gn_X2_addRange : Cond.instanceMethod yX2_addRange ∈ gT ∧ Cond.selects RX2 yX2_addRange yX2_addRange ∈ gT := ⟨kw_613, kw_614⟩
theorem gn_X2_forget : Cond.instanceMethod yX2_forget ∈ gT ∧ Cond.selects RX2 yX2_forget yX2_forget ∈ gT := ⟨kw_615, kw_616⟩
theorem gn_X2_isInSomeRange : Cond.instanceMethod yX2_isInSomeRange ∈ gT ∧ Cond.selects RX2 yX2_isInSomeRange yX2_isInSomeRange ∈ gT := ⟨kw_617, kw_618⟩
theorem gn_X2_isListed : Cond.instanceMethod yX2_isListed ∈ gT ∧ Cond.selects RX2 yX2_isListed yX2_isListed ∈ gT := ⟨kw_619, kw_620⟩
theorem gn_X2_judge : Cond.instanceMethod yX2_judge ∈ gT ∧ Cond.selects RX2 yX2_judge yX2_judge ∈ gT := ⟨kw_621, kw_622⟩
theorem gn_X2_judgeAnswers : Cond.instanceMethod yX2_judgeAnswers ∈ gT ∧ Cond.selects RX2 yX2_judgeAnswers yX2_judgeAnswers ∈ gT := ⟨kw_623, kw_624⟩
theorem gn_X3_equalsHost : Cond.instanceMethod yX3_equalsHost ∈ gT ∧ Cond.selects RX3 yX3_equalsHost yX3_equalsHost ∈ gT := ⟨kw_625, kw_626⟩
theorem gn_X3_firstLongestGap : Cond.instanceMethod yX3_firstLongestGap ∈ gT ∧ Cond.selects RX3 yX3_firstLongestGap yX3_firstLongestGap ∈ gT := ⟨kw_627, kw_628⟩
theorem gn_X3_isName : Cond.instanceMethod yX3_isName ∈ gT ∧ Cond.selects RX3 yX3_isName yX3_isName ∈ gT := ⟨kw_629, kw_630⟩
theorem gn_X3_setFour : Cond.instanceMethod yX3_setFour ∈ gT ∧ Cond.selects RX3 yX3_setFour yX3_setFour ∈ gT := ⟨kw_631, kw_632⟩
theorem gn_X3_setName : Cond.instanceMethod yX3_setName ∈ gT ∧ Cond.selects RX3 yX3_setName yX3_setName ∈ gT := ⟨kw_633, kw_634⟩
theorem gn_X3_setSix : Cond.instanceMethod yX3_setSix ∈ gT ∧ Cond.selects RX3 yX3_setSix yX3_setSix ∈ gT := ⟨kw_635, kw_636⟩
theorem gn_X3_take : Cond.instanceMethod yX3_take ∈ gT ∧ Cond.selects RX3 yX3_take yX3_take ∈ gT := ⟨kw_637, kw_638⟩
theorem gn_X3_zerosFrom : Cond.instanceMethod yX3_zerosFrom ∈ gT ∧ Cond.selects RX3 yX3_zerosFrom yX3_zerosFrom ∈ gT := ⟨kw_639, kw_640⟩
theorem gn_X4_addPiece : Cond.instanceMethod yX4_addPiece ∈ gT ∧ Cond.selects RX4 yX4_addPiece yX4_addPiece ∈ gT := ⟨kw_641, kw_642⟩
theorem gn_X4_decode : Cond.instanceMethod yX4_decode ∈ gT ∧ Cond.selects RX4 yX4_decode yX4_decode ∈ gT := ⟨kw_643, kw_644⟩
theorem gn_X4_findGap : Cond.instanceMethod yX4_findGap ∈ gT ∧ Cond.selects RX4 yX4_findGap yX4_findGap ∈ gT := ⟨kw_645, kw_646⟩
theorem gn_X4_hasForeignPart : Cond.instanceMethod yX4_hasForeignPart ∈ gT ∧ Cond.selects RX4 yX4_hasForeignPart yX4_hasForeignPart ∈ gT := ⟨kw_647, kw_648⟩
theorem gn_X4_hasWrongByte : Cond.instanceMethod yX4_hasWrongByte ∈ gT ∧ Cond.selects RX4 yX4_hasWrongByte yX4_hasWrongByte ∈ gT := ⟨kw_649, kw_650⟩
theorem gn_X4_isHex : Cond.instanceMethod yX4_isHex ∈ gT ∧ Cond.selects RX4 yX4_isHex yX4_isHex ∈ gT := ⟨kw_651, kw_652⟩
theorem gn_X4_isNumeral : Cond.instanceMethod yX4_isNumeral ∈ gT ∧ Cond.selects RX4 yX4_isNumeral yX4_isNumeral ∈ gT := ⟨kw_653, kw_654⟩
theorem gn_X4_lastPartStart : Cond.instanceMethod yX4_lastPartStart ∈ gT ∧ Cond.selects RX4 yX4_lastPartStart yX4_lastPartStart ∈ gT := ⟨kw_655, kw_656⟩
theorem gn_X4_numeralValue : Cond.instanceMethod yX4_numeralValue ∈ gT ∧ Cond.selects RX4 yX4_numeralValue yX4_numeralValue ∈ gT := ⟨kw_657, kw_658⟩
theorem gn_X4_partEnd : Cond.instanceMethod yX4_partEnd ∈ gT ∧ Cond.selects RX4 yX4_partEnd yX4_partEnd ∈ gT := ⟨kw_659, kw_660⟩
theorem gn_X4_readFour : Cond.instanceMethod yX4_readFour ∈ gT ∧ Cond.selects RX4 yX4_readFour yX4_readFour ∈ gT := ⟨kw_661, kw_662⟩
theorem gn_X4_readHost : Cond.instanceMethod yX4_readHost ∈ gT ∧ Cond.selects RX4 yX4_readHost yX4_readHost ∈ gT := ⟨kw_663, kw_664⟩
theorem gn_X4_readPiece : Cond.instanceMethod yX4_readPiece ∈ gT ∧ Cond.selects RX4 yX4_readPiece yX4_readPiece ∈ gT := ⟨kw_665, kw_666⟩
theorem gn_X4_readPieces : Cond.instanceMethod yX4_readPieces ∈ gT ∧ Cond.selects RX4 yX4_readPieces yX4_readPieces ∈ gT := ⟨kw_667, kw_668⟩
theorem gn_X4_readPoints : Cond.instanceMethod yX4_readPoints ∈ gT ∧ Cond.selects RX4 yX4_readPoints yX4_readPoints ∈ gT := ⟨kw_669, kw_670⟩
theorem gn_X4_readSix : Cond.instanceMethod yX4_readSix ∈ gT ∧ Cond.selects RX4 yX4_readSix yX4_readSix ∈ gT := ⟨kw_671, kw_672⟩
theorem gn_X4_spread : Cond.instanceMethod yX4_spread ∈ gT ∧ Cond.selects RX4 yX4_spread yX4_spread ∈ gT := ⟨kw_673, kw_674⟩
theorem gn_X4_wordAt : Cond.instanceMethod yX4_wordAt ∈ gT ∧ Cond.selects RX4 yX4_wordAt yX4_wordAt ∈ gT := ⟨kw_675, kw_676⟩
theorem gn_X5_add : Cond.instanceMethod yX5_add ∈ gT ∧ Cond.selects RX5 yX5_add yX5_add ∈ gT := ⟨kw_677, kw_678⟩
theorem gn_X5_addDecimal : Cond.instanceMethod yX5_addDecimal ∈ gT ∧ Cond.selects RX5 yX5_addDecimal yX5_addDecimal ∈ gT := ⟨kw_679, kw_680⟩
theorem gn_X5_addEscaped : Cond.instanceMethod yX5_addEscaped ∈ gT ∧ Cond.selects RX5 yX5_addEscaped yX5_addEscaped ∈ gT := ⟨kw_681, kw_682⟩
theorem gn_X5_addHex : Cond.instanceMethod yX5_addHex ∈ gT ∧ Cond.selects RX5 yX5_addHex yX5_addHex ∈ gT := ⟨kw_683, kw_684⟩
theorem gn_X5_addRow : Cond.instanceMethod yX5_addRow ∈ gT ∧ Cond.selects RX5 yX5_addRow yX5_addRow ∈ gT := ⟨kw_685, kw_686⟩
theorem gn_X5_addText : Cond.instanceMethod yX5_addText ∈ gT ∧ Cond.selects RX5 yX5_addText yX5_addText ∈ gT := ⟨kw_687, kw_688⟩
theorem gn_X5_byteAt : Cond.instanceMethod yX5_byteAt ∈ gT ∧ Cond.selects RX5 yX5_byteAt yX5_byteAt ∈ gT := ⟨kw_689, kw_690⟩
theorem gn_X5_cutTo : Cond.instanceMethod yX5_cutTo ∈ gT ∧ Cond.selects RX5 yX5_cutTo yX5_cutTo ∈ gT := ⟨kw_691, kw_692⟩
theorem gn_X5_endsWith : Cond.instanceMethod yX5_endsWith ∈ gT ∧ Cond.selects RX5 yX5_endsWith yX5_endsWith ∈ gT := ⟨kw_693, kw_694⟩
theorem gn_X5_equalsRow : Cond.instanceMethod yX5_equalsRow ∈ gT ∧ Cond.selects RX5 yX5_equalsRow yX5_equalsRow ∈ gT := ⟨kw_695, kw_696⟩
theorem gn_X5_hasAt : Cond.instanceMethod yX5_hasAt ∈ gT ∧ Cond.selects RX5 yX5_hasAt yX5_hasAt ∈ gT := ⟨kw_697, kw_698⟩
theorem gn_X5_take : Cond.instanceMethod yX5_take ∈ gT ∧ Cond.selects RX5 yX5_take yX5_take ∈ gT := ⟨kw_699, kw_700⟩
theorem gn_X6_beginSegment : Cond.instanceMethod yX6_beginSegment ∈ gT ∧ Cond.selects RX6 yX6_beginSegment yX6_beginSegment ∈ gT := ⟨kw_701, kw_702⟩
theorem gn_X6_dropSegment : Cond.instanceMethod yX6_dropSegment ∈ gT ∧ Cond.selects RX6 yX6_dropSegment yX6_dropSegment ∈ gT := ⟨kw_703, kw_704⟩
theorem gn_X6_empty : Cond.instanceMethod yX6_empty ∈ gT ∧ Cond.selects RX6 yX6_empty yX6_empty ∈ gT := ⟨kw_705, kw_706⟩
theorem gn_X6_hasOriginOf : Cond.instanceMethod yX6_hasOriginOf ∈ gT ∧ Cond.selects RX6 yX6_hasOriginOf yX6_hasOriginOf ∈ gT := ⟨kw_707, kw_708⟩
theorem gn_X6_hasUser : Cond.instanceMethod yX6_hasUser ∈ gT ∧ Cond.selects RX6 yX6_hasUser yX6_hasUser ∈ gT := ⟨kw_709, kw_710⟩
theorem gn_X6_portThatCounts : Cond.instanceMethod yX6_portThatCounts ∈ gT ∧ Cond.selects RX6 yX6_portThatCounts yX6_portThatCounts ∈ gT := ⟨kw_711, kw_712⟩
theorem gn_X6_rowOf : Cond.instanceMethod yX6_rowOf ∈ gT ∧ Cond.selects RX6 yX6_rowOf yX6_rowOf ∈ gT := ⟨kw_713, kw_714⟩
theorem gn_X6_setScheme : Cond.instanceMethod yX6_setScheme ∈ gT ∧ Cond.selects RX6 yX6_setScheme yX6_setScheme ∈ gT := ⟨kw_715, kw_716⟩
theorem gn_X6_takeAuthority : Cond.instanceMethod yX6_takeAuthority ∈ gT ∧ Cond.selects RX6 yX6_takeAuthority yX6_takeAuthority ∈ gT := ⟨kw_717, kw_718⟩
theorem gn_X6_takePath : Cond.instanceMethod yX6_takePath ∈ gT ∧ Cond.selects RX6 yX6_takePath yX6_takePath ∈ gT := ⟨kw_719, kw_720⟩
theorem gn_X6_takeQuery : Cond.instanceMethod yX6_takeQuery ∈ gT ∧ Cond.selects RX6 yX6_takeQuery yX6_takeQuery ∈ gT := ⟨kw_721, kw_722⟩
theorem gn_X6_writeTo : Cond.instanceMethod yX6_writeTo ∈ gT ∧ Cond.selects RX6 yX6_writeTo yX6_writeTo ∈ gT := ⟨kw_723, kw_724⟩
theorem gn_X7_hostEndFrom : Cond.instanceMethod yX7_hostEndFrom ∈ gT ∧ Cond.selects RX7 yX7_hostEndFrom yX7_hostEndFrom ∈ gT := ⟨kw_725, kw_726⟩
theorem gn_X7_isWord : Cond.instanceMethod yX7_isWord ∈ gT ∧ Cond.selects RX7 yX7_isWord yX7_isWord ∈ gT := ⟨kw_727, kw_728⟩
theorem gn_X7_pointsIn : Cond.instanceMethod yX7_pointsIn ∈ gT ∧ Cond.selects RX7 yX7_pointsIn yX7_pointsIn ∈ gT := ⟨kw_729, kw_730⟩
theorem gn_X7_readAuthority : Cond.instanceMethod yX7_readAuthority ∈ gT ∧ Cond.selects RX7 yX7_readAuthority yX7_readAuthority ∈ gT := ⟨kw_731, kw_732⟩
theorem gn_X7_readFragment : Cond.instanceMethod yX7_readFragment ∈ gT ∧ Cond.selects RX7 yX7_readFragment yX7_readFragment ∈ gT := ⟨kw_733, kw_734⟩
theorem gn_X7_readPort : Cond.instanceMethod yX7_readPort ∈ gT ∧ Cond.selects RX7 yX7_readPort yX7_readPort ∈ gT := ⟨kw_735, kw_736⟩
theorem gn_X7_readQuery : Cond.instanceMethod yX7_readQuery ∈ gT ∧ Cond.selects RX7 yX7_readQuery yX7_readQuery ∈ gT := ⟨kw_737, kw_738⟩
theorem gn_X7_readRelative : Cond.instanceMethod yX7_readRelative ∈ gT ∧ Cond.selects RX7 yX7_readRelative yX7_readRelative ∈ gT := ⟨kw_739, kw_740⟩
theorem gn_X7_readScheme : Cond.instanceMethod yX7_readScheme ∈ gT ∧ Cond.selects RX7 yX7_readScheme yX7_readScheme ∈ gT := ⟨kw_741, kw_742⟩
theorem gn_X7_readSegments : Cond.instanceMethod yX7_readSegments ∈ gT ∧ Cond.selects RX7 yX7_readSegments yX7_readSegments ∈ gT := ⟨kw_743, kw_744⟩
theorem gn_X7_readUrl : Cond.instanceMethod yX7_readUrl ∈ gT ∧ Cond.selects RX7 yX7_readUrl yX7_readUrl ∈ gT := ⟨kw_745, kw_746⟩
theorem gn_X7_readUser : Cond.instanceMethod yX7_readUser ∈ gT ∧ Cond.selects RX7 yX7_readUser yX7_readUser ∈ gT := ⟨kw_747, kw_748⟩
theorem gn_X7_schemeEnd : Cond.instanceMethod yX7_schemeEnd ∈ gT ∧ Cond.selects RX7 yX7_schemeEnd yX7_schemeEnd ∈ gT := ⟨kw_749, kw_750⟩
theorem gn_X7_schemeUpTo : Cond.instanceMethod yX7_schemeUpTo ∈ gT ∧ Cond.selects RX7 yX7_schemeUpTo yX7_schemeUpTo ∈ gT := ⟨kw_751, kw_752⟩
theorem gn_X7_takeSegment : Cond.instanceMethod yX7_takeSegment ∈ gT ∧ Cond.selects RX7 yX7_takeSegment yX7_takeSegment ∈ gT := ⟨kw_753, kw_754⟩
theorem gn_X7_tidy : Cond.instanceMethod yX7_tidy ∈ gT ∧ Cond.selects RX7 yX7_tidy yX7_tidy ∈ gT := ⟨kw_755, kw_756⟩
theorem gn_X8_hearHost : Cond.instanceMethod yX8_hearHost ∈ gT ∧ Cond.selects RX8 yX8_hearHost yX8_hearHost ∈ gT := ⟨kw_757, kw_758⟩
theorem gn_X8_recordAt : Cond.instanceMethod yX8_recordAt ∈ gT ∧ Cond.selects RX8 yX8_recordAt yX8_recordAt ∈ gT := ⟨kw_759, kw_760⟩
theorem gn_X9_add : Cond.instanceMethod yX9_add ∈ gT ∧ Cond.selects RX9 yX9_add yX9_add ∈ gT := ⟨kw_761, kw_762⟩
theorem gn_X9_addEscaped : Cond.instanceMethod yX9_addEscaped ∈ gT ∧ Cond.selects RX9 yX9_addEscaped yX9_addEscaped ∈ gT := ⟨kw_763, kw_764⟩
theorem gn_X9_byteAt : Cond.instanceMethod yX9_byteAt ∈ gT ∧ Cond.selects RX9 yX9_byteAt yX9_byteAt ∈ gT := ⟨kw_765, kw_766⟩
theorem gn_X9_copyHost : Cond.instanceMethod yX9_copyHost ∈ gT ∧ Cond.selects RX9 yX9_copyHost yX9_copyHost ∈ gT := ⟨kw_767, kw_768⟩
theorem gn_X9_copyPart : Cond.instanceMethod yX9_copyPart ∈ gT ∧ Cond.selects RX9 yX9_copyPart yX9_copyPart ∈ gT := ⟨kw_769, kw_770⟩
theorem gn_X9_dropSegment : Cond.instanceMethod yX9_dropSegment ∈ gT ∧ Cond.selects RX9 yX9_dropSegment yX9_dropSegment ∈ gT := ⟨kw_771, kw_772⟩
theorem gn_X9_has : Cond.instanceMethod yX9_has ∈ gT ∧ Cond.selects RX9 yX9_has yX9_has ∈ gT := ⟨kw_773, kw_774⟩
theorem gn_X9_isInRange : Cond.instanceMethod yX9_isInRange ∈ gT ∧ Cond.selects RX9 yX9_isInRange yX9_isInRange ∈ gT := ⟨kw_775, kw_776⟩
theorem gn_X9_isListed : Cond.instanceMethod yX9_isListed ∈ gT ∧ Cond.selects RX9 yX9_isListed yX9_isListed ∈ gT := ⟨kw_777, kw_778⟩
theorem gn_X9_isOver : Cond.instanceMethod yX9_isOver ∈ gT ∧ Cond.selects RX9 yX9_isOver yX9_isOver ∈ gT := ⟨kw_779, kw_780⟩
theorem gn_X9_isWord : Cond.instanceMethod yX9_isWord ∈ gT ∧ Cond.selects RX9 yX9_isWord yX9_isWord ∈ gT := ⟨kw_781, kw_782⟩
theorem gn_X9_numberOf : Cond.instanceMethod yX9_numberOf ∈ gT ∧ Cond.selects RX9 yX9_numberOf yX9_numberOf ∈ gT := ⟨kw_783, kw_784⟩
theorem gn_X9_pair : Cond.instanceMethod yX9_pair ∈ gT ∧ Cond.selects RX9 yX9_pair yX9_pair ∈ gT := ⟨kw_785, kw_786⟩
theorem gn_X9_points : Cond.instanceMethod yX9_points ∈ gT ∧ Cond.selects RX9 yX9_points yX9_points ∈ gT := ⟨kw_787, kw_788⟩
theorem gn_X9_put : Cond.instanceMethod yX9_put ∈ gT ∧ Cond.selects RX9 yX9_put yX9_put ∈ gT := ⟨kw_789, kw_790⟩
theorem gn_X9_putDecimal : Cond.instanceMethod yX9_putDecimal ∈ gT ∧ Cond.selects RX9 yX9_putDecimal yX9_putDecimal ∈ gT := ⟨kw_791, kw_792⟩
theorem gn_X9_putHex : Cond.instanceMethod yX9_putHex ∈ gT ∧ Cond.selects RX9 yX9_putHex yX9_putHex ∈ gT := ⟨kw_793, kw_794⟩
theorem gn_X9_readFour : Cond.instanceMethod yX9_readFour ∈ gT ∧ Cond.selects RX9 yX9_readFour yX9_readFour ∈ gT := ⟨kw_795, kw_796⟩
theorem gn_X9_readHost : Cond.instanceMethod yX9_readHost ∈ gT ∧ Cond.selects RX9 yX9_readHost yX9_readHost ∈ gT := ⟨kw_797, kw_798⟩
theorem gn_X9_readNumbers : Cond.instanceMethod yX9_readNumbers ∈ gT ∧ Cond.selects RX9 yX9_readNumbers yX9_readNumbers ∈ gT := ⟨kw_799, kw_800⟩
theorem gn_X9_readPath : Cond.instanceMethod yX9_readPath ∈ gT ∧ Cond.selects RX9 yX9_readPath yX9_readPath ∈ gT := ⟨kw_801, kw_802⟩
theorem gn_X9_readPort : Cond.instanceMethod yX9_readPort ∈ gT ∧ Cond.selects RX9 yX9_readPort yX9_readPort ∈ gT := ⟨kw_803, kw_804⟩
theorem gn_X9_readRelative : Cond.instanceMethod yX9_readRelative ∈ gT ∧ Cond.selects RX9 yX9_readRelative yX9_readRelative ∈ gT := ⟨kw_805, kw_806⟩
theorem gn_X9_readScheme : Cond.instanceMethod yX9_readScheme ∈ gT ∧ Cond.selects RX9 yX9_readScheme yX9_readScheme ∈ gT := ⟨kw_807, kw_808⟩
theorem gn_X9_readSix : Cond.instanceMethod yX9_readSix ∈ gT ∧ Cond.selects RX9 yX9_readSix yX9_readSix ∈ gT := ⟨kw_809, kw_810⟩
theorem gn_X9_readSlashes : Cond.instanceMethod yX9_readSlashes ∈ gT ∧ Cond.selects RX9 yX9_readSlashes yX9_readSlashes ∈ gT := ⟨kw_811, kw_812⟩
theorem gn_X9_readTail : Cond.instanceMethod yX9_readTail ∈ gT ∧ Cond.selects RX9 yX9_readTail yX9_readTail ∈ gT := ⟨kw_813, kw_814⟩
theorem gn_X9_readTextHost : Cond.instanceMethod yX9_readTextHost ∈ gT ∧ Cond.selects RX9 yX9_readTextHost yX9_readTextHost ∈ gT := ⟨kw_815, kw_816⟩
theorem gn_X9_row : Cond.instanceMethod yX9_row ∈ gT ∧ Cond.selects RX9 yX9_row yX9_row ∈ gT := ⟨kw_817, kw_818⟩
theorem gn_X9_say : Cond.instanceMethod yX9_say ∈ gT ∧ Cond.selects RX9 yX9_say yX9_say ∈ gT := ⟨kw_819, kw_820⟩
theorem gn_X9_sayPart : Cond.instanceMethod yX9_sayPart ∈ gT ∧ Cond.selects RX9 yX9_sayPart yX9_sayPart ∈ gT := ⟨kw_821, kw_822⟩
theorem gn_X9_sayWritten : Cond.instanceMethod yX9_sayWritten ∈ gT ∧ Cond.selects RX9 yX9_sayWritten yX9_sayWritten ∈ gT := ⟨kw_823, kw_824⟩
theorem gn_X9_size : Cond.instanceMethod yX9_size ∈ gT ∧ Cond.selects RX9 yX9_size yX9_size ∈ gT := ⟨kw_825, kw_826⟩
theorem gn_X9_sizeOf : Cond.instanceMethod yX9_sizeOf ∈ gT ∧ Cond.selects RX9 yX9_sizeOf yX9_sizeOf ∈ gT := ⟨kw_827, kw_828⟩
theorem gn_X9_takeText : Cond.instanceMethod yX9_takeText ∈ gT ∧ Cond.selects RX9 yX9_takeText yX9_takeText ∈ gT := ⟨kw_829, kw_830⟩
theorem gn_X9_told : Cond.instanceMethod yX9_told ∈ gT ∧ Cond.selects RX9 yX9_told yX9_told ∈ gT := ⟨kw_831, kw_832⟩
theorem gn_X9_writeHost : Cond.instanceMethod yX9_writeHost ∈ gT ∧ Cond.selects RX9 yX9_writeHost yX9_writeHost ∈ gT := ⟨kw_833, kw_834⟩
theorem gn_X9_writeSix : Cond.instanceMethod yX9_writeSix ∈ gT ∧ Cond.selects RX9 yX9_writeSix yX9_writeSix ∈ gT := ⟨kw_835, kw_836⟩
theorem gn_X9_writtenLength : Cond.instanceMethod yX9_writtenLength ∈ gT ∧ Cond.selects RX9 yX9_writtenLength yX9_writtenLength ∈ gT := ⟨kw_837, kw_838⟩
end
