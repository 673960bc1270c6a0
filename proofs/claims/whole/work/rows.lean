section
-- ===== PART A: goes FIRST, ahead of the names: the tables' words, and 'selects' of the private methods out of them =====
/-- a private method of a class that the tables say can be made, by its rows of tables_1 -/
def lw_okq (q : MethodName × Nat) : Prop := (q.1.cls ≠ "java/lang/invoke/MethodHandle" ∧ q.1.cls ≠ "java/lang/invoke/VarHandle") ∧ Cond.instantiable q.1.cls q.2 ∈ tables_1 ∧ Cond.privateMethod q.1 ∈ tables_1 ∧ Cond.instanceMethod q.1 ∈ tables_1
theorem lw_p0 : lw_okq (⟨"UrlGate", "recordAt", "(I)LUrlGate$Url;"⟩, 8) := ⟨⟨by decide +kernel, by decide +kernel⟩, List.mem_of_getElem? (i := 20) (by decide +kernel), List.mem_of_getElem? (i := 286) (by decide +kernel), List.mem_of_getElem? (i := 287) (by decide +kernel)⟩
theorem lw_p1 : lw_okq (⟨"UrlGate$UrlReader", "tidy", "(LUrlGate$Row;)V"⟩, 4) := ⟨⟨by decide +kernel, by decide +kernel⟩, List.mem_of_getElem? (i := 102) (by decide +kernel), List.mem_of_getElem? (i := 294) (by decide +kernel), List.mem_of_getElem? (i := 295) (by decide +kernel)⟩
theorem lw_p2 : lw_okq (⟨"UrlGate$UrlReader", "readScheme", "(LUrlGate$Url;LUrlGate$Url;)I"⟩, 4) := ⟨⟨by decide +kernel, by decide +kernel⟩, List.mem_of_getElem? (i := 102) (by decide +kernel), List.mem_of_getElem? (i := 309) (by decide +kernel), List.mem_of_getElem? (i := 310) (by decide +kernel)⟩
theorem lw_p3 : lw_okq (⟨"UrlGate$UrlReader", "schemeEnd", "()I"⟩, 4) := ⟨⟨by decide +kernel, by decide +kernel⟩, List.mem_of_getElem? (i := 102) (by decide +kernel), List.mem_of_getElem? (i := 313) (by decide +kernel), List.mem_of_getElem? (i := 314) (by decide +kernel)⟩
theorem lw_p4 : lw_okq (⟨"UrlGate$UrlReader", "schemeUpTo", "(I)I"⟩, 4) := ⟨⟨by decide +kernel, by decide +kernel⟩, List.mem_of_getElem? (i := 102) (by decide +kernel), List.mem_of_getElem? (i := 391) (by decide +kernel), List.mem_of_getElem? (i := 392) (by decide +kernel)⟩
theorem lw_p5 : lw_okq (⟨"UrlGate$UrlReader", "isWord", "(ILjava/lang/String;)Z"⟩, 4) := ⟨⟨by decide +kernel, by decide +kernel⟩, List.mem_of_getElem? (i := 102) (by decide +kernel), List.mem_of_getElem? (i := 396) (by decide +kernel), List.mem_of_getElem? (i := 397) (by decide +kernel)⟩
theorem lw_p6 : lw_okq (⟨"UrlGate$UrlReader", "readRelative", "(LUrlGate$Url;LUrlGate$Url;)I"⟩, 4) := ⟨⟨by decide +kernel, by decide +kernel⟩, List.mem_of_getElem? (i := 102) (by decide +kernel), List.mem_of_getElem? (i := 411) (by decide +kernel), List.mem_of_getElem? (i := 412) (by decide +kernel)⟩
theorem lw_p7 : lw_okq (⟨"UrlGate$UrlReader", "readAuthority", "(LUrlGate$Url;)I"⟩, 4) := ⟨⟨by decide +kernel, by decide +kernel⟩, List.mem_of_getElem? (i := 102) (by decide +kernel), List.mem_of_getElem? (i := 452) (by decide +kernel), List.mem_of_getElem? (i := 453) (by decide +kernel)⟩
theorem lw_p8 : lw_okq (⟨"UrlGate$UrlReader", "readUser", "(IILUrlGate$Url;)V"⟩, 4) := ⟨⟨by decide +kernel, by decide +kernel⟩, List.mem_of_getElem? (i := 102) (by decide +kernel), List.mem_of_getElem? (i := 459) (by decide +kernel), List.mem_of_getElem? (i := 460) (by decide +kernel)⟩
theorem lw_p9 : lw_okq (⟨"UrlGate$UrlReader", "hostEndFrom", "(II)I"⟩, 4) := ⟨⟨by decide +kernel, by decide +kernel⟩, List.mem_of_getElem? (i := 102) (by decide +kernel), List.mem_of_getElem? (i := 529) (by decide +kernel), List.mem_of_getElem? (i := 530) (by decide +kernel)⟩
theorem lw_p10 : lw_okq (⟨"UrlGate$HostReader", "readSix", "(LUrlGate$Row;IILUrlGate$Host;)I"⟩, 3) := ⟨⟨by decide +kernel, by decide +kernel⟩, List.mem_of_getElem? (i := 84) (by decide +kernel), List.mem_of_getElem? (i := 538) (by decide +kernel), List.mem_of_getElem? (i := 539) (by decide +kernel)⟩
theorem lw_p11 : lw_okq (⟨"UrlGate$HostReader", "findGap", "(LUrlGate$Row;II)I"⟩, 3) := ⟨⟨by decide +kernel, by decide +kernel⟩, List.mem_of_getElem? (i := 84) (by decide +kernel), List.mem_of_getElem? (i := 542) (by decide +kernel), List.mem_of_getElem? (i := 543) (by decide +kernel)⟩
theorem lw_p12 : lw_okq (⟨"UrlGate$HostReader", "readPieces", "(LUrlGate$Row;IIZ)Z"⟩, 3) := ⟨⟨by decide +kernel, by decide +kernel⟩, List.mem_of_getElem? (i := 84) (by decide +kernel), List.mem_of_getElem? (i := 546) (by decide +kernel), List.mem_of_getElem? (i := 547) (by decide +kernel)⟩
theorem lw_p13 : lw_okq (⟨"UrlGate$HostReader", "readPoints", "(LUrlGate$Row;II)Z"⟩, 3) := ⟨⟨by decide +kernel, by decide +kernel⟩, List.mem_of_getElem? (i := 84) (by decide +kernel), List.mem_of_getElem? (i := 550) (by decide +kernel), List.mem_of_getElem? (i := 551) (by decide +kernel)⟩
theorem lw_p14 : lw_okq (⟨"UrlGate$HostReader", "addPiece", "(I)Z"⟩, 3) := ⟨⟨by decide +kernel, by decide +kernel⟩, List.mem_of_getElem? (i := 84) (by decide +kernel), List.mem_of_getElem? (i := 555) (by decide +kernel), List.mem_of_getElem? (i := 556) (by decide +kernel)⟩
theorem lw_p15 : lw_okq (⟨"UrlGate$HostReader", "readPiece", "(LUrlGate$Row;II)Z"⟩, 3) := ⟨⟨by decide +kernel, by decide +kernel⟩, List.mem_of_getElem? (i := 84) (by decide +kernel), List.mem_of_getElem? (i := 560) (by decide +kernel), List.mem_of_getElem? (i := 561) (by decide +kernel)⟩
def lw_privs_1 : List (MethodName × Nat) := [(⟨"UrlGate", "recordAt", "(I)LUrlGate$Url;"⟩, 8), (⟨"UrlGate$UrlReader", "tidy", "(LUrlGate$Row;)V"⟩, 4), (⟨"UrlGate$UrlReader", "readScheme", "(LUrlGate$Url;LUrlGate$Url;)I"⟩, 4), (⟨"UrlGate$UrlReader", "schemeEnd", "()I"⟩, 4), (⟨"UrlGate$UrlReader", "schemeUpTo", "(I)I"⟩, 4), (⟨"UrlGate$UrlReader", "isWord", "(ILjava/lang/String;)Z"⟩, 4), (⟨"UrlGate$UrlReader", "readRelative", "(LUrlGate$Url;LUrlGate$Url;)I"⟩, 4), (⟨"UrlGate$UrlReader", "readAuthority", "(LUrlGate$Url;)I"⟩, 4), (⟨"UrlGate$UrlReader", "readUser", "(IILUrlGate$Url;)V"⟩, 4), (⟨"UrlGate$UrlReader", "hostEndFrom", "(II)I"⟩, 4), (⟨"UrlGate$HostReader", "readSix", "(LUrlGate$Row;IILUrlGate$Host;)I"⟩, 3), (⟨"UrlGate$HostReader", "findGap", "(LUrlGate$Row;II)I"⟩, 3), (⟨"UrlGate$HostReader", "readPieces", "(LUrlGate$Row;IIZ)Z"⟩, 3), (⟨"UrlGate$HostReader", "readPoints", "(LUrlGate$Row;II)Z"⟩, 3), (⟨"UrlGate$HostReader", "addPiece", "(I)Z"⟩, 3), (⟨"UrlGate$HostReader", "readPiece", "(LUrlGate$Row;II)Z"⟩, 3)]
theorem lw_r1 : ∀ q ∈ lw_privs_1, lw_okq q := List.forall_mem_cons.mpr ⟨lw_p0, List.forall_mem_cons.mpr ⟨lw_p1, List.forall_mem_cons.mpr ⟨lw_p2, List.forall_mem_cons.mpr ⟨lw_p3, List.forall_mem_cons.mpr ⟨lw_p4, List.forall_mem_cons.mpr ⟨lw_p5, List.forall_mem_cons.mpr ⟨lw_p6, List.forall_mem_cons.mpr ⟨lw_p7, List.forall_mem_cons.mpr ⟨lw_p8, List.forall_mem_cons.mpr ⟨lw_p9, List.forall_mem_cons.mpr ⟨lw_p10, List.forall_mem_cons.mpr ⟨lw_p11, List.forall_mem_cons.mpr ⟨lw_p12, List.forall_mem_cons.mpr ⟨lw_p13, List.forall_mem_cons.mpr ⟨lw_p14, List.forall_mem_cons.mpr ⟨lw_p15, fun _ h => absurd h List.not_mem_nil⟩⟩⟩⟩⟩⟩⟩⟩⟩⟩⟩⟩⟩⟩⟩⟩
theorem lw_p16 : lw_okq (⟨"UrlGate$HostReader", "spread", "(I)V"⟩, 3) := ⟨⟨by decide +kernel, by decide +kernel⟩, List.mem_of_getElem? (i := 84) (by decide +kernel), List.mem_of_getElem? (i := 567) (by decide +kernel), List.mem_of_getElem? (i := 568) (by decide +kernel)⟩
theorem lw_p17 : lw_okq (⟨"UrlGate$HostReader", "wordAt", "(I)I"⟩, 3) := ⟨⟨by decide +kernel, by decide +kernel⟩, List.mem_of_getElem? (i := 84) (by decide +kernel), List.mem_of_getElem? (i := 571) (by decide +kernel), List.mem_of_getElem? (i := 572) (by decide +kernel)⟩
theorem lw_p18 : lw_okq (⟨"UrlGate$Host", "firstLongestGap", "()I"⟩, 2) := ⟨⟨by decide +kernel, by decide +kernel⟩, List.mem_of_getElem? (i := 49) (by decide +kernel), List.mem_of_getElem? (i := 580) (by decide +kernel), List.mem_of_getElem? (i := 581) (by decide +kernel)⟩
theorem lw_p19 : lw_okq (⟨"UrlGate$Host", "zerosFrom", "(I)I"⟩, 2) := ⟨⟨by decide +kernel, by decide +kernel⟩, List.mem_of_getElem? (i := 49) (by decide +kernel), List.mem_of_getElem? (i := 589) (by decide +kernel), List.mem_of_getElem? (i := 590) (by decide +kernel)⟩
theorem lw_p20 : lw_okq (⟨"UrlGate$HostReader", "decode", "(LUrlGate$Row;II)V"⟩, 3) := ⟨⟨by decide +kernel, by decide +kernel⟩, List.mem_of_getElem? (i := 84) (by decide +kernel), List.mem_of_getElem? (i := 602) (by decide +kernel), List.mem_of_getElem? (i := 603) (by decide +kernel)⟩
theorem lw_p21 : lw_okq (⟨"UrlGate$HostReader", "hasWrongByte", "()Z"⟩, 3) := ⟨⟨by decide +kernel, by decide +kernel⟩, List.mem_of_getElem? (i := 84) (by decide +kernel), List.mem_of_getElem? (i := 609) (by decide +kernel), List.mem_of_getElem? (i := 610) (by decide +kernel)⟩
theorem lw_p22 : lw_okq (⟨"UrlGate$HostReader", "hasForeignPart", "()Z"⟩, 3) := ⟨⟨by decide +kernel, by decide +kernel⟩, List.mem_of_getElem? (i := 84) (by decide +kernel), List.mem_of_getElem? (i := 617) (by decide +kernel), List.mem_of_getElem? (i := 618) (by decide +kernel)⟩
theorem lw_p23 : lw_okq (⟨"UrlGate$HostReader", "lastPartStart", "(I)I"⟩, 3) := ⟨⟨by decide +kernel, by decide +kernel⟩, List.mem_of_getElem? (i := 84) (by decide +kernel), List.mem_of_getElem? (i := 623) (by decide +kernel), List.mem_of_getElem? (i := 624) (by decide +kernel)⟩
theorem lw_p24 : lw_okq (⟨"UrlGate$HostReader", "isNumeral", "(II)Z"⟩, 3) := ⟨⟨by decide +kernel, by decide +kernel⟩, List.mem_of_getElem? (i := 84) (by decide +kernel), List.mem_of_getElem? (i := 627) (by decide +kernel), List.mem_of_getElem? (i := 628) (by decide +kernel)⟩
theorem lw_p25 : lw_okq (⟨"UrlGate$HostReader", "isHex", "(II)Z"⟩, 3) := ⟨⟨by decide +kernel, by decide +kernel⟩, List.mem_of_getElem? (i := 84) (by decide +kernel), List.mem_of_getElem? (i := 631) (by decide +kernel), List.mem_of_getElem? (i := 632) (by decide +kernel)⟩
theorem lw_p26 : lw_okq (⟨"UrlGate$HostReader", "readFour", "(ILUrlGate$Host;)I"⟩, 3) := ⟨⟨by decide +kernel, by decide +kernel⟩, List.mem_of_getElem? (i := 84) (by decide +kernel), List.mem_of_getElem? (i := 636) (by decide +kernel), List.mem_of_getElem? (i := 637) (by decide +kernel)⟩
theorem lw_p27 : lw_okq (⟨"UrlGate$HostReader", "partEnd", "(II)I"⟩, 3) := ⟨⟨by decide +kernel, by decide +kernel⟩, List.mem_of_getElem? (i := 84) (by decide +kernel), List.mem_of_getElem? (i := 640) (by decide +kernel), List.mem_of_getElem? (i := 641) (by decide +kernel)⟩
theorem lw_p28 : lw_okq (⟨"UrlGate$HostReader", "numeralValue", "(II)J"⟩, 3) := ⟨⟨by decide +kernel, by decide +kernel⟩, List.mem_of_getElem? (i := 84) (by decide +kernel), List.mem_of_getElem? (i := 644) (by decide +kernel), List.mem_of_getElem? (i := 645) (by decide +kernel)⟩
theorem lw_p29 : lw_okq (⟨"UrlGate$UrlReader", "readPort", "(LUrlGate$Url;)I"⟩, 4) := ⟨⟨by decide +kernel, by decide +kernel⟩, List.mem_of_getElem? (i := 102) (by decide +kernel), List.mem_of_getElem? (i := 666) (by decide +kernel), List.mem_of_getElem? (i := 667) (by decide +kernel)⟩
theorem lw_p30 : lw_okq (⟨"UrlGate$UrlReader", "readSegments", "(LUrlGate$Url;)V"⟩, 4) := ⟨⟨by decide +kernel, by decide +kernel⟩, List.mem_of_getElem? (i := 102) (by decide +kernel), List.mem_of_getElem? (i := 675) (by decide +kernel), List.mem_of_getElem? (i := 676) (by decide +kernel)⟩
theorem lw_p31 : lw_okq (⟨"UrlGate$UrlReader", "takeSegment", "(IIZLUrlGate$Url;)V"⟩, 4) := ⟨⟨by decide +kernel, by decide +kernel⟩, List.mem_of_getElem? (i := 102) (by decide +kernel), List.mem_of_getElem? (i := 679) (by decide +kernel), List.mem_of_getElem? (i := 680) (by decide +kernel)⟩
def lw_privs_2 : List (MethodName × Nat) := [(⟨"UrlGate$HostReader", "spread", "(I)V"⟩, 3), (⟨"UrlGate$HostReader", "wordAt", "(I)I"⟩, 3), (⟨"UrlGate$Host", "firstLongestGap", "()I"⟩, 2), (⟨"UrlGate$Host", "zerosFrom", "(I)I"⟩, 2), (⟨"UrlGate$HostReader", "decode", "(LUrlGate$Row;II)V"⟩, 3), (⟨"UrlGate$HostReader", "hasWrongByte", "()Z"⟩, 3), (⟨"UrlGate$HostReader", "hasForeignPart", "()Z"⟩, 3), (⟨"UrlGate$HostReader", "lastPartStart", "(I)I"⟩, 3), (⟨"UrlGate$HostReader", "isNumeral", "(II)Z"⟩, 3), (⟨"UrlGate$HostReader", "isHex", "(II)Z"⟩, 3), (⟨"UrlGate$HostReader", "readFour", "(ILUrlGate$Host;)I"⟩, 3), (⟨"UrlGate$HostReader", "partEnd", "(II)I"⟩, 3), (⟨"UrlGate$HostReader", "numeralValue", "(II)J"⟩, 3), (⟨"UrlGate$UrlReader", "readPort", "(LUrlGate$Url;)I"⟩, 4), (⟨"UrlGate$UrlReader", "readSegments", "(LUrlGate$Url;)V"⟩, 4), (⟨"UrlGate$UrlReader", "takeSegment", "(IIZLUrlGate$Url;)V"⟩, 4)]
theorem lw_r2 : ∀ q ∈ lw_privs_2, lw_okq q := List.forall_mem_cons.mpr ⟨lw_p16, List.forall_mem_cons.mpr ⟨lw_p17, List.forall_mem_cons.mpr ⟨lw_p18, List.forall_mem_cons.mpr ⟨lw_p19, List.forall_mem_cons.mpr ⟨lw_p20, List.forall_mem_cons.mpr ⟨lw_p21, List.forall_mem_cons.mpr ⟨lw_p22, List.forall_mem_cons.mpr ⟨lw_p23, List.forall_mem_cons.mpr ⟨lw_p24, List.forall_mem_cons.mpr ⟨lw_p25, List.forall_mem_cons.mpr ⟨lw_p26, List.forall_mem_cons.mpr ⟨lw_p27, List.forall_mem_cons.mpr ⟨lw_p28, List.forall_mem_cons.mpr ⟨lw_p29, List.forall_mem_cons.mpr ⟨lw_p30, List.forall_mem_cons.mpr ⟨lw_p31, fun _ h => absurd h List.not_mem_nil⟩⟩⟩⟩⟩⟩⟩⟩⟩⟩⟩⟩⟩⟩⟩⟩
theorem lw_p32 : lw_okq (⟨"UrlGate$UrlReader", "pointsIn", "(II)I"⟩, 4) := ⟨⟨by decide +kernel, by decide +kernel⟩, List.mem_of_getElem? (i := 102) (by decide +kernel), List.mem_of_getElem? (i := 683) (by decide +kernel), List.mem_of_getElem? (i := 684) (by decide +kernel)⟩
theorem lw_p33 : lw_okq (⟨"UrlGate$UrlReader", "readQuery", "(LUrlGate$Url;)V"⟩, 4) := ⟨⟨by decide +kernel, by decide +kernel⟩, List.mem_of_getElem? (i := 102) (by decide +kernel), List.mem_of_getElem? (i := 695) (by decide +kernel), List.mem_of_getElem? (i := 696) (by decide +kernel)⟩
theorem lw_p34 : lw_okq (⟨"UrlGate$UrlReader", "readFragment", "(LUrlGate$Url;)V"⟩, 4) := ⟨⟨by decide +kernel, by decide +kernel⟩, List.mem_of_getElem? (i := 102) (by decide +kernel), List.mem_of_getElem? (i := 700) (by decide +kernel), List.mem_of_getElem? (i := 701) (by decide +kernel)⟩
theorem lw_p35 : lw_okq (⟨"UrlGate", "hearHost", "()I"⟩, 8) := ⟨⟨by decide +kernel, by decide +kernel⟩, List.mem_of_getElem? (i := 20) (by decide +kernel), List.mem_of_getElem? (i := 781) (by decide +kernel), List.mem_of_getElem? (i := 782) (by decide +kernel)⟩
theorem lw_p36 : lw_okq (⟨"UrlGate$Gate", "isListed", "(LUrlGate$Host;)Z"⟩, 9) := ⟨⟨by decide +kernel, by decide +kernel⟩, List.mem_of_getElem? (i := 123) (by decide +kernel), List.mem_of_getElem? (i := 833) (by decide +kernel), List.mem_of_getElem? (i := 834) (by decide +kernel)⟩
theorem lw_p37 : lw_okq (⟨"UrlGate$Gate", "judgeAnswers", "(LUrlGate$Row;)I"⟩, 9) := ⟨⟨by decide +kernel, by decide +kernel⟩, List.mem_of_getElem? (i := 123) (by decide +kernel), List.mem_of_getElem? (i := 844) (by decide +kernel), List.mem_of_getElem? (i := 845) (by decide +kernel)⟩
theorem lw_p38 : lw_okq (⟨"UrlGate$Gate", "isInSomeRange", "(LUrlGate$Address;)Z"⟩, 9) := ⟨⟨by decide +kernel, by decide +kernel⟩, List.mem_of_getElem? (i := 123) (by decide +kernel), List.mem_of_getElem? (i := 849) (by decide +kernel), List.mem_of_getElem? (i := 850) (by decide +kernel)⟩
theorem lw_p39 : lw_okq (⟨"UrlGate$Address", "isFourInSix", "()Z"⟩, 2) := ⟨⟨by decide +kernel, by decide +kernel⟩, List.mem_of_getElem? (i := 55) (by decide +kernel), List.mem_of_getElem? (i := 857) (by decide +kernel), List.mem_of_getElem? (i := 858) (by decide +kernel)⟩
theorem lw_p40 : lw_okq (⟨"UrlGateModel", "has", "(I)Z"⟩, 35) := ⟨⟨by decide +kernel, by decide +kernel⟩, List.mem_of_getElem? (i := 864) (by decide +kernel), List.mem_of_getElem? (i := 996) (by decide +kernel), List.mem_of_getElem? (i := 997) (by decide +kernel)⟩
theorem lw_p41 : lw_okq (⟨"UrlGateModel", "takeText", "()V"⟩, 35) := ⟨⟨by decide +kernel, by decide +kernel⟩, List.mem_of_getElem? (i := 864) (by decide +kernel), List.mem_of_getElem? (i := 1000) (by decide +kernel), List.mem_of_getElem? (i := 1001) (by decide +kernel)⟩
theorem lw_p42 : lw_okq (⟨"UrlGateModel", "readScheme", "(I)V"⟩, 35) := ⟨⟨by decide +kernel, by decide +kernel⟩, List.mem_of_getElem? (i := 864) (by decide +kernel), List.mem_of_getElem? (i := 1004) (by decide +kernel), List.mem_of_getElem? (i := 1005) (by decide +kernel)⟩
theorem lw_p43 : lw_okq (⟨"UrlGateModel", "byteAt", "(I)I"⟩, 35) := ⟨⟨by decide +kernel, by decide +kernel⟩, List.mem_of_getElem? (i := 864) (by decide +kernel), List.mem_of_getElem? (i := 1008) (by decide +kernel), List.mem_of_getElem? (i := 1009) (by decide +kernel)⟩
theorem lw_p44 : lw_okq (⟨"UrlGateModel", "readRelative", "(II)V"⟩, 35) := ⟨⟨by decide +kernel, by decide +kernel⟩, List.mem_of_getElem? (i := 864) (by decide +kernel), List.mem_of_getElem? (i := 1021) (by decide +kernel), List.mem_of_getElem? (i := 1022) (by decide +kernel)⟩
theorem lw_p45 : lw_okq (⟨"UrlGateModel", "readSlashes", "(I)V"⟩, 35) := ⟨⟨by decide +kernel, by decide +kernel⟩, List.mem_of_getElem? (i := 864) (by decide +kernel), List.mem_of_getElem? (i := 1028) (by decide +kernel), List.mem_of_getElem? (i := 1029) (by decide +kernel)⟩
theorem lw_p46 : lw_okq (⟨"UrlGateModel", "isOver", "(I)Z"⟩, 35) := ⟨⟨by decide +kernel, by decide +kernel⟩, List.mem_of_getElem? (i := 864) (by decide +kernel), List.mem_of_getElem? (i := 1032) (by decide +kernel), List.mem_of_getElem? (i := 1033) (by decide +kernel)⟩
theorem lw_p47 : lw_okq (⟨"UrlGateModel", "addEscaped", "(III)V"⟩, 35) := ⟨⟨by decide +kernel, by decide +kernel⟩, List.mem_of_getElem? (i := 864) (by decide +kernel), List.mem_of_getElem? (i := 1036) (by decide +kernel), List.mem_of_getElem? (i := 1037) (by decide +kernel)⟩
def lw_privs_3 : List (MethodName × Nat) := [(⟨"UrlGate$UrlReader", "pointsIn", "(II)I"⟩, 4), (⟨"UrlGate$UrlReader", "readQuery", "(LUrlGate$Url;)V"⟩, 4), (⟨"UrlGate$UrlReader", "readFragment", "(LUrlGate$Url;)V"⟩, 4), (⟨"UrlGate", "hearHost", "()I"⟩, 8), (⟨"UrlGate$Gate", "isListed", "(LUrlGate$Host;)Z"⟩, 9), (⟨"UrlGate$Gate", "judgeAnswers", "(LUrlGate$Row;)I"⟩, 9), (⟨"UrlGate$Gate", "isInSomeRange", "(LUrlGate$Address;)Z"⟩, 9), (⟨"UrlGate$Address", "isFourInSix", "()Z"⟩, 2), (⟨"UrlGateModel", "has", "(I)Z"⟩, 35), (⟨"UrlGateModel", "takeText", "()V"⟩, 35), (⟨"UrlGateModel", "readScheme", "(I)V"⟩, 35), (⟨"UrlGateModel", "byteAt", "(I)I"⟩, 35), (⟨"UrlGateModel", "readRelative", "(II)V"⟩, 35), (⟨"UrlGateModel", "readSlashes", "(I)V"⟩, 35), (⟨"UrlGateModel", "isOver", "(I)Z"⟩, 35), (⟨"UrlGateModel", "addEscaped", "(III)V"⟩, 35)]
theorem lw_r3 : ∀ q ∈ lw_privs_3, lw_okq q := List.forall_mem_cons.mpr ⟨lw_p32, List.forall_mem_cons.mpr ⟨lw_p33, List.forall_mem_cons.mpr ⟨lw_p34, List.forall_mem_cons.mpr ⟨lw_p35, List.forall_mem_cons.mpr ⟨lw_p36, List.forall_mem_cons.mpr ⟨lw_p37, List.forall_mem_cons.mpr ⟨lw_p38, List.forall_mem_cons.mpr ⟨lw_p39, List.forall_mem_cons.mpr ⟨lw_p40, List.forall_mem_cons.mpr ⟨lw_p41, List.forall_mem_cons.mpr ⟨lw_p42, List.forall_mem_cons.mpr ⟨lw_p43, List.forall_mem_cons.mpr ⟨lw_p44, List.forall_mem_cons.mpr ⟨lw_p45, List.forall_mem_cons.mpr ⟨lw_p46, List.forall_mem_cons.mpr ⟨lw_p47, fun _ h => absurd h List.not_mem_nil⟩⟩⟩⟩⟩⟩⟩⟩⟩⟩⟩⟩⟩⟩⟩⟩
theorem lw_p48 : lw_okq (⟨"UrlGateModel", "add", "(II)V"⟩, 35) := ⟨⟨by decide +kernel, by decide +kernel⟩, List.mem_of_getElem? (i := 864) (by decide +kernel), List.mem_of_getElem? (i := 1043) (by decide +kernel), List.mem_of_getElem? (i := 1044) (by decide +kernel)⟩
theorem lw_p49 : lw_okq (⟨"UrlGateModel", "readHost", "(II)I"⟩, 35) := ⟨⟨by decide +kernel, by decide +kernel⟩, List.mem_of_getElem? (i := 864) (by decide +kernel), List.mem_of_getElem? (i := 1050) (by decide +kernel), List.mem_of_getElem? (i := 1051) (by decide +kernel)⟩
theorem lw_p50 : lw_okq (⟨"UrlGateModel", "readSix", "(II)I"⟩, 35) := ⟨⟨by decide +kernel, by decide +kernel⟩, List.mem_of_getElem? (i := 864) (by decide +kernel), List.mem_of_getElem? (i := 1054) (by decide +kernel), List.mem_of_getElem? (i := 1055) (by decide +kernel)⟩
theorem lw_p51 : lw_okq (⟨"UrlGateModel", "readNumbers", "(III)I"⟩, 35) := ⟨⟨by decide +kernel, by decide +kernel⟩, List.mem_of_getElem? (i := 864) (by decide +kernel), List.mem_of_getElem? (i := 1061) (by decide +kernel), List.mem_of_getElem? (i := 1062) (by decide +kernel)⟩
theorem lw_p52 : lw_okq (⟨"UrlGateModel", "readFour", "()I"⟩, 35) := ⟨⟨by decide +kernel, by decide +kernel⟩, List.mem_of_getElem? (i := 864) (by decide +kernel), List.mem_of_getElem? (i := 1070) (by decide +kernel), List.mem_of_getElem? (i := 1071) (by decide +kernel)⟩
theorem lw_p53 : lw_okq (⟨"UrlGateModel", "numberOf", "(II)J"⟩, 35) := ⟨⟨by decide +kernel, by decide +kernel⟩, List.mem_of_getElem? (i := 864) (by decide +kernel), List.mem_of_getElem? (i := 1074) (by decide +kernel), List.mem_of_getElem? (i := 1075) (by decide +kernel)⟩
theorem lw_p54 : lw_okq (⟨"UrlGateModel", "readPort", "(II)V"⟩, 35) := ⟨⟨by decide +kernel, by decide +kernel⟩, List.mem_of_getElem? (i := 864) (by decide +kernel), List.mem_of_getElem? (i := 1082) (by decide +kernel), List.mem_of_getElem? (i := 1083) (by decide +kernel)⟩
theorem lw_p55 : lw_okq (⟨"UrlGateModel", "readPath", "(I)V"⟩, 35) := ⟨⟨by decide +kernel, by decide +kernel⟩, List.mem_of_getElem? (i := 864) (by decide +kernel), List.mem_of_getElem? (i := 1091) (by decide +kernel), List.mem_of_getElem? (i := 1092) (by decide +kernel)⟩
theorem lw_p56 : lw_okq (⟨"UrlGateModel", "points", "(II)I"⟩, 35) := ⟨⟨by decide +kernel, by decide +kernel⟩, List.mem_of_getElem? (i := 864) (by decide +kernel), List.mem_of_getElem? (i := 1095) (by decide +kernel), List.mem_of_getElem? (i := 1096) (by decide +kernel)⟩
theorem lw_p57 : lw_okq (⟨"UrlGateModel", "dropSegment", "()V"⟩, 35) := ⟨⟨by decide +kernel, by decide +kernel⟩, List.mem_of_getElem? (i := 864) (by decide +kernel), List.mem_of_getElem? (i := 1099) (by decide +kernel), List.mem_of_getElem? (i := 1100) (by decide +kernel)⟩
theorem lw_p58 : lw_okq (⟨"UrlGateModel", "row", "(II)I"⟩, 35) := ⟨⟨by decide +kernel, by decide +kernel⟩, List.mem_of_getElem? (i := 864) (by decide +kernel), List.mem_of_getElem? (i := 1103) (by decide +kernel), List.mem_of_getElem? (i := 1104) (by decide +kernel)⟩
theorem lw_p59 : lw_okq (⟨"UrlGateModel", "readTail", "(I)V"⟩, 35) := ⟨⟨by decide +kernel, by decide +kernel⟩, List.mem_of_getElem? (i := 864) (by decide +kernel), List.mem_of_getElem? (i := 1108) (by decide +kernel), List.mem_of_getElem? (i := 1109) (by decide +kernel)⟩
theorem lw_p60 : lw_okq (⟨"UrlGateModel", "copyHost", "(II)V"⟩, 35) := ⟨⟨by decide +kernel, by decide +kernel⟩, List.mem_of_getElem? (i := 864) (by decide +kernel), List.mem_of_getElem? (i := 1112) (by decide +kernel), List.mem_of_getElem? (i := 1113) (by decide +kernel)⟩
theorem lw_p61 : lw_okq (⟨"UrlGateModel", "copyPart", "(III)V"⟩, 35) := ⟨⟨by decide +kernel, by decide +kernel⟩, List.mem_of_getElem? (i := 864) (by decide +kernel), List.mem_of_getElem? (i := 1116) (by decide +kernel), List.mem_of_getElem? (i := 1117) (by decide +kernel)⟩
theorem lw_p62 : lw_okq (⟨"UrlGateModel", "sizeOf", "(II)I"⟩, 35) := ⟨⟨by decide +kernel, by decide +kernel⟩, List.mem_of_getElem? (i := 864) (by decide +kernel), List.mem_of_getElem? (i := 1120) (by decide +kernel), List.mem_of_getElem? (i := 1121) (by decide +kernel)⟩
theorem lw_p63 : lw_okq (⟨"UrlGateModel", "isWord", "(II)Z"⟩, 35) := ⟨⟨by decide +kernel, by decide +kernel⟩, List.mem_of_getElem? (i := 864) (by decide +kernel), List.mem_of_getElem? (i := 1124) (by decide +kernel), List.mem_of_getElem? (i := 1125) (by decide +kernel)⟩
def lw_privs_4 : List (MethodName × Nat) := [(⟨"UrlGateModel", "add", "(II)V"⟩, 35), (⟨"UrlGateModel", "readHost", "(II)I"⟩, 35), (⟨"UrlGateModel", "readSix", "(II)I"⟩, 35), (⟨"UrlGateModel", "readNumbers", "(III)I"⟩, 35), (⟨"UrlGateModel", "readFour", "()I"⟩, 35), (⟨"UrlGateModel", "numberOf", "(II)J"⟩, 35), (⟨"UrlGateModel", "readPort", "(II)V"⟩, 35), (⟨"UrlGateModel", "readPath", "(I)V"⟩, 35), (⟨"UrlGateModel", "points", "(II)I"⟩, 35), (⟨"UrlGateModel", "dropSegment", "()V"⟩, 35), (⟨"UrlGateModel", "row", "(II)I"⟩, 35), (⟨"UrlGateModel", "readTail", "(I)V"⟩, 35), (⟨"UrlGateModel", "copyHost", "(II)V"⟩, 35), (⟨"UrlGateModel", "copyPart", "(III)V"⟩, 35), (⟨"UrlGateModel", "sizeOf", "(II)I"⟩, 35), (⟨"UrlGateModel", "isWord", "(II)Z"⟩, 35)]
theorem lw_r4 : ∀ q ∈ lw_privs_4, lw_okq q := List.forall_mem_cons.mpr ⟨lw_p48, List.forall_mem_cons.mpr ⟨lw_p49, List.forall_mem_cons.mpr ⟨lw_p50, List.forall_mem_cons.mpr ⟨lw_p51, List.forall_mem_cons.mpr ⟨lw_p52, List.forall_mem_cons.mpr ⟨lw_p53, List.forall_mem_cons.mpr ⟨lw_p54, List.forall_mem_cons.mpr ⟨lw_p55, List.forall_mem_cons.mpr ⟨lw_p56, List.forall_mem_cons.mpr ⟨lw_p57, List.forall_mem_cons.mpr ⟨lw_p58, List.forall_mem_cons.mpr ⟨lw_p59, List.forall_mem_cons.mpr ⟨lw_p60, List.forall_mem_cons.mpr ⟨lw_p61, List.forall_mem_cons.mpr ⟨lw_p62, List.forall_mem_cons.mpr ⟨lw_p63, fun _ h => absurd h List.not_mem_nil⟩⟩⟩⟩⟩⟩⟩⟩⟩⟩⟩⟩⟩⟩⟩⟩
theorem lw_p64 : lw_okq (⟨"UrlGateModel", "writtenLength", "(I)I"⟩, 35) := ⟨⟨by decide +kernel, by decide +kernel⟩, List.mem_of_getElem? (i := 864) (by decide +kernel), List.mem_of_getElem? (i := 1140) (by decide +kernel), List.mem_of_getElem? (i := 1141) (by decide +kernel)⟩
theorem lw_p65 : lw_okq (⟨"UrlGateModel", "writeHost", "(I)V"⟩, 35) := ⟨⟨by decide +kernel, by decide +kernel⟩, List.mem_of_getElem? (i := 864) (by decide +kernel), List.mem_of_getElem? (i := 1144) (by decide +kernel), List.mem_of_getElem? (i := 1145) (by decide +kernel)⟩
theorem lw_p66 : lw_okq (⟨"UrlGateModel", "put", "(I)V"⟩, 35) := ⟨⟨by decide +kernel, by decide +kernel⟩, List.mem_of_getElem? (i := 864) (by decide +kernel), List.mem_of_getElem? (i := 1148) (by decide +kernel), List.mem_of_getElem? (i := 1149) (by decide +kernel)⟩
theorem lw_p67 : lw_okq (⟨"UrlGateModel", "putDecimal", "(I)V"⟩, 35) := ⟨⟨by decide +kernel, by decide +kernel⟩, List.mem_of_getElem? (i := 864) (by decide +kernel), List.mem_of_getElem? (i := 1152) (by decide +kernel), List.mem_of_getElem? (i := 1153) (by decide +kernel)⟩
theorem lw_p68 : lw_okq (⟨"UrlGateModel", "writeSix", "(I)V"⟩, 35) := ⟨⟨by decide +kernel, by decide +kernel⟩, List.mem_of_getElem? (i := 864) (by decide +kernel), List.mem_of_getElem? (i := 1156) (by decide +kernel), List.mem_of_getElem? (i := 1157) (by decide +kernel)⟩
theorem lw_p69 : lw_okq (⟨"UrlGateModel", "putHex", "(I)V"⟩, 35) := ⟨⟨by decide +kernel, by decide +kernel⟩, List.mem_of_getElem? (i := 864) (by decide +kernel), List.mem_of_getElem? (i := 1160) (by decide +kernel), List.mem_of_getElem? (i := 1161) (by decide +kernel)⟩
theorem lw_p70 : lw_okq (⟨"UrlGateModel", "say", "(I)V"⟩, 35) := ⟨⟨by decide +kernel, by decide +kernel⟩, List.mem_of_getElem? (i := 864) (by decide +kernel), List.mem_of_getElem? (i := 1171) (by decide +kernel), List.mem_of_getElem? (i := 1172) (by decide +kernel)⟩
theorem lw_p71 : lw_okq (⟨"UrlGateModel", "sayPart", "(II)V"⟩, 35) := ⟨⟨by decide +kernel, by decide +kernel⟩, List.mem_of_getElem? (i := 864) (by decide +kernel), List.mem_of_getElem? (i := 1175) (by decide +kernel), List.mem_of_getElem? (i := 1176) (by decide +kernel)⟩
theorem lw_p72 : lw_okq (⟨"UrlGateModel", "sayWritten", "()V"⟩, 35) := ⟨⟨by decide +kernel, by decide +kernel⟩, List.mem_of_getElem? (i := 864) (by decide +kernel), List.mem_of_getElem? (i := 1179) (by decide +kernel), List.mem_of_getElem? (i := 1180) (by decide +kernel)⟩
theorem lw_p73 : lw_okq (⟨"UrlGateModel", "readTextHost", "()I"⟩, 35) := ⟨⟨by decide +kernel, by decide +kernel⟩, List.mem_of_getElem? (i := 864) (by decide +kernel), List.mem_of_getElem? (i := 1209) (by decide +kernel), List.mem_of_getElem? (i := 1210) (by decide +kernel)⟩
theorem lw_p74 : lw_okq (⟨"UrlGateModel", "isListed", "(I)Z"⟩, 35) := ⟨⟨by decide +kernel, by decide +kernel⟩, List.mem_of_getElem? (i := 864) (by decide +kernel), List.mem_of_getElem? (i := 1229) (by decide +kernel), List.mem_of_getElem? (i := 1230) (by decide +kernel)⟩
theorem lw_p75 : lw_okq (⟨"UrlGateModel", "isInRange", "(IIIII)Z"⟩, 35) := ⟨⟨by decide +kernel, by decide +kernel⟩, List.mem_of_getElem? (i := 864) (by decide +kernel), List.mem_of_getElem? (i := 1233) (by decide +kernel), List.mem_of_getElem? (i := 1234) (by decide +kernel)⟩
theorem lw_p76 : lw_okq (⟨"UrlGateModel", "pair", "(II)I"⟩, 35) := ⟨⟨by decide +kernel, by decide +kernel⟩, List.mem_of_getElem? (i := 864) (by decide +kernel), List.mem_of_getElem? (i := 1237) (by decide +kernel), List.mem_of_getElem? (i := 1238) (by decide +kernel)⟩
def lw_privs_5 : List (MethodName × Nat) := [(⟨"UrlGateModel", "writtenLength", "(I)I"⟩, 35), (⟨"UrlGateModel", "writeHost", "(I)V"⟩, 35), (⟨"UrlGateModel", "put", "(I)V"⟩, 35), (⟨"UrlGateModel", "putDecimal", "(I)V"⟩, 35), (⟨"UrlGateModel", "writeSix", "(I)V"⟩, 35), (⟨"UrlGateModel", "putHex", "(I)V"⟩, 35), (⟨"UrlGateModel", "say", "(I)V"⟩, 35), (⟨"UrlGateModel", "sayPart", "(II)V"⟩, 35), (⟨"UrlGateModel", "sayWritten", "()V"⟩, 35), (⟨"UrlGateModel", "readTextHost", "()I"⟩, 35), (⟨"UrlGateModel", "isListed", "(I)Z"⟩, 35), (⟨"UrlGateModel", "isInRange", "(IIIII)Z"⟩, 35), (⟨"UrlGateModel", "pair", "(II)I"⟩, 35)]
theorem lw_r5 : ∀ q ∈ lw_privs_5, lw_okq q := List.forall_mem_cons.mpr ⟨lw_p64, List.forall_mem_cons.mpr ⟨lw_p65, List.forall_mem_cons.mpr ⟨lw_p66, List.forall_mem_cons.mpr ⟨lw_p67, List.forall_mem_cons.mpr ⟨lw_p68, List.forall_mem_cons.mpr ⟨lw_p69, List.forall_mem_cons.mpr ⟨lw_p70, List.forall_mem_cons.mpr ⟨lw_p71, List.forall_mem_cons.mpr ⟨lw_p72, List.forall_mem_cons.mpr ⟨lw_p73, List.forall_mem_cons.mpr ⟨lw_p74, List.forall_mem_cons.mpr ⟨lw_p75, List.forall_mem_cons.mpr ⟨lw_p76, fun _ h => absurd h List.not_mem_nil⟩⟩⟩⟩⟩⟩⟩⟩⟩⟩⟩⟩⟩
def lw_privs : List (MethodName × Nat) := lw_privs_1 ++ (lw_privs_2 ++ (lw_privs_3 ++ (lw_privs_4 ++ (lw_privs_5))))
def lw_tbl : List Cond := k2_sels lw_privs ++ tables_1
theorem lw_privs_ok : ∀ q ∈ lw_privs, lw_okq q := by
  show ∀ q ∈ lw_privs_1 ++ (lw_privs_2 ++ (lw_privs_3 ++ (lw_privs_4 ++ (lw_privs_5)))), lw_okq q
  exact List.forall_mem_append.mpr ⟨lw_r1, List.forall_mem_append.mpr ⟨lw_r2, List.forall_mem_append.mpr ⟨lw_r3, List.forall_mem_append.mpr ⟨lw_r4, lw_r5⟩⟩⟩⟩
-- ===== end of PART A; then your names; then what follows =====
end
section
def RX0 : String := "UrlGate$Address"
def TX0 : u_T := fun k => match k with
  | 0 => ("UrlGate$Address", "kind", "I", false)
  | _ => ("UrlGate$Address", "words", "[I", true)
def tyX0 : Nat → FieldType := fun k => match k with
  | 0 => .int
  | _ => .array .int
theorem nmX0 : ∀ a, a < 2 → ∀ b, b < 2 → a ≠ b → (TX0 a).2.1 ≠ (TX0 b).2.1 := by decide +kernel
theorem tyX0_ok : ∀ k, k < 2 → parseFieldDescriptor (TX0 k).2.2.1 = some (tyX0 k) := by decide +kernel
abbrev cX0_init : ByteArray := prog_2_method_1_code
def yX0_init : MethodName := ⟨RX0, "<init>", "()V"⟩
abbrev cX0_setTo : ByteArray := prog_2_method_2_code
def yX0_setTo : MethodName := ⟨RX0, "setTo", "(IIIII)V"⟩
abbrev cX0_take : ByteArray := prog_2_method_3_code
def yX0_take : MethodName := ⟨RX0, "take", "(LUrlGate$Address;)V"⟩
abbrev cX0_numberAt : ByteArray := prog_2_method_4_code
def yX0_numberAt : MethodName := ⟨RX0, "numberAt", "(I)I"⟩
abbrev cX0_isIn : ByteArray := prog_2_method_5_code
def yX0_isIn : MethodName := ⟨RX0, "isIn", "(LUrlGate$Address;I)Z"⟩
abbrev cX0_isFourInSix : ByteArray := prog_2_method_6_code
def yX0_isFourInSix : MethodName := ⟨RX0, "isFourInSix", "()Z"⟩
abbrev cX0_agree : ByteArray := prog_2_method_7_code
def yX0_agree : MethodName := ⟨RX0, "agree", "(III)Z"⟩
def RX1 : String := "UrlGate$Bytes"
def TX1 : u_T := fun k => match k with
  | _ => ("", "", "", false)
def tyX1 : Nat → FieldType := fun k => match k with
  | _ => .int
theorem nmX1 : ∀ a, a < 0 → ∀ b, b < 0 → a ≠ b → (TX1 a).2.1 ≠ (TX1 b).2.1 := by decide +kernel
theorem tyX1_ok : ∀ k, k < 0 → parseFieldDescriptor (TX1 k).2.2.1 = some (tyX1 k) := by decide +kernel
abbrev cX1_isDigit : ByteArray := prog_3_method_2_code
def yX1_isDigit : MethodName := ⟨RX1, "isDigit", "(I)Z"⟩
abbrev cX1_isLetter : ByteArray := prog_3_method_3_code
def yX1_isLetter : MethodName := ⟨RX1, "isLetter", "(I)Z"⟩
abbrev cX1_low : ByteArray := prog_3_method_4_code
def yX1_low : MethodName := ⟨RX1, "low", "(I)I"⟩
abbrev cX1_isSlash : ByteArray := prog_3_method_5_code
def yX1_isSlash : MethodName := ⟨RX1, "isSlash", "(I)Z"⟩
abbrev cX1_isDivider : ByteArray := prog_3_method_6_code
def yX1_isDivider : MethodName := ⟨RX1, "isDivider", "(I)Z"⟩
abbrev cX1_hexValue : ByteArray := prog_3_method_7_code
def yX1_hexValue : MethodName := ⟨RX1, "hexValue", "(I)I"⟩
abbrev cX1_isToEscape : ByteArray := prog_3_method_8_code
def yX1_isToEscape : MethodName := ⟨RX1, "isToEscape", "(ILjava/lang/String;)Z"⟩
abbrev cX1_isWrongInName : ByteArray := prog_3_method_9_code
def yX1_isWrongInName : MethodName := ⟨RX1, "isWrongInName", "(I)Z"⟩
def RX2 : String := "UrlGate$Gate"
def TX2 : u_T := fun k => match k with
  | 0 => ("UrlGate$Gate", "hosts", "[LUrlGate$Host;", true)
  | 1 => ("UrlGate$Gate", "open", "[Z", true)
  | 2 => ("UrlGate$Gate", "hostCount", "I", false)
  | 3 => ("UrlGate$Gate", "names", "[LUrlGate$Row;", true)
  | 4 => ("UrlGate$Gate", "answers", "[LUrlGate$Address;", true)
  | 5 => ("UrlGate$Gate", "answerCount", "I", false)
  | 6 => ("UrlGate$Gate", "ranges", "[LUrlGate$Address;", true)
  | 7 => ("UrlGate$Gate", "rangeBits", "[I", true)
  | _ => ("UrlGate$Gate", "rangeCount", "I", false)
def tyX2 : Nat → FieldType := fun k => match k with
  | 0 => .array (.object "UrlGate$Host")
  | 1 => .array .boolean
  | 2 => .int
  | 3 => .array (.object "UrlGate$Row")
  | 4 => .array (.object "UrlGate$Address")
  | 5 => .int
  | 6 => .array (.object "UrlGate$Address")
  | 7 => .array .int
  | _ => .int
theorem nmX2 : ∀ a, a < 9 → ∀ b, b < 9 → a ≠ b → (TX2 a).2.1 ≠ (TX2 b).2.1 := by decide +kernel
theorem tyX2_ok : ∀ k, k < 9 → parseFieldDescriptor (TX2 k).2.2.1 = some (tyX2 k) := by decide +kernel
abbrev cX2_init : ByteArray := prog_4_method_1_code
def yX2_init : MethodName := ⟨RX2, "<init>", "()V"⟩
abbrev cX2_addHost : ByteArray := prog_4_method_2_code
def yX2_addHost : MethodName := ⟨RX2, "addHost", "(LUrlGate$Host;Z)I"⟩
abbrev cX2_addAnswer : ByteArray := prog_4_method_3_code
def yX2_addAnswer : MethodName := ⟨RX2, "addAnswer", "(LUrlGate$Row;IIIII)I"⟩
abbrev cX2_addRange : ByteArray := prog_4_method_4_code
def yX2_addRange : MethodName := ⟨RX2, "addRange", "(IIIIII)I"⟩
abbrev cX2_forget : ByteArray := prog_4_method_5_code
def yX2_forget : MethodName := ⟨RX2, "forget", "()I"⟩
abbrev cX2_judge : ByteArray := prog_4_method_6_code
def yX2_judge : MethodName := ⟨RX2, "judge", "(LUrlGate$Url;)I"⟩
abbrev cX2_isListed : ByteArray := prog_4_method_7_code
def yX2_isListed : MethodName := ⟨RX2, "isListed", "(LUrlGate$Host;)Z"⟩
abbrev cX2_isBelow : ByteArray := prog_4_method_8_code
def yX2_isBelow : MethodName := ⟨RX2, "isBelow", "(LUrlGate$Host;LUrlGate$Host;)Z"⟩
abbrev cX2_judgeAnswers : ByteArray := prog_4_method_9_code
def yX2_judgeAnswers : MethodName := ⟨RX2, "judgeAnswers", "(LUrlGate$Row;)I"⟩
abbrev cX2_isInSomeRange : ByteArray := prog_4_method_10_code
def yX2_isInSomeRange : MethodName := ⟨RX2, "isInSomeRange", "(LUrlGate$Address;)Z"⟩
def RX3 : String := "UrlGate$Host"
def TX3 : u_T := fun k => match k with
  | 0 => ("UrlGate$Host", "address", "LUrlGate$Address;", true)
  | _ => ("UrlGate$Host", "written", "LUrlGate$Row;", true)
def tyX3 : Nat → FieldType := fun k => match k with
  | 0 => .object "UrlGate$Address"
  | _ => .object "UrlGate$Row"
theorem nmX3 : ∀ a, a < 2 → ∀ b, b < 2 → a ≠ b → (TX3 a).2.1 ≠ (TX3 b).2.1 := by decide +kernel
theorem tyX3_ok : ∀ k, k < 2 → parseFieldDescriptor (TX3 k).2.2.1 = some (tyX3 k) := by decide +kernel
abbrev cX3_init : ByteArray := prog_5_method_1_code
def yX3_init : MethodName := ⟨RX3, "<init>", "()V"⟩
abbrev cX3_isName : ByteArray := prog_5_method_2_code
def yX3_isName : MethodName := ⟨RX3, "isName", "()Z"⟩
abbrev cX3_take : ByteArray := prog_5_method_3_code
def yX3_take : MethodName := ⟨RX3, "take", "(LUrlGate$Host;)V"⟩
abbrev cX3_equalsHost : ByteArray := prog_5_method_4_code
def yX3_equalsHost : MethodName := ⟨RX3, "equalsHost", "(LUrlGate$Host;)Z"⟩
abbrev cX3_setName : ByteArray := prog_5_method_5_code
def yX3_setName : MethodName := ⟨RX3, "setName", "(LUrlGate$Row;)V"⟩
abbrev cX3_setFour : ByteArray := prog_5_method_6_code
def yX3_setFour : MethodName := ⟨RX3, "setFour", "(I)V"⟩
abbrev cX3_setSix : ByteArray := prog_5_method_7_code
def yX3_setSix : MethodName := ⟨RX3, "setSix", "(IIII)V"⟩
abbrev cX3_firstLongestGap : ByteArray := prog_5_method_8_code
def yX3_firstLongestGap : MethodName := ⟨RX3, "firstLongestGap", "()I"⟩
abbrev cX3_zerosFrom : ByteArray := prog_5_method_9_code
def yX3_zerosFrom : MethodName := ⟨RX3, "zerosFrom", "(I)I"⟩
def RX4 : String := "UrlGate$HostReader"
def TX4 : u_T := fun k => match k with
  | 0 => ("UrlGate$HostReader", "name", "LUrlGate$Row;", true)
  | 1 => ("UrlGate$HostReader", "pieces", "[I", true)
  | _ => ("UrlGate$HostReader", "pieceCount", "I", false)
def tyX4 : Nat → FieldType := fun k => match k with
  | 0 => .object "UrlGate$Row"
  | 1 => .array .int
  | _ => .int
theorem nmX4 : ∀ a, a < 3 → ∀ b, b < 3 → a ≠ b → (TX4 a).2.1 ≠ (TX4 b).2.1 := by decide +kernel
theorem tyX4_ok : ∀ k, k < 3 → parseFieldDescriptor (TX4 k).2.2.1 = some (tyX4 k) := by decide +kernel
abbrev cX4_init : ByteArray := prog_6_method_1_code
def yX4_init : MethodName := ⟨RX4, "<init>", "()V"⟩
abbrev cX4_readHost : ByteArray := prog_6_method_2_code
def yX4_readHost : MethodName := ⟨RX4, "readHost", "(LUrlGate$Row;IILUrlGate$Host;)I"⟩
abbrev cX4_decode : ByteArray := prog_6_method_3_code
def yX4_decode : MethodName := ⟨RX4, "decode", "(LUrlGate$Row;II)V"⟩
abbrev cX4_hasWrongByte : ByteArray := prog_6_method_4_code
def yX4_hasWrongByte : MethodName := ⟨RX4, "hasWrongByte", "()Z"⟩
abbrev cX4_hasForeignPart : ByteArray := prog_6_method_5_code
def yX4_hasForeignPart : MethodName := ⟨RX4, "hasForeignPart", "()Z"⟩
abbrev cX4_lastPartStart : ByteArray := prog_6_method_6_code
def yX4_lastPartStart : MethodName := ⟨RX4, "lastPartStart", "(I)I"⟩
abbrev cX4_isNumeral : ByteArray := prog_6_method_7_code
def yX4_isNumeral : MethodName := ⟨RX4, "isNumeral", "(II)Z"⟩
abbrev cX4_isHex : ByteArray := prog_6_method_8_code
def yX4_isHex : MethodName := ⟨RX4, "isHex", "(II)Z"⟩
abbrev cX4_readFour : ByteArray := prog_6_method_9_code
def yX4_readFour : MethodName := ⟨RX4, "readFour", "(ILUrlGate$Host;)I"⟩
abbrev cX4_partEnd : ByteArray := prog_6_method_10_code
def yX4_partEnd : MethodName := ⟨RX4, "partEnd", "(II)I"⟩
abbrev cX4_numeralValue : ByteArray := prog_6_method_11_code
def yX4_numeralValue : MethodName := ⟨RX4, "numeralValue", "(II)J"⟩
abbrev cX4_readSix : ByteArray := prog_6_method_12_code
def yX4_readSix : MethodName := ⟨RX4, "readSix", "(LUrlGate$Row;IILUrlGate$Host;)I"⟩
abbrev cX4_findGap : ByteArray := prog_6_method_13_code
def yX4_findGap : MethodName := ⟨RX4, "findGap", "(LUrlGate$Row;II)I"⟩
abbrev cX4_readPieces : ByteArray := prog_6_method_14_code
def yX4_readPieces : MethodName := ⟨RX4, "readPieces", "(LUrlGate$Row;IIZ)Z"⟩
abbrev cX4_readPiece : ByteArray := prog_6_method_15_code
def yX4_readPiece : MethodName := ⟨RX4, "readPiece", "(LUrlGate$Row;II)Z"⟩
abbrev cX4_readPoints : ByteArray := prog_6_method_16_code
def yX4_readPoints : MethodName := ⟨RX4, "readPoints", "(LUrlGate$Row;II)Z"⟩
abbrev cX4_addPiece : ByteArray := prog_6_method_17_code
def yX4_addPiece : MethodName := ⟨RX4, "addPiece", "(I)Z"⟩
abbrev cX4_spread : ByteArray := prog_6_method_18_code
def yX4_spread : MethodName := ⟨RX4, "spread", "(I)V"⟩
abbrev cX4_wordAt : ByteArray := prog_6_method_19_code
def yX4_wordAt : MethodName := ⟨RX4, "wordAt", "(I)I"⟩
def RX5 : String := "UrlGate$Row"
def TX5 : u_T := fun k => match k with
  | 0 => ("UrlGate$Row", "bytes", "[I", false)
  | _ => ("UrlGate$Row", "length", "I", false)
def tyX5 : Nat → FieldType := fun k => match k with
  | 0 => .array .int
  | _ => .int
theorem nmX5 : ∀ a, a < 2 → ∀ b, b < 2 → a ≠ b → (TX5 a).2.1 ≠ (TX5 b).2.1 := by decide +kernel
theorem tyX5_ok : ∀ k, k < 2 → parseFieldDescriptor (TX5 k).2.2.1 = some (tyX5 k) := by decide +kernel
abbrev cX5_init : ByteArray := prog_7_method_1_code
def yX5_init : MethodName := ⟨RX5, "<init>", "()V"⟩
abbrev cX5_byteAt : ByteArray := prog_7_method_2_code
def yX5_byteAt : MethodName := ⟨RX5, "byteAt", "(I)I"⟩
abbrev cX5_add : ByteArray := prog_7_method_3_code
def yX5_add : MethodName := ⟨RX5, "add", "(I)V"⟩
abbrev cX5_cutTo : ByteArray := prog_7_method_4_code
def yX5_cutTo : MethodName := ⟨RX5, "cutTo", "(I)V"⟩
abbrev cX5_addRow : ByteArray := prog_7_method_5_code
def yX5_addRow : MethodName := ⟨RX5, "addRow", "(LUrlGate$Row;)V"⟩
abbrev cX5_addText : ByteArray := prog_7_method_6_code
def yX5_addText : MethodName := ⟨RX5, "addText", "(Ljava/lang/String;)V"⟩
abbrev cX5_take : ByteArray := prog_7_method_7_code
def yX5_take : MethodName := ⟨RX5, "take", "(LUrlGate$Row;)V"⟩
abbrev cX5_addEscaped : ByteArray := prog_7_method_8_code
def yX5_addEscaped : MethodName := ⟨RX5, "addEscaped", "(ILjava/lang/String;)V"⟩
abbrev cX5_addDecimal : ByteArray := prog_7_method_9_code
def yX5_addDecimal : MethodName := ⟨RX5, "addDecimal", "(I)V"⟩
abbrev cX5_addHex : ByteArray := prog_7_method_10_code
def yX5_addHex : MethodName := ⟨RX5, "addHex", "(I)V"⟩
abbrev cX5_equalsRow : ByteArray := prog_7_method_11_code
def yX5_equalsRow : MethodName := ⟨RX5, "equalsRow", "(LUrlGate$Row;)Z"⟩
abbrev cX5_endsWith : ByteArray := prog_7_method_12_code
def yX5_endsWith : MethodName := ⟨RX5, "endsWith", "(LUrlGate$Row;)Z"⟩
abbrev cX5_hasAt : ByteArray := prog_7_method_13_code
def yX5_hasAt : MethodName := ⟨RX5, "hasAt", "(ILjava/lang/String;)Z"⟩
def RX6 : String := "UrlGate$Url"
def TX6 : u_T := fun k => match k with
  | 0 => ("UrlGate$Url", "scheme", "I", false)
  | 1 => ("UrlGate$Url", "schemeName", "LUrlGate$Row;", true)
  | 2 => ("UrlGate$Url", "user", "LUrlGate$Row;", true)
  | 3 => ("UrlGate$Url", "password", "LUrlGate$Row;", true)
  | 4 => ("UrlGate$Url", "host", "LUrlGate$Host;", true)
  | 5 => ("UrlGate$Url", "port", "I", false)
  | 6 => ("UrlGate$Url", "path", "LUrlGate$Row;", true)
  | 7 => ("UrlGate$Url", "segments", "I", false)
  | 8 => ("UrlGate$Url", "query", "LUrlGate$Row;", true)
  | 9 => ("UrlGate$Url", "hasQuery", "Z", false)
  | 10 => ("UrlGate$Url", "fragment", "LUrlGate$Row;", true)
  | _ => ("UrlGate$Url", "hasFragment", "Z", false)
def tyX6 : Nat → FieldType := fun k => match k with
  | 0 => .int
  | 1 => .object "UrlGate$Row"
  | 2 => .object "UrlGate$Row"
  | 3 => .object "UrlGate$Row"
  | 4 => .object "UrlGate$Host"
  | 5 => .int
  | 6 => .object "UrlGate$Row"
  | 7 => .int
  | 8 => .object "UrlGate$Row"
  | 9 => .boolean
  | 10 => .object "UrlGate$Row"
  | _ => .boolean
theorem nmX6 : ∀ a, a < 12 → ∀ b, b < 12 → a ≠ b → (TX6 a).2.1 ≠ (TX6 b).2.1 := by decide +kernel
theorem tyX6_ok : ∀ k, k < 12 → parseFieldDescriptor (TX6 k).2.2.1 = some (tyX6 k) := by decide +kernel
abbrev cX6_init : ByteArray := prog_8_method_1_code
def yX6_init : MethodName := ⟨RX6, "<init>", "()V"⟩
abbrev cX6_nameOf : ByteArray := prog_8_method_2_code
def yX6_nameOf : MethodName := ⟨RX6, "nameOf", "(I)Ljava/lang/String;"⟩
abbrev cX6_portOf : ByteArray := prog_8_method_3_code
def yX6_portOf : MethodName := ⟨RX6, "portOf", "(I)I"⟩
abbrev cX6_empty : ByteArray := prog_8_method_4_code
def yX6_empty : MethodName := ⟨RX6, "empty", "()V"⟩
abbrev cX6_setScheme : ByteArray := prog_8_method_5_code
def yX6_setScheme : MethodName := ⟨RX6, "setScheme", "(I)V"⟩
abbrev cX6_takeAuthority : ByteArray := prog_8_method_6_code
def yX6_takeAuthority : MethodName := ⟨RX6, "takeAuthority", "(LUrlGate$Url;)V"⟩
abbrev cX6_takePath : ByteArray := prog_8_method_7_code
def yX6_takePath : MethodName := ⟨RX6, "takePath", "(LUrlGate$Url;)V"⟩
abbrev cX6_takeQuery : ByteArray := prog_8_method_8_code
def yX6_takeQuery : MethodName := ⟨RX6, "takeQuery", "(LUrlGate$Url;)V"⟩
abbrev cX6_beginSegment : ByteArray := prog_8_method_9_code
def yX6_beginSegment : MethodName := ⟨RX6, "beginSegment", "()V"⟩
abbrev cX6_dropSegment : ByteArray := prog_8_method_10_code
def yX6_dropSegment : MethodName := ⟨RX6, "dropSegment", "()V"⟩
abbrev cX6_portThatCounts : ByteArray := prog_8_method_11_code
def yX6_portThatCounts : MethodName := ⟨RX6, "portThatCounts", "()I"⟩
abbrev cX6_hasOriginOf : ByteArray := prog_8_method_12_code
def yX6_hasOriginOf : MethodName := ⟨RX6, "hasOriginOf", "(LUrlGate$Url;)Z"⟩
abbrev cX6_hasUser : ByteArray := prog_8_method_13_code
def yX6_hasUser : MethodName := ⟨RX6, "hasUser", "()Z"⟩
abbrev cX6_rowOf : ByteArray := prog_8_method_14_code
def yX6_rowOf : MethodName := ⟨RX6, "rowOf", "(I)LUrlGate$Row;"⟩
abbrev cX6_writeTo : ByteArray := prog_8_method_15_code
def yX6_writeTo : MethodName := ⟨RX6, "writeTo", "(LUrlGate$Row;)V"⟩
def RX7 : String := "UrlGate$UrlReader"
def TX7 : u_T := fun k => match k with
  | 0 => ("UrlGate$UrlReader", "source", "LUrlGate$Row;", true)
  | 1 => ("UrlGate$UrlReader", "here", "I", false)
  | 2 => ("UrlGate$UrlReader", "hostStart", "I", false)
  | _ => ("UrlGate$UrlReader", "hostEnd", "I", false)
def tyX7 : Nat → FieldType := fun k => match k with
  | 0 => .object "UrlGate$Row"
  | 1 => .int
  | 2 => .int
  | _ => .int
theorem nmX7 : ∀ a, a < 4 → ∀ b, b < 4 → a ≠ b → (TX7 a).2.1 ≠ (TX7 b).2.1 := by decide +kernel
theorem tyX7_ok : ∀ k, k < 4 → parseFieldDescriptor (TX7 k).2.2.1 = some (tyX7 k) := by decide +kernel
abbrev cX7_init : ByteArray := prog_9_method_1_code
def yX7_init : MethodName := ⟨RX7, "<init>", "()V"⟩
abbrev cX7_readUrl : ByteArray := prog_9_method_2_code
def yX7_readUrl : MethodName := ⟨RX7, "readUrl", "(LUrlGate$Row;LUrlGate$Url;LUrlGate$Url;LUrlGate$HostReader;)I"⟩
abbrev cX7_tidy : ByteArray := prog_9_method_3_code
def yX7_tidy : MethodName := ⟨RX7, "tidy", "(LUrlGate$Row;)V"⟩
abbrev cX7_readScheme : ByteArray := prog_9_method_4_code
def yX7_readScheme : MethodName := ⟨RX7, "readScheme", "(LUrlGate$Url;LUrlGate$Url;)I"⟩
abbrev cX7_schemeEnd : ByteArray := prog_9_method_5_code
def yX7_schemeEnd : MethodName := ⟨RX7, "schemeEnd", "()I"⟩
abbrev cX7_mayBeInScheme : ByteArray := prog_9_method_6_code
def yX7_mayBeInScheme : MethodName := ⟨RX7, "mayBeInScheme", "(I)Z"⟩
abbrev cX7_schemeUpTo : ByteArray := prog_9_method_7_code
def yX7_schemeUpTo : MethodName := ⟨RX7, "schemeUpTo", "(I)I"⟩
abbrev cX7_isWord : ByteArray := prog_9_method_8_code
def yX7_isWord : MethodName := ⟨RX7, "isWord", "(ILjava/lang/String;)Z"⟩
abbrev cX7_readRelative : ByteArray := prog_9_method_9_code
def yX7_readRelative : MethodName := ⟨RX7, "readRelative", "(LUrlGate$Url;LUrlGate$Url;)I"⟩
abbrev cX7_readAuthority : ByteArray := prog_9_method_10_code
def yX7_readAuthority : MethodName := ⟨RX7, "readAuthority", "(LUrlGate$Url;)I"⟩
abbrev cX7_readUser : ByteArray := prog_9_method_11_code
def yX7_readUser : MethodName := ⟨RX7, "readUser", "(IILUrlGate$Url;)V"⟩
abbrev cX7_hostEndFrom : ByteArray := prog_9_method_12_code
def yX7_hostEndFrom : MethodName := ⟨RX7, "hostEndFrom", "(II)I"⟩
abbrev cX7_readPort : ByteArray := prog_9_method_13_code
def yX7_readPort : MethodName := ⟨RX7, "readPort", "(LUrlGate$Url;)I"⟩
abbrev cX7_readSegments : ByteArray := prog_9_method_14_code
def yX7_readSegments : MethodName := ⟨RX7, "readSegments", "(LUrlGate$Url;)V"⟩
abbrev cX7_takeSegment : ByteArray := prog_9_method_15_code
def yX7_takeSegment : MethodName := ⟨RX7, "takeSegment", "(IIZLUrlGate$Url;)V"⟩
abbrev cX7_pointsIn : ByteArray := prog_9_method_16_code
def yX7_pointsIn : MethodName := ⟨RX7, "pointsIn", "(II)I"⟩
abbrev cX7_readQuery : ByteArray := prog_9_method_17_code
def yX7_readQuery : MethodName := ⟨RX7, "readQuery", "(LUrlGate$Url;)V"⟩
abbrev cX7_readFragment : ByteArray := prog_9_method_18_code
def yX7_readFragment : MethodName := ⟨RX7, "readFragment", "(LUrlGate$Url;)V"⟩
def RX8 : String := "UrlGate"
def TX8 : u_T := fun k => match k with
  | 0 => ("UrlGate", "text", "LUrlGate$Row;", true)
  | 1 => ("UrlGate", "draft", "LUrlGate$Row;", true)
  | 2 => ("UrlGate", "places", "[LUrlGate$Url;", true)
  | 3 => ("UrlGate", "heard", "LUrlGate$Host;", true)
  | 4 => ("UrlGate", "hostReader", "LUrlGate$HostReader;", true)
  | 5 => ("UrlGate", "urlReader", "LUrlGate$UrlReader;", true)
  | 6 => ("UrlGate", "gate", "LUrlGate$Gate;", true)
  | _ => ("UrlGate", "spare", "LUrlGate$Url;", false)
def tyX8 : Nat → FieldType := fun k => match k with
  | 0 => .object "UrlGate$Row"
  | 1 => .object "UrlGate$Row"
  | 2 => .array (.object "UrlGate$Url")
  | 3 => .object "UrlGate$Host"
  | 4 => .object "UrlGate$HostReader"
  | 5 => .object "UrlGate$UrlReader"
  | 6 => .object "UrlGate$Gate"
  | _ => .object "UrlGate$Url"
theorem nmX8 : ∀ a, a < 8 → ∀ b, b < 8 → a ≠ b → (TX8 a).2.1 ≠ (TX8 b).2.1 := by decide +kernel
theorem tyX8_ok : ∀ k, k < 8 → parseFieldDescriptor (TX8 k).2.2.1 = some (tyX8 k) := by decide +kernel
abbrev cX8_init : ByteArray := prog_1_method_1_code
def yX8_init : MethodName := ⟨RX8, "<init>", "()V"⟩
abbrev cX8_type : ByteArray := prog_1_method_2_code
def yX8_type : MethodName := ⟨RX8, "type", "(JI)I"⟩
abbrev cX8_erase : ByteArray := prog_1_method_3_code
def yX8_erase : MethodName := ⟨RX8, "erase", "()I"⟩
abbrev cX8_read : ByteArray := prog_1_method_4_code
def yX8_read : MethodName := ⟨RX8, "read", "(II)I"⟩
abbrev cX8_write : ByteArray := prog_1_method_5_code
def yX8_write : MethodName := ⟨RX8, "write", "(I)I"⟩
abbrev cX8_at : ByteArray := prog_1_method_6_code
def yX8_at : MethodName := ⟨RX8, "at", "(I)I"⟩
abbrev cX8_size : ByteArray := prog_1_method_7_code
def yX8_size : MethodName := ⟨RX8, "size", "(II)I"⟩
abbrev cX8_part : ByteArray := prog_1_method_8_code
def yX8_part : MethodName := ⟨RX8, "part", "(III)I"⟩
abbrev cX8_told : ByteArray := prog_1_method_9_code
def yX8_told : MethodName := ⟨RX8, "told", "(II)I"⟩
abbrev cX8_number : ByteArray := prog_1_method_10_code
def yX8_number : MethodName := ⟨RX8, "number", "(II)I"⟩
abbrev cX8_same : ByteArray := prog_1_method_11_code
def yX8_same : MethodName := ⟨RX8, "same", "(II)I"⟩
abbrev cX8_list : ByteArray := prog_1_method_12_code
def yX8_list : MethodName := ⟨RX8, "list", "(Z)I"⟩
abbrev cX8_resolve : ByteArray := prog_1_method_13_code
def yX8_resolve : MethodName := ⟨RX8, "resolve", "(IIIII)I"⟩
abbrev cX8_range : ByteArray := prog_1_method_14_code
def yX8_range : MethodName := ⟨RX8, "range", "(IIIIII)I"⟩
abbrev cX8_clear : ByteArray := prog_1_method_15_code
def yX8_clear : MethodName := ⟨RX8, "clear", "()I"⟩
abbrev cX8_pass : ByteArray := prog_1_method_16_code
def yX8_pass : MethodName := ⟨RX8, "pass", "(I)I"⟩
abbrev cX8_recordAt : ByteArray := prog_1_method_17_code
def yX8_recordAt : MethodName := ⟨RX8, "recordAt", "(I)LUrlGate$Url;"⟩
abbrev cX8_hearHost : ByteArray := prog_1_method_18_code
def yX8_hearHost : MethodName := ⟨RX8, "hearHost", "()I"⟩
def RX9 : String := "UrlGateModel"
def TX9 : u_T := fun k => match k with
  | 0 => ("UrlGateModel", "text", "[B", true)
  | 1 => ("UrlGateModel", "textSize", "I", false)
  | 2 => ("UrlGateModel", "there", "[Z", true)
  | 3 => ("UrlGateModel", "schemes", "[I", true)
  | 4 => ("UrlGateModel", "ports", "[I", true)
  | 5 => ("UrlGateModel", "kinds", "[I", true)
  | 6 => ("UrlGateModel", "numbers", "[I", true)
  | 7 => ("UrlGateModel", "hasQuery", "[Z", true)
  | 8 => ("UrlGateModel", "hasFragment", "[Z", true)
  | 9 => ("UrlGateModel", "bytes", "[B", true)
  | 10 => ("UrlGateModel", "sizes", "[I", true)
  | 11 => ("UrlGateModel", "in", "[B", true)
  | 12 => ("UrlGateModel", "size", "I", false)
  | 13 => ("UrlGateModel", "fault", "I", false)
  | 14 => ("UrlGateModel", "host", "[B", true)
  | 15 => ("UrlGateModel", "hostSize", "I", false)
  | 16 => ("UrlGateModel", "hostKind", "I", false)
  | 17 => ("UrlGateModel", "hostNumbers", "[I", true)
  | 18 => ("UrlGateModel", "written", "[B", true)
  | 19 => ("UrlGateModel", "writtenSize", "I", false)
  | 20 => ("UrlGateModel", "listedName", "[B", true)
  | 21 => ("UrlGateModel", "listedSize", "[I", true)
  | 22 => ("UrlGateModel", "listedKind", "[I", true)
  | 23 => ("UrlGateModel", "listedNumbers", "[I", true)
  | 24 => ("UrlGateModel", "listedOpen", "[Z", true)
  | 25 => ("UrlGateModel", "listed", "I", false)
  | 26 => ("UrlGateModel", "resolvedName", "[B", true)
  | 27 => ("UrlGateModel", "resolvedSize", "[I", true)
  | 28 => ("UrlGateModel", "resolvedKind", "[I", true)
  | 29 => ("UrlGateModel", "resolvedBits", "[I", true)
  | 30 => ("UrlGateModel", "resolved", "I", false)
  | 31 => ("UrlGateModel", "rangeKind", "[I", true)
  | 32 => ("UrlGateModel", "rangeBits", "[I", true)
  | 33 => ("UrlGateModel", "rangeMany", "[I", true)
  | _ => ("UrlGateModel", "ranges", "I", false)
def tyX9 : Nat → FieldType := fun k => match k with
  | 0 => .array .byte
  | 1 => .int
  | 2 => .array .boolean
  | 3 => .array .int
  | 4 => .array .int
  | 5 => .array .int
  | 6 => .array .int
  | 7 => .array .boolean
  | 8 => .array .boolean
  | 9 => .array .byte
  | 10 => .array .int
  | 11 => .array .byte
  | 12 => .int
  | 13 => .int
  | 14 => .array .byte
  | 15 => .int
  | 16 => .int
  | 17 => .array .int
  | 18 => .array .byte
  | 19 => .int
  | 20 => .array .byte
  | 21 => .array .int
  | 22 => .array .int
  | 23 => .array .int
  | 24 => .array .boolean
  | 25 => .int
  | 26 => .array .byte
  | 27 => .array .int
  | 28 => .array .int
  | 29 => .array .int
  | 30 => .int
  | 31 => .array .int
  | 32 => .array .int
  | 33 => .array .int
  | _ => .int
theorem nmX9 : ∀ a, a < 35 → ∀ b, b < 35 → a ≠ b → (TX9 a).2.1 ≠ (TX9 b).2.1 := by decide +kernel
theorem tyX9_ok : ∀ k, k < 35 → parseFieldDescriptor (TX9 k).2.2.1 = some (tyX9 k) := by decide +kernel
abbrev cX9_init : ByteArray := prog_11_method_1_code
def yX9_init : MethodName := ⟨RX9, "<init>", "()V"⟩
abbrev cX9_isIn : ByteArray := prog_11_method_2_code
def yX9_isIn : MethodName := ⟨RX9, "isIn", "(III)Z"⟩
abbrev cX9_low : ByteArray := prog_11_method_3_code
def yX9_low : MethodName := ⟨RX9, "low", "(I)I"⟩
abbrev cX9_isDigit : ByteArray := prog_11_method_4_code
def yX9_isDigit : MethodName := ⟨RX9, "isDigit", "(I)Z"⟩
abbrev cX9_hex : ByteArray := prog_11_method_5_code
def yX9_hex : MethodName := ⟨RX9, "hex", "(I)I"⟩
abbrev cX9_type : ByteArray := prog_11_method_6_code
def yX9_type : MethodName := ⟨RX9, "type", "(JI)I"⟩
abbrev cX9_erase : ByteArray := prog_11_method_7_code
def yX9_erase : MethodName := ⟨RX9, "erase", "()I"⟩
abbrev cX9_at : ByteArray := prog_11_method_8_code
def yX9_at : MethodName := ⟨RX9, "at", "(I)I"⟩
abbrev cX9_has : ByteArray := prog_11_method_9_code
def yX9_has : MethodName := ⟨RX9, "has", "(I)Z"⟩
abbrev cX9_add : ByteArray := prog_11_method_10_code
def yX9_add : MethodName := ⟨RX9, "add", "(II)V"⟩
abbrev cX9_row : ByteArray := prog_11_method_11_code
def yX9_row : MethodName := ⟨RX9, "row", "(II)I"⟩
abbrev cX9_sizeOf : ByteArray := prog_11_method_12_code
def yX9_sizeOf : MethodName := ⟨RX9, "sizeOf", "(II)I"⟩
abbrev cX9_copyPart : ByteArray := prog_11_method_13_code
def yX9_copyPart : MethodName := ⟨RX9, "copyPart", "(III)V"⟩
abbrev cX9_copyHost : ByteArray := prog_11_method_14_code
def yX9_copyHost : MethodName := ⟨RX9, "copyHost", "(II)V"⟩
abbrev cX9_portOf : ByteArray := prog_11_method_15_code
def yX9_portOf : MethodName := ⟨RX9, "portOf", "(I)I"⟩
abbrev cX9_isEscaped : ByteArray := prog_11_method_16_code
def yX9_isEscaped : MethodName := ⟨RX9, "isEscaped", "(II)Z"⟩
abbrev cX9_digitOf : ByteArray := prog_11_method_17_code
def yX9_digitOf : MethodName := ⟨RX9, "digitOf", "(I)I"⟩
abbrev cX9_addEscaped : ByteArray := prog_11_method_18_code
def yX9_addEscaped : MethodName := ⟨RX9, "addEscaped", "(III)V"⟩
abbrev cX9_byteAt : ByteArray := prog_11_method_19_code
def yX9_byteAt : MethodName := ⟨RX9, "byteAt", "(I)I"⟩
abbrev cX9_isSlash : ByteArray := prog_11_method_20_code
def yX9_isSlash : MethodName := ⟨RX9, "isSlash", "(I)Z"⟩
abbrev cX9_takeText : ByteArray := prog_11_method_21_code
def yX9_takeText : MethodName := ⟨RX9, "takeText", "()V"⟩
abbrev cX9_schemeSize : ByteArray := prog_11_method_22_code
def yX9_schemeSize : MethodName := ⟨RX9, "schemeSize", "(I)I"⟩
abbrev cX9_schemeByte : ByteArray := prog_11_method_23_code
def yX9_schemeByte : MethodName := ⟨RX9, "schemeByte", "(II)I"⟩
abbrev cX9_isWord : ByteArray := prog_11_method_24_code
def yX9_isWord : MethodName := ⟨RX9, "isWord", "(II)Z"⟩
abbrev cX9_read : ByteArray := prog_11_method_25_code
def yX9_read : MethodName := ⟨RX9, "read", "(II)I"⟩
abbrev cX9_isLetter : ByteArray := prog_11_method_26_code
def yX9_isLetter : MethodName := ⟨RX9, "isLetter", "(I)Z"⟩
abbrev cX9_readScheme : ByteArray := prog_11_method_27_code
def yX9_readScheme : MethodName := ⟨RX9, "readScheme", "(I)V"⟩
abbrev cX9_readRelative : ByteArray := prog_11_method_28_code
def yX9_readRelative : MethodName := ⟨RX9, "readRelative", "(II)V"⟩
abbrev cX9_dropSegment : ByteArray := prog_11_method_29_code
def yX9_dropSegment : MethodName := ⟨RX9, "dropSegment", "()V"⟩
abbrev cX9_isOver : ByteArray := prog_11_method_30_code
def yX9_isOver : MethodName := ⟨RX9, "isOver", "(I)Z"⟩
abbrev cX9_readSlashes : ByteArray := prog_11_method_31_code
def yX9_readSlashes : MethodName := ⟨RX9, "readSlashes", "(I)V"⟩
abbrev cX9_readPort : ByteArray := prog_11_method_32_code
def yX9_readPort : MethodName := ⟨RX9, "readPort", "(II)V"⟩
abbrev cX9_points : ByteArray := prog_11_method_33_code
def yX9_points : MethodName := ⟨RX9, "points", "(II)I"⟩
abbrev cX9_readPath : ByteArray := prog_11_method_34_code
def yX9_readPath : MethodName := ⟨RX9, "readPath", "(I)V"⟩
abbrev cX9_readTail : ByteArray := prog_11_method_35_code
def yX9_readTail : MethodName := ⟨RX9, "readTail", "(I)V"⟩
abbrev cX9_isWrongByte : ByteArray := prog_11_method_36_code
def yX9_isWrongByte : MethodName := ⟨RX9, "isWrongByte", "(I)Z"⟩
abbrev cX9_readHost : ByteArray := prog_11_method_37_code
def yX9_readHost : MethodName := ⟨RX9, "readHost", "(II)I"⟩
abbrev cX9_readFour : ByteArray := prog_11_method_38_code
def yX9_readFour : MethodName := ⟨RX9, "readFour", "()I"⟩
abbrev cX9_numberOf : ByteArray := prog_11_method_39_code
def yX9_numberOf : MethodName := ⟨RX9, "numberOf", "(II)J"⟩
abbrev cX9_readSix : ByteArray := prog_11_method_40_code
def yX9_readSix : MethodName := ⟨RX9, "readSix", "(II)I"⟩
abbrev cX9_readNumbers : ByteArray := prog_11_method_41_code
def yX9_readNumbers : MethodName := ⟨RX9, "readNumbers", "(III)I"⟩
abbrev cX9_put : ByteArray := prog_11_method_42_code
def yX9_put : MethodName := ⟨RX9, "put", "(I)V"⟩
abbrev cX9_putDecimal : ByteArray := prog_11_method_43_code
def yX9_putDecimal : MethodName := ⟨RX9, "putDecimal", "(I)V"⟩
abbrev cX9_putHex : ByteArray := prog_11_method_44_code
def yX9_putHex : MethodName := ⟨RX9, "putHex", "(I)V"⟩
abbrev cX9_writeHost : ByteArray := prog_11_method_45_code
def yX9_writeHost : MethodName := ⟨RX9, "writeHost", "(I)V"⟩
abbrev cX9_writeSix : ByteArray := prog_11_method_46_code
def yX9_writeSix : MethodName := ⟨RX9, "writeSix", "(I)V"⟩
abbrev cX9_digitsOf : ByteArray := prog_11_method_47_code
def yX9_digitsOf : MethodName := ⟨RX9, "digitsOf", "(I)I"⟩
abbrev cX9_writtenLength : ByteArray := prog_11_method_48_code
def yX9_writtenLength : MethodName := ⟨RX9, "writtenLength", "(I)I"⟩
abbrev cX9_say : ByteArray := prog_11_method_49_code
def yX9_say : MethodName := ⟨RX9, "say", "(I)V"⟩
abbrev cX9_sayPart : ByteArray := prog_11_method_50_code
def yX9_sayPart : MethodName := ⟨RX9, "sayPart", "(II)V"⟩
abbrev cX9_sayWritten : ByteArray := prog_11_method_51_code
def yX9_sayWritten : MethodName := ⟨RX9, "sayWritten", "()V"⟩
abbrev cX9_write : ByteArray := prog_11_method_52_code
def yX9_write : MethodName := ⟨RX9, "write", "(I)I"⟩
abbrev cX9_size : ByteArray := prog_11_method_53_code
def yX9_size : MethodName := ⟨RX9, "size", "(II)I"⟩
abbrev cX9_part : ByteArray := prog_11_method_54_code
def yX9_part : MethodName := ⟨RX9, "part", "(III)I"⟩
abbrev cX9_told : ByteArray := prog_11_method_55_code
def yX9_told : MethodName := ⟨RX9, "told", "(II)I"⟩
abbrev cX9_number : ByteArray := prog_11_method_56_code
def yX9_number : MethodName := ⟨RX9, "number", "(II)I"⟩
abbrev cX9_same : ByteArray := prog_11_method_57_code
def yX9_same : MethodName := ⟨RX9, "same", "(II)I"⟩
abbrev cX9_readTextHost : ByteArray := prog_11_method_58_code
def yX9_readTextHost : MethodName := ⟨RX9, "readTextHost", "()I"⟩
abbrev cX9_list : ByteArray := prog_11_method_59_code
def yX9_list : MethodName := ⟨RX9, "list", "(Z)I"⟩
abbrev cX9_resolve : ByteArray := prog_11_method_60_code
def yX9_resolve : MethodName := ⟨RX9, "resolve", "(IIIII)I"⟩
abbrev cX9_range : ByteArray := prog_11_method_61_code
def yX9_range : MethodName := ⟨RX9, "range", "(IIIIII)I"⟩
abbrev cX9_clear : ByteArray := prog_11_method_62_code
def yX9_clear : MethodName := ⟨RX9, "clear", "()I"⟩
abbrev cX9_isListed : ByteArray := prog_11_method_63_code
def yX9_isListed : MethodName := ⟨RX9, "isListed", "(I)Z"⟩
abbrev cX9_isInRange : ByteArray := prog_11_method_64_code
def yX9_isInRange : MethodName := ⟨RX9, "isInRange", "(IIIII)Z"⟩
abbrev cX9_pair : ByteArray := prog_11_method_65_code
def yX9_pair : MethodName := ⟨RX9, "pair", "(II)I"⟩
abbrev cX9_pass : ByteArray := prog_11_method_66_code
def yX9_pass : MethodName := ⟨RX9, "pass", "(I)I"⟩
def RJ11 : String := "java/lang/Character"
def TJ11 : u_T := fun k => match k with
  | _ => ("", "", "", false)
def tyJ11 : Nat → FieldType := fun k => match k with
  | _ => .int
theorem nmJ11 : ∀ a, a < 0 → ∀ b, b < 0 → a ≠ b → (TJ11 a).2.1 ≠ (TJ11 b).2.1 := by decide +kernel
theorem tyJ11_ok : ∀ k, k < 0 → parseFieldDescriptor (TJ11 k).2.2.1 = some (tyJ11 k) := by decide +kernel
abbrev cJ11_isValidCodePoint_9a6ad : ByteArray := prog_12_method_11_code
def yJ11_isValidCodePoint_9a6ad : MethodName := ⟨RJ11, "isValidCodePoint", "(I)Z"⟩
abbrev cJ11_highSurrogate_5068e : ByteArray := prog_12_method_28_code
def yJ11_highSurrogate_5068e : MethodName := ⟨RJ11, "highSurrogate", "(I)C"⟩
abbrev cJ11_lowSurrogate_5068e : ByteArray := prog_12_method_29_code
def yJ11_lowSurrogate_5068e : MethodName := ⟨RJ11, "lowSurrogate", "(I)C"⟩
def RJx8e188 : String := "java/lang/Cloneable"
def TJx8e188 : u_T := fun k => match k with
  | _ => ("", "", "", false)
def tyJx8e188 : Nat → FieldType := fun k => match k with
  | _ => .int
theorem nmJx8e188 : ∀ a, a < 0 → ∀ b, b < 0 → a ≠ b → (TJx8e188 a).2.1 ≠ (TJx8e188 b).2.1 := by decide +kernel
theorem tyJx8e188_ok : ∀ k, k < 0 → parseFieldDescriptor (TJx8e188 k).2.2.1 = some (tyJx8e188 k) := by decide +kernel
def RJ9 : String := "java/lang/Math"
def TJ9 : u_T := fun k => match k with
  | _ => ("", "", "", false)
def tyJ9 : Nat → FieldType := fun k => match k with
  | _ => .int
theorem nmJ9 : ∀ a, a < 0 → ∀ b, b < 0 → a ≠ b → (TJ9 a).2.1 ≠ (TJ9 b).2.1 := by decide +kernel
theorem tyJ9_ok : ∀ k, k < 0 → parseFieldDescriptor (TJ9 k).2.2.1 = some (tyJ9 k) := by decide +kernel
abbrev cJ9_max_7cf53 : ByteArray := prog_14_method_65_code
def yJ9_max_7cf53 : MethodName := ⟨RJ9, "max", "(II)I"⟩
abbrev cJ9_min_7cf53 : ByteArray := prog_14_method_69_code
def yJ9_min_7cf53 : MethodName := ⟨RJ9, "min", "(II)I"⟩
abbrev cJ9_min_f86c9 : ByteArray := prog_14_method_70_code
def yJ9_min_f86c9 : MethodName := ⟨RJ9, "min", "(JJ)J"⟩
def RJ0 : String := "java/lang/String"
def TJ0 : u_T := fun k => match k with
  | _ => ("", "", "", false)
def tyJ0 : Nat → FieldType := fun k => match k with
  | _ => .int
theorem nmJ0 : ∀ a, a < 0 → ∀ b, b < 0 → a ≠ b → (TJ0 a).2.1 ≠ (TJ0 b).2.1 := by decide +kernel
theorem tyJ0_ok : ∀ k, k < 0 → parseFieldDescriptor (TJ0 k).2.2.1 = some (tyJ0 k) := by decide +kernel
abbrev cJ0_length_8abf5 : ByteArray := prog_15_method_54_code
def yJ0_length_8abf5 : MethodName := ⟨RJ0, "length", "()I"⟩
abbrev cJ0_charAt_5068e : ByteArray := prog_15_method_56_code
def yJ0_charAt_5068e : MethodName := ⟨RJ0, "charAt", "(I)C"⟩
abbrev cJ0_indexOf_0f7a4 : ByteArray := prog_15_method_79_code
def yJ0_indexOf_0f7a4 : MethodName := ⟨RJ0, "indexOf", "(I)I"⟩
abbrev cJ0_indexOf_7cf53 : ByteArray := prog_15_method_80_code
def yJ0_indexOf_7cf53 : MethodName := ⟨RJ0, "indexOf", "(II)I"⟩
abbrev cJ0_coder_7d493 : ByteArray := prog_15_method_152_code
def yJ0_coder_7d493 : MethodName := ⟨RJ0, "coder", "()B"⟩
abbrev cJ0_isLatin1_aae02 : ByteArray := prog_15_method_154_code
def yJ0_isLatin1_aae02 : MethodName := ⟨RJ0, "isLatin1", "()Z"⟩
abbrev cJ0_checkIndex_df160 : ByteArray := prog_15_method_155_code
def yJ0_checkIndex_df160 : MethodName := ⟨RJ0, "checkIndex", "(II)V"⟩
abbrev cJ0_checkBoundsBeginEnd_23922 : ByteArray := prog_15_method_158_code
def yJ0_checkBoundsBeginEnd_23922 : MethodName := ⟨RJ0, "checkBoundsBeginEnd", "(III)V"⟩
def RJ1 : String := "java/lang/StringLatin1"
def TJ1 : u_T := fun k => match k with
  | _ => ("", "", "", false)
def tyJ1 : Nat → FieldType := fun k => match k with
  | _ => .int
theorem nmJ1 : ∀ a, a < 0 → ∀ b, b < 0 → a ≠ b → (TJ1 a).2.1 ≠ (TJ1 b).2.1 := by decide +kernel
theorem tyJ1_ok : ∀ k, k < 0 → parseFieldDescriptor (TJ1 k).2.2.1 = some (tyJ1 k) := by decide +kernel
abbrev cJ1_charAt_3b067 : ByteArray := prog_16_method_2_code
def yJ1_charAt_3b067 : MethodName := ⟨RJ1, "charAt", "([BI)C"⟩
abbrev cJ1_canEncode_9a6ad : ByteArray := prog_16_method_4_code
def yJ1_canEncode_9a6ad : MethodName := ⟨RJ1, "canEncode", "(I)Z"⟩
abbrev cJ1_indexOf_4cfef : ByteArray := prog_16_method_22_code
def yJ1_indexOf_4cfef : MethodName := ⟨RJ1, "indexOf", "([BIII)I"⟩
abbrev cJ1_indexOfChar_4cfef : ByteArray := prog_16_method_23_code
def yJ1_indexOfChar_4cfef : MethodName := ⟨RJ1, "indexOfChar", "([BIII)I"⟩
def RJ2 : String := "java/lang/StringUTF16"
def TJ2 : u_T := fun k => match k with
  | _ => ("", "", "", false)
def tyJ2 : Nat → FieldType := fun k => match k with
  | _ => .int
theorem nmJ2 : ∀ a, a < 0 → ∀ b, b < 0 → a ≠ b → (TJ2 a).2.1 ≠ (TJ2 b).2.1 := by decide +kernel
theorem tyJ2_ok : ∀ k, k < 0 → parseFieldDescriptor (TJ2 k).2.2.1 = some (tyJ2 k) := by decide +kernel
abbrev cJ2_getChar_3b067 : ByteArray := prog_17_method_5_code
def yJ2_getChar_3b067 : MethodName := ⟨RJ2, "getChar", "([BI)C"⟩
abbrev cJ2_length_9d52b : ByteArray := prog_17_method_6_code
def yJ2_length_9d52b : MethodName := ⟨RJ2, "length", "([B)I"⟩
abbrev cJ2_indexOf_4cfef : ByteArray := prog_17_method_40_code
def yJ2_indexOf_4cfef : MethodName := ⟨RJ2, "indexOf", "([BIII)I"⟩
abbrev cJ2_indexOfChar_4cfef : ByteArray := prog_17_method_47_code
def yJ2_indexOfChar_4cfef : MethodName := ⟨RJ2, "indexOfChar", "([BIII)I"⟩
abbrev cJ2_indexOfCharUnsafe_4cfef : ByteArray := prog_17_method_48_code
def yJ2_indexOfCharUnsafe_4cfef : MethodName := ⟨RJ2, "indexOfCharUnsafe", "([BIII)I"⟩
abbrev cJ2_indexOfSupplementary_4cfef : ByteArray := prog_17_method_49_code
def yJ2_indexOfSupplementary_4cfef : MethodName := ⟨RJ2, "indexOfSupplementary", "([BIII)I"⟩
abbrev cJ2_charAt_3b067 : ByteArray := prog_17_method_83_code
def yJ2_charAt_3b067 : MethodName := ⟨RJ2, "charAt", "([BI)C"⟩
abbrev cJ2_checkIndex_2214a : ByteArray := prog_17_method_91_code
def yJ2_checkIndex_2214a : MethodName := ⟨RJ2, "checkIndex", "(I[B)V"⟩
abbrev cJ2_checkBoundsBeginEnd_d044e : ByteArray := prog_17_method_93_code
def yJ2_checkBoundsBeginEnd_d044e : MethodName := ⟨RJ2, "checkBoundsBeginEnd", "(II[B)V"⟩
def RJ10 : String := "java/lang/System"
def TJ10 : u_T := fun k => match k with
  | _ => ("", "", "", false)
def tyJ10 : Nat → FieldType := fun k => match k with
  | _ => .int
theorem nmJ10 : ∀ a, a < 0 → ∀ b, b < 0 → a ≠ b → (TJ10 a).2.1 ≠ (TJ10 b).2.1 := by decide +kernel
theorem tyJ10_ok : ∀ k, k < 0 → parseFieldDescriptor (TJ10 k).2.2.1 = some (tyJ10 k) := by decide +kernel
def RJ7 : String := "java/util/Arrays"
def TJ7 : u_T := fun k => match k with
  | _ => ("", "", "", false)
def tyJ7 : Nat → FieldType := fun k => match k with
  | _ => .int
theorem nmJ7 : ∀ a, a < 0 → ∀ b, b < 0 → a ≠ b → (TJ7 a).2.1 ≠ (TJ7 b).2.1 := by decide +kernel
theorem tyJ7_ok : ∀ k, k < 0 → parseFieldDescriptor (TJ7 k).2.2.1 = some (tyJ7 k) := by decide +kernel
abbrev cJ7_copyOf_59c91 : ByteArray := prog_19_method_123_code
def yJ7_copyOf_59c91 : MethodName := ⟨RJ7, "copyOf", "([II)[I"⟩
def RJ3 : String := "jdk/internal/util/Preconditions"
def TJ3 : u_T := fun k => match k with
  | _ => ("", "", "", false)
def tyJ3 : Nat → FieldType := fun k => match k with
  | _ => .int
theorem nmJ3 : ∀ a, a < 0 → ∀ b, b < 0 → a ≠ b → (TJ3 a).2.1 ≠ (TJ3 b).2.1 := by decide +kernel
theorem tyJ3_ok : ∀ k, k < 0 → parseFieldDescriptor (TJ3 k).2.2.1 = some (tyJ3 k) := by decide +kernel
abbrev cJ3_checkIndex_8e157 : ByteArray := prog_20_method_11_code
def yJ3_checkIndex_8e157 : MethodName := ⟨RJ3, "checkIndex", "(IILjava/util/function/BiFunction;)I"⟩
abbrev cJ3_checkFromToIndex_8c36e : ByteArray := prog_20_method_12_code
def yJ3_checkFromToIndex_8c36e : MethodName := ⟨RJ3, "checkFromToIndex", "(IIILjava/util/function/BiFunction;)I"⟩
def RL : String := "UrlGateLaw"
abbrev cL_law : ByteArray := code
def yL_law : MethodName := ⟨RL, "law", "([I)Z"⟩
abbrev vwCl : List vw_C := [(RX0, TX0, 2), (RX2, TX2, 9), (RX3, TX3, 2), (RX4, TX4, 3), (RX5, TX5, 2), (RX6, TX6, 12), (RX7, TX7, 4), (RX8, TX8, 8), (RX9, TX9, 35)]
end
section
/-! THE STATE OF THE WHOLE SYSTEM, apart from the machine: what kind of thing lies at an address (0 none; c + 1 an object of class c of vwCl; 10 + t an array of type t of gTy), int fields, reference fields, lengths, numbers and references in arrays, how many cells there are, how many cells and slots may still come -/
abbrev gS : Type := (Nat → Nat) × (Nat → Nat → Nat → Int32) × (Nat → Nat → Nat → Option Nat) × (Nat → Nat) × (Nat → Nat → Int32) × (Nat → Nat → Option Nat) × Nat × Nat × Nat
def gkd (σ : gS) : Nat → Nat := σ.1
def gii (σ : gS) : Nat → Nat → Nat → Int32 := σ.2.1
def grr (σ : gS) : Nat → Nat → Nat → Option Nat := σ.2.2.1
def gln (σ : gS) : Nat → Nat := σ.2.2.2.1
def gai (σ : gS) : Nat → Nat → Int32 := σ.2.2.2.2.1
def gar (σ : gS) : Nat → Nat → Option Nat := σ.2.2.2.2.2.1
def gsz (σ : gS) : Nat := σ.2.2.2.2.2.2.1
def gcl (σ : gS) : Nat := σ.2.2.2.2.2.2.2.1
def gsl (σ : gS) : Nat := σ.2.2.2.2.2.2.2.2
/-- a program: what it answers and the state behind it, or none where the machine would throw; never more room than before -/
def gM (α : Type) : Type := { f : gS → Option (α × gS) // ∀ σ x, f σ = some x → gcl x.2 ≤ gcl σ ∧ gsl x.2 ≤ gsl σ }
def gb {α β : Type} (m : gM α) (k : α → gM β) : gM β := ⟨fun σ => match m.1 σ with
  | none => none
  | some x => (k x.1).1 x.2, fun σ y h => by
    dsimp only at h
    cases hm : m.1 σ with
    | none => rw [hm] at h; cases h
    | some x =>
      rw [hm] at h
      have h1 := m.2 σ x hm
      have h2 := (k x.1).2 x.2 y h
      exact ⟨Nat.le_trans h2.1 h1.1, Nat.le_trans h2.2 h1.2⟩⟩
def gp {α : Type} (a : α) : gM α := ⟨fun σ => some (a, σ), fun σ y h => by cases h; exact ⟨Nat.le_refl _, Nat.le_refl _⟩⟩
def gno {α : Type} : gM α := ⟨fun _ => none, fun _ _ h => by cases h⟩
/-- a read: an answer, the state as it was -/
def gq {α : Type} (f : gS → Option α) : gM α := ⟨fun σ => (f σ).map (fun a => (a, σ)), fun σ y h => by
  dsimp only at h
  cases hf : f σ with
  | none => rw [hf] at h; cases h
  | some a => rw [hf] at h; cases h; exact ⟨Nat.le_refl _, Nat.le_refl _⟩⟩
/-- a write: the room stays -/
def gu (f : gS → Option gS) (h : ∀ σ τ, f σ = some τ → gcl τ = gcl σ ∧ gsl τ = gsl σ) : gM Unit := ⟨fun σ => (f σ).map (fun τ => ((), τ)), fun σ y hy => by
  dsimp only at hy
  cases hf : f σ with
  | none => rw [hf] at hy; cases hy
  | some a => rw [hf] at hy; cases hy; have := h σ a hf; exact ⟨Nat.le_of_eq this.1, Nat.le_of_eq this.2⟩⟩
theorem gb_run {α β : Type} {m : gM α} {k : α → gM β} {σ : gS} {x : α × gS} (h : m.1 σ = some x) : (gb m k).1 σ = (k x.1).1 x.2 := by show (match m.1 σ with | none => none | some x => (k x.1).1 x.2) = _; rw [h]
theorem gb_some {α β : Type} {m : gM α} {k : α → gM β} {σ : gS} {y : β × gS} (h : (gb m k).1 σ = some y) : ∃ x, m.1 σ = some x ∧ (k x.1).1 x.2 = some y := by
  cases hm : m.1 σ with
  | none => exact absurd h (by show ¬ (match m.1 σ with | none => none | some x => (k x.1).1 x.2) = _; rw [hm]; intro h; cases h)
  | some x => exact ⟨x, rfl, by rw [gb_run hm] at h; exact h⟩
theorem gp_some {α : Type} {a : α} {σ : gS} {y : α × gS} (h : (gp a).1 σ = some y) : y = (a, σ) := by cases h; rfl
theorem gno_some {α : Type} {σ : gS} {y : α × gS} (h : (gno : gM α).1 σ = some y) : False := by cases h
theorem gq_some {α : Type} {f : gS → Option α} {σ : gS} {x : α × gS} (h : (gq f).1 σ = some x) : f σ = some x.1 ∧ x.2 = σ := by
  have h : (f σ).map (fun a => (a, σ)) = some x := h
  cases hf : f σ with
  | none => rw [hf] at h; cases h
  | some a => rw [hf] at h; cases h; exact ⟨rfl, rfl⟩
theorem gu_some {f : gS → Option gS} {hf} {σ : gS} {x : Unit × gS} (h : (gu f hf).1 σ = some x) : f σ = some x.2 := by
  have h : (f σ).map (fun a => ((), a)) = some x := h
  cases hf : f σ with
  | none => rw [hf] at h; cases h
  | some a => rw [hf] at h; cases h; rfl
/-- fields: how many a class has, which are references -/
def gnf (c : Nat) : Nat := [2, 9, 2, 3, 2, 12, 4, 8, 35].getD c 0
def grf (c k : Nat) : Bool := (match c with
  | 0 => [false, true]
  | 1 => [true, true, false, true, true, false, true, true, false]
  | 2 => [true, true]
  | 3 => [true, true, false]
  | 4 => [true, false]
  | 5 => [false, true, true, true, true, false, true, false, true, false, true, false]
  | 6 => [true, false, false, false]
  | 7 => [true, true, true, true, true, true, true, true]
  | _ => [true, false, true, true, true, true, true, true, true, true, true, true, false, false, true, false, false, true, true, false, true, true, true, true, true, false, true, true, true, true, false, true, true, true, false]).getD k false
/-- the writes -/
def gsI (σ : gS) (c k a : Nat) (v : Int32) : gS := (σ.1, fun c' k' a' => if c' = c ∧ k' = k ∧ a' = a then v else σ.2.1 c' k' a', σ.2.2)
def gsR (σ : gS) (c k a : Nat) (v : Option Nat) : gS := (σ.1, σ.2.1, fun c' k' a' => if c' = c ∧ k' = k ∧ a' = a then v else σ.2.2.1 c' k' a', σ.2.2.2)
def gsA (σ : gS) (a i : Nat) (v : Int32) : gS := (σ.1, σ.2.1, σ.2.2.1, σ.2.2.2.1, fun b j => if b = a ∧ j = i then v else σ.2.2.2.2.1 b j, σ.2.2.2.2.2)
def gsQ (σ : gS) (a i : Nat) (v : Option Nat) : gS := (σ.1, σ.2.1, σ.2.2.1, σ.2.2.2.1, σ.2.2.2.2.1, fun b j => if b = a ∧ j = i then v else σ.2.2.2.2.2.1 b j, σ.2.2.2.2.2.2)
/-- a new thing of kind d + 1, of n places, w slots -/
def gsN (σ : gS) (d n w : Nat) : gS := (fun a => if a = gsz σ then d + 1 else σ.1 a, fun c k a => if a = gsz σ then 0 else σ.2.1 c k a, fun c k a => if a = gsz σ then none else σ.2.2.1 c k a, fun a => if a = gsz σ then n else σ.2.2.2.1 a, fun a j => if a = gsz σ then 0 else σ.2.2.2.2.1 a j, fun a j => if a = gsz σ then none else σ.2.2.2.2.2.1 a j, gsz σ + 1, gcl σ - 1, gsl σ - w)
/-- the copy of n numbers of array a from its first place on to array b, from its first place on -/
def gsC (σ : gS) (a b n : Nat) : gS := (σ.1, σ.2.1, σ.2.2.1, σ.2.2.2.1, fun x j => if x = b ∧ j < n then σ.2.2.2.2.1 a j else σ.2.2.2.2.1 x j, σ.2.2.2.2.2)
/-- an index within -/
def gin (i : Int32) (n : Nat) : Bool := !(decide (i < 0) || decide (n ≤ i.toNatClampNeg))
theorem gin_iff {i : Int32} {n : Nat} : gin i n = true ↔ vp_in i n := by simp [gin, vp_in]
/-- what an array of type t keeps of an int: bytes, ints, booleans -/
def gnar (t : Nat) (x : Int32) : Int32 := if t = 0 then vp_nar .byte x else if t = 2 then vp_nar .boolean x else x
/-- the programs' steps -/
def rI (c k : Nat) (r : Option Nat) : gM Int32 := gq fun σ => match r with
  | some a => if gkd σ a = c + 1 then some (gii σ c k a) else none
  | none => none
def rR (c k : Nat) (r : Option Nat) : gM (Option Nat) := gq fun σ => match r with
  | some a => if gkd σ a = c + 1 then some (grr σ c k a) else none
  | none => none
def wI (c k : Nat) (r : Option Nat) (v : Int32) : gM Unit := gu (fun σ => match r with
  | some a => if gkd σ a = c + 1 then some (gsI σ c k a v) else none
  | none => none) (fun σ τ h => by
    cases r with
    | none => cases h
    | some a =>
      dsimp only at h
      split at h
      · cases h; exact ⟨rfl, rfl⟩
      · cases h)
/-- a boolean field: 0 or 1 alone -/
def wZ (c k : Nat) (r : Option Nat) (v : Int32) : gM Unit := gu (fun σ => match r with
  | some a => if gkd σ a = c + 1 ∧ (v = 0 ∨ v = 1) then some (gsI σ c k a v) else none
  | none => none) (fun σ τ h => by
    cases r with
    | none => cases h
    | some a =>
      dsimp only at h
      split at h
      · cases h; exact ⟨rfl, rfl⟩
      · cases h)
def wR (c k : Nat) (r : Option Nat) (v : Option Nat) : gM Unit := gu (fun σ => match r with
  | some a => if gkd σ a = c + 1 then some (gsR σ c k a v) else none
  | none => none) (fun σ τ h => by
    cases r with
    | none => cases h
    | some a =>
      dsimp only at h
      split at h
      · cases h; exact ⟨rfl, rfl⟩
      · cases h)
/-- a new object of class c -/
def nO (c : Nat) : gM (Option Nat) := ⟨fun σ => if 1 ≤ gcl σ ∧ gnf c ≤ gsl σ then some (some (gsz σ), gsN σ c 0 (gnf c)) else none, fun σ x h => by
  dsimp only at h
  split at h
  · cases h
    exact ⟨Nat.sub_le _ _, Nat.sub_le _ _⟩
  · cases h⟩
/-- a new array of type t -/
def nA (t : Nat) (n : Int32) : gM (Option Nat) := ⟨fun σ => if ¬ n < 0 ∧ n.toNatClampNeg ≤ 100000 ∧ 1 ≤ gcl σ ∧ n.toNatClampNeg ≤ gsl σ then some (some (gsz σ), gsN σ (t + 9) n.toNatClampNeg n.toNatClampNeg) else none, fun σ x h => by
  dsimp only at h
  split at h
  · cases h
    exact ⟨Nat.sub_le _ _, Nat.sub_le _ _⟩
  · cases h⟩
/-- an array's length -/
def aL (t : Nat) (r : Option Nat) : gM Int32 := gq fun σ => match r with
  | some a => if gkd σ a = t + 10 then some (Int32.ofNat (gln σ a)) else none
  | none => none
def aI (t : Nat) (r : Option Nat) (i : Int32) : gM Int32 := gq fun σ => match r with
  | some a => if gkd σ a = t + 10 ∧ gin i (gln σ a) = true then some (gai σ a i.toNatClampNeg) else none
  | none => none
def aR (t : Nat) (r : Option Nat) (i : Int32) : gM (Option Nat) := gq fun σ => match r with
  | some a => if gkd σ a = t + 10 ∧ gin i (gln σ a) = true then some (gar σ a i.toNatClampNeg) else none
  | none => none
def sI (t : Nat) (r : Option Nat) (i v : Int32) : gM Unit := gu (fun σ => match r with
  | some a => if gkd σ a = t + 10 ∧ gin i (gln σ a) = true then some (gsA σ a i.toNatClampNeg (gnar t v)) else none
  | none => none) (fun σ τ h => by
    cases r with
    | none => cases h
    | some a =>
      dsimp only at h
      split at h
      · cases h; exact ⟨rfl, rfl⟩
      · cases h)
/-- a reference into an array of type t, whose elements are of class c: an object of that class alone -/
def sR (t c : Nat) (r : Option Nat) (i : Int32) (v : Option Nat) : gM Unit := gu (fun σ => match r, v with
  | some a, some b => if gkd σ a = t + 10 ∧ gin i (gln σ a) = true ∧ gkd σ b = c + 1 then some (gsQ σ a i.toNatClampNeg (some b)) else none
  | _, _ => none) (fun σ τ h => by
    cases r with
    | none => cases h
    | some a =>
      cases v with
      | none => cases h
      | some b =>
        dsimp only at h
        split at h
        · cases h; exact ⟨rfl, rfl⟩
        · cases h)
/-- a called object must be there -/
def nn (c : Nat) (r : Option Nat) : gM Unit := gq fun σ => match r with
  | some a => if gkd σ a = c + 1 then some () else none
  | none => none
/-- a division by 0 is none -/
def nz (x : Int32) : gM Unit := if x = 0 then gno else gp ()
end
section
/-! THE WORLD: how a state of the system lies in the machine's heap, and a row an instruction -/
def gT : List Cond := lw_tbl.filter goodWord
theorem gT_of {w : Cond} (h : w ∈ lw_tbl) (h2 : goodWord w = true) : w ∈ gT := List.mem_filter.mpr ⟨h, h2⟩
theorem gT_good {c1 c2 : Cond} (h : c2 ∈ gT) : GoodIn (c1 :: gT) (c2 :: gT) := by
  intro w hw
  rcases List.mem_cons.mp hw with rfl | hw
  · exact ⟨List.mem_cons_of_mem _ h, good_of_word (List.mem_filter.mp h).2⟩
  · exact ⟨List.mem_cons_of_mem _ hw, good_of_word (List.mem_filter.mp hw).2⟩
/-- the classes' numbers and slots, the array classes' numbers, the String constants' addresses and those of their bytes, where the system's own cells begin -/
abbrev gX : Type := (Nat → ClassId) × (Nat → Nat → Nat) × (Nat → ClassId) × (Nat → Nat) × (Nat → Nat) × Nat
abbrev gD (G : gX) : va_G := (G.1, G.2.1)
abbrev gdA (G : gX) : Nat → ClassId := G.2.2.1
abbrev gK (G : gX) : Nat → Nat := G.2.2.2.1
abbrev gV (G : gX) : Nat → Nat := G.2.2.2.2.1
abbrev gB (G : gX) : Nat := G.2.2.2.2.2
abbrev gA (G : gX) : Nat → Prop := fun q => gB G ≤ q
def gTy (G : gX) : List (ClassId × FieldType) := [(gdA G 0, .byte), (gdA G 1, .int), (gdA G 2, .boolean), (gdA G 3, .object RX0), (gdA G 4, .object RX3), (gdA G 5, .object RX5), (gdA G 6, .object RX6)]
def gfs (σ : gS) (c a : Nat) : List Value := (List.range (gnf c)).map (fun k => if grf c k = true then va_rf (grr σ c k a) else .int (gii σ c k a))
def gcell (G : gX) (σ : gS) (a : Nat) : va_E := if gkd σ a < 10 then .inr (gkd σ a - 1, gfs σ (gkd σ a - 1) a) else if gkd σ a < 13 then .inl (gdA G (gkd σ a - 10), gln σ a, .inl (gai σ a)) else .inl (gdA G (gkd σ a - 10), gln σ a, .inr (.inr (.inr (.inr (gar σ a)))))
def gW (G : gX) (σ : gS) (H : Heap) : Prop := H.size = gsz σ ∧ gB G ≤ gsz σ ∧ ∀ a : Nat, gkd σ a ≠ 0 → gB G ≤ a ∧ va_at (gD G) vwCl (a, gcell G σ a) H
theorem gfs_len (σ : gS) (c a : Nat) : (gfs σ c a).length = gnf c := by simp [gfs]
theorem gfs_i {σ : gS} {c a k : Nat} (hk : k < gnf c) (h : grf c k = false) : (gfs σ c a)[k]? = some (.int (gii σ c k a)) := by simp [gfs, hk, h]
theorem gfs_r {σ : gS} {c a k : Nat} (hk : k < gnf c) (h : grf c k = true) : (gfs σ c a)[k]? = some (va_rf (grr σ c k a)) := by simp [gfs, hk, h]
theorem gfs_any {σ : gS} {c a k : Nat} (hk : k < gnf c) : (gfs σ c a)[k]? = some (if grf c k = true then va_rf (grr σ c k a) else .int (gii σ c k a)) := by simp [gfs, hk]
theorem gcell_o {G : gX} {σ : gS} {a c : Nat} (h : gkd σ a = c + 1) (hc : c < 9) : gcell G σ a = .inr (c, gfs σ c a) := by
  simp only [gcell, h, Nat.add_sub_cancel]
  rw [if_pos (by omega)]
theorem gcell_i {G : gX} {σ : gS} {a t : Nat} (h : gkd σ a = t + 10) (ht : t < 3) : gcell G σ a = .inl (gdA G t, gln σ a, .inl (gai σ a)) := by
  simp only [gcell, h, Nat.add_sub_cancel]
  rw [if_neg (by omega), if_pos (by omega)]
theorem gcell_q {G : gX} {σ : gS} {a t : Nat} (h : gkd σ a = t + 10) (ht : 3 ≤ t) : gcell G σ a = .inl (gdA G t, gln σ a, .inr (.inr (.inr (.inr (gar σ a))))) := by
  simp only [gcell, h, Nat.add_sub_cancel]
  rw [if_neg (by omega), if_neg (by omega)]
theorem gW_lt {G : gX} {σ : gS} {H : Heap} (h : gW G σ H) {a : Nat} (ha : gkd σ a ≠ 0) : a < gsz σ := by
  have h1 := va_at.lt (h.2.2 a ha).2
  rw [h.1] at h1
  exact h1
/-- a cell is written -/
theorem gW_upd {G : gX} {σ σ' : gS} {H H1 : Heap} {a : Nat} (h : gW G σ H) (hz : H1.size = H.size) (oq : ∀ q : Nat, q ≠ a → H1[q]? = H[q]?) (hs : gsz σ' = gsz σ) (hk : ∀ b, gkd σ' b = gkd σ b) (hc : ∀ b, b ≠ a → gcell G σ' b = gcell G σ b) (ha : gB G ≤ a) (he : va_at (gD G) vwCl (a, gcell G σ' a) H1) : gW G σ' H1 := by
  refine ⟨by rw [hz, hs]; exact h.1, by rw [hs]; exact h.2.1, fun b hb => ?_⟩
  by_cases e : b = a
  · subst e
    exact ⟨ha, he⟩
  · rw [hk] at hb
    obtain ⟨h1, h2⟩ := h.2.2 b hb
    refine ⟨h1, ?_⟩
    rw [hc b e]
    exact h2.kept (oq b e)
theorem gcell_sI {G : gX} {σ : gS} {c k a b : Nat} {v : Int32} (h : b ≠ a) : gcell G (gsI σ c k a v) b = gcell G σ b := by
  have : ∀ c', gfs (gsI σ c k a v) c' b = gfs σ c' b := fun c' => by simp [gfs, gsI, gii, grr, h]
  simp only [gcell, this]
  rfl
theorem gcell_sR {G : gX} {σ : gS} {c k a b : Nat} {v : Option Nat} (h : b ≠ a) : gcell G (gsR σ c k a v) b = gcell G σ b := by
  have : ∀ c', gfs (gsR σ c k a v) c' b = gfs σ c' b := fun c' => by simp [gfs, gsR, gii, grr, h]
  simp only [gcell, this]
  rfl
theorem gcell_sA {G : gX} {σ : gS} {a b i : Nat} {v : Int32} (h : b ≠ a) : gcell G (gsA σ a i v) b = gcell G σ b := by
  have : gai (gsA σ a i v) b = gai σ b := by funext j; simp [gsA, gai, h]
  simp only [gcell, this]
  rfl
theorem gcell_sQ {G : gX} {σ : gS} {a b i : Nat} {v : Option Nat} (h : b ≠ a) : gcell G (gsQ σ a i v) b = gcell G σ b := by
  have : gar (gsQ σ a i v) b = gar σ b := by funext j; simp [gsQ, gar, h]
  simp only [gcell, this]
  rfl
theorem gfs_setI {σ : gS} {c k a : Nat} {v : Int32} (hr : grf c k = false) : (gfs σ c a).set k (.int v) = gfs (gsI σ c k a v) c a := by
  apply List.ext_getElem?
  intro j
  by_cases hj : j < gnf c
  · by_cases e : k = j
    · subst e
      rw [List.getElem?_set_self (by rw [gfs_len]; exact hj), gfs_i hj hr]
      simp [gsI, gii]
    · rw [List.getElem?_set_ne e, gfs_any hj, gfs_any hj]
      simp [gsI, gii, grr, Ne.symm e]
  · rw [List.getElem?_eq_none (by rw [List.length_set, gfs_len]; omega), List.getElem?_eq_none (by rw [gfs_len]; omega)]
theorem gfs_setR {σ : gS} {c k a : Nat} {v : Option Nat} (hr : grf c k = true) : (gfs σ c a).set k (va_rf v) = gfs (gsR σ c k a v) c a := by
  apply List.ext_getElem?
  intro j
  by_cases hj : j < gnf c
  · by_cases e : k = j
    · subst e
      rw [List.getElem?_set_self (by rw [gfs_len]; exact hj), gfs_r hj hr]
      simp [gsR, grr]
    · rw [List.getElem?_set_ne e, gfs_any hj, gfs_any hj]
      simp [gsR, gii, grr, Ne.symm e]
  · rw [List.getElem?_eq_none (by rw [List.length_set, gfs_len]; omega), List.getElem?_eq_none (by rw [gfs_len]; omega)]
/-- what the tables say of a class -/
def gCls (ci : Nat) (C : String) (T : u_T) (N : Nat) (ty : Nat → FieldType) : Prop := vwCl[ci]? = some (C, T, N) ∧ (∀ w ∈ u_ws C T N, w ∈ gT) ∧ gnf ci = N ∧ ci < 9 ∧ (∀ k, k < N → parseFieldDescriptor (T k).2.2.1 = some (ty k)) ∧ (∀ a, a < N → ∀ b, b < N → a ≠ b → (T a).2.1 ≠ (T b).2.1) ∧ Cond.instantiable C N ∈ gT ∧ Cond.initialized C ∈ gT
theorem gcls_0 : gCls 0 RX0 TX0 2 tyX0 := ⟨rfl, fun w h => gT_of ((by decide +kernel : ∀ w ∈ u_ws RX0 TX0 2, w ∈ lw_tbl) w h) ((by decide +kernel : ∀ w ∈ u_ws RX0 TX0 2, goodWord w = true) w h), rfl, by decide, tyX0_ok, nmX0, gT_of (by decide +kernel) rfl, gT_of (by decide +kernel) rfl⟩
theorem gcls_1 : gCls 1 RX2 TX2 9 tyX2 := ⟨rfl, fun w h => gT_of ((by decide +kernel : ∀ w ∈ u_ws RX2 TX2 9, w ∈ lw_tbl) w h) ((by decide +kernel : ∀ w ∈ u_ws RX2 TX2 9, goodWord w = true) w h), rfl, by decide, tyX2_ok, nmX2, gT_of (by decide +kernel) rfl, gT_of (by decide +kernel) rfl⟩
theorem gcls_2 : gCls 2 RX3 TX3 2 tyX3 := ⟨rfl, fun w h => gT_of ((by decide +kernel : ∀ w ∈ u_ws RX3 TX3 2, w ∈ lw_tbl) w h) ((by decide +kernel : ∀ w ∈ u_ws RX3 TX3 2, goodWord w = true) w h), rfl, by decide, tyX3_ok, nmX3, gT_of (by decide +kernel) rfl, gT_of (by decide +kernel) rfl⟩
theorem gcls_3 : gCls 3 RX4 TX4 3 tyX4 := ⟨rfl, fun w h => gT_of ((by decide +kernel : ∀ w ∈ u_ws RX4 TX4 3, w ∈ lw_tbl) w h) ((by decide +kernel : ∀ w ∈ u_ws RX4 TX4 3, goodWord w = true) w h), rfl, by decide, tyX4_ok, nmX4, gT_of (by decide +kernel) rfl, gT_of (by decide +kernel) rfl⟩
theorem gcls_4 : gCls 4 RX5 TX5 2 tyX5 := ⟨rfl, fun w h => gT_of ((by decide +kernel : ∀ w ∈ u_ws RX5 TX5 2, w ∈ lw_tbl) w h) ((by decide +kernel : ∀ w ∈ u_ws RX5 TX5 2, goodWord w = true) w h), rfl, by decide, tyX5_ok, nmX5, gT_of (by decide +kernel) rfl, gT_of (by decide +kernel) rfl⟩
theorem gcls_5 : gCls 5 RX6 TX6 12 tyX6 := ⟨rfl, fun w h => gT_of ((by decide +kernel : ∀ w ∈ u_ws RX6 TX6 12, w ∈ lw_tbl) w h) ((by decide +kernel : ∀ w ∈ u_ws RX6 TX6 12, goodWord w = true) w h), rfl, by decide, tyX6_ok, nmX6, gT_of (by decide +kernel) rfl, gT_of (by decide +kernel) rfl⟩
theorem gcls_6 : gCls 6 RX7 TX7 4 tyX7 := ⟨rfl, fun w h => gT_of ((by decide +kernel : ∀ w ∈ u_ws RX7 TX7 4, w ∈ lw_tbl) w h) ((by decide +kernel : ∀ w ∈ u_ws RX7 TX7 4, goodWord w = true) w h), rfl, by decide, tyX7_ok, nmX7, gT_of (by decide +kernel) rfl, gT_of (by decide +kernel) rfl⟩
theorem gcls_7 : gCls 7 RX8 TX8 8 tyX8 := ⟨rfl, fun w h => gT_of ((by decide +kernel : ∀ w ∈ u_ws RX8 TX8 8, w ∈ lw_tbl) w h) ((by decide +kernel : ∀ w ∈ u_ws RX8 TX8 8, goodWord w = true) w h), rfl, by decide, tyX8_ok, nmX8, gT_of (by decide +kernel) rfl, gT_of (by decide +kernel) rfl⟩
theorem gcls_8 : gCls 8 RX9 TX9 35 tyX9 := ⟨rfl, fun w h => gT_of ((by decide +kernel : ∀ w ∈ u_ws RX9 TX9 35, w ∈ lw_tbl) w h) ((by decide +kernel : ∀ w ∈ u_ws RX9 TX9 35, goodWord w = true) w h), rfl, by decide, tyX9_ok, nmX9, gT_of (by decide +kernel) rfl, gT_of (by decide +kernel) rfl⟩
end
section
def gNest : List (String × Nat × MethodName × String) := [("UrlGate", 9, ⟨"UrlGate$Row", "<init>", "()V"⟩, "UrlGate"), ("UrlGate", 27, ⟨"UrlGate$Host", "<init>", "()V"⟩, "UrlGate"), ("UrlGate$Host", 9, ⟨"UrlGate$Address", "<init>", "()V"⟩, "UrlGate"), ("UrlGate$Host", 18, ⟨"UrlGate$Row", "<init>", "()V"⟩, "UrlGate"), ("UrlGate", 34, ⟨"UrlGate$HostReader", "<init>", "()V"⟩, "UrlGate"), ("UrlGate$HostReader", 11, ⟨"UrlGate$Row", "<init>", "()V"⟩, "UrlGate"), ("UrlGate", 41, ⟨"UrlGate$UrlReader", "<init>", "()V"⟩, "UrlGate"), ("UrlGate$UrlReader", 11, ⟨"UrlGate$Row", "<init>", "()V"⟩, "UrlGate"), ("UrlGate", 48, ⟨"UrlGate$Gate", "<init>", "()V"⟩, "UrlGate"), ("UrlGate", 53, ⟨"UrlGate$Url", "<init>", "()V"⟩, "UrlGate"), ("UrlGate$Url", 17, ⟨"UrlGate$Row", "<init>", "()V"⟩, "UrlGate"), ("UrlGate$Url", 30, ⟨"UrlGate$Host", "<init>", "()V"⟩, "UrlGate"), ("UrlGate$Gate", 50, ⟨"UrlGate$Host", "<init>", "()V"⟩, "UrlGate"), ("UrlGate$Gate", 55, ⟨"UrlGate$Row", "<init>", "()V"⟩, "UrlGate"), ("UrlGate$Gate", 59, ⟨"UrlGate$Address", "<init>", "()V"⟩, "UrlGate")]
def gStr : List (String × Nat × String) := [("UrlGate$Url", 57, "http"), ("UrlGate$Url", 59, "ws"), ("UrlGate$Url", 61, "https"), ("UrlGate$Url", 63, "wss"), ("UrlGate$Url", 65, "ftp"), ("UrlGate$UrlReader", 104, "//"), ("UrlGate$UrlReader", 166, " \"#<>?^`{}/:;=\x40[\\]|"), ("UrlGate$Row", 48, "0123456789ABCDEF"), ("UrlGate$Host", 60, "::"), ("UrlGate$Row", 50, "0123456789abcdef"), ("UrlGate$Bytes", 15, "#%/:<>?\x40[\\]^|"), ("UrlGate$HostReader", 84, "xn--"), ("UrlGate$HostReader", 96, "0x"), ("UrlGate$UrlReader", 199, "%2e"), ("UrlGate$UrlReader", 201, "%2E"), ("UrlGate$UrlReader", 197, " \"#<>?^`{}"), ("UrlGate$UrlReader", 210, " \"#<>'"), ("UrlGate$UrlReader", 218, " \"<>`"), ("UrlGate$Url", 110, "://"), ("UrlGateModel", 132, "http"), ("UrlGateModel", 134, "ws"), ("UrlGateModel", 136, "https"), ("UrlGateModel", 138, "wss"), ("UrlGateModel", 140, "ftp")]
def gLen : List Nat := [4, 2, 5, 3, 3, 2, 19, 16, 2, 16, 13, 4, 2, 3, 3, 10, 6, 5, 3, 4, 2, 5, 3, 3]
def gByt : List (List Int32) := [[104, 116, 116, 112], [119, 115], [104, 116, 116, 112, 115], [119, 115, 115], [102, 116, 112], [47, 47], [32, 34, 35, 60, 62, 63, 94, 96, 123, 125, 47, 58, 59, 61, 64, 91, 92, 93, 124], [48, 49, 50, 51, 52, 53, 54, 55, 56, 57, 65, 66, 67, 68, 69, 70], [58, 58], [48, 49, 50, 51, 52, 53, 54, 55, 56, 57, 97, 98, 99, 100, 101, 102], [35, 37, 47, 58, 60, 62, 63, 64, 91, 92, 93, 94, 124], [120, 110, 45, 45], [48, 120], [37, 50, 101], [37, 50, 69], [32, 34, 35, 60, 62, 63, 94, 96, 123, 125], [32, 34, 35, 60, 62, 39], [32, 34, 60, 62, 96], [58, 47, 47], [104, 116, 116, 112], [119, 115], [104, 116, 116, 112, 115], [119, 115, 115], [102, 116, 112]]
def gSt (G : gX) (U : State) (H : Heap) (i : Nat) : Prop := va_O "java/lang/String" (gK G i) (gA G) U H ∧ va_OF "java/lang/String" "coder" "B" (.int 0) (gK G i) (gA G) U H ∧ va_OF "java/lang/String" "value" "[B" (.ref (gV G i)) (gK G i) (gA G) U H ∧ va_T .byte (gV G i) (gLen.getD i 0) (fun j => .int ((gByt.getD i []).getD j 0)) (gA G) U H
/-- what holds of the machine's tables and of what lies below the system's cells -/
def gG (G : gX) (U : State) (H : Heap) : Prop := va_K (gD G) vwCl (gTy G) U ∧ (∀ C ∈ [RX0, RX3, RX5, RX6], va_AO C U) ∧ (∀ q ∈ gNest, va_Nw (.methodLinkNest q.1 q.2.1 q.2.2.1 q.2.2.2) U) ∧ (∀ (i : Nat) (q : String × Nat × String), gStr[i]? = some q → vk_R q.1 q.2.1 q.2.2 (gK G i) U) ∧ (∀ i : Nat, i < 24 → gSt G U H i) ∧ va_Z "java/lang/String" "COMPACT_STRINGS" "Z" (.int 1) (gA G) U H ∧ va_Zq "jdk/internal/util/Preconditions" "SIOOBE_FORMATTER" "Ljava/util/function/BiFunction;" (gA G) U H
theorem gG.warm {G : gX} {s U : State} {H : Heap} (hW : s.WarmedH U.vm) (h : gG G s H) : gG G U H := by
  obtain ⟨h1, h2, h3, h4, h5, h6, h7⟩ := h
  refine ⟨va_K.moved hW.alike h1, fun C hC => va_AO.moved hW.alike (h2 C hC), fun q hq => va_Nw.warmM hW (h3 q hq), fun i q hq => vk_R.warm hW (h4 i q hq), fun i hi => ?_, va_Z.moved hW.alike h6, va_Zq.moved hW.alike h7⟩
  obtain ⟨g1, g2, g3, g4⟩ := h5 i hi
  exact ⟨va_O.moved hW.alike g1, va_OF.moved hW.alike g2, va_OF.moved hW.alike g3, va_T.moved hW.alike g4⟩
theorem gG.same {G : gX} {u U : State} {H : Heap} (hv : u.vm = U.vm) (h : gG G u H) : gG G U H := by
  have ha : u.vm.Alike U.vm := by rw [hv]; exact Vm.Alike.refl _
  obtain ⟨h1, h2, h3, h4, h5, h6, h7⟩ := h
  refine ⟨va_K.moved ha h1, fun C hC => va_AO.moved ha (h2 C hC), fun q hq => va_Nw.same rfl hv (h3 q hq), fun i q hq => vk_R.same hv.symm (h4 i q hq), fun i hi => ?_, va_Z.moved ha h6, va_Zq.moved ha h7⟩
  obtain ⟨g1, g2, g3, g4⟩ := h5 i hi
  exact ⟨va_O.moved ha g1, va_OF.moved ha g2, va_OF.moved ha g3, va_T.moved ha g4⟩
theorem gG.kept {G : gX} {U : State} {H H1 : Heap} (h : gG G U H) (hq : ∀ a : Nat, a < H.size → ¬ gA G a → H1[a]? = H[a]?) : gG G U H1 := by
  obtain ⟨h1, h2, h3, h4, h5, h6, h7⟩ := h
  refine ⟨h1, h2, h3, h4, fun i hi => ?_, h6.kept hq, h7.kept hq⟩
  obtain ⟨g1, g2, g3, g4⟩ := h5 i hi
  exact ⟨g1.kept hq, g2.kept hq, g3.kept hq, g4.kept hq⟩
/-- the walk's fixed part -/
def gC (G : gX) (p : Program) (s : State) (m : MethodId) (args : Array Value) (meth : Method) (c : Code) (cc : ByteArray) (nL : Nat) (own : String) : Prop := p.tables.exec = Jvm.exec ∧ c.code = cc ∧ c.maxLocals = nL ∧ s.vm.findClass own = some m.cls ∧ (∀ w ∈ gT, w.before args s = true) ∧ meth.locks = false ∧ gG G s s.heap
/-- the walk's moving part: the state σ now, τ at the method's end -/
def gI (G : gX) (R : Room) (s : State) (τ σ : gS) (H : Heap) (locs : List Loc) (cells slots : Nat) : Prop := gW G σ H ∧ va_S (gA G) s.heap H locs ∧ cells + gcl σ = R.cells + gcl τ ∧ slots + gsl σ = R.slots + gsl τ
section GROWS
variable {G : gX} {p : Program} {l : Launch} {e : Env} {R : Room} {s : State} {m : MethodId} {args : Array Value} {below : List Frame} {meth : Method} {c : Code} {H : Heap} {locs : List Loc} {cells slots : Nat} {Q : State → Prop}
variable {cc : ByteArray} {nL pc : Nat} {own : String} {ls : Array Slot} {rest : List Value} {σ : gS} {β : Type} {y : β × gS}
theorem gW_at {G : gX} {σ : gS} {H : Heap} (h : gW G σ H) {a : Nat} {e : va_E} (ha : gkd σ a ≠ 0) (hc : gcell G σ a = e) : va_P (gD G) vwCl [(a, e)] H := by
  intro k q hk
  have hz : k < 1 := (List.getElem?_eq_some_iff.mp hk).1
  rw [show k = 0 by omega] at hk
  cases hk
  rw [← hc]
  exact (h.2.2 a ha).2
theorem gw_geti {ci k index : Nat} {Cn : String} {T : u_T} {N : Nat} {ty : Nat → FieldType} {r : Option Nat} {K : Int32 → gM β} (C : gC G p s m args meth c cc nL own) (I : gI G R s y.2 σ H locs cells slots) (hc : gCls ci Cn T N ty) (hk : k < N) (hr : grf ci k = false) (hl : Cond.fieldLink own index (T k).1 (T k).2.1 (T k).2.2.1 ∈ gT) (hdg : decode cc pc = .ok (.getfield index, 3)) (hf : (gb (rI ci k r) K).1 σ = some y)
    (kk : ∀ x : Int32, (K x).1 σ = some y → W p l e R s m args below meth c H locs cells slots Q (F0 m (pc + 3) ls (.int x :: rest))) : W p l e R s m args below meth c H locs cells slots Q (F0 m pc ls (va_rf r :: rest)) := by
  obtain ⟨x, h1, h2⟩ := gb_some hf
  obtain ⟨h3, h4⟩ := gq_some h1
  obtain ⟨x, σ1⟩ := x
  dsimp only at h2 h3 h4
  subst h4
  cases r with
  | none => cases h3
  | some a =>
    dsimp only at h3
    split at h3
    · rename_i hka
      cases h3
      obtain ⟨hx, hb, -, hown, hts, -, hG⟩ := C
      obtain ⟨g1, g2, g3, g4, g5, g6, -⟩ := hc
      have hP := gW_at I.1 (by rw [hka]; omega) (gcell_o hka g4)
      exact va_get (D := gD G) (ws := [(a, .inr (ci, gfs σ1 ci a))]) (ci := ci) (C := Cn) (T := T) (N := N) hx hb hts g2 hown hG.1 hP 0 rfl g1 k hk (hts _ hl) (fun _ h => h) (gfs_i (by rw [g3]; exact hk) hr) hdg (kk _ h2)
    · cases h3
theorem gw_getr {ci k index : Nat} {Cn : String} {T : u_T} {N : Nat} {ty : Nat → FieldType} {r : Option Nat} {K : Option Nat → gM β} (C : gC G p s m args meth c cc nL own) (I : gI G R s y.2 σ H locs cells slots) (hc : gCls ci Cn T N ty) (hk : k < N) (hr : grf ci k = true) (hl : Cond.fieldLink own index (T k).1 (T k).2.1 (T k).2.2.1 ∈ gT) (hdg : decode cc pc = .ok (.getfield index, 3)) (hf : (gb (rR ci k r) K).1 σ = some y)
    (kk : ∀ x : Option Nat, (K x).1 σ = some y → W p l e R s m args below meth c H locs cells slots Q (F0 m (pc + 3) ls (va_rf x :: rest))) : W p l e R s m args below meth c H locs cells slots Q (F0 m pc ls (va_rf r :: rest)) := by
  obtain ⟨x, h1, h2⟩ := gb_some hf
  obtain ⟨h3, h4⟩ := gq_some h1
  obtain ⟨x, σ1⟩ := x
  dsimp only at h2 h3 h4
  subst h4
  cases r with
  | none => cases h3
  | some a =>
    dsimp only at h3
    split at h3
    · rename_i hka
      cases h3
      obtain ⟨hx, hb, -, hown, hts, -, hG⟩ := C
      obtain ⟨g1, g2, g3, g4, g5, g6, -⟩ := hc
      have hP := gW_at I.1 (by rw [hka]; omega) (gcell_o hka g4)
      exact va_get (D := gD G) (ws := [(a, .inr (ci, gfs σ1 ci a))]) (ci := ci) (C := Cn) (T := T) (N := N) hx hb hts g2 hown hG.1 hP 0 rfl g1 k hk (hts _ hl) (fun _ h => h) (gfs_r (by rw [g3]; exact hk) hr) hdg (kk _ h2)
    · cases h3
/-- a field is written, of whatever type -/
theorem gx_put {a ci k index : Nat} {Cn : String} {T : u_T} {N : Nat} {ty0 : Nat → FieldType} {ty : FieldType} {v : Value} {fs : List Value} (C : gC G p s m args meth c cc nL own) (hS0 : va_S (gA G) s.heap H locs) (ha : gB G ≤ a) (hc : gCls ci Cn T N ty0) (hk : k < N) (hl : Cond.fieldLink own index (T k).1 (T k).2.1 (T k).2.2.1 ∈ gT) (hfin : (T k).2.2.2 = false ∨ ((T k).2.2.2 = true ∧ meth.name = "<init>" ∧ (T k).1 = own)) (hd : parseFieldDescriptor (T k).2.2.1 = some ty) (hn : narrow ty v = v) (hfit : fits ty v = true) (hlen : k < fs.length) (hP : va_at (gD G) vwCl (a, .inr (ci, fs)) H) (hdg : decode cc pc = .ok (.putfield index, 3))
    (kk : ∀ (H1 : Heap) (locs1 : List Loc), H1.size = H.size → (∀ q : Nat, q ≠ a → H1[q]? = H[q]?) → va_at (gD G) vwCl (a, .inr (ci, fs.set k v)) H1 → va_S (gA G) s.heap H1 locs1 → W p l e R s m args below meth c H1 locs1 cells slots Q (F0 m (pc + 3) ls rest)) : W p l e R s m args below meth c H locs cells slots Q (F0 m pc ls (v :: .ref a :: rest)) := by
  obtain ⟨hx, hb, -, hown, hts, -, hG⟩ := C
  obtain ⟨g1, g2, g3, g4, g5, g6, -⟩ := hc
  have hap := va_apart (own := own) hts g2 ty0 g5 g6 hG.1 g1
  obtain ⟨r, h1, cell, q1, q2, q3, q4⟩ := hP
  have hr : r = (Cn, T, N) := Option.some.inj (h1.symm.trans g1)
  subst hr
  obtain ⟨hSl, hfc, kC, hkC, hkind⟩ := hG.1.1 ci _ g1
  obtain ⟨cf, kf, fi, f, hi, hsl⟩ := hSl k hk
  have hlay := hts _ (g2 _ (u_in_lay hk))
  have hst := (u_facts hfc hkC (u_lays hts g2 hk) hi).1
  have fin : ∀ H' : Heap, H'[a]? = some (cell.setSlot f.slot v) → H'.size = H.size → (∀ q : Nat, q ≠ a → H'[q]? = H[q]?) → W p l e R s m args below meth c H' (locs ++ [⟨a, f.slot⟩]) cells slots Q (F0 m (pc + 3) ls rest) := by
    intro H' e1 e2 e3
    rw [hsl] at e1 ⊢
    exact kk H' _ e2 e3 ⟨_, g1, t_OB.to (V := updV (vp_V fs) k v) ⟨_, e1, q2, q3, t_set q4 hap hk v⟩ (fun j _ => vp_updV_set hlen v j)⟩ (hS0.put e2 e3 ha)
  unfold u_lay at hlay
  rcases hfin with hfin | ⟨hfin, hin2, hdecl⟩
  · rw [if_neg (by rw [hfin]; decide)] at hlay
    have h6 := u_store hfc hkC hkind hlay hi hd hn hfit
    exact W.putK hx hb (f := f) ⟨hown, hts _ hl, ⟨_, _, _, hi⟩, hst⟩ (by rw [q2]; exact h6) q1 q3 (by rw [hsl]; exact k2_hasslot (q4 k hk)) rfl rfl hdg fin
  · rw [if_pos hfin] at hlay
    have hcf : m.cls = cf := by
      obtain ⟨_, _, c', _, _, _, -, -, hf', -, -, -, hown2, -⟩ := Cond.laysFinal_spec hlay
      have e1 : c' = cf := by have := hi.symm.trans hf'; simp at this; exact this.1.symm
      rw [hdecl] at hown2
      rw [← e1]; exact Option.some.inj (hown.symm.trans hown2)
    have h6 := u_fits hfc hkC hkind (Or.inr hlay) hi hd hn hfit
    exact W.putFinK hx hb hown (hts _ hl) hi hst hcf hin2 (by rw [q2]; exact h6) q1 q3 (by rw [hsl]; exact k2_hasslot (q4 k hk)) rfl rfl hdg fin
/-- an int field; the kinds of field that hold an int as it is -/
theorem gw_puti {ci k index : Nat} {Cn : String} {T : u_T} {N : Nat} {ty0 : Nat → FieldType} {r : Option Nat} {v : Int32} {K : Unit → gM β} (C : gC G p s m args meth c cc nL own) (I : gI G R s y.2 σ H locs cells slots) (hc : gCls ci Cn T N ty0) (hk : k < N) (hr : grf ci k = false) (hl : Cond.fieldLink own index (T k).1 (T k).2.1 (T k).2.2.1 ∈ gT) (hfin : (T k).2.2.2 = false ∨ ((T k).2.2.2 = true ∧ meth.name = "<init>" ∧ (T k).1 = own)) (hd : parseFieldDescriptor (T k).2.2.1 = some .int) (hdg : decode cc pc = .ok (.putfield index, 3)) (hf : (gb (wI ci k r v) K).1 σ = some y)
    (kk : ∀ (σ1 : gS) (H1 : Heap) (locs1 : List Loc), gI G R s y.2 σ1 H1 locs1 cells slots → (K ()).1 σ1 = some y → W p l e R s m args below meth c H1 locs1 cells slots Q (F0 m (pc + 3) ls rest)) : W p l e R s m args below meth c H locs cells slots Q (F0 m pc ls (.int v :: va_rf r :: rest)) := by
  obtain ⟨x, h1, h2⟩ := gb_some hf
  have h3 := gu_some h1
  cases r with
  | none => cases h3
  | some a =>
    dsimp only at h3
    split at h3
    · rename_i hka
      have h3 := Option.some.inj h3
      have hg := hc
      obtain ⟨g1, g2, g3, g4, g5, g6, -⟩ := hg
      have hne : gkd σ a ≠ 0 := by rw [hka]; omega
      have hP := (I.1.2.2 a hne).2
      rw [gcell_o hka g4] at hP
      refine gx_put (v := .int v) C I.2.1 (I.1.2.2 a hne).1 hc hk hl hfin hd rfl rfl (by rw [gfs_len, g3]; exact hk) hP hdg fun H1 locs1 e1 e2 e3 hS => ?_
      rw [gfs_setI hr] at e3
      rw [← h3] at h2
      refine kk (gsI σ ci k a v) H1 locs1 ⟨gW_upd I.1 e1 e2 rfl (fun _ => rfl) (fun b hb => gcell_sI hb) (I.1.2.2 a hne).1 ?_, hS, I.2.2.1, I.2.2.2⟩ h2
      rw [gcell_o (σ := gsI σ ci k a v) hka g4]
      exact e3
    · cases h3
theorem gw_putz {ci k index : Nat} {Cn : String} {T : u_T} {N : Nat} {ty0 : Nat → FieldType} {r : Option Nat} {v : Int32} {K : Unit → gM β} (C : gC G p s m args meth c cc nL own) (I : gI G R s y.2 σ H locs cells slots) (hc : gCls ci Cn T N ty0) (hk : k < N) (hr : grf ci k = false) (hl : Cond.fieldLink own index (T k).1 (T k).2.1 (T k).2.2.1 ∈ gT) (hfin : (T k).2.2.2 = false ∨ ((T k).2.2.2 = true ∧ meth.name = "<init>" ∧ (T k).1 = own)) (hd : parseFieldDescriptor (T k).2.2.1 = some .boolean) (hdg : decode cc pc = .ok (.putfield index, 3)) (hf : (gb (wZ ci k r v) K).1 σ = some y)
    (kk : ∀ (σ1 : gS) (H1 : Heap) (locs1 : List Loc), gI G R s y.2 σ1 H1 locs1 cells slots → (K ()).1 σ1 = some y → W p l e R s m args below meth c H1 locs1 cells slots Q (F0 m (pc + 3) ls rest)) : W p l e R s m args below meth c H locs cells slots Q (F0 m pc ls (.int v :: va_rf r :: rest)) := by
  obtain ⟨x, h1, h2⟩ := gb_some hf
  have h3 := gu_some h1
  cases r with
  | none => cases h3
  | some a =>
    dsimp only at h3
    split at h3
    · rename_i hka
      obtain ⟨hka, hv⟩ := hka
      have h3 := Option.some.inj h3
      have hg := hc
      obtain ⟨g1, g2, g3, g4, g5, g6, -⟩ := hg
      have hne : gkd σ a ≠ 0 := by rw [hka]; omega
      have hP := (I.1.2.2 a hne).2
      rw [gcell_o hka g4] at hP
      refine gx_put (v := .int v) C I.2.1 (I.1.2.2 a hne).1 hc hk hl hfin hd (by rcases hv with rfl | rfl <;> decide) (by rcases hv with rfl | rfl <;> decide) (by rw [gfs_len, g3]; exact hk) hP hdg fun H1 locs1 e1 e2 e3 hS => ?_
      rw [gfs_setI hr] at e3
      rw [← h3] at h2
      refine kk (gsI σ ci k a v) H1 locs1 ⟨gW_upd I.1 e1 e2 rfl (fun _ => rfl) (fun b hb => gcell_sI hb) (I.1.2.2 a hne).1 ?_, hS, I.2.2.1, I.2.2.2⟩ h2
      rw [gcell_o (σ := gsI σ ci k a v) hka g4]
      exact e3
    · cases h3
theorem gw_putr {ci k index : Nat} {Cn : String} {T : u_T} {N : Nat} {ty0 : Nat → FieldType} {ty : FieldType} {r v : Option Nat} {K : Unit → gM β} (C : gC G p s m args meth c cc nL own) (I : gI G R s y.2 σ H locs cells slots) (hc : gCls ci Cn T N ty0) (hk : k < N) (hr : grf ci k = true) (hl : Cond.fieldLink own index (T k).1 (T k).2.1 (T k).2.2.1 ∈ gT) (hfin : (T k).2.2.2 = false ∨ ((T k).2.2.2 = true ∧ meth.name = "<init>" ∧ (T k).1 = own)) (hd : parseFieldDescriptor (T k).2.2.1 = some ty) (hty : ∀ v : Option Nat, narrow ty (va_rf v) = va_rf v ∧ fits ty (va_rf v) = true) (hdg : decode cc pc = .ok (.putfield index, 3)) (hf : (gb (wR ci k r v) K).1 σ = some y)
    (kk : ∀ (σ1 : gS) (H1 : Heap) (locs1 : List Loc), gI G R s y.2 σ1 H1 locs1 cells slots → (K ()).1 σ1 = some y → W p l e R s m args below meth c H1 locs1 cells slots Q (F0 m (pc + 3) ls rest)) : W p l e R s m args below meth c H locs cells slots Q (F0 m pc ls (va_rf v :: va_rf r :: rest)) := by
  obtain ⟨x, h1, h2⟩ := gb_some hf
  have h3 := gu_some h1
  cases r with
  | none => cases h3
  | some a =>
    dsimp only at h3
    split at h3
    · rename_i hka
      have h3 := Option.some.inj h3
      have hg := hc
      obtain ⟨g1, g2, g3, g4, g5, g6, -⟩ := hg
      have hne : gkd σ a ≠ 0 := by rw [hka]; omega
      have hP := (I.1.2.2 a hne).2
      rw [gcell_o hka g4] at hP
      refine gx_put (v := va_rf v) C I.2.1 (I.1.2.2 a hne).1 hc hk hl hfin hd (hty v).1 (hty v).2 (by rw [gfs_len, g3]; exact hk) hP hdg fun H1 locs1 e1 e2 e3 hS => ?_
      rw [gfs_setR hr] at e3
      rw [← h3] at h2
      refine kk (gsR σ ci k a v) H1 locs1 ⟨gW_upd I.1 e1 e2 rfl (fun _ => rfl) (fun b hb => gcell_sR hb) (I.1.2.2 a hne).1 ?_, hS, I.2.2.1, I.2.2.2⟩ h2
      rw [gcell_o (σ := gsR σ ci k a v) hka g4]
      exact e3
    · cases h3
theorem gty_o (C : String) : ∀ v : Option Nat, narrow (.object C) (va_rf v) = va_rf v ∧ fits (.object C) (va_rf v) = true := by intro v; cases v <;> exact ⟨rfl, rfl⟩
theorem gty_a (t : FieldType) : ∀ v : Option Nat, narrow (.array t) (va_rf v) = va_rf v ∧ fits (.array t) (va_rf v) = true := by intro v; cases v <;> exact ⟨rfl, rfl⟩
end GROWS
end
section
theorem grc (r : Option Nat) : (va_rf r).category = 1 := by cases r <;> rfl
theorem gcats : ∀ (l : List Value), (l.map fun v => v.category).sum ≤ 2 * l.length
  | [] => Nat.le_refl _
  | v :: l => by
    have h := gcats l
    have h1 := lv_cat v
    simp only [List.map_cons, List.sum_cons, List.length_cons]
    omega
/-- a method's answer as the machine has it -/
abbrev gri : Int32 → Option Value := fun x => some (.int x)
abbrev grl : Int64 → Option Value := fun x => some (.long x)
abbrev grq : Option Nat → Option Value := fun x => some (va_rf x)
abbrev grv : Unit → Option Value := fun _ => none
def gQ {α : Type} (G : gX) (rv : α → Option Value) (y : α × gS) : Array Value → State → Outcome → State → Prop := fun _ st oc t => oc = .returned (rv y.1) ∧ gW G y.2 t.heap ∧ va_F (gA G) st t
def gPc (G : gX) (av : List Value) (σ : gS) : Array Value → State → Prop := va_Pc av (fun U => gW G σ U.heap ∧ gG G U U.heap)
/-- a method's contract: it does what the program f does -/
def gMet {α : Type} (G : gX) (l : Launch) (yn : MethodName) (cc : ByteArray) (nL : Nat) (ret : Option FieldType) (F Lc : Nat) (av : List Value) (rv : α → Option Value) (f : gM α) : Prop :=
  ∀ (σ : gS) (y : α × gS), f.1 σ = some y → Met l yn (.code yn cc nL ret :: gT) { frames := F, cells := gcl σ - gcl y.2, slots := gsl σ - gsl y.2, locals := Lc } (gPc G av σ) (gQ G rv y) (gcl σ - gcl y.2) (gsl σ - gsl y.2) (gA G)
theorem gPc_blind {G : gX} {av : List Value} {σ : gS} : FrameBlind (gPc G av σ) := fun a U g mk h => ⟨h.1, h.2.1, gG.same (u := U) (U := U.calling g mk a) rfl h.2.2⟩
theorem gMet_of {α : Type} {G : gX} {l : Launch} {yn : MethodName} {cc : ByteArray} {nL : Nat} {ret : Option FieldType} {F Lc : Nat} {av : List Value} {rv : α → Option Value} {f : gM α} (hy : plainName yn.cls = true)
    (body : ∀ (σ : gS) (y : α × gS) (p : Program) (e : Env) (s : State) (m : MethodId) (below : List Frame) (meth : Method) (c : Code) (mc ms : Nat), f.1 σ = some y → gC G p s m av.toArray meth c cc nL yn.cls → meth.sig.returnType = ret → meth.name = yn.name → gI G { frames := F, cells := mc, slots := ms, locals := Lc } s y.2 σ s.heap [] 0 0 → W p l e { frames := F, cells := mc, slots := ms, locals := Lc } s m av.toArray below meth c s.heap [] 0 0 (MQ below (gQ G rv y) av.toArray s mc ms (gA G)) (entryFrame m av.toArray nL)) : gMet G l yn cc nL ret F Lc av rv f := by
  intro σ y hf
  refine Met.ofW (cc := cc) (maxL := nL) (ret := ret) hy rfl ?_
  intro p e s m args below meth c s₁ B hml hv
  obtain ⟨rfl, hW, hG⟩ := hv
  have hts := atoms_spec (ws := .code yn cc nL ret :: gT) B.pre
  have hmono := f.2 σ y hf
  refine body σ y p e s m below meth c _ _ hf ⟨B.exec, B.bytes, hml, findClass_of_methodNamed B.named, fun w h => hts w (List.mem_cons_of_mem _ h), B.notSynchronized, hG⟩ B.returns (name_of_methodNamed B.named B.method).1 ⟨hW, va_S.rf, ?_, ?_⟩
  · show 0 + gcl σ = (gcl σ - gcl y.2) + gcl y.2
    have := hmono.1
    omega
  · show 0 + gsl σ = (gsl σ - gsl y.2) + gsl y.2
    have := hmono.2
    omega
section GROWS2
variable {G : gX} {p : Program} {l : Launch} {e : Env} {R : Room} {s : State} {m : MethodId} {args : Array Value} {below : List Frame} {meth : Method} {c : Code} {H : Heap} {locs : List Loc} {cells slots : Nat} {Q : State → Prop}
variable {cc : ByteArray} {nL pc : Nat} {own : String} {ls : Array Slot} {rest : List Value} {σ : gS} {α β : Type} {y : β × gS}
/-- the law's own environment, at the heap as it is now -/
theorem gG_now (C : gC G p s m args meth c cc nL own) (hS : va_S (gA G) s.heap H locs) : gG G s H := C.2.2.2.2.2.2.kept (fun a h1 h2 => hS.2.1 a h1 h2)
theorem gw_run {rv : α → Option Value} {f : gM α} {K : α → gM β} {st0 : List Value} {a : Array Value} (I : gI G R s y.2 σ H locs cells slots) (hf : (gb f K).1 σ = some y) (hr : ∀ y1, f.1 σ = some y1 → cells + (gcl σ - gcl y1.2) ≤ R.cells ∧ slots + (gsl σ - gsl y1.2) ≤ R.slots → va_Run p l e R s m args below meth c H locs cells slots (gcl σ - gcl y1.2) (gsl σ - gsl y1.2) (F0 m pc ls st0) rest (gQ G rv y1 a) (gA G))
    (kk : ∀ (x : α) (σ1 : gS) (H1 : Heap) (locs1 : List Loc) (cells1 slots1 : Nat), gI G R s y.2 σ1 H1 locs1 cells1 slots1 → (K x).1 σ1 = some y → W p l e R s m args below meth c H1 locs1 cells1 slots1 Q (F0 m (pc + 3) ls ((rv x).toList ++ rest))) : W p l e R s m args below meth c H locs cells slots Q (F0 m pc ls st0) := by
  obtain ⟨y1, h1, h2⟩ := gb_some hf
  have m1 := f.2 σ y1 h1
  have m2 := (K y1.1).2 y1.2 y h2
  obtain ⟨iW, iS, iC, iL⟩ := I
  have hr := hr y1 h1 ⟨by omega, by omega⟩
  intro T hT X
  obtain ⟨v, st₀, t, T', L, h0, X', hL, e1, e2, ⟨hv, hb, hz, hk⟩, st⟩ := hr T hT X
  cases hv
  rw [h0] at hz hk
  obtain ⟨t2, a1, b1⟩ := kk y1.1 y1.2 T'.heap (locs ++ L) _ _ ⟨by rw [e1]; exact hb, ⟨Nat.le_trans iS.1 (by rw [e1]; exact hz), fun q q1 q2 => by rw [e1, hk q (Nat.lt_of_lt_of_le q1 iS.1) q2]; exact iS.2.1 q q1 q2, fun q hq => by
      rcases List.mem_append.mp hq with h | h
      · exact iS.2.2 q h
      · exact hL q h⟩, by omega, by omega⟩ h2 T' rfl X'
  exact ⟨t2, st t2 a1, b1⟩
theorem nn_some {ci : Nat} {r : Option Nat} {K : Unit → gM β} {σ : gS} {y : β × gS} (hf : (gb (nn ci r) K).1 σ = some y) : ∃ a, r = some a ∧ gkd σ a = ci + 1 ∧ (K ()).1 σ = some y := by
  obtain ⟨x, h1, h2⟩ := gb_some hf
  obtain ⟨h3, h4⟩ := gq_some h1
  cases r with
  | none => cases h3
  | some a =>
    dsimp only at h3
    split at h3
    · rename_i hk
      rw [h4] at h2
      exact ⟨a, rfl, hk, h2⟩
    · cases h3
theorem gw_pre (C : gC G p s m args meth c cc nL own) (I : gI G R s y.2 σ H locs cells slots) {av : List Value} : PreS s H (gPc G av σ) av := ⟨gPc_blind, fun U hU hW => ⟨rfl, by rw [hU]; exact I.1, by rw [hU]; exact (gG_now C I.2.1).warm hW⟩⟩
theorem gw_recv (C : gC G p s m args meth c cc nL own) (I : gI G R s y.2 σ H locs cells slots) {ci a N : Nat} {Cn : String} {T : u_T} {ty : Nat → FieldType} (hc : gCls ci Cn T N ty) (hk : gkd σ a = ci + 1) : ∃ cell : Cell, H[a]? = some cell ∧ cell.vm.isStatics = false ∧ s.vm.findClass Cn = some cell.cls := by
  have hP := gW_at I.1 (by rw [hk]; omega) (gcell_o hk hc.2.2.2.1)
  exact va_recv C.2.2.2.2.2.2.1 hP hc.1 (q0 := 0) rfl
/-- what a call wants of the tables -/
def gLink (own : String) (index : Nat) (yn : MethodName) (cc : ByteArray) (nL n : Nat) (ret : Option FieldType) : Prop := Cond.methodLink own index yn ∈ gT ∧ Cond.code yn cc nL ret ∈ gT ∧ Cond.initialized yn.cls ∈ gT ∧ yn.cls ≠ "java/lang/invoke/MethodHandle" ∧ yn.cls ≠ "java/lang/invoke/VarHandle" ∧ (parseMethodDescriptor yn.desc).map (fun d => d.parameters.length) = some n
theorem gLink.B {Ts : Cond} {yn : MethodName} {cc' : ByteArray} {nL' n index F Lc mc ms : Nat} {ret : Option FieldType} (h : gLink own index yn cc' nL' n ret) (hts : ∀ w ∈ gT, w.before args s = true) (hR : F + 1 ≤ R.frames ∧ 8 + (nL' + 11) + Lc ≤ R.locals) : CallB R s args own index yn cc' nL' ret (.code yn cc' nL' ret :: gT) { frames := F, cells := mc, slots := ms, locals := Lc } mc ms n := by
  obtain ⟨h1, h2, h3, h4, h5, h6⟩ := h
  refine ⟨rfl, rfl, hR.1, hR.2, pay_in (big := gT) hts ?_, List.mem_cons_self, hts _ h2, hts _ h3, ⟨h4, h5⟩, fun sig hs => ?_, hts _ h1⟩
  · intro w hw
    rcases List.mem_cons.mp hw with rfl | hw
    · exact ⟨h2, good_of_word (List.mem_filter.mp h2).2⟩
    · exact ⟨hw, good_of_word (List.mem_filter.mp hw).2⟩
  · rw [hs] at h6
    exact (Option.some.inj h6).symm
theorem gw_callV {rv : α → Option Value} {f : gM α} {K : α → gM β} {ci N : Nat} {Cn : String} {T : u_T} {ty : Nat → FieldType} {yn : MethodName} {cc' : ByteArray} {nL' n index F Lc : Nat} {ret : Option FieldType} {r : Option Nat} {As st0 : List Value} (C : gC G p s m args meth c cc nL own) (I : gI G R s y.2 σ H locs cells slots) (hl : ls.size = nL) (hc : gCls ci Cn T N ty) (hM : gMet G l yn cc' nL' ret F Lc (va_rf r :: As) rv f) (h : gLink own index yn cc' nL' n ret) (hin : Cond.instanceMethod yn ∈ gT ∧ Cond.selects Cn yn yn ∈ gT) (hR : F + 1 ≤ R.frames ∧ 8 + (nL' + 11) + Lc ≤ R.locals) (hn : As.length = n) (hrest : rest.length ≤ 4) (hst : st0 = As.reverse ++ va_rf r :: rest) (hdg : decode cc pc = .ok (.invokevirtual index, 3)) (hf : (gb (nn ci r) fun _ => gb f K).1 σ = some y)
    (kk : ∀ (x : α) (σ1 : gS) (H1 : Heap) (locs1 : List Loc) (cells1 slots1 : Nat), gI G R s y.2 σ1 H1 locs1 cells1 slots1 → (K x).1 σ1 = some y → W p l e R s m args below meth c H1 locs1 cells1 slots1 Q (F0 m (pc + 3) ls ((rv x).toList ++ rest))) : W p l e R s m args below meth c H locs cells slots Q (F0 m pc ls st0) := by
  obtain ⟨a, rfl, hk, hf⟩ := nn_some hf
  refine gw_run (rv := rv) (a := (Value.ref a :: As).toArray) I hf (fun y1 h1 hroom => ?_) kk
  obtain ⟨hx, hb, hml, hown, hts, -, hG⟩ := id C
  refine va_runV (b := a) (As := As) (rest := rest) ⟨hx, hb, hml, hown, hts⟩ (hM σ y1 h1) ⟨gLink.B (Ts := Cond.static yn) h hts hR, hts _ hin.1, hts _ hin.2⟩ ⟨gPc_blind, gw_recv C I hc hk, (gw_pre C I).2⟩ rfl hn hl hst ?_ hdg hroom
  refine lv_room ?_
  have := gcats rest
  omega
theorem gw_callS {rv : α → Option Value} {f : gM α} {K : α → gM β} {yn : MethodName} {cc' : ByteArray} {nL' n index F Lc : Nat} {ret : Option FieldType} {As st0 : List Value} (C : gC G p s m args meth c cc nL own) (I : gI G R s y.2 σ H locs cells slots) (hl : ls.size = nL) (hM : gMet G l yn cc' nL' ret F Lc As rv f) (h : gLink own index yn cc' nL' n ret) (hin : Cond.static yn ∈ gT) (hR : F + 1 ≤ R.frames ∧ 8 + (nL' + 11) + Lc ≤ R.locals) (hn : As.length = n) (hrest : rest.length ≤ 4) (hst : st0 = As.reverse ++ rest) (hdg : decode cc pc = .ok (.invokestatic index, 3)) (hf : (gb f K).1 σ = some y)
    (kk : ∀ (x : α) (σ1 : gS) (H1 : Heap) (locs1 : List Loc) (cells1 slots1 : Nat), gI G R s y.2 σ1 H1 locs1 cells1 slots1 → (K x).1 σ1 = some y → W p l e R s m args below meth c H1 locs1 cells1 slots1 Q (F0 m (pc + 3) ls ((rv x).toList ++ rest))) : W p l e R s m args below meth c H locs cells slots Q (F0 m pc ls st0) := by
  refine gw_run (rv := rv) (a := As.toArray) I hf (fun y1 h1 hroom => ?_) kk
  obtain ⟨hx, hb, hml, hown, hts, -, hG⟩ := id C
  refine va_runS (As := As) (rest := rest) ⟨hx, hb, hml, hown, hts⟩ (hM σ y1 h1) ⟨gLink.B (Ts := Cond.static yn) h hts hR, hts _ hin⟩ (gw_pre C I) rfl hn hl hst ?_ hdg hroom
  refine lv_room ?_
  have := gcats rest
  omega
/-- a constructor of the class itself or one that the tables link as any other method -/
theorem gw_callI {f : gM Unit} {K : Unit → gM β} {yn : MethodName} {cc' : ByteArray} {nL' n index F Lc : Nat} {r : Option Nat} {As st0 : List Value} (C : gC G p s m args meth c cc nL own) (I : gI G R s y.2 σ H locs cells slots) (hl : ls.size = nL) (hM : gMet G l yn cc' nL' none F Lc (va_rf r :: As) grv f) (h : gLink own index yn cc' nL' n none) (hin : yn.name = "<init>" ∧ Cond.instanceMethod yn ∈ gT) (hR : F + 1 ≤ R.frames ∧ 8 + (nL' + 11) + Lc ≤ R.locals) (hn : As.length = n) (hrest : rest.length ≤ 4) (hst : st0 = As.reverse ++ va_rf r :: rest) (hdg : decode cc pc = .ok (.invokespecial index, 3)) {ci : Nat} (hf : (gb (nn ci r) fun _ => gb f K).1 σ = some y)
    (kk : ∀ (x : Unit) (σ1 : gS) (H1 : Heap) (locs1 : List Loc) (cells1 slots1 : Nat), gI G R s y.2 σ1 H1 locs1 cells1 slots1 → (K x).1 σ1 = some y → W p l e R s m args below meth c H1 locs1 cells1 slots1 Q (F0 m (pc + 3) ls rest)) : W p l e R s m args below meth c H locs cells slots Q (F0 m pc ls st0) := by
  obtain ⟨a, rfl, hk, hf⟩ := nn_some hf
  refine gw_run (rv := grv) (a := (Value.ref a :: As).toArray) I hf (fun y1 h1 hroom => ?_) kk
  obtain ⟨hx, hb, hml, hown, hts, -, hG⟩ := id C
  refine va_runI (b := a) (As := As) (rest := rest) ⟨hx, hb, hml, hown, hts⟩ (hM σ y1 h1) ⟨gLink.B (Ts := Cond.static yn) h hts hR, hin.1, hts _ hin.2⟩ (gw_pre C I) rfl hn hl hst ?_ hdg hroom
  refine lv_room ?_
  have := gcats rest
  omega
/-- a nest mate's private constructor -/
theorem gw_callN {f : gM Unit} {K : Unit → gM β} {yn : MethodName} {host : String} {cc' : ByteArray} {nL' n index F Lc : Nat} {r : Option Nat} {As st0 : List Value} (C : gC G p s m args meth c cc nL own) (I : gI G R s y.2 σ H locs cells slots) (hl : ls.size = nL) (hM : gMet G l yn cc' nL' none F Lc (va_rf r :: As) grv f) (hnest : (own, index, yn, host) ∈ gNest) (hcode : Cond.code yn cc' nL' none ∈ gT ∧ Cond.initialized yn.cls ∈ gT) (hd : yn.cls ≠ "java/lang/invoke/MethodHandle" ∧ yn.cls ≠ "java/lang/invoke/VarHandle" ∧ (parseMethodDescriptor yn.desc).map (fun d => d.parameters.length) = some n) (hin : yn.name = "<init>" ∧ Cond.instanceMethod yn ∈ gT) (hR : F + 1 ≤ R.frames ∧ 8 + (nL' + 11) + Lc ≤ R.locals) (hn : As.length = n) (hrest : rest.length ≤ 4) (hst : st0 = As.reverse ++ va_rf r :: rest) (hdg : decode cc pc = .ok (.invokespecial index, 3)) {ci : Nat} (hf : (gb (nn ci r) fun _ => gb f K).1 σ = some y)
    (kk : ∀ (x : Unit) (σ1 : gS) (H1 : Heap) (locs1 : List Loc) (cells1 slots1 : Nat), gI G R s y.2 σ1 H1 locs1 cells1 slots1 → (K x).1 σ1 = some y → W p l e R s m args below meth c H1 locs1 cells1 slots1 Q (F0 m (pc + 3) ls rest)) : W p l e R s m args below meth c H locs cells slots Q (F0 m pc ls st0) := by
  obtain ⟨a, rfl, hk, hf⟩ := nn_some hf
  refine gw_run (rv := grv) (a := (Value.ref a :: As).toArray) I hf (fun y1 h1 hroom => ?_) kk
  obtain ⟨hx, hb, hml, hown, hts, -, hG⟩ := id C
  refine va_runIN (b := a) (As := As) (rest := rest) (host := host) (bytes := cc') (maxL := nL') (n := n) ⟨hx, hb, hml, hown, hts⟩ (hM σ y1 h1) ⟨⟨⟨rfl, rfl, hR.1, hR.2, pay_in (big := gT) hts ?_, List.mem_cons_self⟩, hts _ hcode.1, hts _ hcode.2, ⟨hd.1, hd.2.1⟩, fun sig hs => ?_, va_Nw.use rfl (hG.2.2.1 _ hnest)⟩, hin.1, hts _ hin.2⟩ (gw_pre C I) rfl hn hl hst ?_ hdg hroom
  · intro w hw
    rcases List.mem_cons.mp hw with rfl | hw
    · exact ⟨hcode.1, good_of_word (List.mem_filter.mp hcode.1).2⟩
    · exact ⟨hw, good_of_word (List.mem_filter.mp hw).2⟩
  · have h6 := hd.2.2
    rw [hs] at h6
    exact (Option.some.inj h6).symm
  · refine lv_room ?_
    have := gcats rest
    omega
/-- the ends -/
theorem gw_iret {x : Int32} {mc ms : Nat} {F Lc : Nat} {y : Int32 × gS} (C : gC G p s m args meth c cc nL own) (I : gI G { frames := F, cells := mc, slots := ms, locals := Lc } s y.2 σ H locs cells slots) (hr : meth.sig.returnType = some .int) (hdg : decode cc pc = .ok (.ireturn, 1)) (hf : (gp x).1 σ = some y) : W p l e { frames := F, cells := mc, slots := ms, locals := Lc } s m args below meth c H locs cells slots (MQ below (gQ G gri y) args s mc ms (gA G)) (F0 m pc ls [.int x]) := by
  have hy := gp_some hf
  subst hy
  obtain ⟨hx, hb, -, -, -, hlocks, -⟩ := C
  obtain ⟨iW, iS, iC, iL⟩ := I
  have e1 : cells = mc := Nat.add_right_cancel iC
  have e2 : slots = ms := Nat.add_right_cancel iL
  subst e1; subst e2
  exact W.iret hx hb hr (fun t ht hW => ⟨rfl, by rw [ht]; exact iW, iS.F ht⟩) iS.2.2 hdg hlocks
/-- a boolean's end: 0 or 1 alone -/
def gz (x : Int32) : gM Int32 := if x = 0 ∨ x = 1 then gp x else gno
theorem gw_zret {x : Int32} {mc ms : Nat} {F Lc : Nat} {y : Int32 × gS} (C : gC G p s m args meth c cc nL own) (I : gI G { frames := F, cells := mc, slots := ms, locals := Lc } s y.2 σ H locs cells slots) (hr : meth.sig.returnType = some .boolean) (hdg : decode cc pc = .ok (.ireturn, 1)) (hf : (gz x).1 σ = some y) : W p l e { frames := F, cells := mc, slots := ms, locals := Lc } s m args below meth c H locs cells slots (MQ below (gQ G gri y) args s mc ms (gA G)) (F0 m pc ls [.int x]) := by
  unfold gz at hf
  split at hf
  · rename_i hv
    have hy := gp_some hf
    subst hy
    obtain ⟨hx, hb, -, -, -, hlocks, -⟩ := C
    obtain ⟨iW, iS, iC, iL⟩ := I
    have e1 : cells = mc := Nat.add_right_cancel iC
    have e2 : slots = ms := Nat.add_right_cancel iL
    subst e1; subst e2
    exact W.zret hx hb hr (by rcases hv with rfl | rfl <;> decide) (fun t ht hW => ⟨rfl, by rw [ht]; exact iW, iS.F ht⟩) iS.2.2 hdg hlocks
  · exact (gno_some hf).elim
theorem gw_lret {x : Int64} {mc ms : Nat} {F Lc : Nat} {y : Int64 × gS} (C : gC G p s m args meth c cc nL own) (I : gI G { frames := F, cells := mc, slots := ms, locals := Lc } s y.2 σ H locs cells slots) (hr : meth.sig.returnType = some .long) (hdg : decode cc pc = .ok (.lreturn, 1)) (hf : (gp x).1 σ = some y) : W p l e { frames := F, cells := mc, slots := ms, locals := Lc } s m args below meth c H locs cells slots (MQ below (gQ G grl y) args s mc ms (gA G)) (F0 m pc ls [.long x]) := by
  have hy := gp_some hf
  subst hy
  obtain ⟨hx, hb, -, -, -, hlocks, -⟩ := C
  obtain ⟨iW, iS, iC, iL⟩ := I
  have e1 : cells = mc := Nat.add_right_cancel iC
  have e2 : slots = ms := Nat.add_right_cancel iL
  subst e1; subst e2
  exact W.lret hx hb hr (fun t ht hW => ⟨rfl, by rw [ht]; exact iW, iS.F ht⟩) iS.2.2 hdg hlocks
theorem gw_vret {mc ms : Nat} {F Lc : Nat} {y : Unit × gS} (C : gC G p s m args meth c cc nL own) (I : gI G { frames := F, cells := mc, slots := ms, locals := Lc } s y.2 σ H locs cells slots) (hr : meth.sig.returnType = none) (hdg : decode cc pc = .ok (.return_, 1)) (hf : (gp ()).1 σ = some y) : W p l e { frames := F, cells := mc, slots := ms, locals := Lc } s m args below meth c H locs cells slots (MQ below (gQ G grv y) args s mc ms (gA G)) (F0 m pc ls []) := by
  have hy := gp_some hf
  subst hy
  obtain ⟨hx, hb, -, -, -, hlocks, -⟩ := C
  obtain ⟨iW, iS, iC, iL⟩ := I
  have e1 : cells = mc := Nat.add_right_cancel iC
  have e2 : slots = ms := Nat.add_right_cancel iL
  subst e1; subst e2
  exact W.vret hx hb hr (fun t ht hW => ⟨rfl, by rw [ht]; exact iW, iS.F ht⟩) iS.2.2 hdg hlocks
theorem gw_aret {x : Option Nat} {rt : FieldType} {mc ms : Nat} {F Lc : Nat} {y : Option Nat × gS} (C : gC G p s m args meth c cc nL own) (I : gI G { frames := F, cells := mc, slots := ms, locals := Lc } s y.2 σ H locs cells slots) (hr : meth.sig.returnType = some rt) (hrt : (∃ n, rt = .object n) ∨ ∃ t, rt = .array t) (hdg : decode cc pc = .ok (.areturn, 1)) (hf : (gp x).1 σ = some y) : W p l e { frames := F, cells := mc, slots := ms, locals := Lc } s m args below meth c H locs cells slots (MQ below (gQ G grq y) args s mc ms (gA G)) (F0 m pc ls [va_rf x]) := by
  have hy := gp_some hf
  subst hy
  obtain ⟨hx, hb, -, -, -, hlocks, -⟩ := C
  obtain ⟨iW, iS, iC, iL⟩ := I
  have e1 : cells = mc := Nat.add_right_cancel iC
  have e2 : slots = ms := Nat.add_right_cancel iL
  subst e1; subst e2
  exact W.aret hx hb hr hrt (by cases x; exact Or.inl rfl; exact Or.inr ⟨_, rfl⟩) (fun t ht hW => ⟨rfl, by rw [ht]; exact iW, iS.F ht⟩) iS.2.2 hdg hlocks
end GROWS2
end
section
section GROWS3
variable {G : gX} {p : Program} {l : Launch} {e : Env} {R : Room} {s : State} {m : MethodId} {args : Array Value} {below : List Frame} {meth : Method} {c : Code} {H : Heap} {locs : List Loc} {cells slots : Nat} {Q : State → Prop}
variable {cc : ByteArray} {nL pc : Nat} {own : String} {ls : Array Slot} {rest : List Value} {σ : gS} {α β : Type} {y : β × gS}
theorem aL_some {t : Nat} {r : Option Nat} {K : Int32 → gM β} (hf : (gb (aL t r) K).1 σ = some y) : ∃ a, r = some a ∧ gkd σ a = t + 10 ∧ (K (Int32.ofNat (gln σ a))).1 σ = some y := by
  obtain ⟨x, h1, h2⟩ := gb_some hf
  obtain ⟨h3, h4⟩ := gq_some h1
  obtain ⟨x, σ1⟩ := x
  dsimp only at h2 h3 h4
  subst h4
  cases r with
  | none => cases h3
  | some a =>
    dsimp only at h3
    split at h3
    · rename_i hk
      cases h3
      exact ⟨a, rfl, hk, h2⟩
    · cases h3
theorem aI_some {t : Nat} {r : Option Nat} {i : Int32} {K : Int32 → gM β} (hf : (gb (aI t r i) K).1 σ = some y) : ∃ a, r = some a ∧ gkd σ a = t + 10 ∧ vp_in i (gln σ a) ∧ (K (gai σ a i.toNatClampNeg)).1 σ = some y := by
  obtain ⟨x, h1, h2⟩ := gb_some hf
  obtain ⟨h3, h4⟩ := gq_some h1
  obtain ⟨x, σ1⟩ := x
  dsimp only at h2 h3 h4
  subst h4
  cases r with
  | none => cases h3
  | some a =>
    dsimp only at h3
    split at h3
    · rename_i hk
      cases h3
      exact ⟨a, rfl, hk.1, gin_iff.mp hk.2, h2⟩
    · cases h3
theorem aR_some {t : Nat} {r : Option Nat} {i : Int32} {K : Option Nat → gM β} (hf : (gb (aR t r i) K).1 σ = some y) : ∃ a, r = some a ∧ gkd σ a = t + 10 ∧ vp_in i (gln σ a) ∧ (K (gar σ a i.toNatClampNeg)).1 σ = some y := by
  obtain ⟨x, h1, h2⟩ := gb_some hf
  obtain ⟨h3, h4⟩ := gq_some h1
  obtain ⟨x, σ1⟩ := x
  dsimp only at h2 h3 h4
  subst h4
  cases r with
  | none => cases h3
  | some a =>
    dsimp only at h3
    split at h3
    · rename_i hk
      cases h3
      exact ⟨a, rfl, hk.1, gin_iff.mp hk.2, h2⟩
    · cases h3
theorem sI_some {t : Nat} {r : Option Nat} {i v : Int32} {K : Unit → gM β} (hf : (gb (sI t r i v) K).1 σ = some y) : ∃ a, r = some a ∧ gkd σ a = t + 10 ∧ vp_in i (gln σ a) ∧ (K ()).1 (gsA σ a i.toNatClampNeg (gnar t v)) = some y := by
  obtain ⟨x, h1, h2⟩ := gb_some hf
  have h3 := gu_some h1
  cases r with
  | none => cases h3
  | some a =>
    dsimp only at h3
    split at h3
    · rename_i hk
      rw [← Option.some.inj h3] at h2
      exact ⟨a, rfl, hk.1, gin_iff.mp hk.2, h2⟩
    · cases h3
theorem sR_some {t ci : Nat} {r v : Option Nat} {i : Int32} {K : Unit → gM β} (hf : (gb (sR t ci r i v) K).1 σ = some y) : ∃ a b, r = some a ∧ v = some b ∧ gkd σ a = t + 10 ∧ vp_in i (gln σ a) ∧ gkd σ b = ci + 1 ∧ (K ()).1 (gsQ σ a i.toNatClampNeg (some b)) = some y := by
  obtain ⟨x, h1, h2⟩ := gb_some hf
  have h3 := gu_some h1
  cases r with
  | none => cases h3
  | some a =>
    cases v with
    | none => cases h3
    | some b =>
      dsimp only at h3
      split at h3
      · rename_i hk
        rw [← Option.some.inj h3] at h2
        exact ⟨a, b, rfl, rfl, hk.1, gin_iff.mp hk.2.1, hk.2.2, h2⟩
      · cases h3
theorem gw_aL {t : Nat} {ty : FieldType} {r : Option Nat} {K : Int32 → gM β} (C : gC G p s m args meth c cc nL own) (I : gI G R s y.2 σ H locs cells slots) (ht : (gTy G)[t]? = some (gdA G t, ty)) (hdg : decode cc pc = .ok (.arraylength, 1)) (hf : (gb (aL t r) K).1 σ = some y)
    (kk : ∀ x : Int32, (K x).1 σ = some y → W p l e R s m args below meth c H locs cells slots Q (F0 m (pc + 1) ls (.int x :: rest))) : W p l e R s m args below meth c H locs cells slots Q (F0 m pc ls (va_rf r :: rest)) := by
  obtain ⟨a, rfl, hk, hf⟩ := aL_some hf
  obtain ⟨hx, hb, -, hown, hts, -, hG⟩ := C
  by_cases h3 : t < 3
  · exact va_alen (D := gD G) hx hb hG.1 (gW_at I.1 (by rw [hk]; omega) (gcell_i hk h3)) 0 t rfl ht rfl hdg (kk _ hf)
  · exact va_alen (D := gD G) hx hb hG.1 (gW_at I.1 (by rw [hk]; omega) (gcell_q hk (by omega))) 0 t rfl ht rfl hdg (kk _ hf)
theorem gw_bald {r : Option Nat} {i : Int32} {K : Int32 → gM β} (C : gC G p s m args meth c cc nL own) (I : gI G R s y.2 σ H locs cells slots) (hdg : decode cc pc = .ok (.baload, 1)) (hf : (gb (aI 0 r i) K).1 σ = some y)
    (kk : ∀ x : Int32, (K x).1 σ = some y → W p l e R s m args below meth c H locs cells slots Q (F0 m (pc + 1) ls (.int x :: rest))) : W p l e R s m args below meth c H locs cells slots Q (F0 m pc ls (.int i :: va_rf r :: rest)) := by
  obtain ⟨a, rfl, hk, hi, hf⟩ := aI_some hf
  obtain ⟨hx, hb, -, hown, hts, -, hG⟩ := C
  exact va_bald (D := gD G) hx hb hG.1 (gW_at I.1 (by rw [hk]; omega) (gcell_i hk (by omega))) 0 0 rfl rfl hi hdg (kk _ hf)
theorem gw_iald {r : Option Nat} {i : Int32} {K : Int32 → gM β} (C : gC G p s m args meth c cc nL own) (I : gI G R s y.2 σ H locs cells slots) (hdg : decode cc pc = .ok (.iaload, 1)) (hf : (gb (aI 1 r i) K).1 σ = some y)
    (kk : ∀ x : Int32, (K x).1 σ = some y → W p l e R s m args below meth c H locs cells slots Q (F0 m (pc + 1) ls (.int x :: rest))) : W p l e R s m args below meth c H locs cells slots Q (F0 m pc ls (.int i :: va_rf r :: rest)) := by
  obtain ⟨a, rfl, hk, hi, hf⟩ := aI_some hf
  obtain ⟨hx, hb, -, hown, hts, -, hG⟩ := C
  exact va_iald (D := gD G) hx hb hG.1 (gW_at I.1 (by rw [hk]; omega) (gcell_i hk (by omega))) 0 1 rfl rfl hi hdg (kk _ hf)
theorem gw_zald {r : Option Nat} {i : Int32} {K : Int32 → gM β} (C : gC G p s m args meth c cc nL own) (I : gI G R s y.2 σ H locs cells slots) (hdg : decode cc pc = .ok (.baload, 1)) (hf : (gb (aI 2 r i) K).1 σ = some y)
    (kk : ∀ x : Int32, (K x).1 σ = some y → W p l e R s m args below meth c H locs cells slots Q (F0 m (pc + 1) ls (.int x :: rest))) : W p l e R s m args below meth c H locs cells slots Q (F0 m pc ls (.int i :: va_rf r :: rest)) := by
  obtain ⟨a, rfl, hk, hi, hf⟩ := aI_some hf
  obtain ⟨hx, hb, -, hown, hts, -, hG⟩ := C
  exact va_zald (D := gD G) hx hb hG.1 (gW_at I.1 (by rw [hk]; omega) (gcell_i hk (by omega))) 0 2 rfl rfl hi hdg (kk _ hf)
theorem gw_aald {t : Nat} {Cn : String} {r : Option Nat} {i : Int32} {K : Option Nat → gM β} (C : gC G p s m args meth c cc nL own) (I : gI G R s y.2 σ H locs cells slots) (h3 : 3 ≤ t) (ht : (gTy G)[t]? = some (gdA G t, .object Cn)) (hdg : decode cc pc = .ok (.aaload, 1)) (hf : (gb (aR t r i) K).1 σ = some y)
    (kk : ∀ x : Option Nat, (K x).1 σ = some y → W p l e R s m args below meth c H locs cells slots Q (F0 m (pc + 1) ls (va_rf x :: rest))) : W p l e R s m args below meth c H locs cells slots Q (F0 m pc ls (.int i :: va_rf r :: rest)) := by
  obtain ⟨a, rfl, hk, hi, hf⟩ := aR_some hf
  obtain ⟨hx, hb, -, hown, hts, -, hG⟩ := C
  exact va_aldq (D := gD G) hx hb hG.1 (gW_at I.1 (by rw [hk]; omega) (gcell_q hk h3)) 0 t rfl ht hi hdg (kk _ hf)
/-- an array of numbers is written -/
theorem gx_ast {a t i : Nat} {v : Int32} {H1 : Heap} {locs1 : List Loc} {τ : gS} (I : gI G R s τ σ H locs cells slots) (hk : gkd σ a = t + 10) (ht : t < 3) (e1 : H1[a]? = some ((vp_cell (gdA G t) (gln σ a, .inl (gai σ a))).setSlot i (.int v))) (z : H1.size = H.size) (oq : ∀ q : Nat, q ≠ a → H1[q]? = H[q]?) (hl : locs1 = locs ++ [⟨a, i⟩]) : gI G R s τ (gsA σ a i v) H1 locs1 cells slots := by
  have hne : gkd σ a ≠ 0 := by rw [hk]; omega
  have hB := (I.1.2.2 a hne).1
  subst hl
  refine ⟨gW_upd I.1 z oq rfl (fun _ => rfl) (fun b hb => gcell_sA hb) hB ?_, I.2.1.put z oq hB, I.2.2.1, I.2.2.2⟩
  rw [gcell_i (σ := gsA σ a i v) hk ht]
  show H1[a]? = some (vp_cell _ _)
  rw [e1, vp_cell_i, vp_cell_i, arrV_store]
  congr 2
  funext q
  by_cases hq : q = i
  · subst hq
    simp [updV, gsA, gai]
  · simp [updV, gsA, gai, hq]
theorem gw_iast {r : Option Nat} {i v : Int32} {K : Unit → gM β} (C : gC G p s m args meth c cc nL own) (I : gI G R s y.2 σ H locs cells slots) (hdg : decode cc pc = .ok (.iastore, 1)) (hf : (gb (sI 1 r i v) K).1 σ = some y)
    (kk : ∀ (σ1 : gS) (H1 : Heap) (locs1 : List Loc), gI G R s y.2 σ1 H1 locs1 cells slots → (K ()).1 σ1 = some y → W p l e R s m args below meth c H1 locs1 cells slots Q (F0 m (pc + 1) ls rest)) : W p l e R s m args below meth c H locs cells slots Q (F0 m pc ls (.int v :: .int i :: va_rf r :: rest)) := by
  obtain ⟨a, rfl, hk, hi, hf⟩ := sI_some hf
  obtain ⟨hx, hb, -, hown, hts, -, hG⟩ := C
  have hP := gW_at I.1 (by rw [hk]; omega) (gcell_i hk (by omega)) 0 _ rfl
  exact W.iast hx hb hP ((hG.1.2 1 _ rfl).1 _ (fun j => .int (gai σ a j))) (fun q => by cases q) (by show ¬ (i < 0 ∨ (arrV _ _ _).slots.size ≤ _); rw [arrV_size]; exact hi) rfl rfl hdg fun H1 e1 z oq => kk _ H1 _ (gx_ast I hk (by omega) e1 z oq rfl) hf
theorem gw_bast {r : Option Nat} {i v : Int32} {K : Unit → gM β} (C : gC G p s m args meth c cc nL own) (I : gI G R s y.2 σ H locs cells slots) (hdg : decode cc pc = .ok (.bastore, 1)) (hf : (gb (sI 0 r i v) K).1 σ = some y)
    (kk : ∀ (σ1 : gS) (H1 : Heap) (locs1 : List Loc), gI G R s y.2 σ1 H1 locs1 cells slots → (K ()).1 σ1 = some y → W p l e R s m args below meth c H1 locs1 cells slots Q (F0 m (pc + 1) ls rest)) : W p l e R s m args below meth c H locs cells slots Q (F0 m pc ls (.int v :: .int i :: va_rf r :: rest)) := by
  obtain ⟨a, rfl, hk, hi, hf⟩ := sI_some hf
  obtain ⟨hx, hb, -, hown, hts, -, hG⟩ := C
  have hP := gW_at I.1 (by rw [hk]; omega) (gcell_i hk (by omega)) 0 _ rfl
  exact W.bast hx hb hP ((hG.1.2 0 _ rfl).1 _ (fun j => .int (gai σ a j))) (fun q => by cases q) (by show ¬ (i < 0 ∨ (arrV _ _ _).slots.size ≤ _); rw [arrV_size]; exact hi) rfl rfl hdg fun H1 e1 z oq => kk _ H1 _ (gx_ast I hk (by omega) (show H1[a]? = some ((vp_cell (gdA G 0) (gln σ a, .inl (gai σ a))).setSlot _ (.int (vp_nar .byte v))) from e1) z oq rfl) hf
theorem gw_zast {r : Option Nat} {i v : Int32} {K : Unit → gM β} (C : gC G p s m args meth c cc nL own) (I : gI G R s y.2 σ H locs cells slots) (hdg : decode cc pc = .ok (.bastore, 1)) (hf : (gb (sI 2 r i v) K).1 σ = some y)
    (kk : ∀ (σ1 : gS) (H1 : Heap) (locs1 : List Loc), gI G R s y.2 σ1 H1 locs1 cells slots → (K ()).1 σ1 = some y → W p l e R s m args below meth c H1 locs1 cells slots Q (F0 m (pc + 1) ls rest)) : W p l e R s m args below meth c H locs cells slots Q (F0 m pc ls (.int v :: .int i :: va_rf r :: rest)) := by
  obtain ⟨a, rfl, hk, hi, hf⟩ := sI_some hf
  obtain ⟨hx, hb, -, hown, hts, -, hG⟩ := C
  have hP := gW_at I.1 (by rw [hk]; omega) (gcell_i hk (by omega)) 0 _ rfl
  exact W.zast hx hb hP ((hG.1.2 2 _ rfl).1 _ (fun j => .int (gai σ a j))) (fun q => by cases q) (by show ¬ (i < 0 ∨ (arrV _ _ _).slots.size ≤ _); rw [arrV_size]; exact hi) rfl rfl hdg fun H1 e1 z oq => kk _ H1 _ (gx_ast I hk (by omega) (show H1[a]? = some ((vp_cell (gdA G 2) (gln σ a, .inl (gai σ a))).setSlot _ (.int (vp_nar .boolean v))) from e1) z oq rfl) hf
theorem gw_aast {t ci : Nat} {Cn : String} {T : u_T} {N : Nat} {ty : Nat → FieldType} {r v : Option Nat} {i : Int32} {K : Unit → gM β} (C : gC G p s m args meth c cc nL own) (I : gI G R s y.2 σ H locs cells slots) (hc : gCls ci Cn T N ty) (h3 : 3 ≤ t) (ht : (gTy G)[t]? = some (gdA G t, .object Cn)) (hdg : decode cc pc = .ok (.aastore, 1)) (hf : (gb (sR t ci r i v) K).1 σ = some y)
    (kk : ∀ (σ1 : gS) (H1 : Heap) (locs1 : List Loc), gI G R s y.2 σ1 H1 locs1 cells slots → (K ()).1 σ1 = some y → W p l e R s m args below meth c H1 locs1 cells slots Q (F0 m (pc + 1) ls rest)) : W p l e R s m args below meth c H locs cells slots Q (F0 m pc ls (va_rf v :: .int i :: va_rf r :: rest)) := by
  obtain ⟨a, b, rfl, rfl, hk, hi, hkb, hf⟩ := sR_some hf
  obtain ⟨hx, hb, -, hown, hts, -, hG⟩ := C
  have hlt : i.toNatClampNeg < gln σ a := Nat.not_le.mp fun q => hi (Or.inr q)
  have h0 : ¬ i < 0 := fun q => hi (Or.inl q)
  have hne : gkd σ a ≠ 0 := by rw [hk]; omega
  have hB := (I.1.2.2 a hne).1
  have hP := gW_at I.1 hne (gcell_q hk h3) 0 _ rfl
  obtain ⟨r', hr', cellV, g1, g2, g3, -⟩ := gW_at I.1 (by rw [hkb]; omega) (gcell_o hkb hc.2.2.2.1) 0 _ rfl
  have hcls := (hG.1.1 ci _ hc.1).2
  obtain ⟨kA, comp, k1, k2, k3, -⟩ := (hG.1.2 t _ ht).2
  have hcomp : comp = G.1 ci := Option.some.inj (k3.symm.trans hcls.1)
  subst hcomp
  obtain ⟨kC, hkC, -⟩ := hcls.2
  refine W.aast hx hb hP (fun q h => by cases h) (fun h => by cases h) k1 k2 rfl hkC ⟨h0, by show _ < (arrV _ _ _).slots.size; rw [arrV_size]; exact hlt⟩ g1 (fun q h => by rw [g3] at h; cases h) (by rw [g2]; exact hkC) (by rw [g2]; exact va_assign hcls) rfl rfl hdg fun H1 e1 z oq => ?_
  refine kk (gsQ σ a i.toNatClampNeg (some b)) H1 _ ⟨gW_upd I.1 z oq rfl (fun _ => rfl) (fun b' hb' => gcell_sQ hb') hB ?_, I.2.1.put z oq hB, I.2.2.1, I.2.2.2⟩ hf
  rw [gcell_q (σ := gsQ σ a i.toNatClampNeg (some b)) hk h3]
  show H1[a]? = some (vp_cell _ _)
  rw [e1, vp_cell_q, vp_cell_q, arrV_store]
  congr 2
  funext q
  by_cases hq : q = i.toNatClampNeg
  · subst hq
    simp [updV, gsQ, gar, va_rf]
  · simp [updV, gsQ, gar, hq]
/-- what a new object holds -/
def gdef (c : Nat) : List Value := (List.range (gnf c)).map (fun k => if grf c k = true then .null else .int 0)
theorem gcell_N {σ : gS} {d n w b : Nat} (h : b ≠ gsz σ) : gcell G (gsN σ d n w) b = gcell G σ b := by
  have h1 : gkd (gsN σ d n w) b = gkd σ b := by simp [gsN, gkd, h]
  have h2 : ∀ c', gfs (gsN σ d n w) c' b = gfs σ c' b := fun c' => by simp [gfs, gsN, gii, grr, h]
  have h3 : gln (gsN σ d n w) b = gln σ b := by simp [gsN, gln, h]
  have h4 : gai (gsN σ d n w) b = gai σ b := by funext j; simp [gsN, gai, h]
  have h5 : gar (gsN σ d n w) b = gar σ b := by funext j; simp [gsN, gar, h]
  simp only [gcell, h1, h2, h3, h4, h5]
theorem gx_new {σ τ : gS} {d n w : Nat} {H1 : Heap} (I : gI G R s τ σ H locs cells slots) (hc : 1 ≤ gcl σ) (hs : w ≤ gsl σ) (z : H1.size = H.size + 1) (o1 : ∀ q, q < H.size → H1[q]? = H[q]?) (he : va_at (gD G) vwCl (H.size, gcell G (gsN σ d n w) (gsz σ)) H1) : gI G R s τ (gsN σ d n w) H1 locs (cells + 1) (slots + w) := by
  obtain ⟨⟨w1, w2, w3⟩, iS, iC, iL⟩ := I
  refine ⟨⟨?_, ?_, fun b hb => ?_⟩, ⟨Nat.le_trans iS.1 (by omega), fun x h1 h2 => (o1 x (Nat.lt_of_lt_of_le h1 iS.1)).trans (iS.2.1 x h1 h2), iS.2.2⟩, ?_, ?_⟩
  · rw [z, w1]; rfl
  · exact Nat.le_trans w2 (Nat.le_succ _)
  · by_cases e : b = gsz σ
    · subst e
      refine ⟨w2, ?_⟩
      rw [← w1] at he ⊢
      exact he
    · have hb' : gkd σ b ≠ 0 := by
        have h1 : gkd (gsN σ d n w) b = gkd σ b := by simp [gsN, gkd, e]
        rw [h1] at hb
        exact hb
      obtain ⟨g1, g2⟩ := w3 b hb'
      refine ⟨g1, ?_⟩
      rw [gcell_N e]
      exact g2.kept (o1 b g2.lt)
  · show cells + 1 + (gcl σ - 1) = _
    omega
  · show slots + w + (gsl σ - w) = _
    omega
theorem gw_new {ci index : Nat} {Cn : String} {T : u_T} {N : Nat} {ty : Nat → FieldType} {K : Option Nat → gM β} (C : gC G p s m args meth c cc nL own) (I : gI G R s y.2 σ H locs cells slots) (hc : gCls ci Cn T N ty) (hdf : ∀ j, j < N → defaultValue (ty j) = vp_V (gdef ci) j) (hl : Cond.classLink own index Cn ∈ gT) (hdg : decode cc pc = .ok (.new index, 3)) (hf : (gb (nO ci) K).1 σ = some y)
    (kk : ∀ (x : Option Nat) (σ1 : gS) (H1 : Heap) (locs1 : List Loc) (cells1 slots1 : Nat), gI G R s y.2 σ1 H1 locs1 cells1 slots1 → (K x).1 σ1 = some y → W p l e R s m args below meth c H1 locs1 cells1 slots1 Q (F0 m (pc + 3) ls (va_rf x :: rest))) : W p l e R s m args below meth c H locs cells slots Q (F0 m pc ls rest) := by
  obtain ⟨x, h1, h2⟩ := gb_some hf
  have h1 : (if 1 ≤ gcl σ ∧ gnf ci ≤ gsl σ then some (some (gsz σ), gsN σ ci 0 (gnf ci)) else none) = some x := h1
  split at h1
  · rename_i hroom
    have e0 := Option.some.inj h1
    subst e0
    obtain ⟨hx, hb, -, hown, hts, -, hG⟩ := C
    obtain ⟨g1, g2, g3, g4, g5, g6, g7, g8⟩ := hc
    have m2 := (K (some (gsz σ))).2 _ y h2
    have m3 : gcl y.2 ≤ gcl σ - 1 ∧ gsl y.2 ≤ gsl σ - gnf ci := m2
    have iC := I.2.2.1
    have iL := I.2.2.2
    have hKn := hG.1.1 ci _ g1
    refine W.newcK hx hb hown (hts _ hl) (hts _ g7) (hts _ g8) rfl hdg (by omega) (by omega) hKn.2.1 I.1.1 fun H1 kC hkC e1 z1 o1 => ?_
    rw [← I.1.1] at e1 z1 o1
    rw [← g3]
    have hI := gx_new (d := ci) (n := 0) (w := gnf ci) I hroom.1 hroom.2 z1 o1 (by
      have hk : gkd (gsN σ ci 0 (gnf ci)) (gsz σ) = ci + 1 := by simp [gsN, gkd]
      rw [gcell_o hk g4]
      refine ⟨_, g1, ?_⟩
      have e9 : gfs (gsN σ ci 0 (gnf ci)) ci (gsz σ) = gdef ci := by simp [gfs, gdef, gsN, gii, grr, va_rf]
      rw [e9]
      exact (u_born ty hts g2 hKn hkC e1 g5).to hdf)
    exact kk _ _ H1 _ _ _ hI h2
  · cases h1
/-- an array class's number -/
theorem gcA (C : gC G p s m args meth c cc nL own) {t : Nat} {ty : FieldType} (ht : (gTy G)[t]? = some (gdA G t, ty)) {cA : ClassId} (h : s.vm.findClass ("[" ++ ty.toString) = some cA) : cA = gdA G t := by
  have h1 := (C.2.2.2.2.2.2.1.2 t _ ht).2
  cases ty <;> first | exact Option.some.inj (h.symm.trans h1) | exact Option.some.inj (h.symm.trans h1.choose_spec.choose_spec.2.2.2)
theorem nA_some {t : Nat} {n : Int32} {K : Option Nat → gM β} (hf : (gb (nA t n) K).1 σ = some y) : ¬ n < 0 ∧ n.toNatClampNeg ≤ 100000 ∧ 1 ≤ gcl σ ∧ n.toNatClampNeg ≤ gsl σ ∧ (K (some (gsz σ))).1 (gsN σ (t + 9) n.toNatClampNeg n.toNatClampNeg) = some y := by
  obtain ⟨x, h1, h2⟩ := gb_some hf
  have h1 : (if ¬ n < 0 ∧ n.toNatClampNeg ≤ 100000 ∧ 1 ≤ gcl σ ∧ n.toNatClampNeg ≤ gsl σ then some (some (gsz σ), gsN σ (t + 9) n.toNatClampNeg n.toNatClampNeg) else none) = some x := h1
  split at h1
  · rename_i hroom
    have e0 := Option.some.inj h1
    subst e0
    exact ⟨hroom.1, hroom.2.1, hroom.2.2.1, hroom.2.2.2, h2⟩
  · cases h1
theorem gw_newa {t : Nat} {ty : FieldType} {atype : ArrayType} {n : Int32} {K : Option Nat → gM β} (C : gC G p s m args meth c cc nL own) (I : gI G R s y.2 σ H locs cells slots) (h3 : t < 3) (ht : (gTy G)[t]? = some (gdA G t, ty)) (hty : newarray.typeOf atype = ty) (hdv : defaultValue ty = .int 0) (hcb : componentBytes ty ≤ 4) (harr : Cond.arrayClass ty ∈ gT) (hdg : decode cc pc = .ok (.newarray atype, 2)) (hf : (gb (nA t n) K).1 σ = some y)
    (kk : ∀ (x : Option Nat) (σ1 : gS) (H1 : Heap) (locs1 : List Loc) (cells1 slots1 : Nat), gI G R s y.2 σ1 H1 locs1 cells1 slots1 → (K x).1 σ1 = some y → W p l e R s m args below meth c H1 locs1 cells1 slots1 Q (F0 m (pc + 2) ls (va_rf x :: rest))) : W p l e R s m args below meth c H locs cells slots Q (F0 m pc ls (.int n :: rest)) := by
  subst hty
  obtain ⟨hn, hN, hc1, hs1, h2⟩ := nA_some hf
  have m2 := (K (some (gsz σ))).2 _ y h2
  have m3 : gcl y.2 ≤ gcl σ - 1 ∧ gsl y.2 ≤ gsl σ - n.toNatClampNeg := m2
  have iC := I.2.2.1
  have iL := I.2.2.2
  have hx := C.1
  have hb := C.2.1
  have hts := C.2.2.2.2.1
  refine va_newaK hx hb (hts _ harr) rfl hdg rfl hn rfl ?_ (by omega) (by omega) I.1.1 fun H1 cA e1 z1 o1 hAr hNm => ?_
  · have : n.toNatClampNeg * componentBytes (newarray.typeOf atype) ≤ 100000 * 4 := Nat.mul_le_mul hN hcb
    omega
  have hcA := gcA C ht hNm
  subst hcA
  rw [← I.1.1] at e1 z1 o1
  have hI := gx_new (d := t + 9) (n := n.toNatClampNeg) (w := n.toNatClampNeg) I hc1 hs1 z1 o1 (by
    have hk : gkd (gsN σ (t + 9) n.toNatClampNeg n.toNatClampNeg) (gsz σ) = t + 10 := by simp [gsN, gkd]
    rw [gcell_i hk h3]
    show H1[H.size]? = some (vp_cell _ _)
    rw [e1, vp_cell_i, hdv]
    have e8 : gln (gsN σ (t + 9) n.toNatClampNeg n.toNatClampNeg) (gsz σ) = n.toNatClampNeg := by simp [gsN, gln]
    have e9 : gai (gsN σ (t + 9) n.toNatClampNeg n.toNatClampNeg) (gsz σ) = fun _ => 0 := by funext j; simp [gsN, gai]
    rw [e8, e9])
  exact kk _ _ H1 _ _ _ hI h2
theorem gw_newq {t index : Nat} {Cn : String} {n : Int32} {K : Option Nat → gM β} (C : gC G p s m args meth c cc nL own) (I : gI G R s y.2 σ H locs cells slots) (h3 : 3 ≤ t) (ht : (gTy G)[t]? = some (gdA G t, .object Cn)) (hl : Cond.classLink own index Cn ∈ gT) (hAO : Cn ∈ [RX0, RX3, RX5, RX6]) (hdg : decode cc pc = .ok (.anewarray index, 3)) (hf : (gb (nA t n) K).1 σ = some y)
    (kk : ∀ (x : Option Nat) (σ1 : gS) (H1 : Heap) (locs1 : List Loc) (cells1 slots1 : Nat), gI G R s y.2 σ1 H1 locs1 cells1 slots1 → (K x).1 σ1 = some y → W p l e R s m args below meth c H1 locs1 cells1 slots1 Q (F0 m (pc + 3) ls (va_rf x :: rest))) : W p l e R s m args below meth c H locs cells slots Q (F0 m pc ls (.int n :: rest)) := by
  obtain ⟨hn, hN, hc1, hs1, h2⟩ := nA_some hf
  have m2 := (K (some (gsz σ))).2 _ y h2
  have m3 : gcl y.2 ≤ gcl σ - 1 ∧ gsl y.2 ≤ gsl σ - n.toNatClampNeg := m2
  have iC := I.2.2.1
  have iL := I.2.2.2
  obtain ⟨hx, hb, -, hown, hts, -, hG⟩ := id C
  refine W.anew hx hb hown (hts _ hl) (va_AO.use (hG.2.1 Cn hAO)) rfl hdg rfl hn (by omega) (by omega) (by omega) fun cA kA comp f1 f2 f3 f4 => ?_
  have hcA := gcA C ht f1
  subst hcA
  generalize hH1 : H.push ({ cls := gdA G t, slots := Array.replicate n.toNatClampNeg .null, vm := .none } : Cell) = H1
  have z1 : H1.size = H.size + 1 := by rw [← hH1, Array.size_push]
  have e1 : H1[H.size]? = some (arrV (gdA G t) n.toNatClampNeg (fun _ => .null)) := by rw [← hH1, Array.getElem?_push_size, ← arrV_new]
  have o1 : ∀ q : Nat, q < H.size → H1[q]? = H[q]? := fun q hq => by rw [← hH1, Array.getElem?_push, if_neg (Nat.ne_of_lt hq)]
  have hI := gx_new (d := t + 9) (n := n.toNatClampNeg) (w := n.toNatClampNeg) I hc1 hs1 z1 o1 (by
    have hk : gkd (gsN σ (t + 9) n.toNatClampNeg n.toNatClampNeg) (gsz σ) = t + 10 := by simp [gsN, gkd]
    rw [gcell_q hk h3]
    show H1[H.size]? = some (vp_cell _ _)
    rw [e1, vp_cell_q]
    have e8 : gln (gsN σ (t + 9) n.toNatClampNeg n.toNatClampNeg) (gsz σ) = n.toNatClampNeg := by simp [gsN, gln]
    have e9 : gar (gsN σ (t + 9) n.toNatClampNeg n.toNatClampNeg) (gsz σ) = fun _ => none := by funext j; simp [gsN, gar]
    rw [e8, e9]
    rfl)
  rw [show H.size = gsz σ from I.1.1]
  exact kk _ _ H1 _ _ _ hI h2
end GROWS3
end
section
theorem gift {α : Type} {c : Prop} [Decidable c] {A B : gM α} {σ : gS} {y : α × gS} (h : c) (hf : (if c then A else B).1 σ = some y) : A.1 σ = some y := by rw [if_pos h] at hf; exact hf
theorem giff {α : Type} {c : Prop} [Decidable c] {A B : gM α} {σ : gS} {y : α × gS} (h : ¬ c) (hf : (if c then A else B).1 σ = some y) : B.1 σ = some y := by rw [if_neg h] at hf; exact hf
/-- String constants by their places: there, a char, the first place of a char -/
def tk (i : Nat) : gM Unit := if i < 24 then gp () else gno
def tA (i : Nat) (k : Int32) : gM Int32 := if i < 24 ∧ gin k (gLen.getD i 0) = true then gp ((gByt.getD i []).getD k.toNatClampNeg 0) else gno
/-- a char's, a byte's end -/
def gch (x : Int32) : gM Int32 := if narrow .char (.int x) = .int x then gp x else gno
def gby (x : Int32) : gM Int32 := if narrow .byte (.int x) = .int x then gp x else gno
abbrev grt (G : gX) : Nat → Option Value := fun i => some (va_rf (some (gK G i)))
theorem tk_some {i : Nat} {β : Type} {K : Unit → gM β} {σ : gS} {y : β × gS} (hf : (gb (tk i) K).1 σ = some y) : i < 24 ∧ (K ()).1 σ = some y := by
  obtain ⟨x, h1, h2⟩ := gb_some hf
  unfold tk at h1
  split at h1
  · rename_i h
    cases gp_some h1
    exact ⟨h, h2⟩
  · exact (gno_some h1).elim
theorem tA_some {i : Nat} {k : Int32} {β : Type} {K : Int32 → gM β} {σ : gS} {y : β × gS} (hf : (gb (tA i k) K).1 σ = some y) : i < 24 ∧ vp_in k (gLen.getD i 0) ∧ (K ((gByt.getD i []).getD k.toNatClampNeg 0)).1 σ = some y := by
  obtain ⟨x, h1, h2⟩ := gb_some hf
  unfold tA at h1
  split at h1
  · rename_i h
    cases gp_some h1
    exact ⟨h.1, gin_iff.mp h.2, h2⟩
  · exact (gno_some h1).elim
section GROWS4
variable {G : gX} {p : Program} {l : Launch} {e : Env} {R : Room} {s : State} {m : MethodId} {args : Array Value} {below : List Frame} {meth : Method} {c : Code} {H : Heap} {locs : List Loc} {cells slots : Nat} {Q : State → Prop}
variable {cc : ByteArray} {nL pc : Nat} {own : String} {ls : Array Slot} {rest : List Value} {σ : gS} {α β : Type} {y : β × gS}
theorem gw_aload_n (hexec : p.tables.exec = Jvm.exec) (hb : c.code = cc) {k : Fin 4} {i : Nat} {r : Option Nat} (hdg : decode cc pc = .ok (.aload_n k, 1)) (hi : (k : Nat) = i) (hl : ls[i]? = some (.val (va_rf r)))
    (kk : W p l e R s m args below meth c H locs cells slots Q (F0 m (pc + 1) ls (va_rf r :: rest))) : W p l e R s m args below meth c H locs cells slots Q (F0 m pc ls rest) := by
  cases r with
  | none => exact lv_aload_nN hexec hb hdg hi hl kk
  | some a => exact lv_aload_n hexec hb hdg hi hl kk
theorem gw_aload (hexec : p.tables.exec = Jvm.exec) (hb : c.code = cc) {i : Nat} {r : Option Nat} (hdg : decode cc pc = .ok (.aload i, 2)) (hl : ls[i]? = some (.val (va_rf r)))
    (kk : W p l e R s m args below meth c H locs cells slots Q (F0 m (pc + 2) ls (va_rf r :: rest))) : W p l e R s m args below meth c H locs cells slots Q (F0 m pc ls rest) := by
  cases r with
  | none => exact lv_aloadN hexec hb hdg hl kk
  | some a => exact lv_aload hexec hb hdg hl kk
theorem gw_astore_n (hexec : p.tables.exec = Jvm.exec) (hb : c.code = cc) {k : Fin 4} {i nL : Nat} {r : Option Nat} {lv lv' : List (Nat × Value)} (hdg : decode cc pc = .ok (.astore_n k, 1)) (hi : (k : Nat) = i) (h : lv_has ls nL lv) (hn : i < nL) (hl : (i, va_rf r) :: lv.filter (fun q => !(q.1 == i) && !(q.1 + 1 == i && q.2.category == 2)) = lv')
    (kk : ∀ ls' : Array Slot, lv_has ls' nL lv' → W p l e R s m args below meth c H locs cells slots Q (F0 m (pc + 1) ls' rest)) : W p l e R s m args below meth c H locs cells slots Q (F0 m pc ls (va_rf r :: rest)) := by
  cases r with
  | none => exact lv_astore_nN hexec hb hdg hi h hn hl kk
  | some a => exact lv_astore_n hexec hb hdg hi h hn hl kk
theorem gw_astore (hexec : p.tables.exec = Jvm.exec) (hb : c.code = cc) {i nL : Nat} {r : Option Nat} {lv lv' : List (Nat × Value)} (hdg : decode cc pc = .ok (.astore i, 2)) (h : lv_has ls nL lv) (hn : i < nL) (hl : (i, va_rf r) :: lv.filter (fun q => !(q.1 == i) && !(q.1 + 1 == i && q.2.category == 2)) = lv')
    (kk : ∀ ls' : Array Slot, lv_has ls' nL lv' → W p l e R s m args below meth c H locs cells slots Q (F0 m (pc + 2) ls' rest)) : W p l e R s m args below meth c H locs cells slots Q (F0 m pc ls (va_rf r :: rest)) := by
  cases r with
  | none => exact lv_astoreN hexec hb hdg h hn hl kk
  | some a => exact lv_astore hexec hb hdg h hn hl kk
theorem gw_null (hexec : p.tables.exec = Jvm.exec) (hb : c.code = cc) (hdg : decode cc pc = .ok (.aconst_null, 1)) (kk : W p l e R s m args below meth c H locs cells slots Q (F0 m (pc + 1) ls (va_rf none :: rest))) : W p l e R s m args below meth c H locs cells slots Q (F0 m pc ls rest) := lv_null hexec hb hdg kk
theorem gw_ifnull (hexec : p.tables.exec = Jvm.exec) (hb : c.code = cc) {off : Int} {tgt : Nat} {r : Option Nat} (hdg : decode cc pc = .ok (.ifnull off, 3)) (ht : (pc : Int) + off = (tgt : Int)) (kt : r = none → W p l e R s m args below meth c H locs cells slots Q (F0 m tgt ls rest)) (kf : ¬ r = none → W p l e R s m args below meth c H locs cells slots Q (F0 m (pc + 3) ls rest)) : W p l e R s m args below meth c H locs cells slots Q (F0 m pc ls (va_rf r :: rest)) := by
  cases r with
  | none => exact lv_ifnullN hexec hb hdg ht (kt rfl)
  | some a => exact lv_ifnull hexec hb hdg (kf (fun h => by cases h))
theorem gw_ifnonnull (hexec : p.tables.exec = Jvm.exec) (hb : c.code = cc) {off : Int} {tgt : Nat} {r : Option Nat} (hdg : decode cc pc = .ok (.ifnonnull off, 3)) (ht : (pc : Int) + off = (tgt : Int)) (kt : ¬ r = none → W p l e R s m args below meth c H locs cells slots Q (F0 m tgt ls rest)) (kf : r = none → W p l e R s m args below meth c H locs cells slots Q (F0 m (pc + 3) ls rest)) : W p l e R s m args below meth c H locs cells slots Q (F0 m pc ls (va_rf r :: rest)) := by
  cases r with
  | none => exact lv_ifnonnullN hexec hb hdg (kf rfl)
  | some a => exact lv_ifnonnull hexec hb hdg ht (kt (fun h => by cases h))
theorem gw_sw (hexec : p.tables.exec = Jvm.exec) (hb : c.code = cc) {dflt lo hi : Int} {offs : Array Int} {len : Nat} {x k : Int32} {off : Int} {tgt : Nat} (hdg : decode cc pc = .ok (.tableswitch dflt lo hi offs, len)) (hk : x = k) (h1 : ¬ k.toInt < lo) (h2 : ¬ hi < k.toInt) (ho : offs[(k.toInt - lo).toNat]? = some off) (ht : (pc : Int) + off = (tgt : Int))
    (kk : W p l e R s m args below meth c H locs cells slots Q (F0 m tgt ls rest)) : W p l e R s m args below meth c H locs cells slots Q (F0 m pc ls (.int x :: rest)) := by
  subst hk
  exact lv_tableIn hexec hb hdg h1 h2 ho ht kk
theorem gw_idiv {K : gM β} (hexec : p.tables.exec = Jvm.exec) (hb : c.code = cc) {a b : Int32} (hdg : decode cc pc = .ok (.idiv, 1)) (hf : (gb (nz b) fun _ => K).1 σ = some y) (kk : K.1 σ = some y → W p l e R s m args below meth c H locs cells slots Q (F0 m (pc + 1) ls (.int (a / b) :: rest))) : W p l e R s m args below meth c H locs cells slots Q (F0 m pc ls (.int b :: .int a :: rest)) := by
  obtain ⟨x, h1, h2⟩ := gb_some hf
  unfold nz at h1
  split at h1
  · exact (gno_some h1).elim
  · rename_i h
    cases gp_some h1
    exact lv_idiv hexec hb hdg h (kk h2)
theorem gw_irem {K : gM β} (hexec : p.tables.exec = Jvm.exec) (hb : c.code = cc) {a b : Int32} (hdg : decode cc pc = .ok (.irem, 1)) (hf : (gb (nz b) fun _ => K).1 σ = some y) (kk : K.1 σ = some y → W p l e R s m args below meth c H locs cells slots Q (F0 m (pc + 1) ls (.int (a - a / b * b) :: rest))) : W p l e R s m args below meth c H locs cells slots Q (F0 m pc ls (.int b :: .int a :: rest)) := by
  obtain ⟨x, h1, h2⟩ := gb_some hf
  unfold nz at h1
  split at h1
  · exact (gno_some h1).elim
  · rename_i h
    cases gp_some h1
    exact lv_irem hexec hb hdg h (kk h2)
/-- Math.max and its like -/
theorem gw_mmax {K : gM β} (C : gC G p s m args meth c cc nL own) (I : gI G R s y.2 σ H locs cells slots) (hl : ls.size = nL) {index : Nat} {a b : Int32} (hw : Cond.methodLink own index Lib.Math.max.name ∈ gT ∧ Cond.static Lib.Math.max.name ∈ gT ∧ Cond.initialized "java/lang/Math" ∈ gT ∧ Cond.code Lib.Math.max.name Lib.Math.max.code 2 (some .int) ∈ gT) (hR : 1 ≤ R.frames ∧ 21 ≤ R.locals) (hrest : rest.length ≤ 4) (hdg : decode cc pc = .ok (.invokestatic index, 3)) (hf : K.1 σ = some y)
    (kk : W p l e R s m args below meth c H locs cells slots Q (F0 m (pc + 3) ls (.int (if a < b then b else a) :: rest))) : W p l e R s m args below meth c H locs cells slots Q (F0 m pc ls (.int b :: .int a :: rest)) := by
  obtain ⟨hx, hb, hml, hown, hts, -, hG⟩ := C
  have hm := K.2 σ y hf
  have iC := I.2.2.1
  have iL := I.2.2.2
  have := gcats rest
  exact va_mmax hx hb (hml.trans hl.symm) hown (hts _ hw.1) (hts _ hw.2.1) (hts _ hw.2.2.1) (hts _ hw.2.2.2) hR.1 (by omega) (by omega) (by omega) hdg kk
theorem gw_mmin {K : gM β} (C : gC G p s m args meth c cc nL own) (I : gI G R s y.2 σ H locs cells slots) (hl : ls.size = nL) {index : Nat} {a b : Int32} (hw : Cond.methodLink own index Lib.Math.min.name ∈ gT ∧ Cond.static Lib.Math.min.name ∈ gT ∧ Cond.initialized "java/lang/Math" ∈ gT ∧ Cond.code Lib.Math.min.name Lib.Math.min.code 2 (some .int) ∈ gT) (hR : 1 ≤ R.frames ∧ 21 ≤ R.locals) (hrest : rest.length ≤ 4) (hdg : decode cc pc = .ok (.invokestatic index, 3)) (hf : K.1 σ = some y)
    (kk : W p l e R s m args below meth c H locs cells slots Q (F0 m (pc + 3) ls (.int (if b < a then b else a) :: rest))) : W p l e R s m args below meth c H locs cells slots Q (F0 m pc ls (.int b :: .int a :: rest)) := by
  obtain ⟨hx, hb, hml, hown, hts, -, hG⟩ := C
  have hm := K.2 σ y hf
  have iC := I.2.2.1
  have iL := I.2.2.2
  have := gcats rest
  exact va_mmin hx hb (hml.trans hl.symm) hown (hts _ hw.1) (hts _ hw.2.1) (hts _ hw.2.2.1) (hts _ hw.2.2.2) hR.1 (by omega) (by omega) (by omega) hdg kk
theorem gw_mminl {K : gM β} (C : gC G p s m args meth c cc nL own) (I : gI G R s y.2 σ H locs cells slots) (hl : ls.size = nL) {index : Nat} {a b : Int64} (hw : Cond.methodLink own index Lib.MathLoose.min_long.x ∈ gT ∧ Cond.static Lib.MathLoose.min_long.x ∈ gT ∧ Cond.initialized "java/lang/Math" ∈ gT ∧ Cond.code Lib.MathLoose.min_long.x Lib.MathLoose.min_long.code 4 (some .long) ∈ gT) (hR : 1 ≤ R.frames ∧ 23 ≤ R.locals) (hrest : rest.length ≤ 4) (hdg : decode cc pc = .ok (.invokestatic index, 3)) (hf : K.1 σ = some y)
    (kk : W p l e R s m args below meth c H locs cells slots Q (F0 m (pc + 3) ls (.long (if b < a then b else a) :: rest))) : W p l e R s m args below meth c H locs cells slots Q (F0 m pc ls (.long b :: .long a :: rest)) := by
  obtain ⟨hx, hb, hml, hown, hts, -, hG⟩ := C
  have hm := K.2 σ y hf
  have iC := I.2.2.1
  have iL := I.2.2.2
  have := gcats rest
  exact va_mmin_long hx hb (hml.trans hl.symm) hown (hts _ hw.1) (hts _ hw.2.1) (hts _ hw.2.2.1) (hts _ hw.2.2.2) hR.1 (by omega) (by omega) (by omega) hdg kk
/-- Object's constructor -/
theorem gw_obj (C : gC G p s m args meth c cc nL own) (hl : ls.size = nL) {index : Nat} {r : Option Nat} {K : gM β} (hw : Cond.methodLink own index objectInit ∈ gT ∧ Cond.instanceMethod objectInit ∈ gT ∧ Cond.code objectInit ⟨#[0xb1]⟩ 1 none ∈ gT) (hR : 1 ≤ R.frames ∧ 20 ≤ R.locals) (hrest : rest.length ≤ 4) (hdg : decode cc pc = .ok (.invokespecial index, 3)) (hf : (if r = none then gno else K).1 σ = some y)
    (kk : K.1 σ = some y → W p l e R s m args below meth c H locs cells slots Q (F0 m (pc + 3) ls rest)) : W p l e R s m args below meth c H locs cells slots Q (F0 m pc ls (va_rf r :: rest)) := by
  obtain ⟨hx, hb, hml, hown, hts, -, hG⟩ := C
  have := gcats rest
  cases r with
  | none => exact (gno_some hf).elim
  | some a => exact W.objInit hx hb hown (hts _ hw.1) (hts _ hw.2.1) (hts _ hw.2.2) rfl (hl.trans hml.symm) rfl hdg hR.1 (by show 2 * 0 + _ + 12 ≤ _; omega) (kk hf)
/-- constants -/
theorem gw_ldc (C : gC G p s m args meth c cc nL own) {index : Nat} {v : Int32} (hw : Cond.constant own index v ∈ gT) (hdg : decode cc pc = .ok (.ldc index, 2)) (kk : W p l e R s m args below meth c H locs cells slots Q (F0 m (pc + 2) ls (.int v :: rest))) : W p l e R s m args below meth c H locs cells slots Q (F0 m pc ls rest) := lv_ldc C.1 C.2.1 C.2.2.2.1 (C.2.2.2.2.1 _ hw) hdg kk
theorem gw_ldc2 (C : gC G p s m args meth c cc nL own) {index : Nat} {v : Int64} (hw : Cond.constantLong own index v ∈ gT) (hdg : decode cc pc = .ok (.ldc2_w index, 3)) (kk : W p l e R s m args below meth c H locs cells slots Q (F0 m (pc + 3) ls (.long v :: rest))) : W p l e R s m args below meth c H locs cells slots Q (F0 m pc ls rest) := lv_ldc2 C.1 C.2.1 C.2.2.2.1 (C.2.2.2.2.1 _ hw) hdg kk
theorem gw_ldcs (C : gC G p s m args meth c cc nL own) (i : Nat) {index : Nat} {tx : String} (hq : gStr[i]? = some (own, index, tx)) (hdg : decode cc pc = .ok (.ldc index, 2)) (kk : W p l e R s m args below meth c H locs cells slots Q (F0 m (pc + 2) ls (va_rf (some (gK G i)) :: rest))) : W p l e R s m args below meth c H locs cells slots Q (F0 m pc ls rest) := va_ldcS C.1 C.2.1 C.2.2.2.1 (C.2.2.2.2.2.2.2.2.2.1 i _ hq) hdg kk
/-- a String constant's fields and bytes, and the statics of String -/
theorem gw_tval {i index : Nat} {K : gM β} (C : gC G p s m args meth c cc nL own) (I : gI G R s y.2 σ H locs cells slots) (hw : Cond.fieldLink own index "java/lang/String" "value" "[B" ∈ gT) (hdg : decode cc pc = .ok (.getfield index, 3)) (hf : (gb (tk i) fun _ => K).1 σ = some y) (kk : K.1 σ = some y → W p l e R s m args below meth c H locs cells slots Q (F0 m (pc + 3) ls (va_rf (some (gV G i)) :: rest))) : W p l e R s m args below meth c H locs cells slots Q (F0 m pc ls (va_rf (some (gK G i)) :: rest)) := by
  obtain ⟨hi, hf⟩ := tk_some hf
  obtain ⟨cf, k, fi, f, cell, h1, h2, h3, h4, h5, h6⟩ := ((C.2.2.2.2.2.2.2.2.2.2.1 i hi).2.2.1).kept I.2.1.2.1
  exact W.getf C.1 C.2.1 C.2.2.2.1 (C.2.2.2.2.1 _ hw) h1 h2 h3 h4 h5 rfl rfl hdg (kk hf)
theorem gw_tcod {i index : Nat} {K : gM β} (C : gC G p s m args meth c cc nL own) (I : gI G R s y.2 σ H locs cells slots) (hw : Cond.fieldLink own index "java/lang/String" "coder" "B" ∈ gT) (hdg : decode cc pc = .ok (.getfield index, 3)) (hf : (gb (tk i) fun _ => K).1 σ = some y) (kk : K.1 σ = some y → W p l e R s m args below meth c H locs cells slots Q (F0 m (pc + 3) ls (.int 0 :: rest))) : W p l e R s m args below meth c H locs cells slots Q (F0 m pc ls (va_rf (some (gK G i)) :: rest)) := by
  obtain ⟨hi, hf⟩ := tk_some hf
  obtain ⟨cf, k, fi, f, cell, h1, h2, h3, h4, h5, h6⟩ := ((C.2.2.2.2.2.2.2.2.2.2.1 i hi).2.1).kept I.2.1.2.1
  exact W.getf C.1 C.2.1 C.2.2.2.1 (C.2.2.2.2.1 _ hw) h1 h2 h3 h4 h5 rfl rfl hdg (kk hf)
theorem gw_tlen {i : Nat} {K : gM β} (C : gC G p s m args meth c cc nL own) (I : gI G R s y.2 σ H locs cells slots) (hdg : decode cc pc = .ok (.arraylength, 1)) (hf : (gb (tk i) fun _ => K).1 σ = some y) (kk : K.1 σ = some y → W p l e R s m args below meth c H locs cells slots Q (F0 m (pc + 1) ls (.int (Int32.ofNat (gLen.getD i 0)) :: rest))) : W p l e R s m args below meth c H locs cells slots Q (F0 m pc ls (va_rf (some (gV G i)) :: rest)) := by
  obtain ⟨hi, hf⟩ := tk_some hf
  exact va_tlen C.1 C.2.1 (C.2.2.2.2.2.2.2.2.2.2.1 i hi).2.2.2 I.2.1 rfl hdg (kk hf)
theorem gw_tald {i : Nat} {k : Int32} {K : Int32 → gM β} (C : gC G p s m args meth c cc nL own) (I : gI G R s y.2 σ H locs cells slots) (hdg : decode cc pc = .ok (.baload, 1)) (hf : (gb (tA i k) K).1 σ = some y) (kk : ∀ x : Int32, (K x).1 σ = some y → W p l e R s m args below meth c H locs cells slots Q (F0 m (pc + 1) ls (.int x :: rest))) : W p l e R s m args below meth c H locs cells slots Q (F0 m pc ls (.int k :: va_rf (some (gV G i)) :: rest)) := by
  obtain ⟨hi, hk, hf⟩ := tA_some hf
  exact va_tb C.1 C.2.1 (C.2.2.2.2.2.2.2.2.2.2.1 i hi).2.2.2 I.2.1 hk rfl hdg (kk _ hf)
theorem gw_compact {index : Nat} (C : gC G p s m args meth c cc nL own) (I : gI G R s y.2 σ H locs cells slots) (hw : Cond.fieldLink own index "java/lang/String" "COMPACT_STRINGS" "Z" ∈ gT) (hdg : decode cc pc = .ok (.getstatic index, 3)) (kk : W p l e R s m args below meth c H locs cells slots Q (F0 m (pc + 3) ls (.int 1 :: rest))) : W p l e R s m args below meth c H locs cells slots Q (F0 m pc ls rest) :=
  va_gets C.1 C.2.1 C.2.2.2.2.2.2.2.2.2.2.2.1 I.2.1 C.2.2.2.1 (C.2.2.2.2.1 _ hw) (fun _ h => h) hdg kk
theorem gw_sioobe {index : Nat} (C : gC G p s m args meth c cc nL own) (I : gI G R s y.2 σ H locs cells slots) (hw : Cond.fieldLink own index "jdk/internal/util/Preconditions" "SIOOBE_FORMATTER" "Ljava/util/function/BiFunction;" ∈ gT) (hdg : decode cc pc = .ok (.getstatic index, 3)) (kk : ∀ w : Option Nat, W p l e R s m args below meth c H locs cells slots Q (F0 m (pc + 3) ls (va_rf w :: rest))) : W p l e R s m args below meth c H locs cells slots Q (F0 m pc ls rest) := by
  rcases C.2.2.2.2.2.2.2.2.2.2.2.2 with hz | ⟨t, hz⟩
  · exact va_gets C.1 C.2.1 hz I.2.1 C.2.2.2.1 (C.2.2.2.2.1 _ hw) (fun _ h => h) hdg (kk none)
  · exact va_gets C.1 C.2.1 hz I.2.1 C.2.2.2.1 (C.2.2.2.2.1 _ hw) (fun _ h => h) hdg (kk (some t))
/-- a String constant's method is called -/
theorem gw_callT {rv : α → Option Value} {f : gM α} {K : α → gM β} {yn : MethodName} {cc' : ByteArray} {i nL' n index F Lc : Nat} {ret : Option FieldType} {As st0 : List Value} (C : gC G p s m args meth c cc nL own) (I : gI G R s y.2 σ H locs cells slots) (hl : ls.size = nL) (hM : gMet G l yn cc' nL' ret F Lc (va_rf (some (gK G i)) :: As) rv f) (h : gLink own index yn cc' nL' n ret) (hin : Cond.instanceMethod yn ∈ gT ∧ Cond.selects "java/lang/String" yn yn ∈ gT) (hR : F + 1 ≤ R.frames ∧ 8 + (nL' + 11) + Lc ≤ R.locals) (hn : As.length = n) (hrest : rest.length ≤ 4) (hst : st0 = As.reverse ++ va_rf (some (gK G i)) :: rest) (hdg : decode cc pc = .ok (.invokevirtual index, 3)) (hf : (gb (tk i) fun _ => gb f K).1 σ = some y)
    (kk : ∀ (x : α) (σ1 : gS) (H1 : Heap) (locs1 : List Loc) (cells1 slots1 : Nat), gI G R s y.2 σ1 H1 locs1 cells1 slots1 → (K x).1 σ1 = some y → W p l e R s m args below meth c H1 locs1 cells1 slots1 Q (F0 m (pc + 3) ls ((rv x).toList ++ rest))) : W p l e R s m args below meth c H locs cells slots Q (F0 m pc ls st0) := by
  obtain ⟨hi, hf⟩ := tk_some hf
  refine gw_run (rv := rv) (a := (Value.ref (gK G i) :: As).toArray) I hf (fun y1 h1 hroom => ?_) kk
  obtain ⟨hx, hb, hml, hown, hts, -, hG⟩ := id C
  have hO : ∃ cell : Cell, H[gK G i]? = some cell ∧ cell.vm.isStatics = false ∧ s.vm.findClass "java/lang/String" = some cell.cls := by
    obtain ⟨cell, h1, h2, h3, -⟩ := ((hG.2.2.2.2.1 i hi).1).kept I.2.1.2.1
    exact ⟨cell, h1, h2, h3⟩
  refine va_runV (b := gK G i) (As := As) (rest := rest) ⟨hx, hb, hml, hown, hts⟩ (hM σ y1 h1) ⟨gLink.B (Ts := Cond.static yn) h hts hR, hts _ hin.1, hts _ hin.2⟩ ⟨gPc_blind, hO, (gw_pre C I).2⟩ rfl hn hl hst ?_ hdg hroom
  refine lv_room ?_
  have := gcats rest
  omega
theorem gw_cret {x : Int32} {ty : FieldType} {mc ms : Nat} {F Lc : Nat} {y : Int32 × gS} (C : gC G p s m args meth c cc nL own) (I : gI G { frames := F, cells := mc, slots := ms, locals := Lc } s y.2 σ H locs cells slots) (hr : meth.sig.returnType = some ty) (hdg : decode cc pc = .ok (.ireturn, 1)) (hf : (if narrow ty (.int x) = .int x then gp x else gno : gM Int32).1 σ = some y) : W p l e { frames := F, cells := mc, slots := ms, locals := Lc } s m args below meth c H locs cells slots (MQ below (gQ G gri y) args s mc ms (gA G)) (F0 m pc ls [.int x]) := by
  split at hf
  · rename_i hv
    have hy := gp_some hf
    subst hy
    obtain ⟨hx, hb, -, -, -, hlocks, -⟩ := C
    obtain ⟨iW, iS, iC, iL⟩ := I
    have e1 : cells = mc := Nat.add_right_cancel iC
    have e2 : slots = ms := Nat.add_right_cancel iL
    subst e1; subst e2
    exact W.zret hx hb hr hv (fun t ht hW => ⟨rfl, by rw [ht]; exact iW, iS.F ht⟩) iS.2.2 hdg hlocks
  · exact (gno_some hf).elim
theorem gw_tret {x : Nat} {rt : FieldType} {mc ms : Nat} {F Lc : Nat} {y : Nat × gS} (C : gC G p s m args meth c cc nL own) (I : gI G { frames := F, cells := mc, slots := ms, locals := Lc } s y.2 σ H locs cells slots) (hr : meth.sig.returnType = some rt) (hrt : (∃ n, rt = .object n) ∨ ∃ t, rt = .array t) (hdg : decode cc pc = .ok (.areturn, 1)) (hf : (gp x).1 σ = some y) : W p l e { frames := F, cells := mc, slots := ms, locals := Lc } s m args below meth c H locs cells slots (MQ below (gQ G (grt G) y) args s mc ms (gA G)) (F0 m pc ls [va_rf (some (gK G x))]) := by
  have hy := gp_some hf
  subst hy
  obtain ⟨hx, hb, -, -, -, hlocks, -⟩ := C
  obtain ⟨iW, iS, iC, iL⟩ := I
  have e1 : cells = mc := Nat.add_right_cancel iC
  have e2 : slots = ms := Nat.add_right_cancel iL
  subst e1; subst e2
  exact W.aret hx hb hr hrt (Or.inr ⟨_, rfl⟩) (fun t ht hW => ⟨rfl, by rw [ht]; exact iW, iS.F ht⟩) iS.2.2 hdg hlocks
end GROWS4
end
